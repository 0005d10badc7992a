/-! the methods as tables -/
def pr_Rdr_init : List ma_E := [(0, 1, .aload_n 0, []),
  (1, 3, .invokespecial 3, [0, 168, 62, 63]),
  (4, 1, .aload_n 0, []),
  (5, 3, .new 9, [2, 3, 169, 141, 44]),
  (8, 1, .dup, []),
  (9, 3, .invokespecial 11, [43, 0, 0, 170, 143, 44]),
  (12, 3, .putfield 12, [3, 0, 2, 0, 171]),
  (15, 1, .aload_n 0, []),
  (16, 1, .iconst 0, [0, 0]),
  (17, 3, .putfield 18, [3, 1, 0, 0, 173]),
  (20, 1, .aload_n 0, []),
  (21, 1, .iconst 0, [0, 0]),
  (22, 3, .putfield 22, [3, 2, 0, 0, 174]),
  (25, 1, .return_, [])]
theorem po_Rdr_init : ma_ok me_Rdr_init pr_Rdr_init := ma_ok_of (by decide +kernel)
theorem pa_Rdr_init_0 : pr_Rdr_init[0]? = some (0, 1, .aload_n 0, []) := rfl
theorem pa_Rdr_init_1 : pr_Rdr_init[1]? = some (1, 3, .invokespecial 3, [0, 168, 62, 63]) := rfl
theorem pa_Rdr_init_2 : pr_Rdr_init[2]? = some (4, 1, .aload_n 0, []) := rfl
theorem pa_Rdr_init_3 : pr_Rdr_init[3]? = some (5, 3, .new 9, [2, 3, 169, 141, 44]) := rfl
theorem pa_Rdr_init_4 : pr_Rdr_init[4]? = some (8, 1, .dup, []) := rfl
theorem pa_Rdr_init_5 : pr_Rdr_init[5]? = some (9, 3, .invokespecial 11, [43, 0, 0, 170, 143, 44]) := rfl
theorem pa_Rdr_init_6 : pr_Rdr_init[6]? = some (12, 3, .putfield 12, [3, 0, 2, 0, 171]) := rfl
theorem pa_Rdr_init_7 : pr_Rdr_init[7]? = some (15, 1, .aload_n 0, []) := rfl
theorem pa_Rdr_init_8 : pr_Rdr_init[8]? = some (16, 1, .iconst 0, [0, 0]) := rfl
theorem pa_Rdr_init_9 : pr_Rdr_init[9]? = some (17, 3, .putfield 18, [3, 1, 0, 0, 173]) := rfl
theorem pa_Rdr_init_10 : pr_Rdr_init[10]? = some (20, 1, .aload_n 0, []) := rfl
theorem pa_Rdr_init_11 : pr_Rdr_init[11]? = some (21, 1, .iconst 0, [0, 0]) := rfl
theorem pa_Rdr_init_12 : pr_Rdr_init[12]? = some (22, 3, .putfield 22, [3, 2, 0, 0, 174]) := rfl
theorem pa_Rdr_init_13 : pr_Rdr_init[13]? = some (25, 1, .return_, []) := rfl
def pa_Rdr_init := And.intro pa_Rdr_init_0 (And.intro pa_Rdr_init_1 (And.intro pa_Rdr_init_2 (And.intro pa_Rdr_init_3 (And.intro pa_Rdr_init_4 (And.intro pa_Rdr_init_5 (And.intro pa_Rdr_init_6 (And.intro pa_Rdr_init_7 (And.intro pa_Rdr_init_8 (And.intro pa_Rdr_init_9 (And.intro pa_Rdr_init_10 (And.intro pa_Rdr_init_11 (And.intro pa_Rdr_init_12 (pa_Rdr_init_13)))))))))))))
def pr_Rdr_restoreCut : List ma_E := [(0, 1, .iconst 0, [0, 0]),
  (1, 1, .istore_n 2, []),
  (2, 1, .iconst 1, [1, 0]),
  (3, 1, .istore_n 3, []),
  (4, 1, .iload_n 3, []),
  (5, 2, .bipush 33, [33, 0]),
  (7, 3, .if_icmp .ge (33), [24]),
  (10, 1, .aload_n 1, []),
  (11, 1, .iload_n 3, []),
  (12, 1, .iconst 1, [1, 0]),
  (13, 1, .isub, []),
  (14, 3, .invokevirtual 47, [2, 1, 0, 0, 463, 390, 391, 41]),
  (17, 2, .istore 4, []),
  (19, 1, .aload_n 0, []),
  (20, 3, .getfield 12, [3, 0, 2, 0, 171]),
  (23, 1, .iload_n 3, []),
  (24, 2, .iload 4, []),
  (26, 3, .invokevirtual 58, [44, 2, 2, 0, 468, 355, 356, 44]),
  (29, 1, .iload_n 2, []),
  (30, 2, .iload 4, []),
  (32, 1, .iadd, []),
  (33, 1, .istore_n 2, []),
  (34, 3, .iinc 3 (1), [1, 0]),
  (37, 3, .goto (-33), [4]),
  (40, 1, .aload_n 0, []),
  (41, 3, .getfield 18, [3, 1, 0, 0, 173]),
  (44, 1, .iload_n 2, []),
  (45, 1, .isub, []),
  (46, 1, .iconst 4, [4, 0]),
  (47, 3, .invokestatic 66, [39, 2, 0, 469, 470, 50]),
  (50, 1, .istore_n 3, []),
  (51, 1, .aload_n 0, []),
  (52, 3, .getfield 12, [3, 0, 2, 0, 171]),
  (55, 1, .iconst 0, [0, 0]),
  (56, 1, .iload_n 3, []),
  (57, 3, .invokevirtual 58, [44, 2, 2, 0, 468, 355, 356, 44]),
  (60, 1, .iconst 0, [0, 0]),
  (61, 2, .istore 4, []),
  (63, 2, .iload 4, []),
  (65, 2, .bipush 32, [32, 0]),
  (67, 3, .if_icmp .ge (43), [60]),
  (70, 1, .aload_n 0, []),
  (71, 3, .invokevirtual 62, [46, 0, 3, 0, 472, 474, 20, 46]),
  (74, 3, .ifCond .ne (36), [60]),
  (77, 1, .aload_n 0, []),
  (78, 3, .getfield 12, [3, 0, 2, 0, 171]),
  (81, 2, .iload 4, []),
  (83, 1, .aload_n 1, []),
  (84, 2, .iload 4, []),
  (86, 3, .invokevirtual 47, [2, 1, 0, 0, 463, 390, 391, 41]),
  (89, 3, .invokevirtual 58, [44, 2, 2, 0, 468, 355, 356, 44]),
  (92, 1, .aload_n 0, []),
  (93, 3, .getfield 12, [3, 0, 2, 0, 171]),
  (96, 2, .iload 4, []),
  (98, 1, .iconst 1, [1, 0]),
  (99, 1, .iadd, []),
  (100, 1, .iload_n 3, []),
  (101, 3, .invokevirtual 58, [44, 2, 2, 0, 468, 355, 356, 44]),
  (104, 3, .iinc 4 (1), [1, 0]),
  (107, 3, .goto (-44), [38]),
  (110, 1, .aload_n 0, []),
  (111, 3, .invokevirtual 62, [46, 0, 3, 0, 472, 474, 20, 46]),
  (114, 1, .ireturn, [1])]
theorem po_Rdr_restoreCut : ma_ok me_Rdr_restoreCut pr_Rdr_restoreCut := ma_ok_of (by decide +kernel)
theorem pa_Rdr_restoreCut_0 : pr_Rdr_restoreCut[0]? = some (0, 1, .iconst 0, [0, 0]) := rfl
theorem pa_Rdr_restoreCut_1 : pr_Rdr_restoreCut[1]? = some (1, 1, .istore_n 2, []) := rfl
theorem pa_Rdr_restoreCut_2 : pr_Rdr_restoreCut[2]? = some (2, 1, .iconst 1, [1, 0]) := rfl
theorem pa_Rdr_restoreCut_3 : pr_Rdr_restoreCut[3]? = some (3, 1, .istore_n 3, []) := rfl
theorem pa_Rdr_restoreCut_4 : pr_Rdr_restoreCut[4]? = some (4, 1, .iload_n 3, []) := rfl
theorem pa_Rdr_restoreCut_5 : pr_Rdr_restoreCut[5]? = some (5, 2, .bipush 33, [33, 0]) := rfl
theorem pa_Rdr_restoreCut_6 : pr_Rdr_restoreCut[6]? = some (7, 3, .if_icmp .ge (33), [24]) := rfl
theorem pa_Rdr_restoreCut_7 : pr_Rdr_restoreCut[7]? = some (10, 1, .aload_n 1, []) := rfl
theorem pa_Rdr_restoreCut_8 : pr_Rdr_restoreCut[8]? = some (11, 1, .iload_n 3, []) := rfl
theorem pa_Rdr_restoreCut_9 : pr_Rdr_restoreCut[9]? = some (12, 1, .iconst 1, [1, 0]) := rfl
theorem pa_Rdr_restoreCut_10 : pr_Rdr_restoreCut[10]? = some (13, 1, .isub, []) := rfl
theorem pa_Rdr_restoreCut_11 : pr_Rdr_restoreCut[11]? = some (14, 3, .invokevirtual 47, [2, 1, 0, 0, 463, 390, 391, 41]) := rfl
theorem pa_Rdr_restoreCut_12 : pr_Rdr_restoreCut[12]? = some (17, 2, .istore 4, []) := rfl
theorem pa_Rdr_restoreCut_13 : pr_Rdr_restoreCut[13]? = some (19, 1, .aload_n 0, []) := rfl
theorem pa_Rdr_restoreCut_14 : pr_Rdr_restoreCut[14]? = some (20, 3, .getfield 12, [3, 0, 2, 0, 171]) := rfl
theorem pa_Rdr_restoreCut_15 : pr_Rdr_restoreCut[15]? = some (23, 1, .iload_n 3, []) := rfl
theorem pa_Rdr_restoreCut_16 : pr_Rdr_restoreCut[16]? = some (24, 2, .iload 4, []) := rfl
theorem pa_Rdr_restoreCut_17 : pr_Rdr_restoreCut[17]? = some (26, 3, .invokevirtual 58, [44, 2, 2, 0, 468, 355, 356, 44]) := rfl
theorem pa_Rdr_restoreCut_18 : pr_Rdr_restoreCut[18]? = some (29, 1, .iload_n 2, []) := rfl
theorem pa_Rdr_restoreCut_19 : pr_Rdr_restoreCut[19]? = some (30, 2, .iload 4, []) := rfl
theorem pa_Rdr_restoreCut_20 : pr_Rdr_restoreCut[20]? = some (32, 1, .iadd, []) := rfl
theorem pa_Rdr_restoreCut_21 : pr_Rdr_restoreCut[21]? = some (33, 1, .istore_n 2, []) := rfl
theorem pa_Rdr_restoreCut_22 : pr_Rdr_restoreCut[22]? = some (34, 3, .iinc 3 (1), [1, 0]) := rfl
theorem pa_Rdr_restoreCut_23 : pr_Rdr_restoreCut[23]? = some (37, 3, .goto (-33), [4]) := rfl
theorem pa_Rdr_restoreCut_24 : pr_Rdr_restoreCut[24]? = some (40, 1, .aload_n 0, []) := rfl
theorem pa_Rdr_restoreCut_25 : pr_Rdr_restoreCut[25]? = some (41, 3, .getfield 18, [3, 1, 0, 0, 173]) := rfl
theorem pa_Rdr_restoreCut_26 : pr_Rdr_restoreCut[26]? = some (44, 1, .iload_n 2, []) := rfl
theorem pa_Rdr_restoreCut_27 : pr_Rdr_restoreCut[27]? = some (45, 1, .isub, []) := rfl
theorem pa_Rdr_restoreCut_28 : pr_Rdr_restoreCut[28]? = some (46, 1, .iconst 4, [4, 0]) := rfl
theorem pa_Rdr_restoreCut_29 : pr_Rdr_restoreCut[29]? = some (47, 3, .invokestatic 66, [39, 2, 0, 469, 470, 50]) := rfl
theorem pa_Rdr_restoreCut_30 : pr_Rdr_restoreCut[30]? = some (50, 1, .istore_n 3, []) := rfl
theorem pa_Rdr_restoreCut_31 : pr_Rdr_restoreCut[31]? = some (51, 1, .aload_n 0, []) := rfl
theorem pa_Rdr_restoreCut_32 : pr_Rdr_restoreCut[32]? = some (52, 3, .getfield 12, [3, 0, 2, 0, 171]) := rfl
theorem pa_Rdr_restoreCut_33 : pr_Rdr_restoreCut[33]? = some (55, 1, .iconst 0, [0, 0]) := rfl
theorem pa_Rdr_restoreCut_34 : pr_Rdr_restoreCut[34]? = some (56, 1, .iload_n 3, []) := rfl
theorem pa_Rdr_restoreCut_35 : pr_Rdr_restoreCut[35]? = some (57, 3, .invokevirtual 58, [44, 2, 2, 0, 468, 355, 356, 44]) := rfl
theorem pa_Rdr_restoreCut_36 : pr_Rdr_restoreCut[36]? = some (60, 1, .iconst 0, [0, 0]) := rfl
theorem pa_Rdr_restoreCut_37 : pr_Rdr_restoreCut[37]? = some (61, 2, .istore 4, []) := rfl
theorem pa_Rdr_restoreCut_38 : pr_Rdr_restoreCut[38]? = some (63, 2, .iload 4, []) := rfl
theorem pa_Rdr_restoreCut_39 : pr_Rdr_restoreCut[39]? = some (65, 2, .bipush 32, [32, 0]) := rfl
theorem pa_Rdr_restoreCut_40 : pr_Rdr_restoreCut[40]? = some (67, 3, .if_icmp .ge (43), [60]) := rfl
theorem pa_Rdr_restoreCut_41 : pr_Rdr_restoreCut[41]? = some (70, 1, .aload_n 0, []) := rfl
theorem pa_Rdr_restoreCut_42 : pr_Rdr_restoreCut[42]? = some (71, 3, .invokevirtual 62, [46, 0, 3, 0, 472, 474, 20, 46]) := rfl
theorem pa_Rdr_restoreCut_43 : pr_Rdr_restoreCut[43]? = some (74, 3, .ifCond .ne (36), [60]) := rfl
theorem pa_Rdr_restoreCut_44 : pr_Rdr_restoreCut[44]? = some (77, 1, .aload_n 0, []) := rfl
theorem pa_Rdr_restoreCut_45 : pr_Rdr_restoreCut[45]? = some (78, 3, .getfield 12, [3, 0, 2, 0, 171]) := rfl
theorem pa_Rdr_restoreCut_46 : pr_Rdr_restoreCut[46]? = some (81, 2, .iload 4, []) := rfl
theorem pa_Rdr_restoreCut_47 : pr_Rdr_restoreCut[47]? = some (83, 1, .aload_n 1, []) := rfl
theorem pa_Rdr_restoreCut_48 : pr_Rdr_restoreCut[48]? = some (84, 2, .iload 4, []) := rfl
theorem pa_Rdr_restoreCut_49 : pr_Rdr_restoreCut[49]? = some (86, 3, .invokevirtual 47, [2, 1, 0, 0, 463, 390, 391, 41]) := rfl
theorem pa_Rdr_restoreCut_50 : pr_Rdr_restoreCut[50]? = some (89, 3, .invokevirtual 58, [44, 2, 2, 0, 468, 355, 356, 44]) := rfl
theorem pa_Rdr_restoreCut_51 : pr_Rdr_restoreCut[51]? = some (92, 1, .aload_n 0, []) := rfl
theorem pa_Rdr_restoreCut_52 : pr_Rdr_restoreCut[52]? = some (93, 3, .getfield 12, [3, 0, 2, 0, 171]) := rfl
theorem pa_Rdr_restoreCut_53 : pr_Rdr_restoreCut[53]? = some (96, 2, .iload 4, []) := rfl
theorem pa_Rdr_restoreCut_54 : pr_Rdr_restoreCut[54]? = some (98, 1, .iconst 1, [1, 0]) := rfl
theorem pa_Rdr_restoreCut_55 : pr_Rdr_restoreCut[55]? = some (99, 1, .iadd, []) := rfl
theorem pa_Rdr_restoreCut_56 : pr_Rdr_restoreCut[56]? = some (100, 1, .iload_n 3, []) := rfl
theorem pa_Rdr_restoreCut_57 : pr_Rdr_restoreCut[57]? = some (101, 3, .invokevirtual 58, [44, 2, 2, 0, 468, 355, 356, 44]) := rfl
theorem pa_Rdr_restoreCut_58 : pr_Rdr_restoreCut[58]? = some (104, 3, .iinc 4 (1), [1, 0]) := rfl
theorem pa_Rdr_restoreCut_59 : pr_Rdr_restoreCut[59]? = some (107, 3, .goto (-44), [38]) := rfl
theorem pa_Rdr_restoreCut_60 : pr_Rdr_restoreCut[60]? = some (110, 1, .aload_n 0, []) := rfl
theorem pa_Rdr_restoreCut_61 : pr_Rdr_restoreCut[61]? = some (111, 3, .invokevirtual 62, [46, 0, 3, 0, 472, 474, 20, 46]) := rfl
theorem pa_Rdr_restoreCut_62 : pr_Rdr_restoreCut[62]? = some (114, 1, .ireturn, [1]) := rfl
def pa_Rdr_restoreCut := And.intro pa_Rdr_restoreCut_0 (And.intro pa_Rdr_restoreCut_1 (And.intro pa_Rdr_restoreCut_2 (And.intro pa_Rdr_restoreCut_3 (And.intro pa_Rdr_restoreCut_4 (And.intro pa_Rdr_restoreCut_5 (And.intro pa_Rdr_restoreCut_6 (And.intro pa_Rdr_restoreCut_7 (And.intro pa_Rdr_restoreCut_8 (And.intro pa_Rdr_restoreCut_9 (And.intro pa_Rdr_restoreCut_10 (And.intro pa_Rdr_restoreCut_11 (And.intro pa_Rdr_restoreCut_12 (And.intro pa_Rdr_restoreCut_13 (And.intro pa_Rdr_restoreCut_14 (And.intro pa_Rdr_restoreCut_15 (And.intro pa_Rdr_restoreCut_16 (And.intro pa_Rdr_restoreCut_17 (And.intro pa_Rdr_restoreCut_18 (And.intro pa_Rdr_restoreCut_19 (And.intro pa_Rdr_restoreCut_20 (And.intro pa_Rdr_restoreCut_21 (And.intro pa_Rdr_restoreCut_22 (And.intro pa_Rdr_restoreCut_23 (And.intro pa_Rdr_restoreCut_24 (And.intro pa_Rdr_restoreCut_25 (And.intro pa_Rdr_restoreCut_26 (And.intro pa_Rdr_restoreCut_27 (And.intro pa_Rdr_restoreCut_28 (And.intro pa_Rdr_restoreCut_29 (And.intro pa_Rdr_restoreCut_30 (And.intro pa_Rdr_restoreCut_31 (And.intro pa_Rdr_restoreCut_32 (And.intro pa_Rdr_restoreCut_33 (And.intro pa_Rdr_restoreCut_34 (And.intro pa_Rdr_restoreCut_35 (And.intro pa_Rdr_restoreCut_36 (And.intro pa_Rdr_restoreCut_37 (And.intro pa_Rdr_restoreCut_38 (And.intro pa_Rdr_restoreCut_39 (And.intro pa_Rdr_restoreCut_40 (And.intro pa_Rdr_restoreCut_41 (And.intro pa_Rdr_restoreCut_42 (And.intro pa_Rdr_restoreCut_43 (And.intro pa_Rdr_restoreCut_44 (And.intro pa_Rdr_restoreCut_45 (And.intro pa_Rdr_restoreCut_46 (And.intro pa_Rdr_restoreCut_47 (And.intro pa_Rdr_restoreCut_48 (And.intro pa_Rdr_restoreCut_49 (And.intro pa_Rdr_restoreCut_50 (And.intro pa_Rdr_restoreCut_51 (And.intro pa_Rdr_restoreCut_52 (And.intro pa_Rdr_restoreCut_53 (And.intro pa_Rdr_restoreCut_54 (And.intro pa_Rdr_restoreCut_55 (And.intro pa_Rdr_restoreCut_56 (And.intro pa_Rdr_restoreCut_57 (And.intro pa_Rdr_restoreCut_58 (And.intro pa_Rdr_restoreCut_59 (And.intro pa_Rdr_restoreCut_60 (And.intro pa_Rdr_restoreCut_61 (pa_Rdr_restoreCut_62))))))))))))))))))))))))))))))))))))))))))))))))))))))))))))))
def pr_Rdr_restoreGrown : List ma_E := [(0, 1, .iconst 0, [0, 0]),
  (1, 1, .istore_n 2, []),
  (2, 1, .iload_n 2, []),
  (3, 2, .bipush 33, [33, 0]),
  (5, 3, .if_icmp .ge (24), [16]),
  (8, 1, .aload_n 0, []),
  (9, 3, .getfield 12, [3, 0, 2, 0, 171]),
  (12, 1, .iload_n 2, []),
  (13, 1, .aload_n 1, []),
  (14, 1, .iload_n 2, []),
  (15, 1, .iconst 1, [1, 0]),
  (16, 1, .iadd, []),
  (17, 3, .invokevirtual 47, [2, 1, 0, 0, 463, 390, 391, 41]),
  (20, 3, .invokevirtual 58, [44, 2, 2, 0, 468, 355, 356, 44]),
  (23, 3, .iinc 2 (1), [1, 0]),
  (26, 3, .goto (-24), [2]),
  (29, 1, .iconst 0, [0, 0]),
  (30, 1, .istore_n 2, []),
  (31, 1, .iload_n 2, []),
  (32, 2, .bipush 33, [33, 0]),
  (34, 3, .if_icmp .ge (29), [33]),
  (37, 1, .aload_n 0, []),
  (38, 3, .invokevirtual 62, [46, 0, 3, 0, 472, 474, 20, 46]),
  (41, 3, .ifCond .ne (22), [33]),
  (44, 1, .aload_n 0, []),
  (45, 3, .getfield 12, [3, 0, 2, 0, 171]),
  (48, 1, .iload_n 2, []),
  (49, 1, .aload_n 1, []),
  (50, 1, .iload_n 2, []),
  (51, 3, .invokevirtual 47, [2, 1, 0, 0, 463, 390, 391, 41]),
  (54, 3, .invokevirtual 58, [44, 2, 2, 0, 468, 355, 356, 44]),
  (57, 3, .iinc 2 (1), [1, 0]),
  (60, 3, .goto (-29), [18]),
  (63, 1, .aload_n 0, []),
  (64, 3, .invokevirtual 62, [46, 0, 3, 0, 472, 474, 20, 46]),
  (67, 1, .ireturn, [1])]
theorem po_Rdr_restoreGrown : ma_ok me_Rdr_restoreGrown pr_Rdr_restoreGrown := ma_ok_of (by decide +kernel)
theorem pa_Rdr_restoreGrown_0 : pr_Rdr_restoreGrown[0]? = some (0, 1, .iconst 0, [0, 0]) := rfl
theorem pa_Rdr_restoreGrown_1 : pr_Rdr_restoreGrown[1]? = some (1, 1, .istore_n 2, []) := rfl
theorem pa_Rdr_restoreGrown_2 : pr_Rdr_restoreGrown[2]? = some (2, 1, .iload_n 2, []) := rfl
theorem pa_Rdr_restoreGrown_3 : pr_Rdr_restoreGrown[3]? = some (3, 2, .bipush 33, [33, 0]) := rfl
theorem pa_Rdr_restoreGrown_4 : pr_Rdr_restoreGrown[4]? = some (5, 3, .if_icmp .ge (24), [16]) := rfl
theorem pa_Rdr_restoreGrown_5 : pr_Rdr_restoreGrown[5]? = some (8, 1, .aload_n 0, []) := rfl
theorem pa_Rdr_restoreGrown_6 : pr_Rdr_restoreGrown[6]? = some (9, 3, .getfield 12, [3, 0, 2, 0, 171]) := rfl
theorem pa_Rdr_restoreGrown_7 : pr_Rdr_restoreGrown[7]? = some (12, 1, .iload_n 2, []) := rfl
theorem pa_Rdr_restoreGrown_8 : pr_Rdr_restoreGrown[8]? = some (13, 1, .aload_n 1, []) := rfl
theorem pa_Rdr_restoreGrown_9 : pr_Rdr_restoreGrown[9]? = some (14, 1, .iload_n 2, []) := rfl
theorem pa_Rdr_restoreGrown_10 : pr_Rdr_restoreGrown[10]? = some (15, 1, .iconst 1, [1, 0]) := rfl
theorem pa_Rdr_restoreGrown_11 : pr_Rdr_restoreGrown[11]? = some (16, 1, .iadd, []) := rfl
theorem pa_Rdr_restoreGrown_12 : pr_Rdr_restoreGrown[12]? = some (17, 3, .invokevirtual 47, [2, 1, 0, 0, 463, 390, 391, 41]) := rfl
theorem pa_Rdr_restoreGrown_13 : pr_Rdr_restoreGrown[13]? = some (20, 3, .invokevirtual 58, [44, 2, 2, 0, 468, 355, 356, 44]) := rfl
theorem pa_Rdr_restoreGrown_14 : pr_Rdr_restoreGrown[14]? = some (23, 3, .iinc 2 (1), [1, 0]) := rfl
theorem pa_Rdr_restoreGrown_15 : pr_Rdr_restoreGrown[15]? = some (26, 3, .goto (-24), [2]) := rfl
theorem pa_Rdr_restoreGrown_16 : pr_Rdr_restoreGrown[16]? = some (29, 1, .iconst 0, [0, 0]) := rfl
theorem pa_Rdr_restoreGrown_17 : pr_Rdr_restoreGrown[17]? = some (30, 1, .istore_n 2, []) := rfl
theorem pa_Rdr_restoreGrown_18 : pr_Rdr_restoreGrown[18]? = some (31, 1, .iload_n 2, []) := rfl
theorem pa_Rdr_restoreGrown_19 : pr_Rdr_restoreGrown[19]? = some (32, 2, .bipush 33, [33, 0]) := rfl
theorem pa_Rdr_restoreGrown_20 : pr_Rdr_restoreGrown[20]? = some (34, 3, .if_icmp .ge (29), [33]) := rfl
theorem pa_Rdr_restoreGrown_21 : pr_Rdr_restoreGrown[21]? = some (37, 1, .aload_n 0, []) := rfl
theorem pa_Rdr_restoreGrown_22 : pr_Rdr_restoreGrown[22]? = some (38, 3, .invokevirtual 62, [46, 0, 3, 0, 472, 474, 20, 46]) := rfl
theorem pa_Rdr_restoreGrown_23 : pr_Rdr_restoreGrown[23]? = some (41, 3, .ifCond .ne (22), [33]) := rfl
theorem pa_Rdr_restoreGrown_24 : pr_Rdr_restoreGrown[24]? = some (44, 1, .aload_n 0, []) := rfl
theorem pa_Rdr_restoreGrown_25 : pr_Rdr_restoreGrown[25]? = some (45, 3, .getfield 12, [3, 0, 2, 0, 171]) := rfl
theorem pa_Rdr_restoreGrown_26 : pr_Rdr_restoreGrown[26]? = some (48, 1, .iload_n 2, []) := rfl
theorem pa_Rdr_restoreGrown_27 : pr_Rdr_restoreGrown[27]? = some (49, 1, .aload_n 1, []) := rfl
theorem pa_Rdr_restoreGrown_28 : pr_Rdr_restoreGrown[28]? = some (50, 1, .iload_n 2, []) := rfl
theorem pa_Rdr_restoreGrown_29 : pr_Rdr_restoreGrown[29]? = some (51, 3, .invokevirtual 47, [2, 1, 0, 0, 463, 390, 391, 41]) := rfl
theorem pa_Rdr_restoreGrown_30 : pr_Rdr_restoreGrown[30]? = some (54, 3, .invokevirtual 58, [44, 2, 2, 0, 468, 355, 356, 44]) := rfl
theorem pa_Rdr_restoreGrown_31 : pr_Rdr_restoreGrown[31]? = some (57, 3, .iinc 2 (1), [1, 0]) := rfl
theorem pa_Rdr_restoreGrown_32 : pr_Rdr_restoreGrown[32]? = some (60, 3, .goto (-29), [18]) := rfl
theorem pa_Rdr_restoreGrown_33 : pr_Rdr_restoreGrown[33]? = some (63, 1, .aload_n 0, []) := rfl
theorem pa_Rdr_restoreGrown_34 : pr_Rdr_restoreGrown[34]? = some (64, 3, .invokevirtual 62, [46, 0, 3, 0, 472, 474, 20, 46]) := rfl
theorem pa_Rdr_restoreGrown_35 : pr_Rdr_restoreGrown[35]? = some (67, 1, .ireturn, [1]) := rfl
def pa_Rdr_restoreGrown := And.intro pa_Rdr_restoreGrown_0 (And.intro pa_Rdr_restoreGrown_1 (And.intro pa_Rdr_restoreGrown_2 (And.intro pa_Rdr_restoreGrown_3 (And.intro pa_Rdr_restoreGrown_4 (And.intro pa_Rdr_restoreGrown_5 (And.intro pa_Rdr_restoreGrown_6 (And.intro pa_Rdr_restoreGrown_7 (And.intro pa_Rdr_restoreGrown_8 (And.intro pa_Rdr_restoreGrown_9 (And.intro pa_Rdr_restoreGrown_10 (And.intro pa_Rdr_restoreGrown_11 (And.intro pa_Rdr_restoreGrown_12 (And.intro pa_Rdr_restoreGrown_13 (And.intro pa_Rdr_restoreGrown_14 (And.intro pa_Rdr_restoreGrown_15 (And.intro pa_Rdr_restoreGrown_16 (And.intro pa_Rdr_restoreGrown_17 (And.intro pa_Rdr_restoreGrown_18 (And.intro pa_Rdr_restoreGrown_19 (And.intro pa_Rdr_restoreGrown_20 (And.intro pa_Rdr_restoreGrown_21 (And.intro pa_Rdr_restoreGrown_22 (And.intro pa_Rdr_restoreGrown_23 (And.intro pa_Rdr_restoreGrown_24 (And.intro pa_Rdr_restoreGrown_25 (And.intro pa_Rdr_restoreGrown_26 (And.intro pa_Rdr_restoreGrown_27 (And.intro pa_Rdr_restoreGrown_28 (And.intro pa_Rdr_restoreGrown_29 (And.intro pa_Rdr_restoreGrown_30 (And.intro pa_Rdr_restoreGrown_31 (And.intro pa_Rdr_restoreGrown_32 (And.intro pa_Rdr_restoreGrown_33 (And.intro pa_Rdr_restoreGrown_34 (pa_Rdr_restoreGrown_35)))))))))))))))))))))))))))))))))))
def pr_Rdr_restoreWhole : List ma_E := [(0, 1, .iconst 0, [0, 0]),
  (1, 1, .istore_n 2, []),
  (2, 1, .iload_n 2, []),
  (3, 2, .bipush 33, [33, 0]),
  (5, 3, .if_icmp .ge (22), [14]),
  (8, 1, .aload_n 0, []),
  (9, 3, .getfield 12, [3, 0, 2, 0, 171]),
  (12, 1, .iload_n 2, []),
  (13, 1, .aload_n 1, []),
  (14, 1, .iload_n 2, []),
  (15, 3, .invokevirtual 47, [2, 1, 0, 0, 463, 390, 391, 41]),
  (18, 3, .invokevirtual 58, [44, 2, 2, 0, 468, 355, 356, 44]),
  (21, 3, .iinc 2 (1), [1, 0]),
  (24, 3, .goto (-22), [2]),
  (27, 1, .aload_n 0, []),
  (28, 3, .invokevirtual 62, [46, 0, 3, 0, 472, 474, 20, 46]),
  (31, 1, .ireturn, [1])]
theorem po_Rdr_restoreWhole : ma_ok me_Rdr_restoreWhole pr_Rdr_restoreWhole := ma_ok_of (by decide +kernel)
theorem pa_Rdr_restoreWhole_0 : pr_Rdr_restoreWhole[0]? = some (0, 1, .iconst 0, [0, 0]) := rfl
theorem pa_Rdr_restoreWhole_1 : pr_Rdr_restoreWhole[1]? = some (1, 1, .istore_n 2, []) := rfl
theorem pa_Rdr_restoreWhole_2 : pr_Rdr_restoreWhole[2]? = some (2, 1, .iload_n 2, []) := rfl
theorem pa_Rdr_restoreWhole_3 : pr_Rdr_restoreWhole[3]? = some (3, 2, .bipush 33, [33, 0]) := rfl
theorem pa_Rdr_restoreWhole_4 : pr_Rdr_restoreWhole[4]? = some (5, 3, .if_icmp .ge (22), [14]) := rfl
theorem pa_Rdr_restoreWhole_5 : pr_Rdr_restoreWhole[5]? = some (8, 1, .aload_n 0, []) := rfl
theorem pa_Rdr_restoreWhole_6 : pr_Rdr_restoreWhole[6]? = some (9, 3, .getfield 12, [3, 0, 2, 0, 171]) := rfl
theorem pa_Rdr_restoreWhole_7 : pr_Rdr_restoreWhole[7]? = some (12, 1, .iload_n 2, []) := rfl
theorem pa_Rdr_restoreWhole_8 : pr_Rdr_restoreWhole[8]? = some (13, 1, .aload_n 1, []) := rfl
theorem pa_Rdr_restoreWhole_9 : pr_Rdr_restoreWhole[9]? = some (14, 1, .iload_n 2, []) := rfl
theorem pa_Rdr_restoreWhole_10 : pr_Rdr_restoreWhole[10]? = some (15, 3, .invokevirtual 47, [2, 1, 0, 0, 463, 390, 391, 41]) := rfl
theorem pa_Rdr_restoreWhole_11 : pr_Rdr_restoreWhole[11]? = some (18, 3, .invokevirtual 58, [44, 2, 2, 0, 468, 355, 356, 44]) := rfl
theorem pa_Rdr_restoreWhole_12 : pr_Rdr_restoreWhole[12]? = some (21, 3, .iinc 2 (1), [1, 0]) := rfl
theorem pa_Rdr_restoreWhole_13 : pr_Rdr_restoreWhole[13]? = some (24, 3, .goto (-22), [2]) := rfl
theorem pa_Rdr_restoreWhole_14 : pr_Rdr_restoreWhole[14]? = some (27, 1, .aload_n 0, []) := rfl
theorem pa_Rdr_restoreWhole_15 : pr_Rdr_restoreWhole[15]? = some (28, 3, .invokevirtual 62, [46, 0, 3, 0, 472, 474, 20, 46]) := rfl
theorem pa_Rdr_restoreWhole_16 : pr_Rdr_restoreWhole[16]? = some (31, 1, .ireturn, [1]) := rfl
def pa_Rdr_restoreWhole := And.intro pa_Rdr_restoreWhole_0 (And.intro pa_Rdr_restoreWhole_1 (And.intro pa_Rdr_restoreWhole_2 (And.intro pa_Rdr_restoreWhole_3 (And.intro pa_Rdr_restoreWhole_4 (And.intro pa_Rdr_restoreWhole_5 (And.intro pa_Rdr_restoreWhole_6 (And.intro pa_Rdr_restoreWhole_7 (And.intro pa_Rdr_restoreWhole_8 (And.intro pa_Rdr_restoreWhole_9 (And.intro pa_Rdr_restoreWhole_10 (And.intro pa_Rdr_restoreWhole_11 (And.intro pa_Rdr_restoreWhole_12 (And.intro pa_Rdr_restoreWhole_13 (And.intro pa_Rdr_restoreWhole_14 (And.intro pa_Rdr_restoreWhole_15 (pa_Rdr_restoreWhole_16))))))))))))))))
def pr_Rdr_takeTail : List ma_E := [(0, 1, .aload_n 1, []),
  (1, 3, .getfield 25, [0, 2, 0, 1, 2]),
  (4, 2, .bipush 12, [12, 0]),
  (6, 1, .isub, []),
  (7, 1, .istore_n 2, []),
  (8, 1, .aload_n 0, []),
  (9, 1, .aload_n 1, []),
  (10, 1, .iload_n 2, []),
  (11, 3, .invokestatic 43, [47, 2, 0, 460, 461, 46]),
  (14, 3, .putfield 18, [3, 1, 0, 0, 173]),
  (17, 1, .aload_n 1, []),
  (18, 1, .iload_n 2, []),
  (19, 1, .iconst 3, [3, 0]),
  (20, 1, .iadd, []),
  (21, 3, .invokestatic 43, [47, 2, 0, 460, 461, 46]),
  (24, 1, .istore_n 3, []),
  (25, 1, .aload_n 1, []),
  (26, 1, .iload_n 2, []),
  (27, 2, .bipush 6, [6, 0]),
  (29, 1, .iadd, []),
  (30, 3, .invokestatic 43, [47, 2, 0, 460, 461, 46]),
  (33, 2, .istore 4, []),
  (35, 1, .aload_n 1, []),
  (36, 1, .iload_n 2, []),
  (37, 2, .bipush 9, [9, 0]),
  (39, 1, .iadd, []),
  (40, 3, .invokestatic 43, [47, 2, 0, 460, 461, 46]),
  (43, 2, .istore 5, []),
  (45, 1, .aload_n 0, []),
  (46, 2, .bipush 16, [16, 0]),
  (48, 1, .iload_n 3, []),
  (49, 1, .imul, []),
  (50, 1, .iconst 4, [4, 0]),
  (51, 2, .iload 4, []),
  (53, 1, .imul, []),
  (54, 1, .iadd, []),
  (55, 2, .iload 5, []),
  (57, 1, .iadd, []),
  (58, 3, .putfield 22, [3, 2, 0, 0, 174]),
  (61, 1, .aload_n 0, []),
  (62, 3, .getfield 18, [3, 1, 0, 0, 173]),
  (65, 1, .iconst (-1), [1, 1]),
  (66, 3, .if_icmp .eq (33), [58]),
  (69, 1, .iload_n 3, []),
  (70, 1, .iconst (-1), [1, 1]),
  (71, 3, .if_icmp .eq (28), [58]),
  (74, 2, .iload 4, []),
  (76, 1, .iconst (-1), [1, 1]),
  (77, 3, .if_icmp .eq (22), [58]),
  (80, 2, .iload 5, []),
  (82, 1, .iconst (-1), [1, 1]),
  (83, 3, .if_icmp .eq (16), [58]),
  (86, 1, .aload_n 0, []),
  (87, 3, .getfield 22, [3, 2, 0, 0, 174]),
  (90, 2, .bipush 33, [33, 0]),
  (92, 3, .if_icmp .ge (7), [58]),
  (95, 1, .iconst 1, [1, 0]),
  (96, 3, .goto (4), [59]),
  (99, 1, .iconst 0, [0, 0]),
  (100, 1, .ireturn, [1])]
theorem po_Rdr_takeTail : ma_ok me_Rdr_takeTail pr_Rdr_takeTail := ma_ok_of (by decide +kernel)
theorem pa_Rdr_takeTail_0 : pr_Rdr_takeTail[0]? = some (0, 1, .aload_n 1, []) := rfl
theorem pa_Rdr_takeTail_1 : pr_Rdr_takeTail[1]? = some (1, 3, .getfield 25, [0, 2, 0, 1, 2]) := rfl
theorem pa_Rdr_takeTail_2 : pr_Rdr_takeTail[2]? = some (4, 2, .bipush 12, [12, 0]) := rfl
theorem pa_Rdr_takeTail_3 : pr_Rdr_takeTail[3]? = some (6, 1, .isub, []) := rfl
theorem pa_Rdr_takeTail_4 : pr_Rdr_takeTail[4]? = some (7, 1, .istore_n 2, []) := rfl
theorem pa_Rdr_takeTail_5 : pr_Rdr_takeTail[5]? = some (8, 1, .aload_n 0, []) := rfl
theorem pa_Rdr_takeTail_6 : pr_Rdr_takeTail[6]? = some (9, 1, .aload_n 1, []) := rfl
theorem pa_Rdr_takeTail_7 : pr_Rdr_takeTail[7]? = some (10, 1, .iload_n 2, []) := rfl
theorem pa_Rdr_takeTail_8 : pr_Rdr_takeTail[8]? = some (11, 3, .invokestatic 43, [47, 2, 0, 460, 461, 46]) := rfl
theorem pa_Rdr_takeTail_9 : pr_Rdr_takeTail[9]? = some (14, 3, .putfield 18, [3, 1, 0, 0, 173]) := rfl
theorem pa_Rdr_takeTail_10 : pr_Rdr_takeTail[10]? = some (17, 1, .aload_n 1, []) := rfl
theorem pa_Rdr_takeTail_11 : pr_Rdr_takeTail[11]? = some (18, 1, .iload_n 2, []) := rfl
theorem pa_Rdr_takeTail_12 : pr_Rdr_takeTail[12]? = some (19, 1, .iconst 3, [3, 0]) := rfl
theorem pa_Rdr_takeTail_13 : pr_Rdr_takeTail[13]? = some (20, 1, .iadd, []) := rfl
theorem pa_Rdr_takeTail_14 : pr_Rdr_takeTail[14]? = some (21, 3, .invokestatic 43, [47, 2, 0, 460, 461, 46]) := rfl
theorem pa_Rdr_takeTail_15 : pr_Rdr_takeTail[15]? = some (24, 1, .istore_n 3, []) := rfl
theorem pa_Rdr_takeTail_16 : pr_Rdr_takeTail[16]? = some (25, 1, .aload_n 1, []) := rfl
theorem pa_Rdr_takeTail_17 : pr_Rdr_takeTail[17]? = some (26, 1, .iload_n 2, []) := rfl
theorem pa_Rdr_takeTail_18 : pr_Rdr_takeTail[18]? = some (27, 2, .bipush 6, [6, 0]) := rfl
theorem pa_Rdr_takeTail_19 : pr_Rdr_takeTail[19]? = some (29, 1, .iadd, []) := rfl
theorem pa_Rdr_takeTail_20 : pr_Rdr_takeTail[20]? = some (30, 3, .invokestatic 43, [47, 2, 0, 460, 461, 46]) := rfl
theorem pa_Rdr_takeTail_21 : pr_Rdr_takeTail[21]? = some (33, 2, .istore 4, []) := rfl
theorem pa_Rdr_takeTail_22 : pr_Rdr_takeTail[22]? = some (35, 1, .aload_n 1, []) := rfl
theorem pa_Rdr_takeTail_23 : pr_Rdr_takeTail[23]? = some (36, 1, .iload_n 2, []) := rfl
theorem pa_Rdr_takeTail_24 : pr_Rdr_takeTail[24]? = some (37, 2, .bipush 9, [9, 0]) := rfl
theorem pa_Rdr_takeTail_25 : pr_Rdr_takeTail[25]? = some (39, 1, .iadd, []) := rfl
theorem pa_Rdr_takeTail_26 : pr_Rdr_takeTail[26]? = some (40, 3, .invokestatic 43, [47, 2, 0, 460, 461, 46]) := rfl
theorem pa_Rdr_takeTail_27 : pr_Rdr_takeTail[27]? = some (43, 2, .istore 5, []) := rfl
theorem pa_Rdr_takeTail_28 : pr_Rdr_takeTail[28]? = some (45, 1, .aload_n 0, []) := rfl
theorem pa_Rdr_takeTail_29 : pr_Rdr_takeTail[29]? = some (46, 2, .bipush 16, [16, 0]) := rfl
theorem pa_Rdr_takeTail_30 : pr_Rdr_takeTail[30]? = some (48, 1, .iload_n 3, []) := rfl
theorem pa_Rdr_takeTail_31 : pr_Rdr_takeTail[31]? = some (49, 1, .imul, []) := rfl
theorem pa_Rdr_takeTail_32 : pr_Rdr_takeTail[32]? = some (50, 1, .iconst 4, [4, 0]) := rfl
theorem pa_Rdr_takeTail_33 : pr_Rdr_takeTail[33]? = some (51, 2, .iload 4, []) := rfl
theorem pa_Rdr_takeTail_34 : pr_Rdr_takeTail[34]? = some (53, 1, .imul, []) := rfl
theorem pa_Rdr_takeTail_35 : pr_Rdr_takeTail[35]? = some (54, 1, .iadd, []) := rfl
theorem pa_Rdr_takeTail_36 : pr_Rdr_takeTail[36]? = some (55, 2, .iload 5, []) := rfl
theorem pa_Rdr_takeTail_37 : pr_Rdr_takeTail[37]? = some (57, 1, .iadd, []) := rfl
theorem pa_Rdr_takeTail_38 : pr_Rdr_takeTail[38]? = some (58, 3, .putfield 22, [3, 2, 0, 0, 174]) := rfl
theorem pa_Rdr_takeTail_39 : pr_Rdr_takeTail[39]? = some (61, 1, .aload_n 0, []) := rfl
theorem pa_Rdr_takeTail_40 : pr_Rdr_takeTail[40]? = some (62, 3, .getfield 18, [3, 1, 0, 0, 173]) := rfl
theorem pa_Rdr_takeTail_41 : pr_Rdr_takeTail[41]? = some (65, 1, .iconst (-1), [1, 1]) := rfl
theorem pa_Rdr_takeTail_42 : pr_Rdr_takeTail[42]? = some (66, 3, .if_icmp .eq (33), [58]) := rfl
theorem pa_Rdr_takeTail_43 : pr_Rdr_takeTail[43]? = some (69, 1, .iload_n 3, []) := rfl
theorem pa_Rdr_takeTail_44 : pr_Rdr_takeTail[44]? = some (70, 1, .iconst (-1), [1, 1]) := rfl
theorem pa_Rdr_takeTail_45 : pr_Rdr_takeTail[45]? = some (71, 3, .if_icmp .eq (28), [58]) := rfl
theorem pa_Rdr_takeTail_46 : pr_Rdr_takeTail[46]? = some (74, 2, .iload 4, []) := rfl
theorem pa_Rdr_takeTail_47 : pr_Rdr_takeTail[47]? = some (76, 1, .iconst (-1), [1, 1]) := rfl
theorem pa_Rdr_takeTail_48 : pr_Rdr_takeTail[48]? = some (77, 3, .if_icmp .eq (22), [58]) := rfl
theorem pa_Rdr_takeTail_49 : pr_Rdr_takeTail[49]? = some (80, 2, .iload 5, []) := rfl
theorem pa_Rdr_takeTail_50 : pr_Rdr_takeTail[50]? = some (82, 1, .iconst (-1), [1, 1]) := rfl
theorem pa_Rdr_takeTail_51 : pr_Rdr_takeTail[51]? = some (83, 3, .if_icmp .eq (16), [58]) := rfl
theorem pa_Rdr_takeTail_52 : pr_Rdr_takeTail[52]? = some (86, 1, .aload_n 0, []) := rfl
theorem pa_Rdr_takeTail_53 : pr_Rdr_takeTail[53]? = some (87, 3, .getfield 22, [3, 2, 0, 0, 174]) := rfl
theorem pa_Rdr_takeTail_54 : pr_Rdr_takeTail[54]? = some (90, 2, .bipush 33, [33, 0]) := rfl
theorem pa_Rdr_takeTail_55 : pr_Rdr_takeTail[55]? = some (92, 3, .if_icmp .ge (7), [58]) := rfl
theorem pa_Rdr_takeTail_56 : pr_Rdr_takeTail[56]? = some (95, 1, .iconst 1, [1, 0]) := rfl
theorem pa_Rdr_takeTail_57 : pr_Rdr_takeTail[57]? = some (96, 3, .goto (4), [59]) := rfl
theorem pa_Rdr_takeTail_58 : pr_Rdr_takeTail[58]? = some (99, 1, .iconst 0, [0, 0]) := rfl
theorem pa_Rdr_takeTail_59 : pr_Rdr_takeTail[59]? = some (100, 1, .ireturn, [1]) := rfl
def pa_Rdr_takeTail := And.intro pa_Rdr_takeTail_0 (And.intro pa_Rdr_takeTail_1 (And.intro pa_Rdr_takeTail_2 (And.intro pa_Rdr_takeTail_3 (And.intro pa_Rdr_takeTail_4 (And.intro pa_Rdr_takeTail_5 (And.intro pa_Rdr_takeTail_6 (And.intro pa_Rdr_takeTail_7 (And.intro pa_Rdr_takeTail_8 (And.intro pa_Rdr_takeTail_9 (And.intro pa_Rdr_takeTail_10 (And.intro pa_Rdr_takeTail_11 (And.intro pa_Rdr_takeTail_12 (And.intro pa_Rdr_takeTail_13 (And.intro pa_Rdr_takeTail_14 (And.intro pa_Rdr_takeTail_15 (And.intro pa_Rdr_takeTail_16 (And.intro pa_Rdr_takeTail_17 (And.intro pa_Rdr_takeTail_18 (And.intro pa_Rdr_takeTail_19 (And.intro pa_Rdr_takeTail_20 (And.intro pa_Rdr_takeTail_21 (And.intro pa_Rdr_takeTail_22 (And.intro pa_Rdr_takeTail_23 (And.intro pa_Rdr_takeTail_24 (And.intro pa_Rdr_takeTail_25 (And.intro pa_Rdr_takeTail_26 (And.intro pa_Rdr_takeTail_27 (And.intro pa_Rdr_takeTail_28 (And.intro pa_Rdr_takeTail_29 (And.intro pa_Rdr_takeTail_30 (And.intro pa_Rdr_takeTail_31 (And.intro pa_Rdr_takeTail_32 (And.intro pa_Rdr_takeTail_33 (And.intro pa_Rdr_takeTail_34 (And.intro pa_Rdr_takeTail_35 (And.intro pa_Rdr_takeTail_36 (And.intro pa_Rdr_takeTail_37 (And.intro pa_Rdr_takeTail_38 (And.intro pa_Rdr_takeTail_39 (And.intro pa_Rdr_takeTail_40 (And.intro pa_Rdr_takeTail_41 (And.intro pa_Rdr_takeTail_42 (And.intro pa_Rdr_takeTail_43 (And.intro pa_Rdr_takeTail_44 (And.intro pa_Rdr_takeTail_45 (And.intro pa_Rdr_takeTail_46 (And.intro pa_Rdr_takeTail_47 (And.intro pa_Rdr_takeTail_48 (And.intro pa_Rdr_takeTail_49 (And.intro pa_Rdr_takeTail_50 (And.intro pa_Rdr_takeTail_51 (And.intro pa_Rdr_takeTail_52 (And.intro pa_Rdr_takeTail_53 (And.intro pa_Rdr_takeTail_54 (And.intro pa_Rdr_takeTail_55 (And.intro pa_Rdr_takeTail_56 (And.intro pa_Rdr_takeTail_57 (And.intro pa_Rdr_takeTail_58 (pa_Rdr_takeTail_59)))))))))))))))))))))))))))))))))))))))))))))))))))))))))))
def pr_Col_fillUnknown : List ma_E := [(0, 1, .iconst 0, [0, 0]),
  (1, 1, .istore_n 1, []),
  (2, 1, .iload_n 1, []),
  (3, 2, .bipush 16, [16, 0]),
  (5, 3, .if_icmp .ge (59), [37]),
  (8, 1, .aload_n 0, []),
  (9, 3, .getfield 15, [4, 2, 2, 0, 113]),
  (12, 1, .iload_n 1, []),
  (13, 1, .baload, [1]),
  (14, 3, .ifCond .eq (44), [35]),
  (17, 1, .aload_n 0, []),
  (18, 1, .iload_n 1, []),
  (19, 3, .invokevirtual 71, [53, 1, 4, 0, 299, 301, 4, 43]),
  (22, 1, .istore_n 2, []),
  (23, 1, .aload_n 0, []),
  (24, 3, .getfield 9, [4, 1, 2, 0, 110]),
  (27, 1, .iload_n 1, []),
  (28, 1, .dup2, []),
  (29, 1, .iaload, []),
  (30, 1, .aload_n 0, []),
  (31, 3, .getfield 37, [4, 0, 2, 0, 109]),
  (34, 1, .aload_n 0, []),
  (35, 1, .iconst 0, [0, 0]),
  (36, 1, .iload_n 2, []),
  (37, 3, .invokevirtual 74, [54, 2, 4, 0, 306, 308, 5, 43]),
  (40, 1, .aload_n 0, []),
  (41, 1, .aload_n 0, []),
  (42, 3, .getfield 37, [4, 0, 2, 0, 109]),
  (45, 1, .iload_n 1, []),
  (46, 3, .invokevirtual 62, [5, 1, 1, 0, 287, 288, 289, 42]),
  (49, 1, .iload_n 2, []),
  (50, 3, .invokevirtual 98, [51, 2, 4, 0, 337, 339, 11, 43]),
  (53, 3, .invokevirtual 92, [4, 2, 1, 0, 321, 322, 323, 42]),
  (56, 1, .ixor, []),
  (57, 1, .iastore, []),
  (58, 3, .iinc 1 (1), [1, 0]),
  (61, 3, .goto (-59), [2]),
  (64, 1, .return_, [])]
theorem po_Col_fillUnknown : ma_ok me_Col_fillUnknown pr_Col_fillUnknown := ma_ok_of (by decide +kernel)
theorem pa_Col_fillUnknown_0 : pr_Col_fillUnknown[0]? = some (0, 1, .iconst 0, [0, 0]) := rfl
theorem pa_Col_fillUnknown_1 : pr_Col_fillUnknown[1]? = some (1, 1, .istore_n 1, []) := rfl
theorem pa_Col_fillUnknown_2 : pr_Col_fillUnknown[2]? = some (2, 1, .iload_n 1, []) := rfl
theorem pa_Col_fillUnknown_3 : pr_Col_fillUnknown[3]? = some (3, 2, .bipush 16, [16, 0]) := rfl
theorem pa_Col_fillUnknown_4 : pr_Col_fillUnknown[4]? = some (5, 3, .if_icmp .ge (59), [37]) := rfl
theorem pa_Col_fillUnknown_5 : pr_Col_fillUnknown[5]? = some (8, 1, .aload_n 0, []) := rfl
theorem pa_Col_fillUnknown_6 : pr_Col_fillUnknown[6]? = some (9, 3, .getfield 15, [4, 2, 2, 0, 113]) := rfl
theorem pa_Col_fillUnknown_7 : pr_Col_fillUnknown[7]? = some (12, 1, .iload_n 1, []) := rfl
theorem pa_Col_fillUnknown_8 : pr_Col_fillUnknown[8]? = some (13, 1, .baload, [1]) := rfl
theorem pa_Col_fillUnknown_9 : pr_Col_fillUnknown[9]? = some (14, 3, .ifCond .eq (44), [35]) := rfl
theorem pa_Col_fillUnknown_10 : pr_Col_fillUnknown[10]? = some (17, 1, .aload_n 0, []) := rfl
theorem pa_Col_fillUnknown_11 : pr_Col_fillUnknown[11]? = some (18, 1, .iload_n 1, []) := rfl
theorem pa_Col_fillUnknown_12 : pr_Col_fillUnknown[12]? = some (19, 3, .invokevirtual 71, [53, 1, 4, 0, 299, 301, 4, 43]) := rfl
theorem pa_Col_fillUnknown_13 : pr_Col_fillUnknown[13]? = some (22, 1, .istore_n 2, []) := rfl
theorem pa_Col_fillUnknown_14 : pr_Col_fillUnknown[14]? = some (23, 1, .aload_n 0, []) := rfl
theorem pa_Col_fillUnknown_15 : pr_Col_fillUnknown[15]? = some (24, 3, .getfield 9, [4, 1, 2, 0, 110]) := rfl
theorem pa_Col_fillUnknown_16 : pr_Col_fillUnknown[16]? = some (27, 1, .iload_n 1, []) := rfl
theorem pa_Col_fillUnknown_17 : pr_Col_fillUnknown[17]? = some (28, 1, .dup2, []) := rfl
theorem pa_Col_fillUnknown_18 : pr_Col_fillUnknown[18]? = some (29, 1, .iaload, []) := rfl
theorem pa_Col_fillUnknown_19 : pr_Col_fillUnknown[19]? = some (30, 1, .aload_n 0, []) := rfl
theorem pa_Col_fillUnknown_20 : pr_Col_fillUnknown[20]? = some (31, 3, .getfield 37, [4, 0, 2, 0, 109]) := rfl
theorem pa_Col_fillUnknown_21 : pr_Col_fillUnknown[21]? = some (34, 1, .aload_n 0, []) := rfl
theorem pa_Col_fillUnknown_22 : pr_Col_fillUnknown[22]? = some (35, 1, .iconst 0, [0, 0]) := rfl
theorem pa_Col_fillUnknown_23 : pr_Col_fillUnknown[23]? = some (36, 1, .iload_n 2, []) := rfl
theorem pa_Col_fillUnknown_24 : pr_Col_fillUnknown[24]? = some (37, 3, .invokevirtual 74, [54, 2, 4, 0, 306, 308, 5, 43]) := rfl
theorem pa_Col_fillUnknown_25 : pr_Col_fillUnknown[25]? = some (40, 1, .aload_n 0, []) := rfl
theorem pa_Col_fillUnknown_26 : pr_Col_fillUnknown[26]? = some (41, 1, .aload_n 0, []) := rfl
theorem pa_Col_fillUnknown_27 : pr_Col_fillUnknown[27]? = some (42, 3, .getfield 37, [4, 0, 2, 0, 109]) := rfl
theorem pa_Col_fillUnknown_28 : pr_Col_fillUnknown[28]? = some (45, 1, .iload_n 1, []) := rfl
theorem pa_Col_fillUnknown_29 : pr_Col_fillUnknown[29]? = some (46, 3, .invokevirtual 62, [5, 1, 1, 0, 287, 288, 289, 42]) := rfl
theorem pa_Col_fillUnknown_30 : pr_Col_fillUnknown[30]? = some (49, 1, .iload_n 2, []) := rfl
theorem pa_Col_fillUnknown_31 : pr_Col_fillUnknown[31]? = some (50, 3, .invokevirtual 98, [51, 2, 4, 0, 337, 339, 11, 43]) := rfl
theorem pa_Col_fillUnknown_32 : pr_Col_fillUnknown[32]? = some (53, 3, .invokevirtual 92, [4, 2, 1, 0, 321, 322, 323, 42]) := rfl
theorem pa_Col_fillUnknown_33 : pr_Col_fillUnknown[33]? = some (56, 1, .ixor, []) := rfl
theorem pa_Col_fillUnknown_34 : pr_Col_fillUnknown[34]? = some (57, 1, .iastore, []) := rfl
theorem pa_Col_fillUnknown_35 : pr_Col_fillUnknown[35]? = some (58, 3, .iinc 1 (1), [1, 0]) := rfl
theorem pa_Col_fillUnknown_36 : pr_Col_fillUnknown[36]? = some (61, 3, .goto (-59), [2]) := rfl
theorem pa_Col_fillUnknown_37 : pr_Col_fillUnknown[37]? = some (64, 1, .return_, []) := rfl
def pa_Col_fillUnknown := And.intro pa_Col_fillUnknown_0 (And.intro pa_Col_fillUnknown_1 (And.intro pa_Col_fillUnknown_2 (And.intro pa_Col_fillUnknown_3 (And.intro pa_Col_fillUnknown_4 (And.intro pa_Col_fillUnknown_5 (And.intro pa_Col_fillUnknown_6 (And.intro pa_Col_fillUnknown_7 (And.intro pa_Col_fillUnknown_8 (And.intro pa_Col_fillUnknown_9 (And.intro pa_Col_fillUnknown_10 (And.intro pa_Col_fillUnknown_11 (And.intro pa_Col_fillUnknown_12 (And.intro pa_Col_fillUnknown_13 (And.intro pa_Col_fillUnknown_14 (And.intro pa_Col_fillUnknown_15 (And.intro pa_Col_fillUnknown_16 (And.intro pa_Col_fillUnknown_17 (And.intro pa_Col_fillUnknown_18 (And.intro pa_Col_fillUnknown_19 (And.intro pa_Col_fillUnknown_20 (And.intro pa_Col_fillUnknown_21 (And.intro pa_Col_fillUnknown_22 (And.intro pa_Col_fillUnknown_23 (And.intro pa_Col_fillUnknown_24 (And.intro pa_Col_fillUnknown_25 (And.intro pa_Col_fillUnknown_26 (And.intro pa_Col_fillUnknown_27 (And.intro pa_Col_fillUnknown_28 (And.intro pa_Col_fillUnknown_29 (And.intro pa_Col_fillUnknown_30 (And.intro pa_Col_fillUnknown_31 (And.intro pa_Col_fillUnknown_32 (And.intro pa_Col_fillUnknown_33 (And.intro pa_Col_fillUnknown_34 (And.intro pa_Col_fillUnknown_35 (And.intro pa_Col_fillUnknown_36 (pa_Col_fillUnknown_37)))))))))))))))))))))))))))))))))))))
def pr_Col_findRecurrence : List ma_E := [(0, 1, .aload_n 0, []),
  (1, 3, .getfield 28, [4, 6, 2, 0, 117]),
  (4, 1, .iconst 0, [0, 0]),
  (5, 3, .invokestatic 77, [38, 2, 0, 303, 304, 48]),
  (8, 1, .aload_n 0, []),
  (9, 3, .getfield 31, [4, 7, 2, 0, 118]),
  (12, 1, .iconst 0, [0, 0]),
  (13, 3, .invokestatic 77, [38, 2, 0, 303, 304, 48]),
  (16, 1, .aload_n 0, []),
  (17, 3, .getfield 28, [4, 6, 2, 0, 117]),
  (20, 1, .iconst 0, [0, 0]),
  (21, 1, .iconst 1, [1, 0]),
  (22, 1, .iastore, []),
  (23, 1, .aload_n 0, []),
  (24, 3, .getfield 31, [4, 7, 2, 0, 118]),
  (27, 1, .iconst 0, [0, 0]),
  (28, 1, .iconst 1, [1, 0]),
  (29, 1, .iastore, []),
  (30, 1, .iconst 1, [1, 0]),
  (31, 1, .istore_n 2, []),
  (32, 1, .iconst 0, [0, 0]),
  (33, 1, .istore_n 3, []),
  (34, 1, .iconst 1, [1, 0]),
  (35, 2, .istore 4, []),
  (37, 1, .iconst 0, [0, 0]),
  (38, 2, .istore 5, []),
  (40, 2, .iload 5, []),
  (42, 1, .iload_n 1, []),
  (43, 3, .if_icmp .ge (153), [109]),
  (46, 1, .aload_n 0, []),
  (47, 2, .iload 5, []),
  (49, 1, .iload_n 3, []),
  (50, 3, .invokevirtual 83, [50, 2, 4, 0, 314, 316, 7, 43]),
  (53, 2, .istore 6, []),
  (55, 2, .iload 6, []),
  (57, 3, .ifCond .ne (9), [38]),
  (60, 3, .iinc 4 (1), [1, 0]),
  (63, 3, .goto (127), [107]),
  (66, 1, .aload_n 0, []),
  (67, 3, .getfield 28, [4, 6, 2, 0, 117]),
  (70, 1, .iconst 0, [0, 0]),
  (71, 1, .aload_n 0, []),
  (72, 3, .getfield 34, [4, 8, 2, 0, 119]),
  (75, 1, .iconst 0, [0, 0]),
  (76, 1, .aload_n 0, []),
  (77, 3, .getfield 28, [4, 6, 2, 0, 117]),
  (80, 1, .arraylength, []),
  (81, 3, .invokestatic 86, [0, 318, 320, 319, 49]),
  (84, 1, .aload_n 0, []),
  (85, 3, .getfield 37, [4, 0, 2, 0, 109]),
  (88, 2, .iload 6, []),
  (90, 1, .iload_n 2, []),
  (91, 3, .invokevirtual 92, [4, 2, 1, 0, 321, 322, 323, 42]),
  (94, 2, .istore 7, []),
  (96, 2, .iload 4, []),
  (98, 2, .istore 8, []),
  (100, 2, .iload 8, []),
  (102, 1, .aload_n 0, []),
  (103, 3, .getfield 28, [4, 6, 2, 0, 117]),
  (106, 1, .arraylength, []),
  (107, 3, .if_icmp .ge (38), [80]),
  (110, 1, .aload_n 0, []),
  (111, 3, .getfield 28, [4, 6, 2, 0, 117]),
  (114, 2, .iload 8, []),
  (116, 1, .dup2, []),
  (117, 1, .iaload, []),
  (118, 1, .aload_n 0, []),
  (119, 3, .getfield 37, [4, 0, 2, 0, 109]),
  (122, 2, .iload 7, []),
  (124, 1, .aload_n 0, []),
  (125, 3, .getfield 31, [4, 7, 2, 0, 118]),
  (128, 2, .iload 8, []),
  (130, 2, .iload 4, []),
  (132, 1, .isub, []),
  (133, 1, .iaload, []),
  (134, 3, .invokevirtual 67, [6, 2, 1, 0, 291, 292, 293, 42]),
  (137, 1, .ixor, []),
  (138, 1, .iastore, []),
  (139, 3, .iinc 8 (1), [1, 0]),
  (142, 3, .goto (-42), [56]),
  (145, 1, .iconst 2, [2, 0]),
  (146, 1, .iload_n 3, []),
  (147, 1, .imul, []),
  (148, 2, .iload 5, []),
  (150, 3, .if_icmp .le (9), [87]),
  (153, 3, .iinc 4 (1), [1, 0]),
  (156, 3, .goto (34), [107]),
  (159, 1, .aload_n 0, []),
  (160, 3, .getfield 34, [4, 8, 2, 0, 119]),
  (163, 1, .iconst 0, [0, 0]),
  (164, 1, .aload_n 0, []),
  (165, 3, .getfield 31, [4, 7, 2, 0, 118]),
  (168, 1, .iconst 0, [0, 0]),
  (169, 1, .aload_n 0, []),
  (170, 3, .getfield 34, [4, 8, 2, 0, 119]),
  (173, 1, .arraylength, []),
  (174, 3, .invokestatic 86, [0, 318, 320, 319, 49]),
  (177, 2, .iload 6, []),
  (179, 1, .istore_n 2, []),
  (180, 2, .iload 5, []),
  (182, 1, .iconst 1, [1, 0]),
  (183, 1, .iadd, []),
  (184, 1, .iload_n 3, []),
  (185, 1, .isub, []),
  (186, 1, .istore_n 3, []),
  (187, 1, .iconst 1, [1, 0]),
  (188, 2, .istore 4, []),
  (190, 3, .iinc 5 (1), [1, 0]),
  (193, 3, .goto (-153), [26]),
  (196, 1, .iload_n 3, []),
  (197, 1, .ireturn, [0])]
theorem po_Col_findRecurrence : ma_ok me_Col_findRecurrence pr_Col_findRecurrence := ma_ok_of (by decide +kernel)
theorem pa_Col_findRecurrence_0 : pr_Col_findRecurrence[0]? = some (0, 1, .aload_n 0, []) := rfl
theorem pa_Col_findRecurrence_1 : pr_Col_findRecurrence[1]? = some (1, 3, .getfield 28, [4, 6, 2, 0, 117]) := rfl
theorem pa_Col_findRecurrence_2 : pr_Col_findRecurrence[2]? = some (4, 1, .iconst 0, [0, 0]) := rfl
theorem pa_Col_findRecurrence_3 : pr_Col_findRecurrence[3]? = some (5, 3, .invokestatic 77, [38, 2, 0, 303, 304, 48]) := rfl
theorem pa_Col_findRecurrence_4 : pr_Col_findRecurrence[4]? = some (8, 1, .aload_n 0, []) := rfl
theorem pa_Col_findRecurrence_5 : pr_Col_findRecurrence[5]? = some (9, 3, .getfield 31, [4, 7, 2, 0, 118]) := rfl
theorem pa_Col_findRecurrence_6 : pr_Col_findRecurrence[6]? = some (12, 1, .iconst 0, [0, 0]) := rfl
theorem pa_Col_findRecurrence_7 : pr_Col_findRecurrence[7]? = some (13, 3, .invokestatic 77, [38, 2, 0, 303, 304, 48]) := rfl
theorem pa_Col_findRecurrence_8 : pr_Col_findRecurrence[8]? = some (16, 1, .aload_n 0, []) := rfl
theorem pa_Col_findRecurrence_9 : pr_Col_findRecurrence[9]? = some (17, 3, .getfield 28, [4, 6, 2, 0, 117]) := rfl
theorem pa_Col_findRecurrence_10 : pr_Col_findRecurrence[10]? = some (20, 1, .iconst 0, [0, 0]) := rfl
theorem pa_Col_findRecurrence_11 : pr_Col_findRecurrence[11]? = some (21, 1, .iconst 1, [1, 0]) := rfl
theorem pa_Col_findRecurrence_12 : pr_Col_findRecurrence[12]? = some (22, 1, .iastore, []) := rfl
theorem pa_Col_findRecurrence_13 : pr_Col_findRecurrence[13]? = some (23, 1, .aload_n 0, []) := rfl
theorem pa_Col_findRecurrence_14 : pr_Col_findRecurrence[14]? = some (24, 3, .getfield 31, [4, 7, 2, 0, 118]) := rfl
theorem pa_Col_findRecurrence_15 : pr_Col_findRecurrence[15]? = some (27, 1, .iconst 0, [0, 0]) := rfl
theorem pa_Col_findRecurrence_16 : pr_Col_findRecurrence[16]? = some (28, 1, .iconst 1, [1, 0]) := rfl
theorem pa_Col_findRecurrence_17 : pr_Col_findRecurrence[17]? = some (29, 1, .iastore, []) := rfl
theorem pa_Col_findRecurrence_18 : pr_Col_findRecurrence[18]? = some (30, 1, .iconst 1, [1, 0]) := rfl
theorem pa_Col_findRecurrence_19 : pr_Col_findRecurrence[19]? = some (31, 1, .istore_n 2, []) := rfl
theorem pa_Col_findRecurrence_20 : pr_Col_findRecurrence[20]? = some (32, 1, .iconst 0, [0, 0]) := rfl
theorem pa_Col_findRecurrence_21 : pr_Col_findRecurrence[21]? = some (33, 1, .istore_n 3, []) := rfl
theorem pa_Col_findRecurrence_22 : pr_Col_findRecurrence[22]? = some (34, 1, .iconst 1, [1, 0]) := rfl
theorem pa_Col_findRecurrence_23 : pr_Col_findRecurrence[23]? = some (35, 2, .istore 4, []) := rfl
theorem pa_Col_findRecurrence_24 : pr_Col_findRecurrence[24]? = some (37, 1, .iconst 0, [0, 0]) := rfl
theorem pa_Col_findRecurrence_25 : pr_Col_findRecurrence[25]? = some (38, 2, .istore 5, []) := rfl
theorem pa_Col_findRecurrence_26 : pr_Col_findRecurrence[26]? = some (40, 2, .iload 5, []) := rfl
theorem pa_Col_findRecurrence_27 : pr_Col_findRecurrence[27]? = some (42, 1, .iload_n 1, []) := rfl
theorem pa_Col_findRecurrence_28 : pr_Col_findRecurrence[28]? = some (43, 3, .if_icmp .ge (153), [109]) := rfl
theorem pa_Col_findRecurrence_29 : pr_Col_findRecurrence[29]? = some (46, 1, .aload_n 0, []) := rfl
theorem pa_Col_findRecurrence_30 : pr_Col_findRecurrence[30]? = some (47, 2, .iload 5, []) := rfl
theorem pa_Col_findRecurrence_31 : pr_Col_findRecurrence[31]? = some (49, 1, .iload_n 3, []) := rfl
theorem pa_Col_findRecurrence_32 : pr_Col_findRecurrence[32]? = some (50, 3, .invokevirtual 83, [50, 2, 4, 0, 314, 316, 7, 43]) := rfl
theorem pa_Col_findRecurrence_33 : pr_Col_findRecurrence[33]? = some (53, 2, .istore 6, []) := rfl
theorem pa_Col_findRecurrence_34 : pr_Col_findRecurrence[34]? = some (55, 2, .iload 6, []) := rfl
theorem pa_Col_findRecurrence_35 : pr_Col_findRecurrence[35]? = some (57, 3, .ifCond .ne (9), [38]) := rfl
theorem pa_Col_findRecurrence_36 : pr_Col_findRecurrence[36]? = some (60, 3, .iinc 4 (1), [1, 0]) := rfl
theorem pa_Col_findRecurrence_37 : pr_Col_findRecurrence[37]? = some (63, 3, .goto (127), [107]) := rfl
theorem pa_Col_findRecurrence_38 : pr_Col_findRecurrence[38]? = some (66, 1, .aload_n 0, []) := rfl
theorem pa_Col_findRecurrence_39 : pr_Col_findRecurrence[39]? = some (67, 3, .getfield 28, [4, 6, 2, 0, 117]) := rfl
theorem pa_Col_findRecurrence_40 : pr_Col_findRecurrence[40]? = some (70, 1, .iconst 0, [0, 0]) := rfl
theorem pa_Col_findRecurrence_41 : pr_Col_findRecurrence[41]? = some (71, 1, .aload_n 0, []) := rfl
theorem pa_Col_findRecurrence_42 : pr_Col_findRecurrence[42]? = some (72, 3, .getfield 34, [4, 8, 2, 0, 119]) := rfl
theorem pa_Col_findRecurrence_43 : pr_Col_findRecurrence[43]? = some (75, 1, .iconst 0, [0, 0]) := rfl
theorem pa_Col_findRecurrence_44 : pr_Col_findRecurrence[44]? = some (76, 1, .aload_n 0, []) := rfl
theorem pa_Col_findRecurrence_45 : pr_Col_findRecurrence[45]? = some (77, 3, .getfield 28, [4, 6, 2, 0, 117]) := rfl
theorem pa_Col_findRecurrence_46 : pr_Col_findRecurrence[46]? = some (80, 1, .arraylength, []) := rfl
theorem pa_Col_findRecurrence_47 : pr_Col_findRecurrence[47]? = some (81, 3, .invokestatic 86, [0, 318, 320, 319, 49]) := rfl
theorem pa_Col_findRecurrence_48 : pr_Col_findRecurrence[48]? = some (84, 1, .aload_n 0, []) := rfl
theorem pa_Col_findRecurrence_49 : pr_Col_findRecurrence[49]? = some (85, 3, .getfield 37, [4, 0, 2, 0, 109]) := rfl
theorem pa_Col_findRecurrence_50 : pr_Col_findRecurrence[50]? = some (88, 2, .iload 6, []) := rfl
theorem pa_Col_findRecurrence_51 : pr_Col_findRecurrence[51]? = some (90, 1, .iload_n 2, []) := rfl
theorem pa_Col_findRecurrence_52 : pr_Col_findRecurrence[52]? = some (91, 3, .invokevirtual 92, [4, 2, 1, 0, 321, 322, 323, 42]) := rfl
theorem pa_Col_findRecurrence_53 : pr_Col_findRecurrence[53]? = some (94, 2, .istore 7, []) := rfl
theorem pa_Col_findRecurrence_54 : pr_Col_findRecurrence[54]? = some (96, 2, .iload 4, []) := rfl
theorem pa_Col_findRecurrence_55 : pr_Col_findRecurrence[55]? = some (98, 2, .istore 8, []) := rfl
theorem pa_Col_findRecurrence_56 : pr_Col_findRecurrence[56]? = some (100, 2, .iload 8, []) := rfl
theorem pa_Col_findRecurrence_57 : pr_Col_findRecurrence[57]? = some (102, 1, .aload_n 0, []) := rfl
theorem pa_Col_findRecurrence_58 : pr_Col_findRecurrence[58]? = some (103, 3, .getfield 28, [4, 6, 2, 0, 117]) := rfl
theorem pa_Col_findRecurrence_59 : pr_Col_findRecurrence[59]? = some (106, 1, .arraylength, []) := rfl
theorem pa_Col_findRecurrence_60 : pr_Col_findRecurrence[60]? = some (107, 3, .if_icmp .ge (38), [80]) := rfl
theorem pa_Col_findRecurrence_61 : pr_Col_findRecurrence[61]? = some (110, 1, .aload_n 0, []) := rfl
theorem pa_Col_findRecurrence_62 : pr_Col_findRecurrence[62]? = some (111, 3, .getfield 28, [4, 6, 2, 0, 117]) := rfl
theorem pa_Col_findRecurrence_63 : pr_Col_findRecurrence[63]? = some (114, 2, .iload 8, []) := rfl
theorem pa_Col_findRecurrence_64 : pr_Col_findRecurrence[64]? = some (116, 1, .dup2, []) := rfl
theorem pa_Col_findRecurrence_65 : pr_Col_findRecurrence[65]? = some (117, 1, .iaload, []) := rfl
theorem pa_Col_findRecurrence_66 : pr_Col_findRecurrence[66]? = some (118, 1, .aload_n 0, []) := rfl
theorem pa_Col_findRecurrence_67 : pr_Col_findRecurrence[67]? = some (119, 3, .getfield 37, [4, 0, 2, 0, 109]) := rfl
theorem pa_Col_findRecurrence_68 : pr_Col_findRecurrence[68]? = some (122, 2, .iload 7, []) := rfl
theorem pa_Col_findRecurrence_69 : pr_Col_findRecurrence[69]? = some (124, 1, .aload_n 0, []) := rfl
theorem pa_Col_findRecurrence_70 : pr_Col_findRecurrence[70]? = some (125, 3, .getfield 31, [4, 7, 2, 0, 118]) := rfl
theorem pa_Col_findRecurrence_71 : pr_Col_findRecurrence[71]? = some (128, 2, .iload 8, []) := rfl
theorem pa_Col_findRecurrence_72 : pr_Col_findRecurrence[72]? = some (130, 2, .iload 4, []) := rfl
theorem pa_Col_findRecurrence_73 : pr_Col_findRecurrence[73]? = some (132, 1, .isub, []) := rfl
theorem pa_Col_findRecurrence_74 : pr_Col_findRecurrence[74]? = some (133, 1, .iaload, []) := rfl
theorem pa_Col_findRecurrence_75 : pr_Col_findRecurrence[75]? = some (134, 3, .invokevirtual 67, [6, 2, 1, 0, 291, 292, 293, 42]) := rfl
theorem pa_Col_findRecurrence_76 : pr_Col_findRecurrence[76]? = some (137, 1, .ixor, []) := rfl
theorem pa_Col_findRecurrence_77 : pr_Col_findRecurrence[77]? = some (138, 1, .iastore, []) := rfl
theorem pa_Col_findRecurrence_78 : pr_Col_findRecurrence[78]? = some (139, 3, .iinc 8 (1), [1, 0]) := rfl
theorem pa_Col_findRecurrence_79 : pr_Col_findRecurrence[79]? = some (142, 3, .goto (-42), [56]) := rfl
theorem pa_Col_findRecurrence_80 : pr_Col_findRecurrence[80]? = some (145, 1, .iconst 2, [2, 0]) := rfl
theorem pa_Col_findRecurrence_81 : pr_Col_findRecurrence[81]? = some (146, 1, .iload_n 3, []) := rfl
theorem pa_Col_findRecurrence_82 : pr_Col_findRecurrence[82]? = some (147, 1, .imul, []) := rfl
theorem pa_Col_findRecurrence_83 : pr_Col_findRecurrence[83]? = some (148, 2, .iload 5, []) := rfl
theorem pa_Col_findRecurrence_84 : pr_Col_findRecurrence[84]? = some (150, 3, .if_icmp .le (9), [87]) := rfl
theorem pa_Col_findRecurrence_85 : pr_Col_findRecurrence[85]? = some (153, 3, .iinc 4 (1), [1, 0]) := rfl
theorem pa_Col_findRecurrence_86 : pr_Col_findRecurrence[86]? = some (156, 3, .goto (34), [107]) := rfl
theorem pa_Col_findRecurrence_87 : pr_Col_findRecurrence[87]? = some (159, 1, .aload_n 0, []) := rfl
theorem pa_Col_findRecurrence_88 : pr_Col_findRecurrence[88]? = some (160, 3, .getfield 34, [4, 8, 2, 0, 119]) := rfl
theorem pa_Col_findRecurrence_89 : pr_Col_findRecurrence[89]? = some (163, 1, .iconst 0, [0, 0]) := rfl
theorem pa_Col_findRecurrence_90 : pr_Col_findRecurrence[90]? = some (164, 1, .aload_n 0, []) := rfl
theorem pa_Col_findRecurrence_91 : pr_Col_findRecurrence[91]? = some (165, 3, .getfield 31, [4, 7, 2, 0, 118]) := rfl
theorem pa_Col_findRecurrence_92 : pr_Col_findRecurrence[92]? = some (168, 1, .iconst 0, [0, 0]) := rfl
theorem pa_Col_findRecurrence_93 : pr_Col_findRecurrence[93]? = some (169, 1, .aload_n 0, []) := rfl
theorem pa_Col_findRecurrence_94 : pr_Col_findRecurrence[94]? = some (170, 3, .getfield 34, [4, 8, 2, 0, 119]) := rfl
theorem pa_Col_findRecurrence_95 : pr_Col_findRecurrence[95]? = some (173, 1, .arraylength, []) := rfl
theorem pa_Col_findRecurrence_96 : pr_Col_findRecurrence[96]? = some (174, 3, .invokestatic 86, [0, 318, 320, 319, 49]) := rfl
theorem pa_Col_findRecurrence_97 : pr_Col_findRecurrence[97]? = some (177, 2, .iload 6, []) := rfl
theorem pa_Col_findRecurrence_98 : pr_Col_findRecurrence[98]? = some (179, 1, .istore_n 2, []) := rfl
theorem pa_Col_findRecurrence_99 : pr_Col_findRecurrence[99]? = some (180, 2, .iload 5, []) := rfl
theorem pa_Col_findRecurrence_100 : pr_Col_findRecurrence[100]? = some (182, 1, .iconst 1, [1, 0]) := rfl
theorem pa_Col_findRecurrence_101 : pr_Col_findRecurrence[101]? = some (183, 1, .iadd, []) := rfl
theorem pa_Col_findRecurrence_102 : pr_Col_findRecurrence[102]? = some (184, 1, .iload_n 3, []) := rfl
theorem pa_Col_findRecurrence_103 : pr_Col_findRecurrence[103]? = some (185, 1, .isub, []) := rfl
theorem pa_Col_findRecurrence_104 : pr_Col_findRecurrence[104]? = some (186, 1, .istore_n 3, []) := rfl
theorem pa_Col_findRecurrence_105 : pr_Col_findRecurrence[105]? = some (187, 1, .iconst 1, [1, 0]) := rfl
theorem pa_Col_findRecurrence_106 : pr_Col_findRecurrence[106]? = some (188, 2, .istore 4, []) := rfl
theorem pa_Col_findRecurrence_107 : pr_Col_findRecurrence[107]? = some (190, 3, .iinc 5 (1), [1, 0]) := rfl
theorem pa_Col_findRecurrence_108 : pr_Col_findRecurrence[108]? = some (193, 3, .goto (-153), [26]) := rfl
theorem pa_Col_findRecurrence_109 : pr_Col_findRecurrence[109]? = some (196, 1, .iload_n 3, []) := rfl
theorem pa_Col_findRecurrence_110 : pr_Col_findRecurrence[110]? = some (197, 1, .ireturn, [0]) := rfl
def pa_Col_findRecurrence := And.intro pa_Col_findRecurrence_0 (And.intro pa_Col_findRecurrence_1 (And.intro pa_Col_findRecurrence_2 (And.intro pa_Col_findRecurrence_3 (And.intro pa_Col_findRecurrence_4 (And.intro pa_Col_findRecurrence_5 (And.intro pa_Col_findRecurrence_6 (And.intro pa_Col_findRecurrence_7 (And.intro pa_Col_findRecurrence_8 (And.intro pa_Col_findRecurrence_9 (And.intro pa_Col_findRecurrence_10 (And.intro pa_Col_findRecurrence_11 (And.intro pa_Col_findRecurrence_12 (And.intro pa_Col_findRecurrence_13 (And.intro pa_Col_findRecurrence_14 (And.intro pa_Col_findRecurrence_15 (And.intro pa_Col_findRecurrence_16 (And.intro pa_Col_findRecurrence_17 (And.intro pa_Col_findRecurrence_18 (And.intro pa_Col_findRecurrence_19 (And.intro pa_Col_findRecurrence_20 (And.intro pa_Col_findRecurrence_21 (And.intro pa_Col_findRecurrence_22 (And.intro pa_Col_findRecurrence_23 (And.intro pa_Col_findRecurrence_24 (And.intro pa_Col_findRecurrence_25 (And.intro pa_Col_findRecurrence_26 (And.intro pa_Col_findRecurrence_27 (And.intro pa_Col_findRecurrence_28 (And.intro pa_Col_findRecurrence_29 (And.intro pa_Col_findRecurrence_30 (And.intro pa_Col_findRecurrence_31 (And.intro pa_Col_findRecurrence_32 (And.intro pa_Col_findRecurrence_33 (And.intro pa_Col_findRecurrence_34 (And.intro pa_Col_findRecurrence_35 (And.intro pa_Col_findRecurrence_36 (And.intro pa_Col_findRecurrence_37 (And.intro pa_Col_findRecurrence_38 (And.intro pa_Col_findRecurrence_39 (And.intro pa_Col_findRecurrence_40 (And.intro pa_Col_findRecurrence_41 (And.intro pa_Col_findRecurrence_42 (And.intro pa_Col_findRecurrence_43 (And.intro pa_Col_findRecurrence_44 (And.intro pa_Col_findRecurrence_45 (And.intro pa_Col_findRecurrence_46 (And.intro pa_Col_findRecurrence_47 (And.intro pa_Col_findRecurrence_48 (And.intro pa_Col_findRecurrence_49 (And.intro pa_Col_findRecurrence_50 (And.intro pa_Col_findRecurrence_51 (And.intro pa_Col_findRecurrence_52 (And.intro pa_Col_findRecurrence_53 (And.intro pa_Col_findRecurrence_54 (And.intro pa_Col_findRecurrence_55 (And.intro pa_Col_findRecurrence_56 (And.intro pa_Col_findRecurrence_57 (And.intro pa_Col_findRecurrence_58 (And.intro pa_Col_findRecurrence_59 (And.intro pa_Col_findRecurrence_60 (And.intro pa_Col_findRecurrence_61 (And.intro pa_Col_findRecurrence_62 (And.intro pa_Col_findRecurrence_63 (And.intro pa_Col_findRecurrence_64 (And.intro pa_Col_findRecurrence_65 (And.intro pa_Col_findRecurrence_66 (And.intro pa_Col_findRecurrence_67 (And.intro pa_Col_findRecurrence_68 (And.intro pa_Col_findRecurrence_69 (And.intro pa_Col_findRecurrence_70 (And.intro pa_Col_findRecurrence_71 (And.intro pa_Col_findRecurrence_72 (And.intro pa_Col_findRecurrence_73 (And.intro pa_Col_findRecurrence_74 (And.intro pa_Col_findRecurrence_75 (And.intro pa_Col_findRecurrence_76 (And.intro pa_Col_findRecurrence_77 (And.intro pa_Col_findRecurrence_78 (And.intro pa_Col_findRecurrence_79 (And.intro pa_Col_findRecurrence_80 (And.intro pa_Col_findRecurrence_81 (And.intro pa_Col_findRecurrence_82 (And.intro pa_Col_findRecurrence_83 (And.intro pa_Col_findRecurrence_84 (And.intro pa_Col_findRecurrence_85 (And.intro pa_Col_findRecurrence_86 (And.intro pa_Col_findRecurrence_87 (And.intro pa_Col_findRecurrence_88 (And.intro pa_Col_findRecurrence_89 (And.intro pa_Col_findRecurrence_90 (And.intro pa_Col_findRecurrence_91 (And.intro pa_Col_findRecurrence_92 (And.intro pa_Col_findRecurrence_93 (And.intro pa_Col_findRecurrence_94 (And.intro pa_Col_findRecurrence_95 (And.intro pa_Col_findRecurrence_96 (And.intro pa_Col_findRecurrence_97 (And.intro pa_Col_findRecurrence_98 (And.intro pa_Col_findRecurrence_99 (And.intro pa_Col_findRecurrence_100 (And.intro pa_Col_findRecurrence_101 (And.intro pa_Col_findRecurrence_102 (And.intro pa_Col_findRecurrence_103 (And.intro pa_Col_findRecurrence_104 (And.intro pa_Col_findRecurrence_105 (And.intro pa_Col_findRecurrence_106 (And.intro pa_Col_findRecurrence_107 (And.intro pa_Col_findRecurrence_108 (And.intro pa_Col_findRecurrence_109 (pa_Col_findRecurrence_110))))))))))))))))))))))))))))))))))))))))))))))))))))))))))))))))))))))))))))))))))))))))))))))))))))))))))))))
def pr_Col_markWrong : List ma_E := [(0, 1, .iconst 0, [0, 0]),
  (1, 1, .istore_n 2, []),
  (2, 1, .iconst 0, [0, 0]),
  (3, 1, .istore_n 3, []),
  (4, 1, .iload_n 3, []),
  (5, 2, .bipush 16, [16, 0]),
  (7, 3, .if_icmp .ge (44), [28]),
  (10, 1, .aload_n 0, []),
  (11, 3, .getfield 15, [4, 2, 2, 0, 113]),
  (14, 1, .iload_n 3, []),
  (15, 1, .baload, [1]),
  (16, 3, .ifCond .ne (29), [26]),
  (19, 1, .aload_n 0, []),
  (20, 1, .aload_n 0, []),
  (21, 3, .getfield 37, [4, 0, 2, 0, 109]),
  (24, 1, .iload_n 3, []),
  (25, 3, .invokevirtual 62, [5, 1, 1, 0, 287, 288, 289, 42]),
  (28, 1, .iload_n 1, []),
  (29, 3, .invokevirtual 95, [52, 2, 4, 0, 329, 331, 9, 43]),
  (32, 3, .ifCond .ne (13), [26]),
  (35, 1, .aload_n 0, []),
  (36, 3, .getfield 15, [4, 2, 2, 0, 113]),
  (39, 1, .iload_n 3, []),
  (40, 1, .iconst 1, [1, 0]),
  (41, 1, .bastore, [1]),
  (42, 3, .iinc 2 (1), [1, 0]),
  (45, 3, .iinc 3 (1), [1, 0]),
  (48, 3, .goto (-44), [4]),
  (51, 1, .iload_n 2, []),
  (52, 1, .ireturn, [0])]
theorem po_Col_markWrong : ma_ok me_Col_markWrong pr_Col_markWrong := ma_ok_of (by decide +kernel)
theorem pa_Col_markWrong_0 : pr_Col_markWrong[0]? = some (0, 1, .iconst 0, [0, 0]) := rfl
theorem pa_Col_markWrong_1 : pr_Col_markWrong[1]? = some (1, 1, .istore_n 2, []) := rfl
theorem pa_Col_markWrong_2 : pr_Col_markWrong[2]? = some (2, 1, .iconst 0, [0, 0]) := rfl
theorem pa_Col_markWrong_3 : pr_Col_markWrong[3]? = some (3, 1, .istore_n 3, []) := rfl
theorem pa_Col_markWrong_4 : pr_Col_markWrong[4]? = some (4, 1, .iload_n 3, []) := rfl
theorem pa_Col_markWrong_5 : pr_Col_markWrong[5]? = some (5, 2, .bipush 16, [16, 0]) := rfl
theorem pa_Col_markWrong_6 : pr_Col_markWrong[6]? = some (7, 3, .if_icmp .ge (44), [28]) := rfl
theorem pa_Col_markWrong_7 : pr_Col_markWrong[7]? = some (10, 1, .aload_n 0, []) := rfl
theorem pa_Col_markWrong_8 : pr_Col_markWrong[8]? = some (11, 3, .getfield 15, [4, 2, 2, 0, 113]) := rfl
theorem pa_Col_markWrong_9 : pr_Col_markWrong[9]? = some (14, 1, .iload_n 3, []) := rfl
theorem pa_Col_markWrong_10 : pr_Col_markWrong[10]? = some (15, 1, .baload, [1]) := rfl
theorem pa_Col_markWrong_11 : pr_Col_markWrong[11]? = some (16, 3, .ifCond .ne (29), [26]) := rfl
theorem pa_Col_markWrong_12 : pr_Col_markWrong[12]? = some (19, 1, .aload_n 0, []) := rfl
theorem pa_Col_markWrong_13 : pr_Col_markWrong[13]? = some (20, 1, .aload_n 0, []) := rfl
theorem pa_Col_markWrong_14 : pr_Col_markWrong[14]? = some (21, 3, .getfield 37, [4, 0, 2, 0, 109]) := rfl
theorem pa_Col_markWrong_15 : pr_Col_markWrong[15]? = some (24, 1, .iload_n 3, []) := rfl
theorem pa_Col_markWrong_16 : pr_Col_markWrong[16]? = some (25, 3, .invokevirtual 62, [5, 1, 1, 0, 287, 288, 289, 42]) := rfl
theorem pa_Col_markWrong_17 : pr_Col_markWrong[17]? = some (28, 1, .iload_n 1, []) := rfl
theorem pa_Col_markWrong_18 : pr_Col_markWrong[18]? = some (29, 3, .invokevirtual 95, [52, 2, 4, 0, 329, 331, 9, 43]) := rfl
theorem pa_Col_markWrong_19 : pr_Col_markWrong[19]? = some (32, 3, .ifCond .ne (13), [26]) := rfl
theorem pa_Col_markWrong_20 : pr_Col_markWrong[20]? = some (35, 1, .aload_n 0, []) := rfl
theorem pa_Col_markWrong_21 : pr_Col_markWrong[21]? = some (36, 3, .getfield 15, [4, 2, 2, 0, 113]) := rfl
theorem pa_Col_markWrong_22 : pr_Col_markWrong[22]? = some (39, 1, .iload_n 3, []) := rfl
theorem pa_Col_markWrong_23 : pr_Col_markWrong[23]? = some (40, 1, .iconst 1, [1, 0]) := rfl
theorem pa_Col_markWrong_24 : pr_Col_markWrong[24]? = some (41, 1, .bastore, [1]) := rfl
theorem pa_Col_markWrong_25 : pr_Col_markWrong[25]? = some (42, 3, .iinc 2 (1), [1, 0]) := rfl
theorem pa_Col_markWrong_26 : pr_Col_markWrong[26]? = some (45, 3, .iinc 3 (1), [1, 0]) := rfl
theorem pa_Col_markWrong_27 : pr_Col_markWrong[27]? = some (48, 3, .goto (-44), [4]) := rfl
theorem pa_Col_markWrong_28 : pr_Col_markWrong[28]? = some (51, 1, .iload_n 2, []) := rfl
theorem pa_Col_markWrong_29 : pr_Col_markWrong[29]? = some (52, 1, .ireturn, [0]) := rfl
def pa_Col_markWrong := And.intro pa_Col_markWrong_0 (And.intro pa_Col_markWrong_1 (And.intro pa_Col_markWrong_2 (And.intro pa_Col_markWrong_3 (And.intro pa_Col_markWrong_4 (And.intro pa_Col_markWrong_5 (And.intro pa_Col_markWrong_6 (And.intro pa_Col_markWrong_7 (And.intro pa_Col_markWrong_8 (And.intro pa_Col_markWrong_9 (And.intro pa_Col_markWrong_10 (And.intro pa_Col_markWrong_11 (And.intro pa_Col_markWrong_12 (And.intro pa_Col_markWrong_13 (And.intro pa_Col_markWrong_14 (And.intro pa_Col_markWrong_15 (And.intro pa_Col_markWrong_16 (And.intro pa_Col_markWrong_17 (And.intro pa_Col_markWrong_18 (And.intro pa_Col_markWrong_19 (And.intro pa_Col_markWrong_20 (And.intro pa_Col_markWrong_21 (And.intro pa_Col_markWrong_22 (And.intro pa_Col_markWrong_23 (And.intro pa_Col_markWrong_24 (And.intro pa_Col_markWrong_25 (And.intro pa_Col_markWrong_26 (And.intro pa_Col_markWrong_27 (And.intro pa_Col_markWrong_28 (pa_Col_markWrong_29)))))))))))))))))))))))))))))
def pr_Col_siftOutUnknown : List ma_E := [(0, 1, .aload_n 0, []),
  (1, 1, .iconst (-1), [1, 1]),
  (2, 3, .invokevirtual 71, [53, 1, 4, 0, 299, 301, 4, 43]),
  (5, 1, .istore_n 2, []),
  (6, 1, .iconst 0, [0, 0]),
  (7, 1, .istore_n 3, []),
  (8, 1, .iload_n 3, []),
  (9, 1, .iload_n 1, []),
  (10, 3, .if_icmp .ge (21), [19]),
  (13, 1, .aload_n 0, []),
  (14, 3, .getfield 22, [4, 4, 2, 0, 115]),
  (17, 1, .iload_n 3, []),
  (18, 1, .aload_n 0, []),
  (19, 1, .iload_n 3, []),
  (20, 1, .iload_n 2, []),
  (21, 3, .invokevirtual 74, [54, 2, 4, 0, 306, 308, 5, 43]),
  (24, 1, .iastore, []),
  (25, 3, .iinc 3 (1), [1, 0]),
  (28, 3, .goto (-20), [6]),
  (31, 1, .return_, [])]
theorem po_Col_siftOutUnknown : ma_ok me_Col_siftOutUnknown pr_Col_siftOutUnknown := ma_ok_of (by decide +kernel)
theorem pa_Col_siftOutUnknown_0 : pr_Col_siftOutUnknown[0]? = some (0, 1, .aload_n 0, []) := rfl
theorem pa_Col_siftOutUnknown_1 : pr_Col_siftOutUnknown[1]? = some (1, 1, .iconst (-1), [1, 1]) := rfl
theorem pa_Col_siftOutUnknown_2 : pr_Col_siftOutUnknown[2]? = some (2, 3, .invokevirtual 71, [53, 1, 4, 0, 299, 301, 4, 43]) := rfl
theorem pa_Col_siftOutUnknown_3 : pr_Col_siftOutUnknown[3]? = some (5, 1, .istore_n 2, []) := rfl
theorem pa_Col_siftOutUnknown_4 : pr_Col_siftOutUnknown[4]? = some (6, 1, .iconst 0, [0, 0]) := rfl
theorem pa_Col_siftOutUnknown_5 : pr_Col_siftOutUnknown[5]? = some (7, 1, .istore_n 3, []) := rfl
theorem pa_Col_siftOutUnknown_6 : pr_Col_siftOutUnknown[6]? = some (8, 1, .iload_n 3, []) := rfl
theorem pa_Col_siftOutUnknown_7 : pr_Col_siftOutUnknown[7]? = some (9, 1, .iload_n 1, []) := rfl
theorem pa_Col_siftOutUnknown_8 : pr_Col_siftOutUnknown[8]? = some (10, 3, .if_icmp .ge (21), [19]) := rfl
theorem pa_Col_siftOutUnknown_9 : pr_Col_siftOutUnknown[9]? = some (13, 1, .aload_n 0, []) := rfl
theorem pa_Col_siftOutUnknown_10 : pr_Col_siftOutUnknown[10]? = some (14, 3, .getfield 22, [4, 4, 2, 0, 115]) := rfl
theorem pa_Col_siftOutUnknown_11 : pr_Col_siftOutUnknown[11]? = some (17, 1, .iload_n 3, []) := rfl
theorem pa_Col_siftOutUnknown_12 : pr_Col_siftOutUnknown[12]? = some (18, 1, .aload_n 0, []) := rfl
theorem pa_Col_siftOutUnknown_13 : pr_Col_siftOutUnknown[13]? = some (19, 1, .iload_n 3, []) := rfl
theorem pa_Col_siftOutUnknown_14 : pr_Col_siftOutUnknown[14]? = some (20, 1, .iload_n 2, []) := rfl
theorem pa_Col_siftOutUnknown_15 : pr_Col_siftOutUnknown[15]? = some (21, 3, .invokevirtual 74, [54, 2, 4, 0, 306, 308, 5, 43]) := rfl
theorem pa_Col_siftOutUnknown_16 : pr_Col_siftOutUnknown[16]? = some (24, 1, .iastore, []) := rfl
theorem pa_Col_siftOutUnknown_17 : pr_Col_siftOutUnknown[17]? = some (25, 3, .iinc 3 (1), [1, 0]) := rfl
theorem pa_Col_siftOutUnknown_18 : pr_Col_siftOutUnknown[18]? = some (28, 3, .goto (-20), [6]) := rfl
theorem pa_Col_siftOutUnknown_19 : pr_Col_siftOutUnknown[19]? = some (31, 1, .return_, []) := rfl
def pa_Col_siftOutUnknown := And.intro pa_Col_siftOutUnknown_0 (And.intro pa_Col_siftOutUnknown_1 (And.intro pa_Col_siftOutUnknown_2 (And.intro pa_Col_siftOutUnknown_3 (And.intro pa_Col_siftOutUnknown_4 (And.intro pa_Col_siftOutUnknown_5 (And.intro pa_Col_siftOutUnknown_6 (And.intro pa_Col_siftOutUnknown_7 (And.intro pa_Col_siftOutUnknown_8 (And.intro pa_Col_siftOutUnknown_9 (And.intro pa_Col_siftOutUnknown_10 (And.intro pa_Col_siftOutUnknown_11 (And.intro pa_Col_siftOutUnknown_12 (And.intro pa_Col_siftOutUnknown_13 (And.intro pa_Col_siftOutUnknown_14 (And.intro pa_Col_siftOutUnknown_15 (And.intro pa_Col_siftOutUnknown_16 (And.intro pa_Col_siftOutUnknown_17 (And.intro pa_Col_siftOutUnknown_18 (pa_Col_siftOutUnknown_19)))))))))))))))))))
def pr_Arc_newRows : List ma_E := [(0, 1, .iload_n 0, []),
  (1, 3, .anewarray 85, [67]),
  (4, 1, .astore_n 1, []),
  (5, 1, .iconst 0, [0, 0]),
  (6, 1, .istore_n 2, []),
  (7, 1, .iload_n 2, []),
  (8, 1, .iload_n 0, []),
  (9, 3, .if_icmp .ge (19), [16]),
  (12, 1, .aload_n 1, []),
  (13, 1, .iload_n 2, []),
  (14, 3, .new 85, [0, 3, 67, 69, 41]),
  (17, 1, .dup, []),
  (18, 3, .invokespecial 155, [40, 0, 1, 0, 71, 41]),
  (21, 1, .aastore, []),
  (22, 3, .iinc 2 (1), [1, 0]),
  (25, 3, .goto (-18), [5]),
  (28, 1, .aload_n 1, []),
  (29, 1, .areturn, [])]
theorem po_Arc_newRows : ma_ok me_Arc_newRows pr_Arc_newRows := ma_ok_of (by decide +kernel)
theorem po_Arc_newRows90 : ma_ok me_Arc_newRows90 pr_Arc_newRows := ma_ok_of (by decide +kernel)
theorem pa_Arc_newRows_0 : pr_Arc_newRows[0]? = some (0, 1, .iload_n 0, []) := rfl
theorem pa_Arc_newRows_1 : pr_Arc_newRows[1]? = some (1, 3, .anewarray 85, [67]) := rfl
theorem pa_Arc_newRows_2 : pr_Arc_newRows[2]? = some (4, 1, .astore_n 1, []) := rfl
theorem pa_Arc_newRows_3 : pr_Arc_newRows[3]? = some (5, 1, .iconst 0, [0, 0]) := rfl
theorem pa_Arc_newRows_4 : pr_Arc_newRows[4]? = some (6, 1, .istore_n 2, []) := rfl
theorem pa_Arc_newRows_5 : pr_Arc_newRows[5]? = some (7, 1, .iload_n 2, []) := rfl
theorem pa_Arc_newRows_6 : pr_Arc_newRows[6]? = some (8, 1, .iload_n 0, []) := rfl
theorem pa_Arc_newRows_7 : pr_Arc_newRows[7]? = some (9, 3, .if_icmp .ge (19), [16]) := rfl
theorem pa_Arc_newRows_8 : pr_Arc_newRows[8]? = some (12, 1, .aload_n 1, []) := rfl
theorem pa_Arc_newRows_9 : pr_Arc_newRows[9]? = some (13, 1, .iload_n 2, []) := rfl
theorem pa_Arc_newRows_10 : pr_Arc_newRows[10]? = some (14, 3, .new 85, [0, 3, 67, 69, 41]) := rfl
theorem pa_Arc_newRows_11 : pr_Arc_newRows[11]? = some (17, 1, .dup, []) := rfl
theorem pa_Arc_newRows_12 : pr_Arc_newRows[12]? = some (18, 3, .invokespecial 155, [40, 0, 1, 0, 71, 41]) := rfl
theorem pa_Arc_newRows_13 : pr_Arc_newRows[13]? = some (21, 1, .aastore, []) := rfl
theorem pa_Arc_newRows_14 : pr_Arc_newRows[14]? = some (22, 3, .iinc 2 (1), [1, 0]) := rfl
theorem pa_Arc_newRows_15 : pr_Arc_newRows[15]? = some (25, 3, .goto (-18), [5]) := rfl
theorem pa_Arc_newRows_16 : pr_Arc_newRows[16]? = some (28, 1, .aload_n 1, []) := rfl
theorem pa_Arc_newRows_17 : pr_Arc_newRows[17]? = some (29, 1, .areturn, []) := rfl
def pa_Arc_newRows := And.intro pa_Arc_newRows_0 (And.intro pa_Arc_newRows_1 (And.intro pa_Arc_newRows_2 (And.intro pa_Arc_newRows_3 (And.intro pa_Arc_newRows_4 (And.intro pa_Arc_newRows_5 (And.intro pa_Arc_newRows_6 (And.intro pa_Arc_newRows_7 (And.intro pa_Arc_newRows_8 (And.intro pa_Arc_newRows_9 (And.intro pa_Arc_newRows_10 (And.intro pa_Arc_newRows_11 (And.intro pa_Arc_newRows_12 (And.intro pa_Arc_newRows_13 (And.intro pa_Arc_newRows_14 (And.intro pa_Arc_newRows_15 (And.intro pa_Arc_newRows_16 (pa_Arc_newRows_17)))))))))))))))))
def pr_Arc_readCut : List ma_E := [(0, 1, .aload_n 0, []),
  (1, 1, .iload_n 1, []),
  (2, 3, .invokevirtual 81, [21, 1, 6, 0, 385, 387, 15, 40]),
  (5, 3, .ifCond .eq (20), [12]),
  (8, 1, .aload_n 0, []),
  (9, 3, .invokevirtual 89, [19, 0, 6, 0, 402, 404, 16, 40]),
  (12, 3, .ifCond .ne (13), [12]),
  (15, 1, .iload_n 2, []),
  (16, 3, .ifCond .lt (9), [12]),
  (19, 1, .iload_n 2, []),
  (20, 2, .bipush 33, [33, 0]),
  (22, 3, .if_icmp .lt (5), [14]),
  (25, 1, .iconst 0, [0, 0]),
  (26, 1, .ireturn, [1]),
  (27, 1, .aload_n 0, []),
  (28, 3, .invokevirtual 93, [23, 0, 6, 0, 406, 408, 17, 40]),
  (31, 1, .astore_n 3, []),
  (32, 1, .aload_n 3, []),
  (33, 1, .lconst 0, [0]),
  (34, 1, .lconst 0, [0]),
  (35, 1, .iconst 0, [0, 0]),
  (36, 3, .invokevirtual 107, [3, 3, 0, 0, 362, 363, 364, 41]),
  (39, 1, .aload_n 3, []),
  (40, 1, .aload_n 0, []),
  (41, 3, .getfield 17, [6, 1, 2, 0, 223]),
  (44, 1, .iload_n 1, []),
  (45, 1, .aaload, []),
  (46, 1, .iconst 0, [0, 0]),
  (47, 1, .iload_n 2, []),
  (48, 3, .invokevirtual 111, [41, 3, 0, 0, 414, 415, 416, 41]),
  (51, 1, .aload_n 3, []),
  (52, 1, .aload_n 0, []),
  (53, 3, .getfield 17, [6, 1, 2, 0, 223]),
  (56, 1, .iload_n 1, []),
  (57, 1, .aaload, []),
  (58, 1, .iload_n 2, []),
  (59, 1, .iconst 1, [1, 0]),
  (60, 1, .iadd, []),
  (61, 2, .bipush 45, [45, 0]),
  (63, 3, .invokevirtual 111, [41, 3, 0, 0, 414, 415, 416, 41]),
  (66, 1, .iconst 1, [1, 0]),
  (67, 1, .ireturn, [1])]
theorem po_Arc_readCut : ma_ok me_Arc_readCut pr_Arc_readCut := ma_ok_of (by decide +kernel)
theorem pa_Arc_readCut_0 : pr_Arc_readCut[0]? = some (0, 1, .aload_n 0, []) := rfl
theorem pa_Arc_readCut_1 : pr_Arc_readCut[1]? = some (1, 1, .iload_n 1, []) := rfl
theorem pa_Arc_readCut_2 : pr_Arc_readCut[2]? = some (2, 3, .invokevirtual 81, [21, 1, 6, 0, 385, 387, 15, 40]) := rfl
theorem pa_Arc_readCut_3 : pr_Arc_readCut[3]? = some (5, 3, .ifCond .eq (20), [12]) := rfl
theorem pa_Arc_readCut_4 : pr_Arc_readCut[4]? = some (8, 1, .aload_n 0, []) := rfl
theorem pa_Arc_readCut_5 : pr_Arc_readCut[5]? = some (9, 3, .invokevirtual 89, [19, 0, 6, 0, 402, 404, 16, 40]) := rfl
theorem pa_Arc_readCut_6 : pr_Arc_readCut[6]? = some (12, 3, .ifCond .ne (13), [12]) := rfl
theorem pa_Arc_readCut_7 : pr_Arc_readCut[7]? = some (15, 1, .iload_n 2, []) := rfl
theorem pa_Arc_readCut_8 : pr_Arc_readCut[8]? = some (16, 3, .ifCond .lt (9), [12]) := rfl
theorem pa_Arc_readCut_9 : pr_Arc_readCut[9]? = some (19, 1, .iload_n 2, []) := rfl
theorem pa_Arc_readCut_10 : pr_Arc_readCut[10]? = some (20, 2, .bipush 33, [33, 0]) := rfl
theorem pa_Arc_readCut_11 : pr_Arc_readCut[11]? = some (22, 3, .if_icmp .lt (5), [14]) := rfl
theorem pa_Arc_readCut_12 : pr_Arc_readCut[12]? = some (25, 1, .iconst 0, [0, 0]) := rfl
theorem pa_Arc_readCut_13 : pr_Arc_readCut[13]? = some (26, 1, .ireturn, [1]) := rfl
theorem pa_Arc_readCut_14 : pr_Arc_readCut[14]? = some (27, 1, .aload_n 0, []) := rfl
theorem pa_Arc_readCut_15 : pr_Arc_readCut[15]? = some (28, 3, .invokevirtual 93, [23, 0, 6, 0, 406, 408, 17, 40]) := rfl
theorem pa_Arc_readCut_16 : pr_Arc_readCut[16]? = some (31, 1, .astore_n 3, []) := rfl
theorem pa_Arc_readCut_17 : pr_Arc_readCut[17]? = some (32, 1, .aload_n 3, []) := rfl
theorem pa_Arc_readCut_18 : pr_Arc_readCut[18]? = some (33, 1, .lconst 0, [0]) := rfl
theorem pa_Arc_readCut_19 : pr_Arc_readCut[19]? = some (34, 1, .lconst 0, [0]) := rfl
theorem pa_Arc_readCut_20 : pr_Arc_readCut[20]? = some (35, 1, .iconst 0, [0, 0]) := rfl
theorem pa_Arc_readCut_21 : pr_Arc_readCut[21]? = some (36, 3, .invokevirtual 107, [3, 3, 0, 0, 362, 363, 364, 41]) := rfl
theorem pa_Arc_readCut_22 : pr_Arc_readCut[22]? = some (39, 1, .aload_n 3, []) := rfl
theorem pa_Arc_readCut_23 : pr_Arc_readCut[23]? = some (40, 1, .aload_n 0, []) := rfl
theorem pa_Arc_readCut_24 : pr_Arc_readCut[24]? = some (41, 3, .getfield 17, [6, 1, 2, 0, 223]) := rfl
theorem pa_Arc_readCut_25 : pr_Arc_readCut[25]? = some (44, 1, .iload_n 1, []) := rfl
theorem pa_Arc_readCut_26 : pr_Arc_readCut[26]? = some (45, 1, .aaload, []) := rfl
theorem pa_Arc_readCut_27 : pr_Arc_readCut[27]? = some (46, 1, .iconst 0, [0, 0]) := rfl
theorem pa_Arc_readCut_28 : pr_Arc_readCut[28]? = some (47, 1, .iload_n 2, []) := rfl
theorem pa_Arc_readCut_29 : pr_Arc_readCut[29]? = some (48, 3, .invokevirtual 111, [41, 3, 0, 0, 414, 415, 416, 41]) := rfl
theorem pa_Arc_readCut_30 : pr_Arc_readCut[30]? = some (51, 1, .aload_n 3, []) := rfl
theorem pa_Arc_readCut_31 : pr_Arc_readCut[31]? = some (52, 1, .aload_n 0, []) := rfl
theorem pa_Arc_readCut_32 : pr_Arc_readCut[32]? = some (53, 3, .getfield 17, [6, 1, 2, 0, 223]) := rfl
theorem pa_Arc_readCut_33 : pr_Arc_readCut[33]? = some (56, 1, .iload_n 1, []) := rfl
theorem pa_Arc_readCut_34 : pr_Arc_readCut[34]? = some (57, 1, .aaload, []) := rfl
theorem pa_Arc_readCut_35 : pr_Arc_readCut[35]? = some (58, 1, .iload_n 2, []) := rfl
theorem pa_Arc_readCut_36 : pr_Arc_readCut[36]? = some (59, 1, .iconst 1, [1, 0]) := rfl
theorem pa_Arc_readCut_37 : pr_Arc_readCut[37]? = some (60, 1, .iadd, []) := rfl
theorem pa_Arc_readCut_38 : pr_Arc_readCut[38]? = some (61, 2, .bipush 45, [45, 0]) := rfl
theorem pa_Arc_readCut_39 : pr_Arc_readCut[39]? = some (63, 3, .invokevirtual 111, [41, 3, 0, 0, 414, 415, 416, 41]) := rfl
theorem pa_Arc_readCut_40 : pr_Arc_readCut[40]? = some (66, 1, .iconst 1, [1, 0]) := rfl
theorem pa_Arc_readCut_41 : pr_Arc_readCut[41]? = some (67, 1, .ireturn, [1]) := rfl
def pa_Arc_readCut := And.intro pa_Arc_readCut_0 (And.intro pa_Arc_readCut_1 (And.intro pa_Arc_readCut_2 (And.intro pa_Arc_readCut_3 (And.intro pa_Arc_readCut_4 (And.intro pa_Arc_readCut_5 (And.intro pa_Arc_readCut_6 (And.intro pa_Arc_readCut_7 (And.intro pa_Arc_readCut_8 (And.intro pa_Arc_readCut_9 (And.intro pa_Arc_readCut_10 (And.intro pa_Arc_readCut_11 (And.intro pa_Arc_readCut_12 (And.intro pa_Arc_readCut_13 (And.intro pa_Arc_readCut_14 (And.intro pa_Arc_readCut_15 (And.intro pa_Arc_readCut_16 (And.intro pa_Arc_readCut_17 (And.intro pa_Arc_readCut_18 (And.intro pa_Arc_readCut_19 (And.intro pa_Arc_readCut_20 (And.intro pa_Arc_readCut_21 (And.intro pa_Arc_readCut_22 (And.intro pa_Arc_readCut_23 (And.intro pa_Arc_readCut_24 (And.intro pa_Arc_readCut_25 (And.intro pa_Arc_readCut_26 (And.intro pa_Arc_readCut_27 (And.intro pa_Arc_readCut_28 (And.intro pa_Arc_readCut_29 (And.intro pa_Arc_readCut_30 (And.intro pa_Arc_readCut_31 (And.intro pa_Arc_readCut_32 (And.intro pa_Arc_readCut_33 (And.intro pa_Arc_readCut_34 (And.intro pa_Arc_readCut_35 (And.intro pa_Arc_readCut_36 (And.intro pa_Arc_readCut_37 (And.intro pa_Arc_readCut_38 (And.intro pa_Arc_readCut_39 (And.intro pa_Arc_readCut_40 (pa_Arc_readCut_41)))))))))))))))))))))))))))))))))))))))))
def pr_Arc_readGrown : List ma_E := [(0, 1, .aload_n 0, []),
  (1, 1, .iload_n 1, []),
  (2, 3, .invokevirtual 81, [21, 1, 6, 0, 385, 387, 15, 40]),
  (5, 3, .ifCond .eq (29), [17]),
  (8, 1, .aload_n 0, []),
  (9, 3, .invokevirtual 89, [19, 0, 6, 0, 402, 404, 16, 40]),
  (12, 3, .ifCond .ne (22), [17]),
  (15, 1, .iload_n 2, []),
  (16, 3, .ifCond .lt (18), [17]),
  (19, 1, .iload_n 2, []),
  (20, 2, .bipush 33, [33, 0]),
  (22, 3, .if_icmp .gt (12), [17]),
  (25, 1, .iload_n 3, []),
  (26, 3, .ifCond .lt (8), [17]),
  (29, 1, .iload_n 3, []),
  (30, 1, .iconst 4, [4, 0]),
  (31, 3, .if_icmp .lt (5), [19]),
  (34, 1, .iconst 0, [0, 0]),
  (35, 1, .ireturn, [1]),
  (36, 1, .aload_n 0, []),
  (37, 3, .invokevirtual 93, [23, 0, 6, 0, 406, 408, 17, 40]),
  (40, 2, .astore 4, []),
  (42, 2, .aload 4, []),
  (44, 1, .lconst 0, [0]),
  (45, 1, .lconst 0, [0]),
  (46, 1, .iconst 0, [0, 0]),
  (47, 3, .invokevirtual 107, [3, 3, 0, 0, 362, 363, 364, 41]),
  (50, 2, .aload 4, []),
  (52, 1, .aload_n 0, []),
  (53, 3, .getfield 17, [6, 1, 2, 0, 223]),
  (56, 1, .iload_n 1, []),
  (57, 1, .aaload, []),
  (58, 1, .iconst 0, [0, 0]),
  (59, 1, .iload_n 2, []),
  (60, 3, .invokevirtual 111, [41, 3, 0, 0, 414, 415, 416, 41]),
  (63, 2, .aload 4, []),
  (65, 1, .iload_n 3, []),
  (66, 3, .invokevirtual 115, [1, 1, 0, 0, 366, 367, 368, 41]),
  (69, 2, .aload 4, []),
  (71, 1, .aload_n 0, []),
  (72, 3, .getfield 17, [6, 1, 2, 0, 223]),
  (75, 1, .iload_n 1, []),
  (76, 1, .aaload, []),
  (77, 1, .iload_n 2, []),
  (78, 2, .bipush 45, [45, 0]),
  (80, 3, .invokevirtual 111, [41, 3, 0, 0, 414, 415, 416, 41]),
  (83, 1, .iconst 1, [1, 0]),
  (84, 1, .ireturn, [1])]
theorem po_Arc_readGrown : ma_ok me_Arc_readGrown pr_Arc_readGrown := ma_ok_of (by decide +kernel)
theorem pa_Arc_readGrown_0 : pr_Arc_readGrown[0]? = some (0, 1, .aload_n 0, []) := rfl
theorem pa_Arc_readGrown_1 : pr_Arc_readGrown[1]? = some (1, 1, .iload_n 1, []) := rfl
theorem pa_Arc_readGrown_2 : pr_Arc_readGrown[2]? = some (2, 3, .invokevirtual 81, [21, 1, 6, 0, 385, 387, 15, 40]) := rfl
theorem pa_Arc_readGrown_3 : pr_Arc_readGrown[3]? = some (5, 3, .ifCond .eq (29), [17]) := rfl
theorem pa_Arc_readGrown_4 : pr_Arc_readGrown[4]? = some (8, 1, .aload_n 0, []) := rfl
theorem pa_Arc_readGrown_5 : pr_Arc_readGrown[5]? = some (9, 3, .invokevirtual 89, [19, 0, 6, 0, 402, 404, 16, 40]) := rfl
theorem pa_Arc_readGrown_6 : pr_Arc_readGrown[6]? = some (12, 3, .ifCond .ne (22), [17]) := rfl
theorem pa_Arc_readGrown_7 : pr_Arc_readGrown[7]? = some (15, 1, .iload_n 2, []) := rfl
theorem pa_Arc_readGrown_8 : pr_Arc_readGrown[8]? = some (16, 3, .ifCond .lt (18), [17]) := rfl
theorem pa_Arc_readGrown_9 : pr_Arc_readGrown[9]? = some (19, 1, .iload_n 2, []) := rfl
theorem pa_Arc_readGrown_10 : pr_Arc_readGrown[10]? = some (20, 2, .bipush 33, [33, 0]) := rfl
theorem pa_Arc_readGrown_11 : pr_Arc_readGrown[11]? = some (22, 3, .if_icmp .gt (12), [17]) := rfl
theorem pa_Arc_readGrown_12 : pr_Arc_readGrown[12]? = some (25, 1, .iload_n 3, []) := rfl
theorem pa_Arc_readGrown_13 : pr_Arc_readGrown[13]? = some (26, 3, .ifCond .lt (8), [17]) := rfl
theorem pa_Arc_readGrown_14 : pr_Arc_readGrown[14]? = some (29, 1, .iload_n 3, []) := rfl
theorem pa_Arc_readGrown_15 : pr_Arc_readGrown[15]? = some (30, 1, .iconst 4, [4, 0]) := rfl
theorem pa_Arc_readGrown_16 : pr_Arc_readGrown[16]? = some (31, 3, .if_icmp .lt (5), [19]) := rfl
theorem pa_Arc_readGrown_17 : pr_Arc_readGrown[17]? = some (34, 1, .iconst 0, [0, 0]) := rfl
theorem pa_Arc_readGrown_18 : pr_Arc_readGrown[18]? = some (35, 1, .ireturn, [1]) := rfl
theorem pa_Arc_readGrown_19 : pr_Arc_readGrown[19]? = some (36, 1, .aload_n 0, []) := rfl
theorem pa_Arc_readGrown_20 : pr_Arc_readGrown[20]? = some (37, 3, .invokevirtual 93, [23, 0, 6, 0, 406, 408, 17, 40]) := rfl
theorem pa_Arc_readGrown_21 : pr_Arc_readGrown[21]? = some (40, 2, .astore 4, []) := rfl
theorem pa_Arc_readGrown_22 : pr_Arc_readGrown[22]? = some (42, 2, .aload 4, []) := rfl
theorem pa_Arc_readGrown_23 : pr_Arc_readGrown[23]? = some (44, 1, .lconst 0, [0]) := rfl
theorem pa_Arc_readGrown_24 : pr_Arc_readGrown[24]? = some (45, 1, .lconst 0, [0]) := rfl
theorem pa_Arc_readGrown_25 : pr_Arc_readGrown[25]? = some (46, 1, .iconst 0, [0, 0]) := rfl
theorem pa_Arc_readGrown_26 : pr_Arc_readGrown[26]? = some (47, 3, .invokevirtual 107, [3, 3, 0, 0, 362, 363, 364, 41]) := rfl
theorem pa_Arc_readGrown_27 : pr_Arc_readGrown[27]? = some (50, 2, .aload 4, []) := rfl
theorem pa_Arc_readGrown_28 : pr_Arc_readGrown[28]? = some (52, 1, .aload_n 0, []) := rfl
theorem pa_Arc_readGrown_29 : pr_Arc_readGrown[29]? = some (53, 3, .getfield 17, [6, 1, 2, 0, 223]) := rfl
theorem pa_Arc_readGrown_30 : pr_Arc_readGrown[30]? = some (56, 1, .iload_n 1, []) := rfl
theorem pa_Arc_readGrown_31 : pr_Arc_readGrown[31]? = some (57, 1, .aaload, []) := rfl
theorem pa_Arc_readGrown_32 : pr_Arc_readGrown[32]? = some (58, 1, .iconst 0, [0, 0]) := rfl
theorem pa_Arc_readGrown_33 : pr_Arc_readGrown[33]? = some (59, 1, .iload_n 2, []) := rfl
theorem pa_Arc_readGrown_34 : pr_Arc_readGrown[34]? = some (60, 3, .invokevirtual 111, [41, 3, 0, 0, 414, 415, 416, 41]) := rfl
theorem pa_Arc_readGrown_35 : pr_Arc_readGrown[35]? = some (63, 2, .aload 4, []) := rfl
theorem pa_Arc_readGrown_36 : pr_Arc_readGrown[36]? = some (65, 1, .iload_n 3, []) := rfl
theorem pa_Arc_readGrown_37 : pr_Arc_readGrown[37]? = some (66, 3, .invokevirtual 115, [1, 1, 0, 0, 366, 367, 368, 41]) := rfl
theorem pa_Arc_readGrown_38 : pr_Arc_readGrown[38]? = some (69, 2, .aload 4, []) := rfl
theorem pa_Arc_readGrown_39 : pr_Arc_readGrown[39]? = some (71, 1, .aload_n 0, []) := rfl
theorem pa_Arc_readGrown_40 : pr_Arc_readGrown[40]? = some (72, 3, .getfield 17, [6, 1, 2, 0, 223]) := rfl
theorem pa_Arc_readGrown_41 : pr_Arc_readGrown[41]? = some (75, 1, .iload_n 1, []) := rfl
theorem pa_Arc_readGrown_42 : pr_Arc_readGrown[42]? = some (76, 1, .aaload, []) := rfl
theorem pa_Arc_readGrown_43 : pr_Arc_readGrown[43]? = some (77, 1, .iload_n 2, []) := rfl
theorem pa_Arc_readGrown_44 : pr_Arc_readGrown[44]? = some (78, 2, .bipush 45, [45, 0]) := rfl
theorem pa_Arc_readGrown_45 : pr_Arc_readGrown[45]? = some (80, 3, .invokevirtual 111, [41, 3, 0, 0, 414, 415, 416, 41]) := rfl
theorem pa_Arc_readGrown_46 : pr_Arc_readGrown[46]? = some (83, 1, .iconst 1, [1, 0]) := rfl
theorem pa_Arc_readGrown_47 : pr_Arc_readGrown[47]? = some (84, 1, .ireturn, [1]) := rfl
def pa_Arc_readGrown := And.intro pa_Arc_readGrown_0 (And.intro pa_Arc_readGrown_1 (And.intro pa_Arc_readGrown_2 (And.intro pa_Arc_readGrown_3 (And.intro pa_Arc_readGrown_4 (And.intro pa_Arc_readGrown_5 (And.intro pa_Arc_readGrown_6 (And.intro pa_Arc_readGrown_7 (And.intro pa_Arc_readGrown_8 (And.intro pa_Arc_readGrown_9 (And.intro pa_Arc_readGrown_10 (And.intro pa_Arc_readGrown_11 (And.intro pa_Arc_readGrown_12 (And.intro pa_Arc_readGrown_13 (And.intro pa_Arc_readGrown_14 (And.intro pa_Arc_readGrown_15 (And.intro pa_Arc_readGrown_16 (And.intro pa_Arc_readGrown_17 (And.intro pa_Arc_readGrown_18 (And.intro pa_Arc_readGrown_19 (And.intro pa_Arc_readGrown_20 (And.intro pa_Arc_readGrown_21 (And.intro pa_Arc_readGrown_22 (And.intro pa_Arc_readGrown_23 (And.intro pa_Arc_readGrown_24 (And.intro pa_Arc_readGrown_25 (And.intro pa_Arc_readGrown_26 (And.intro pa_Arc_readGrown_27 (And.intro pa_Arc_readGrown_28 (And.intro pa_Arc_readGrown_29 (And.intro pa_Arc_readGrown_30 (And.intro pa_Arc_readGrown_31 (And.intro pa_Arc_readGrown_32 (And.intro pa_Arc_readGrown_33 (And.intro pa_Arc_readGrown_34 (And.intro pa_Arc_readGrown_35 (And.intro pa_Arc_readGrown_36 (And.intro pa_Arc_readGrown_37 (And.intro pa_Arc_readGrown_38 (And.intro pa_Arc_readGrown_39 (And.intro pa_Arc_readGrown_40 (And.intro pa_Arc_readGrown_41 (And.intro pa_Arc_readGrown_42 (And.intro pa_Arc_readGrown_43 (And.intro pa_Arc_readGrown_44 (And.intro pa_Arc_readGrown_45 (And.intro pa_Arc_readGrown_46 (pa_Arc_readGrown_47)))))))))))))))))))))))))))))))))))))))))))))))
