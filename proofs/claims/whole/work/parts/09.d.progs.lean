/-! the methods as tables -/
def pr_Arc_read : List ma_E := [(0, 1, .aload_n 0, []),
  (1, 1, .iload_n 1, []),
  (2, 3, .invokevirtual 81, [21, 1, 6, 0, 385, 387, 15, 40]),
  (5, 3, .ifCond .eq (10), [7]),
  (8, 1, .aload_n 0, []),
  (9, 3, .invokevirtual 89, [19, 0, 6, 0, 402, 404, 16, 40]),
  (12, 3, .ifCond .eq (5), [9]),
  (15, 1, .iconst 0, [0, 0]),
  (16, 1, .ireturn, [1]),
  (17, 1, .aload_n 0, []),
  (18, 3, .getfield 17, [6, 1, 2, 0, 223]),
  (21, 1, .iload_n 1, []),
  (22, 1, .aaload, []),
  (23, 1, .astore_n 2, []),
  (24, 1, .aload_n 0, []),
  (25, 3, .invokevirtual 93, [23, 0, 6, 0, 406, 408, 17, 40]),
  (28, 1, .aload_n 2, []),
  (29, 3, .getfield 97, [0, 0, 1, 1, 0]),
  (32, 1, .aload_n 2, []),
  (33, 3, .getfield 101, [0, 1, 1, 1, 1]),
  (36, 1, .aload_n 2, []),
  (37, 3, .getfield 104, [0, 2, 0, 1, 4]),
  (40, 3, .invokevirtual 107, [3, 3, 0, 0, 362, 363, 364, 41]),
  (43, 1, .iconst 1, [1, 0]),
  (44, 1, .ireturn, [1])]
theorem po_Arc_read : ma_ok me_Arc_read pr_Arc_read := ma_ok_of (by decide +kernel)
theorem pa_Arc_read_0 : pr_Arc_read[0]? = some (0, 1, .aload_n 0, []) := rfl
theorem pa_Arc_read_1 : pr_Arc_read[1]? = some (1, 1, .iload_n 1, []) := rfl
theorem pa_Arc_read_2 : pr_Arc_read[2]? = some (2, 3, .invokevirtual 81, [21, 1, 6, 0, 385, 387, 15, 40]) := rfl
theorem pa_Arc_read_3 : pr_Arc_read[3]? = some (5, 3, .ifCond .eq (10), [7]) := rfl
theorem pa_Arc_read_4 : pr_Arc_read[4]? = some (8, 1, .aload_n 0, []) := rfl
theorem pa_Arc_read_5 : pr_Arc_read[5]? = some (9, 3, .invokevirtual 89, [19, 0, 6, 0, 402, 404, 16, 40]) := rfl
theorem pa_Arc_read_6 : pr_Arc_read[6]? = some (12, 3, .ifCond .eq (5), [9]) := rfl
theorem pa_Arc_read_7 : pr_Arc_read[7]? = some (15, 1, .iconst 0, [0, 0]) := rfl
theorem pa_Arc_read_8 : pr_Arc_read[8]? = some (16, 1, .ireturn, [1]) := rfl
theorem pa_Arc_read_9 : pr_Arc_read[9]? = some (17, 1, .aload_n 0, []) := rfl
theorem pa_Arc_read_10 : pr_Arc_read[10]? = some (18, 3, .getfield 17, [6, 1, 2, 0, 223]) := rfl
theorem pa_Arc_read_11 : pr_Arc_read[11]? = some (21, 1, .iload_n 1, []) := rfl
theorem pa_Arc_read_12 : pr_Arc_read[12]? = some (22, 1, .aaload, []) := rfl
theorem pa_Arc_read_13 : pr_Arc_read[13]? = some (23, 1, .astore_n 2, []) := rfl
theorem pa_Arc_read_14 : pr_Arc_read[14]? = some (24, 1, .aload_n 0, []) := rfl
theorem pa_Arc_read_15 : pr_Arc_read[15]? = some (25, 3, .invokevirtual 93, [23, 0, 6, 0, 406, 408, 17, 40]) := rfl
theorem pa_Arc_read_16 : pr_Arc_read[16]? = some (28, 1, .aload_n 2, []) := rfl
theorem pa_Arc_read_17 : pr_Arc_read[17]? = some (29, 3, .getfield 97, [0, 0, 1, 1, 0]) := rfl
theorem pa_Arc_read_18 : pr_Arc_read[18]? = some (32, 1, .aload_n 2, []) := rfl
theorem pa_Arc_read_19 : pr_Arc_read[19]? = some (33, 3, .getfield 101, [0, 1, 1, 1, 1]) := rfl
theorem pa_Arc_read_20 : pr_Arc_read[20]? = some (36, 1, .aload_n 2, []) := rfl
theorem pa_Arc_read_21 : pr_Arc_read[21]? = some (37, 3, .getfield 104, [0, 2, 0, 1, 4]) := rfl
theorem pa_Arc_read_22 : pr_Arc_read[22]? = some (40, 3, .invokevirtual 107, [3, 3, 0, 0, 362, 363, 364, 41]) := rfl
theorem pa_Arc_read_23 : pr_Arc_read[23]? = some (43, 1, .iconst 1, [1, 0]) := rfl
theorem pa_Arc_read_24 : pr_Arc_read[24]? = some (44, 1, .ireturn, [1]) := rfl
def pa_Arc_read := And.intro pa_Arc_read_0 (And.intro pa_Arc_read_1 (And.intro pa_Arc_read_2 (And.intro pa_Arc_read_3 (And.intro pa_Arc_read_4 (And.intro pa_Arc_read_5 (And.intro pa_Arc_read_6 (And.intro pa_Arc_read_7 (And.intro pa_Arc_read_8 (And.intro pa_Arc_read_9 (And.intro pa_Arc_read_10 (And.intro pa_Arc_read_11 (And.intro pa_Arc_read_12 (And.intro pa_Arc_read_13 (And.intro pa_Arc_read_14 (And.intro pa_Arc_read_15 (And.intro pa_Arc_read_16 (And.intro pa_Arc_read_17 (And.intro pa_Arc_read_18 (And.intro pa_Arc_read_19 (And.intro pa_Arc_read_20 (And.intro pa_Arc_read_21 (And.intro pa_Arc_read_22 (And.intro pa_Arc_read_23 (pa_Arc_read_24))))))))))))))))))))))))
def pr_Mod_block : List ma_E := [(0, 1, .aload_n 0, []),
  (1, 1, .iload_n 1, []),
  (2, 3, .ifCond .lt (30), [18]),
  (5, 1, .iload_n 1, []),
  (6, 1, .aload_n 0, []),
  (7, 3, .getfield 121, [7, 7, 0, 0, 627]),
  (10, 2, .bipush 39, [39, 0]),
  (12, 1, .iadd, []),
  (13, 2, .bipush 40, [40, 0]),
  (15, 1, .idiv, []),
  (16, 3, .if_icmp .ge (16), [18]),
  (19, 1, .iload_n 2, []),
  (20, 1, .iconst 0, [0, 0]),
  (21, 1, .iconst 1, [1, 0]),
  (22, 3, .invokestatic 74, [29, 3, 0, 700, 701, 47]),
  (25, 3, .ifCond .eq (7), [18]),
  (28, 1, .iconst 0, [0, 0]),
  (29, 3, .goto (4), [19]),
  (32, 1, .iconst 1, [1, 0]),
  (33, 3, .putfield 66, [7, 0, 0, 0, 620]),
  (36, 1, .aload_n 0, []),
  (37, 3, .getfield 66, [7, 0, 0, 0, 620]),
  (40, 1, .iconst 1, [1, 0]),
  (41, 3, .if_icmp .ne (7), [26]),
  (44, 1, .iconst 0, [0, 0]),
  (45, 3, .goto (22), [37]),
  (48, 1, .iload_n 2, []),
  (49, 3, .ifCond .ne (12), [33]),
  (52, 1, .aload_n 0, []),
  (53, 3, .getfield 26, [7, 11, 2, 0, 631]),
  (56, 1, .iload_n 1, []),
  (57, 1, .iaload, []),
  (58, 3, .goto (9), [37]),
  (61, 1, .aload_n 0, []),
  (62, 3, .getfield 29, [7, 12, 2, 0, 632]),
  (65, 1, .iload_n 1, []),
  (66, 1, .iaload, []),
  (67, 1, .ireturn, [0])]
theorem po_Mod_block : ma_ok me_Mod_block pr_Mod_block := ma_ok_of (by decide +kernel)
theorem pa_Mod_block_0 : pr_Mod_block[0]? = some (0, 1, .aload_n 0, []) := rfl
theorem pa_Mod_block_1 : pr_Mod_block[1]? = some (1, 1, .iload_n 1, []) := rfl
theorem pa_Mod_block_2 : pr_Mod_block[2]? = some (2, 3, .ifCond .lt (30), [18]) := rfl
theorem pa_Mod_block_3 : pr_Mod_block[3]? = some (5, 1, .iload_n 1, []) := rfl
theorem pa_Mod_block_4 : pr_Mod_block[4]? = some (6, 1, .aload_n 0, []) := rfl
theorem pa_Mod_block_5 : pr_Mod_block[5]? = some (7, 3, .getfield 121, [7, 7, 0, 0, 627]) := rfl
theorem pa_Mod_block_6 : pr_Mod_block[6]? = some (10, 2, .bipush 39, [39, 0]) := rfl
theorem pa_Mod_block_7 : pr_Mod_block[7]? = some (12, 1, .iadd, []) := rfl
theorem pa_Mod_block_8 : pr_Mod_block[8]? = some (13, 2, .bipush 40, [40, 0]) := rfl
theorem pa_Mod_block_9 : pr_Mod_block[9]? = some (15, 1, .idiv, []) := rfl
theorem pa_Mod_block_10 : pr_Mod_block[10]? = some (16, 3, .if_icmp .ge (16), [18]) := rfl
theorem pa_Mod_block_11 : pr_Mod_block[11]? = some (19, 1, .iload_n 2, []) := rfl
theorem pa_Mod_block_12 : pr_Mod_block[12]? = some (20, 1, .iconst 0, [0, 0]) := rfl
theorem pa_Mod_block_13 : pr_Mod_block[13]? = some (21, 1, .iconst 1, [1, 0]) := rfl
theorem pa_Mod_block_14 : pr_Mod_block[14]? = some (22, 3, .invokestatic 74, [29, 3, 0, 700, 701, 47]) := rfl
theorem pa_Mod_block_15 : pr_Mod_block[15]? = some (25, 3, .ifCond .eq (7), [18]) := rfl
theorem pa_Mod_block_16 : pr_Mod_block[16]? = some (28, 1, .iconst 0, [0, 0]) := rfl
theorem pa_Mod_block_17 : pr_Mod_block[17]? = some (29, 3, .goto (4), [19]) := rfl
theorem pa_Mod_block_18 : pr_Mod_block[18]? = some (32, 1, .iconst 1, [1, 0]) := rfl
theorem pa_Mod_block_19 : pr_Mod_block[19]? = some (33, 3, .putfield 66, [7, 0, 0, 0, 620]) := rfl
theorem pa_Mod_block_20 : pr_Mod_block[20]? = some (36, 1, .aload_n 0, []) := rfl
theorem pa_Mod_block_21 : pr_Mod_block[21]? = some (37, 3, .getfield 66, [7, 0, 0, 0, 620]) := rfl
theorem pa_Mod_block_22 : pr_Mod_block[22]? = some (40, 1, .iconst 1, [1, 0]) := rfl
theorem pa_Mod_block_23 : pr_Mod_block[23]? = some (41, 3, .if_icmp .ne (7), [26]) := rfl
theorem pa_Mod_block_24 : pr_Mod_block[24]? = some (44, 1, .iconst 0, [0, 0]) := rfl
theorem pa_Mod_block_25 : pr_Mod_block[25]? = some (45, 3, .goto (22), [37]) := rfl
theorem pa_Mod_block_26 : pr_Mod_block[26]? = some (48, 1, .iload_n 2, []) := rfl
theorem pa_Mod_block_27 : pr_Mod_block[27]? = some (49, 3, .ifCond .ne (12), [33]) := rfl
theorem pa_Mod_block_28 : pr_Mod_block[28]? = some (52, 1, .aload_n 0, []) := rfl
theorem pa_Mod_block_29 : pr_Mod_block[29]? = some (53, 3, .getfield 26, [7, 11, 2, 0, 631]) := rfl
theorem pa_Mod_block_30 : pr_Mod_block[30]? = some (56, 1, .iload_n 1, []) := rfl
theorem pa_Mod_block_31 : pr_Mod_block[31]? = some (57, 1, .iaload, []) := rfl
theorem pa_Mod_block_32 : pr_Mod_block[32]? = some (58, 3, .goto (9), [37]) := rfl
theorem pa_Mod_block_33 : pr_Mod_block[33]? = some (61, 1, .aload_n 0, []) := rfl
theorem pa_Mod_block_34 : pr_Mod_block[34]? = some (62, 3, .getfield 29, [7, 12, 2, 0, 632]) := rfl
theorem pa_Mod_block_35 : pr_Mod_block[35]? = some (65, 1, .iload_n 1, []) := rfl
theorem pa_Mod_block_36 : pr_Mod_block[36]? = some (66, 1, .iaload, []) := rfl
theorem pa_Mod_block_37 : pr_Mod_block[37]? = some (67, 1, .ireturn, [0]) := rfl
def pa_Mod_block := And.intro pa_Mod_block_0 (And.intro pa_Mod_block_1 (And.intro pa_Mod_block_2 (And.intro pa_Mod_block_3 (And.intro pa_Mod_block_4 (And.intro pa_Mod_block_5 (And.intro pa_Mod_block_6 (And.intro pa_Mod_block_7 (And.intro pa_Mod_block_8 (And.intro pa_Mod_block_9 (And.intro pa_Mod_block_10 (And.intro pa_Mod_block_11 (And.intro pa_Mod_block_12 (And.intro pa_Mod_block_13 (And.intro pa_Mod_block_14 (And.intro pa_Mod_block_15 (And.intro pa_Mod_block_16 (And.intro pa_Mod_block_17 (And.intro pa_Mod_block_18 (And.intro pa_Mod_block_19 (And.intro pa_Mod_block_20 (And.intro pa_Mod_block_21 (And.intro pa_Mod_block_22 (And.intro pa_Mod_block_23 (And.intro pa_Mod_block_24 (And.intro pa_Mod_block_25 (And.intro pa_Mod_block_26 (And.intro pa_Mod_block_27 (And.intro pa_Mod_block_28 (And.intro pa_Mod_block_29 (And.intro pa_Mod_block_30 (And.intro pa_Mod_block_31 (And.intro pa_Mod_block_32 (And.intro pa_Mod_block_33 (And.intro pa_Mod_block_34 (And.intro pa_Mod_block_35 (And.intro pa_Mod_block_36 (pa_Mod_block_37)))))))))))))))))))))))))))))))))))))
def pr_Mod_come : List ma_E := [(0, 1, .iload_n 1, []),
  (1, 1, .iconst 0, [0, 0]),
  (2, 1, .aload_n 0, []),
  (3, 3, .getfield 94, [7, 2, 0, 0, 622]),
  (6, 1, .iconst 1, [1, 0]),
  (7, 1, .isub, []),
  (8, 3, .invokestatic 74, [29, 3, 0, 700, 701, 47]),
  (11, 3, .ifCond .eq (12), [12]),
  (14, 1, .aload_n 0, []),
  (15, 3, .getfield 97, [7, 4, 0, 0, 624]),
  (18, 2, .bipush 90, [90, 0]),
  (20, 3, .if_icmp .ne (5), [14]),
  (23, 1, .iconst 0, [0, 0]),
  (24, 1, .ireturn, [1]),
  (25, 1, .iconst 0, [0, 0]),
  (26, 2, .istore 5, []),
  (28, 1, .iconst 0, [0, 0]),
  (29, 2, .istore 6, []),
  (31, 2, .iload 6, []),
  (33, 2, .bipush 45, [45, 0]),
  (35, 3, .if_icmp .ge (75), [60]),
  (38, 2, .iload 6, []),
  (40, 1, .iload_n 3, []),
  (41, 3, .if_icmp .ne (24), [36]),
  (44, 1, .aload_n 0, []),
  (45, 3, .getfield 17, [7, 5, 2, 0, 625]),
  (48, 2, .bipush 60, [60, 0]),
  (50, 1, .aload_n 0, []),
  (51, 3, .getfield 97, [7, 4, 0, 0, 624]),
  (54, 1, .imul, []),
  (55, 2, .iload 5, []),
  (57, 1, .iadd, []),
  (58, 2, .iload 4, []),
  (60, 1, .i2b, []),
  (61, 1, .bastore, [0]),
  (62, 3, .iinc 5 (1), [1, 0]),
  (65, 2, .iload 6, []),
  (67, 1, .iload_n 2, []),
  (68, 3, .if_icmp .ne (6), [40]),
  (71, 3, .goto (33), [58]),
  (74, 1, .aload_n 0, []),
  (75, 3, .getfield 17, [7, 5, 2, 0, 625]),
  (78, 2, .bipush 60, [60, 0]),
  (80, 1, .aload_n 0, []),
  (81, 3, .getfield 97, [7, 4, 0, 0, 624]),
  (84, 1, .imul, []),
  (85, 2, .iload 5, []),
  (87, 1, .iadd, []),
  (88, 1, .aload_n 0, []),
  (89, 3, .getfield 13, [7, 3, 2, 0, 623]),
  (92, 2, .bipush 45, [45, 0]),
  (94, 1, .iload_n 1, []),
  (95, 1, .imul, []),
  (96, 2, .iload 6, []),
  (98, 1, .iadd, []),
  (99, 1, .baload, [0]),
  (100, 1, .bastore, [0]),
  (101, 3, .iinc 5 (1), [1, 0]),
  (104, 3, .iinc 6 (1), [1, 0]),
  (107, 3, .goto (-76), [18]),
  (110, 1, .aload_n 0, []),
  (111, 3, .getfield 20, [7, 6, 2, 0, 626]),
  (114, 1, .aload_n 0, []),
  (115, 3, .getfield 97, [7, 4, 0, 0, 624]),
  (118, 2, .iload 5, []),
  (120, 1, .iastore, []),
  (121, 1, .aload_n 0, []),
  (122, 1, .dup, []),
  (123, 3, .getfield 97, [7, 4, 0, 0, 624]),
  (126, 1, .iconst 1, [1, 0]),
  (127, 1, .iadd, []),
  (128, 3, .putfield 97, [7, 4, 0, 0, 624]),
  (131, 1, .iconst 1, [1, 0]),
  (132, 1, .ireturn, [1])]
theorem po_Mod_come : ma_ok me_Mod_come pr_Mod_come := ma_ok_of (by decide +kernel)
theorem pa_Mod_come_0 : pr_Mod_come[0]? = some (0, 1, .iload_n 1, []) := rfl
theorem pa_Mod_come_1 : pr_Mod_come[1]? = some (1, 1, .iconst 0, [0, 0]) := rfl
theorem pa_Mod_come_2 : pr_Mod_come[2]? = some (2, 1, .aload_n 0, []) := rfl
theorem pa_Mod_come_3 : pr_Mod_come[3]? = some (3, 3, .getfield 94, [7, 2, 0, 0, 622]) := rfl
theorem pa_Mod_come_4 : pr_Mod_come[4]? = some (6, 1, .iconst 1, [1, 0]) := rfl
theorem pa_Mod_come_5 : pr_Mod_come[5]? = some (7, 1, .isub, []) := rfl
theorem pa_Mod_come_6 : pr_Mod_come[6]? = some (8, 3, .invokestatic 74, [29, 3, 0, 700, 701, 47]) := rfl
theorem pa_Mod_come_7 : pr_Mod_come[7]? = some (11, 3, .ifCond .eq (12), [12]) := rfl
theorem pa_Mod_come_8 : pr_Mod_come[8]? = some (14, 1, .aload_n 0, []) := rfl
theorem pa_Mod_come_9 : pr_Mod_come[9]? = some (15, 3, .getfield 97, [7, 4, 0, 0, 624]) := rfl
theorem pa_Mod_come_10 : pr_Mod_come[10]? = some (18, 2, .bipush 90, [90, 0]) := rfl
theorem pa_Mod_come_11 : pr_Mod_come[11]? = some (20, 3, .if_icmp .ne (5), [14]) := rfl
theorem pa_Mod_come_12 : pr_Mod_come[12]? = some (23, 1, .iconst 0, [0, 0]) := rfl
theorem pa_Mod_come_13 : pr_Mod_come[13]? = some (24, 1, .ireturn, [1]) := rfl
theorem pa_Mod_come_14 : pr_Mod_come[14]? = some (25, 1, .iconst 0, [0, 0]) := rfl
theorem pa_Mod_come_15 : pr_Mod_come[15]? = some (26, 2, .istore 5, []) := rfl
theorem pa_Mod_come_16 : pr_Mod_come[16]? = some (28, 1, .iconst 0, [0, 0]) := rfl
theorem pa_Mod_come_17 : pr_Mod_come[17]? = some (29, 2, .istore 6, []) := rfl
theorem pa_Mod_come_18 : pr_Mod_come[18]? = some (31, 2, .iload 6, []) := rfl
theorem pa_Mod_come_19 : pr_Mod_come[19]? = some (33, 2, .bipush 45, [45, 0]) := rfl
theorem pa_Mod_come_20 : pr_Mod_come[20]? = some (35, 3, .if_icmp .ge (75), [60]) := rfl
theorem pa_Mod_come_21 : pr_Mod_come[21]? = some (38, 2, .iload 6, []) := rfl
theorem pa_Mod_come_22 : pr_Mod_come[22]? = some (40, 1, .iload_n 3, []) := rfl
theorem pa_Mod_come_23 : pr_Mod_come[23]? = some (41, 3, .if_icmp .ne (24), [36]) := rfl
theorem pa_Mod_come_24 : pr_Mod_come[24]? = some (44, 1, .aload_n 0, []) := rfl
theorem pa_Mod_come_25 : pr_Mod_come[25]? = some (45, 3, .getfield 17, [7, 5, 2, 0, 625]) := rfl
theorem pa_Mod_come_26 : pr_Mod_come[26]? = some (48, 2, .bipush 60, [60, 0]) := rfl
theorem pa_Mod_come_27 : pr_Mod_come[27]? = some (50, 1, .aload_n 0, []) := rfl
theorem pa_Mod_come_28 : pr_Mod_come[28]? = some (51, 3, .getfield 97, [7, 4, 0, 0, 624]) := rfl
theorem pa_Mod_come_29 : pr_Mod_come[29]? = some (54, 1, .imul, []) := rfl
theorem pa_Mod_come_30 : pr_Mod_come[30]? = some (55, 2, .iload 5, []) := rfl
theorem pa_Mod_come_31 : pr_Mod_come[31]? = some (57, 1, .iadd, []) := rfl
theorem pa_Mod_come_32 : pr_Mod_come[32]? = some (58, 2, .iload 4, []) := rfl
theorem pa_Mod_come_33 : pr_Mod_come[33]? = some (60, 1, .i2b, []) := rfl
theorem pa_Mod_come_34 : pr_Mod_come[34]? = some (61, 1, .bastore, [0]) := rfl
theorem pa_Mod_come_35 : pr_Mod_come[35]? = some (62, 3, .iinc 5 (1), [1, 0]) := rfl
theorem pa_Mod_come_36 : pr_Mod_come[36]? = some (65, 2, .iload 6, []) := rfl
theorem pa_Mod_come_37 : pr_Mod_come[37]? = some (67, 1, .iload_n 2, []) := rfl
theorem pa_Mod_come_38 : pr_Mod_come[38]? = some (68, 3, .if_icmp .ne (6), [40]) := rfl
theorem pa_Mod_come_39 : pr_Mod_come[39]? = some (71, 3, .goto (33), [58]) := rfl
theorem pa_Mod_come_40 : pr_Mod_come[40]? = some (74, 1, .aload_n 0, []) := rfl
theorem pa_Mod_come_41 : pr_Mod_come[41]? = some (75, 3, .getfield 17, [7, 5, 2, 0, 625]) := rfl
theorem pa_Mod_come_42 : pr_Mod_come[42]? = some (78, 2, .bipush 60, [60, 0]) := rfl
theorem pa_Mod_come_43 : pr_Mod_come[43]? = some (80, 1, .aload_n 0, []) := rfl
theorem pa_Mod_come_44 : pr_Mod_come[44]? = some (81, 3, .getfield 97, [7, 4, 0, 0, 624]) := rfl
theorem pa_Mod_come_45 : pr_Mod_come[45]? = some (84, 1, .imul, []) := rfl
theorem pa_Mod_come_46 : pr_Mod_come[46]? = some (85, 2, .iload 5, []) := rfl
theorem pa_Mod_come_47 : pr_Mod_come[47]? = some (87, 1, .iadd, []) := rfl
theorem pa_Mod_come_48 : pr_Mod_come[48]? = some (88, 1, .aload_n 0, []) := rfl
theorem pa_Mod_come_49 : pr_Mod_come[49]? = some (89, 3, .getfield 13, [7, 3, 2, 0, 623]) := rfl
theorem pa_Mod_come_50 : pr_Mod_come[50]? = some (92, 2, .bipush 45, [45, 0]) := rfl
theorem pa_Mod_come_51 : pr_Mod_come[51]? = some (94, 1, .iload_n 1, []) := rfl
theorem pa_Mod_come_52 : pr_Mod_come[52]? = some (95, 1, .imul, []) := rfl
theorem pa_Mod_come_53 : pr_Mod_come[53]? = some (96, 2, .iload 6, []) := rfl
theorem pa_Mod_come_54 : pr_Mod_come[54]? = some (98, 1, .iadd, []) := rfl
theorem pa_Mod_come_55 : pr_Mod_come[55]? = some (99, 1, .baload, [0]) := rfl
theorem pa_Mod_come_56 : pr_Mod_come[56]? = some (100, 1, .bastore, [0]) := rfl
theorem pa_Mod_come_57 : pr_Mod_come[57]? = some (101, 3, .iinc 5 (1), [1, 0]) := rfl
theorem pa_Mod_come_58 : pr_Mod_come[58]? = some (104, 3, .iinc 6 (1), [1, 0]) := rfl
theorem pa_Mod_come_59 : pr_Mod_come[59]? = some (107, 3, .goto (-76), [18]) := rfl
theorem pa_Mod_come_60 : pr_Mod_come[60]? = some (110, 1, .aload_n 0, []) := rfl
theorem pa_Mod_come_61 : pr_Mod_come[61]? = some (111, 3, .getfield 20, [7, 6, 2, 0, 626]) := rfl
theorem pa_Mod_come_62 : pr_Mod_come[62]? = some (114, 1, .aload_n 0, []) := rfl
theorem pa_Mod_come_63 : pr_Mod_come[63]? = some (115, 3, .getfield 97, [7, 4, 0, 0, 624]) := rfl
theorem pa_Mod_come_64 : pr_Mod_come[64]? = some (118, 2, .iload 5, []) := rfl
theorem pa_Mod_come_65 : pr_Mod_come[65]? = some (120, 1, .iastore, []) := rfl
theorem pa_Mod_come_66 : pr_Mod_come[66]? = some (121, 1, .aload_n 0, []) := rfl
theorem pa_Mod_come_67 : pr_Mod_come[67]? = some (122, 1, .dup, []) := rfl
theorem pa_Mod_come_68 : pr_Mod_come[68]? = some (123, 3, .getfield 97, [7, 4, 0, 0, 624]) := rfl
theorem pa_Mod_come_69 : pr_Mod_come[69]? = some (126, 1, .iconst 1, [1, 0]) := rfl
theorem pa_Mod_come_70 : pr_Mod_come[70]? = some (127, 1, .iadd, []) := rfl
theorem pa_Mod_come_71 : pr_Mod_come[71]? = some (128, 3, .putfield 97, [7, 4, 0, 0, 624]) := rfl
theorem pa_Mod_come_72 : pr_Mod_come[72]? = some (131, 1, .iconst 1, [1, 0]) := rfl
theorem pa_Mod_come_73 : pr_Mod_come[73]? = some (132, 1, .ireturn, [1]) := rfl
def pa_Mod_come := And.intro pa_Mod_come_0 (And.intro pa_Mod_come_1 (And.intro pa_Mod_come_2 (And.intro pa_Mod_come_3 (And.intro pa_Mod_come_4 (And.intro pa_Mod_come_5 (And.intro pa_Mod_come_6 (And.intro pa_Mod_come_7 (And.intro pa_Mod_come_8 (And.intro pa_Mod_come_9 (And.intro pa_Mod_come_10 (And.intro pa_Mod_come_11 (And.intro pa_Mod_come_12 (And.intro pa_Mod_come_13 (And.intro pa_Mod_come_14 (And.intro pa_Mod_come_15 (And.intro pa_Mod_come_16 (And.intro pa_Mod_come_17 (And.intro pa_Mod_come_18 (And.intro pa_Mod_come_19 (And.intro pa_Mod_come_20 (And.intro pa_Mod_come_21 (And.intro pa_Mod_come_22 (And.intro pa_Mod_come_23 (And.intro pa_Mod_come_24 (And.intro pa_Mod_come_25 (And.intro pa_Mod_come_26 (And.intro pa_Mod_come_27 (And.intro pa_Mod_come_28 (And.intro pa_Mod_come_29 (And.intro pa_Mod_come_30 (And.intro pa_Mod_come_31 (And.intro pa_Mod_come_32 (And.intro pa_Mod_come_33 (And.intro pa_Mod_come_34 (And.intro pa_Mod_come_35 (And.intro pa_Mod_come_36 (And.intro pa_Mod_come_37 (And.intro pa_Mod_come_38 (And.intro pa_Mod_come_39 (And.intro pa_Mod_come_40 (And.intro pa_Mod_come_41 (And.intro pa_Mod_come_42 (And.intro pa_Mod_come_43 (And.intro pa_Mod_come_44 (And.intro pa_Mod_come_45 (And.intro pa_Mod_come_46 (And.intro pa_Mod_come_47 (And.intro pa_Mod_come_48 (And.intro pa_Mod_come_49 (And.intro pa_Mod_come_50 (And.intro pa_Mod_come_51 (And.intro pa_Mod_come_52 (And.intro pa_Mod_come_53 (And.intro pa_Mod_come_54 (And.intro pa_Mod_come_55 (And.intro pa_Mod_come_56 (And.intro pa_Mod_come_57 (And.intro pa_Mod_come_58 (And.intro pa_Mod_come_59 (And.intro pa_Mod_come_60 (And.intro pa_Mod_come_61 (And.intro pa_Mod_come_62 (And.intro pa_Mod_come_63 (And.intro pa_Mod_come_64 (And.intro pa_Mod_come_65 (And.intro pa_Mod_come_66 (And.intro pa_Mod_come_67 (And.intro pa_Mod_come_68 (And.intro pa_Mod_come_69 (And.intro pa_Mod_come_70 (And.intro pa_Mod_come_71 (And.intro pa_Mod_come_72 (pa_Mod_come_73)))))))))))))))))))))))))))))))))))))))))))))))))))))))))))))))))))))))))
def pr_Mod_forge : List ma_E := [(0, 1, .aload_n 0, []),
  (1, 1, .iconst 0, [0, 0]),
  (2, 3, .putfield 66, [7, 0, 0, 0, 620]),
  (5, 2, .iload 5, []),
  (7, 1, .iconst 0, [0, 0]),
  (8, 2, .bipush 60, [60, 0]),
  (10, 3, .invokestatic 74, [29, 3, 0, 700, 701, 47]),
  (13, 3, .ifCond .eq (12), [12]),
  (16, 1, .aload_n 0, []),
  (17, 3, .getfield 97, [7, 4, 0, 0, 624]),
  (20, 2, .bipush 90, [90, 0]),
  (22, 3, .if_icmp .ne (5), [14]),
  (25, 1, .iconst 0, [0, 0]),
  (26, 1, .ireturn, [1]),
  (27, 1, .iconst 0, [0, 0]),
  (28, 2, .istore 6, []),
  (30, 2, .iload 6, []),
  (32, 2, .iload 5, []),
  (34, 3, .if_icmp .ge (59), [52]),
  (37, 1, .aload_n 0, []),
  (38, 3, .getfield 17, [7, 5, 2, 0, 625]),
  (41, 2, .bipush 60, [60, 0]),
  (43, 1, .aload_n 0, []),
  (44, 3, .getfield 97, [7, 4, 0, 0, 624]),
  (47, 1, .imul, []),
  (48, 2, .iload 6, []),
  (50, 1, .iadd, []),
  (51, 2, .iload 6, []),
  (53, 2, .bipush 32, [32, 0]),
  (55, 3, .if_icmp .ge (16), [38]),
  (58, 1, .lload_n 1, []),
  (59, 1, .iconst 2, [2, 0]),
  (60, 2, .iload 6, []),
  (62, 1, .imul, []),
  (63, 1, .lushr, []),
  (64, 3, .ldc2_w 104, [3, 0, 752]),
  (67, 1, .land, []),
  (68, 3, .goto (16), [47]),
  (71, 1, .lload_n 3, []),
  (72, 1, .iconst 2, [2, 0]),
  (73, 2, .iload 6, []),
  (75, 2, .bipush 32, [32, 0]),
  (77, 1, .isub, []),
  (78, 1, .imul, []),
  (79, 1, .lushr, []),
  (80, 3, .ldc2_w 104, [3, 0, 752]),
  (83, 1, .land, []),
  (84, 1, .l2i, []),
  (85, 1, .i2b, []),
  (86, 1, .bastore, [0]),
  (87, 3, .iinc 6 (1), [1, 0]),
  (90, 3, .goto (-60), [16]),
  (93, 1, .aload_n 0, []),
  (94, 3, .getfield 20, [7, 6, 2, 0, 626]),
  (97, 1, .aload_n 0, []),
  (98, 3, .getfield 97, [7, 4, 0, 0, 624]),
  (101, 2, .iload 5, []),
  (103, 1, .iastore, []),
  (104, 1, .aload_n 0, []),
  (105, 1, .dup, []),
  (106, 3, .getfield 97, [7, 4, 0, 0, 624]),
  (109, 1, .iconst 1, [1, 0]),
  (110, 1, .iadd, []),
  (111, 3, .putfield 97, [7, 4, 0, 0, 624]),
  (114, 1, .iconst 1, [1, 0]),
  (115, 1, .ireturn, [1])]
theorem po_Mod_forge : ma_ok me_Mod_forge pr_Mod_forge := ma_ok_of (by decide +kernel)
theorem pa_Mod_forge_0 : pr_Mod_forge[0]? = some (0, 1, .aload_n 0, []) := rfl
theorem pa_Mod_forge_1 : pr_Mod_forge[1]? = some (1, 1, .iconst 0, [0, 0]) := rfl
theorem pa_Mod_forge_2 : pr_Mod_forge[2]? = some (2, 3, .putfield 66, [7, 0, 0, 0, 620]) := rfl
theorem pa_Mod_forge_3 : pr_Mod_forge[3]? = some (5, 2, .iload 5, []) := rfl
theorem pa_Mod_forge_4 : pr_Mod_forge[4]? = some (7, 1, .iconst 0, [0, 0]) := rfl
theorem pa_Mod_forge_5 : pr_Mod_forge[5]? = some (8, 2, .bipush 60, [60, 0]) := rfl
theorem pa_Mod_forge_6 : pr_Mod_forge[6]? = some (10, 3, .invokestatic 74, [29, 3, 0, 700, 701, 47]) := rfl
theorem pa_Mod_forge_7 : pr_Mod_forge[7]? = some (13, 3, .ifCond .eq (12), [12]) := rfl
theorem pa_Mod_forge_8 : pr_Mod_forge[8]? = some (16, 1, .aload_n 0, []) := rfl
theorem pa_Mod_forge_9 : pr_Mod_forge[9]? = some (17, 3, .getfield 97, [7, 4, 0, 0, 624]) := rfl
theorem pa_Mod_forge_10 : pr_Mod_forge[10]? = some (20, 2, .bipush 90, [90, 0]) := rfl
theorem pa_Mod_forge_11 : pr_Mod_forge[11]? = some (22, 3, .if_icmp .ne (5), [14]) := rfl
theorem pa_Mod_forge_12 : pr_Mod_forge[12]? = some (25, 1, .iconst 0, [0, 0]) := rfl
theorem pa_Mod_forge_13 : pr_Mod_forge[13]? = some (26, 1, .ireturn, [1]) := rfl
theorem pa_Mod_forge_14 : pr_Mod_forge[14]? = some (27, 1, .iconst 0, [0, 0]) := rfl
theorem pa_Mod_forge_15 : pr_Mod_forge[15]? = some (28, 2, .istore 6, []) := rfl
theorem pa_Mod_forge_16 : pr_Mod_forge[16]? = some (30, 2, .iload 6, []) := rfl
theorem pa_Mod_forge_17 : pr_Mod_forge[17]? = some (32, 2, .iload 5, []) := rfl
theorem pa_Mod_forge_18 : pr_Mod_forge[18]? = some (34, 3, .if_icmp .ge (59), [52]) := rfl
theorem pa_Mod_forge_19 : pr_Mod_forge[19]? = some (37, 1, .aload_n 0, []) := rfl
theorem pa_Mod_forge_20 : pr_Mod_forge[20]? = some (38, 3, .getfield 17, [7, 5, 2, 0, 625]) := rfl
theorem pa_Mod_forge_21 : pr_Mod_forge[21]? = some (41, 2, .bipush 60, [60, 0]) := rfl
theorem pa_Mod_forge_22 : pr_Mod_forge[22]? = some (43, 1, .aload_n 0, []) := rfl
theorem pa_Mod_forge_23 : pr_Mod_forge[23]? = some (44, 3, .getfield 97, [7, 4, 0, 0, 624]) := rfl
theorem pa_Mod_forge_24 : pr_Mod_forge[24]? = some (47, 1, .imul, []) := rfl
theorem pa_Mod_forge_25 : pr_Mod_forge[25]? = some (48, 2, .iload 6, []) := rfl
theorem pa_Mod_forge_26 : pr_Mod_forge[26]? = some (50, 1, .iadd, []) := rfl
theorem pa_Mod_forge_27 : pr_Mod_forge[27]? = some (51, 2, .iload 6, []) := rfl
theorem pa_Mod_forge_28 : pr_Mod_forge[28]? = some (53, 2, .bipush 32, [32, 0]) := rfl
theorem pa_Mod_forge_29 : pr_Mod_forge[29]? = some (55, 3, .if_icmp .ge (16), [38]) := rfl
theorem pa_Mod_forge_30 : pr_Mod_forge[30]? = some (58, 1, .lload_n 1, []) := rfl
theorem pa_Mod_forge_31 : pr_Mod_forge[31]? = some (59, 1, .iconst 2, [2, 0]) := rfl
theorem pa_Mod_forge_32 : pr_Mod_forge[32]? = some (60, 2, .iload 6, []) := rfl
theorem pa_Mod_forge_33 : pr_Mod_forge[33]? = some (62, 1, .imul, []) := rfl
theorem pa_Mod_forge_34 : pr_Mod_forge[34]? = some (63, 1, .lushr, []) := rfl
theorem pa_Mod_forge_35 : pr_Mod_forge[35]? = some (64, 3, .ldc2_w 104, [3, 0, 752]) := rfl
theorem pa_Mod_forge_36 : pr_Mod_forge[36]? = some (67, 1, .land, []) := rfl
theorem pa_Mod_forge_37 : pr_Mod_forge[37]? = some (68, 3, .goto (16), [47]) := rfl
theorem pa_Mod_forge_38 : pr_Mod_forge[38]? = some (71, 1, .lload_n 3, []) := rfl
theorem pa_Mod_forge_39 : pr_Mod_forge[39]? = some (72, 1, .iconst 2, [2, 0]) := rfl
theorem pa_Mod_forge_40 : pr_Mod_forge[40]? = some (73, 2, .iload 6, []) := rfl
theorem pa_Mod_forge_41 : pr_Mod_forge[41]? = some (75, 2, .bipush 32, [32, 0]) := rfl
theorem pa_Mod_forge_42 : pr_Mod_forge[42]? = some (77, 1, .isub, []) := rfl
theorem pa_Mod_forge_43 : pr_Mod_forge[43]? = some (78, 1, .imul, []) := rfl
theorem pa_Mod_forge_44 : pr_Mod_forge[44]? = some (79, 1, .lushr, []) := rfl
theorem pa_Mod_forge_45 : pr_Mod_forge[45]? = some (80, 3, .ldc2_w 104, [3, 0, 752]) := rfl
theorem pa_Mod_forge_46 : pr_Mod_forge[46]? = some (83, 1, .land, []) := rfl
theorem pa_Mod_forge_47 : pr_Mod_forge[47]? = some (84, 1, .l2i, []) := rfl
theorem pa_Mod_forge_48 : pr_Mod_forge[48]? = some (85, 1, .i2b, []) := rfl
theorem pa_Mod_forge_49 : pr_Mod_forge[49]? = some (86, 1, .bastore, [0]) := rfl
theorem pa_Mod_forge_50 : pr_Mod_forge[50]? = some (87, 3, .iinc 6 (1), [1, 0]) := rfl
theorem pa_Mod_forge_51 : pr_Mod_forge[51]? = some (90, 3, .goto (-60), [16]) := rfl
theorem pa_Mod_forge_52 : pr_Mod_forge[52]? = some (93, 1, .aload_n 0, []) := rfl
theorem pa_Mod_forge_53 : pr_Mod_forge[53]? = some (94, 3, .getfield 20, [7, 6, 2, 0, 626]) := rfl
theorem pa_Mod_forge_54 : pr_Mod_forge[54]? = some (97, 1, .aload_n 0, []) := rfl
theorem pa_Mod_forge_55 : pr_Mod_forge[55]? = some (98, 3, .getfield 97, [7, 4, 0, 0, 624]) := rfl
theorem pa_Mod_forge_56 : pr_Mod_forge[56]? = some (101, 2, .iload 5, []) := rfl
theorem pa_Mod_forge_57 : pr_Mod_forge[57]? = some (103, 1, .iastore, []) := rfl
theorem pa_Mod_forge_58 : pr_Mod_forge[58]? = some (104, 1, .aload_n 0, []) := rfl
theorem pa_Mod_forge_59 : pr_Mod_forge[59]? = some (105, 1, .dup, []) := rfl
theorem pa_Mod_forge_60 : pr_Mod_forge[60]? = some (106, 3, .getfield 97, [7, 4, 0, 0, 624]) := rfl
theorem pa_Mod_forge_61 : pr_Mod_forge[61]? = some (109, 1, .iconst 1, [1, 0]) := rfl
theorem pa_Mod_forge_62 : pr_Mod_forge[62]? = some (110, 1, .iadd, []) := rfl
theorem pa_Mod_forge_63 : pr_Mod_forge[63]? = some (111, 3, .putfield 97, [7, 4, 0, 0, 624]) := rfl
theorem pa_Mod_forge_64 : pr_Mod_forge[64]? = some (114, 1, .iconst 1, [1, 0]) := rfl
theorem pa_Mod_forge_65 : pr_Mod_forge[65]? = some (115, 1, .ireturn, [1]) := rfl
def pa_Mod_forge := And.intro pa_Mod_forge_0 (And.intro pa_Mod_forge_1 (And.intro pa_Mod_forge_2 (And.intro pa_Mod_forge_3 (And.intro pa_Mod_forge_4 (And.intro pa_Mod_forge_5 (And.intro pa_Mod_forge_6 (And.intro pa_Mod_forge_7 (And.intro pa_Mod_forge_8 (And.intro pa_Mod_forge_9 (And.intro pa_Mod_forge_10 (And.intro pa_Mod_forge_11 (And.intro pa_Mod_forge_12 (And.intro pa_Mod_forge_13 (And.intro pa_Mod_forge_14 (And.intro pa_Mod_forge_15 (And.intro pa_Mod_forge_16 (And.intro pa_Mod_forge_17 (And.intro pa_Mod_forge_18 (And.intro pa_Mod_forge_19 (And.intro pa_Mod_forge_20 (And.intro pa_Mod_forge_21 (And.intro pa_Mod_forge_22 (And.intro pa_Mod_forge_23 (And.intro pa_Mod_forge_24 (And.intro pa_Mod_forge_25 (And.intro pa_Mod_forge_26 (And.intro pa_Mod_forge_27 (And.intro pa_Mod_forge_28 (And.intro pa_Mod_forge_29 (And.intro pa_Mod_forge_30 (And.intro pa_Mod_forge_31 (And.intro pa_Mod_forge_32 (And.intro pa_Mod_forge_33 (And.intro pa_Mod_forge_34 (And.intro pa_Mod_forge_35 (And.intro pa_Mod_forge_36 (And.intro pa_Mod_forge_37 (And.intro pa_Mod_forge_38 (And.intro pa_Mod_forge_39 (And.intro pa_Mod_forge_40 (And.intro pa_Mod_forge_41 (And.intro pa_Mod_forge_42 (And.intro pa_Mod_forge_43 (And.intro pa_Mod_forge_44 (And.intro pa_Mod_forge_45 (And.intro pa_Mod_forge_46 (And.intro pa_Mod_forge_47 (And.intro pa_Mod_forge_48 (And.intro pa_Mod_forge_49 (And.intro pa_Mod_forge_50 (And.intro pa_Mod_forge_51 (And.intro pa_Mod_forge_52 (And.intro pa_Mod_forge_53 (And.intro pa_Mod_forge_54 (And.intro pa_Mod_forge_55 (And.intro pa_Mod_forge_56 (And.intro pa_Mod_forge_57 (And.intro pa_Mod_forge_58 (And.intro pa_Mod_forge_59 (And.intro pa_Mod_forge_60 (And.intro pa_Mod_forge_61 (And.intro pa_Mod_forge_62 (And.intro pa_Mod_forge_63 (And.intro pa_Mod_forge_64 (pa_Mod_forge_65)))))))))))))))))))))))))))))))))))))))))))))))))))))))))))))))))
def pr_Mod_inverse : List ma_E := [(0, 1, .iconst 1, [1, 0]),
  (1, 1, .istore_n 1, []),
  (2, 1, .iload_n 0, []),
  (3, 1, .iload_n 1, []),
  (4, 3, .invokestatic 70, [36, 2, 0, 614, 615, 47]),
  (7, 1, .iconst 1, [1, 0]),
  (8, 3, .if_icmp .eq (9), [9]),
  (11, 3, .iinc 1 (1), [1, 0]),
  (14, 3, .goto (-12), [2]),
  (17, 1, .iload_n 1, []),
  (18, 1, .ireturn, [0])]
theorem po_Mod_inverse : ma_ok me_Mod_inverse pr_Mod_inverse := ma_ok_of (by decide +kernel)
theorem pa_Mod_inverse_0 : pr_Mod_inverse[0]? = some (0, 1, .iconst 1, [1, 0]) := rfl
theorem pa_Mod_inverse_1 : pr_Mod_inverse[1]? = some (1, 1, .istore_n 1, []) := rfl
theorem pa_Mod_inverse_2 : pr_Mod_inverse[2]? = some (2, 1, .iload_n 0, []) := rfl
theorem pa_Mod_inverse_3 : pr_Mod_inverse[3]? = some (3, 1, .iload_n 1, []) := rfl
theorem pa_Mod_inverse_4 : pr_Mod_inverse[4]? = some (4, 3, .invokestatic 70, [36, 2, 0, 614, 615, 47]) := rfl
theorem pa_Mod_inverse_5 : pr_Mod_inverse[5]? = some (7, 1, .iconst 1, [1, 0]) := rfl
theorem pa_Mod_inverse_6 : pr_Mod_inverse[6]? = some (8, 3, .if_icmp .eq (9), [9]) := rfl
theorem pa_Mod_inverse_7 : pr_Mod_inverse[7]? = some (11, 3, .iinc 1 (1), [1, 0]) := rfl
theorem pa_Mod_inverse_8 : pr_Mod_inverse[8]? = some (14, 3, .goto (-12), [2]) := rfl
theorem pa_Mod_inverse_9 : pr_Mod_inverse[9]? = some (17, 1, .iload_n 1, []) := rfl
theorem pa_Mod_inverse_10 : pr_Mod_inverse[10]? = some (18, 1, .ireturn, [0]) := rfl
def pa_Mod_inverse := And.intro pa_Mod_inverse_0 (And.intro pa_Mod_inverse_1 (And.intro pa_Mod_inverse_2 (And.intro pa_Mod_inverse_3 (And.intro pa_Mod_inverse_4 (And.intro pa_Mod_inverse_5 (And.intro pa_Mod_inverse_6 (And.intro pa_Mod_inverse_7 (And.intro pa_Mod_inverse_8 (And.intro pa_Mod_inverse_9 (pa_Mod_inverse_10))))))))))
def pr_Mod_isFound : List ma_E := [(0, 1, .iload_n 1, []),
  (1, 2, .bipush 12, [12, 0]),
  (3, 1, .isub, []),
  (4, 1, .istore_n 2, []),
  (5, 1, .aload_n 0, []),
  (6, 1, .iload_n 2, []),
  (7, 3, .invokevirtual 114, [30, 1, 7, 0, 773, 775, 34, 47]),
  (10, 1, .istore_n 3, []),
  (11, 1, .aload_n 0, []),
  (12, 1, .iload_n 2, []),
  (13, 1, .iconst 3, [3, 0]),
  (14, 1, .iadd, []),
  (15, 3, .invokevirtual 114, [30, 1, 7, 0, 773, 775, 34, 47]),
  (18, 2, .istore 4, []),
  (20, 1, .aload_n 0, []),
  (21, 1, .iload_n 2, []),
  (22, 2, .bipush 6, [6, 0]),
  (24, 1, .iadd, []),
  (25, 3, .invokevirtual 114, [30, 1, 7, 0, 773, 775, 34, 47]),
  (28, 2, .istore 5, []),
  (30, 1, .aload_n 0, []),
  (31, 1, .iload_n 2, []),
  (32, 2, .bipush 9, [9, 0]),
  (34, 1, .iadd, []),
  (35, 3, .invokevirtual 114, [30, 1, 7, 0, 773, 775, 34, 47]),
  (38, 2, .istore 6, []),
  (40, 2, .bipush 16, [16, 0]),
  (42, 2, .iload 4, []),
  (44, 1, .imul, []),
  (45, 1, .iconst 4, [4, 0]),
  (46, 2, .iload 5, []),
  (48, 1, .imul, []),
  (49, 1, .iadd, []),
  (50, 2, .iload 6, []),
  (52, 1, .iadd, []),
  (53, 2, .istore 7, []),
  (55, 1, .iload_n 3, []),
  (56, 3, .ifCond .lt (25), [47]),
  (59, 2, .iload 4, []),
  (61, 3, .ifCond .lt (20), [47]),
  (64, 2, .iload 5, []),
  (66, 3, .ifCond .lt (15), [47]),
  (69, 2, .iload 6, []),
  (71, 3, .ifCond .lt (10), [47]),
  (74, 2, .iload 7, []),
  (76, 2, .bipush 32, [32, 0]),
  (78, 3, .if_icmp .le (5), [49]),
  (81, 1, .iconst 0, [0, 0]),
  (82, 1, .ireturn, [1]),
  (83, 1, .iconst 0, [0, 0]),
  (84, 2, .istore 8, []),
  (86, 2, .iload 8, []),
  (88, 1, .iload_n 2, []),
  (89, 2, .bipush 33, [33, 0]),
  (91, 3, .if_icmp .ne (7), [57]),
  (94, 1, .iconst 1, [1, 0]),
  (95, 3, .goto (16), [63]),
  (98, 1, .iload_n 2, []),
  (99, 2, .bipush 32, [32, 0]),
  (101, 3, .if_icmp .ne (8), [62]),
  (104, 2, .bipush 33, [33, 0]),
  (106, 3, .goto (5), [63]),
  (109, 2, .bipush 34, [34, 0]),
  (111, 3, .if_icmp .ge (165), [144]),
  (114, 1, .iconst 0, [0, 0]),
  (115, 2, .istore 9, []),
  (117, 2, .iload 9, []),
  (119, 1, .iload_n 2, []),
  (120, 2, .bipush 32, [32, 0]),
  (122, 3, .if_icmp .ne (7), [72]),
  (125, 1, .iconst 4, [4, 0]),
  (126, 3, .goto (4), [73]),
  (129, 1, .iconst 1, [1, 0]),
  (130, 3, .if_icmp .ge (140), [142]),
  (133, 1, .iconst 0, [0, 0]),
  (134, 2, .istore 10, []),
  (136, 2, .iload 10, []),
  (138, 2, .bipush 33, [33, 0]),
  (140, 3, .if_icmp .ge (105), [130]),
  (143, 1, .aload_n 0, []),
  (144, 3, .getfield 32, [7, 13, 2, 0, 633]),
  (147, 2, .iload 10, []),
  (149, 1, .iload_n 2, []),
  (150, 2, .bipush 33, [33, 0]),
  (152, 3, .if_icmp .ne (13), [90]),
  (155, 1, .aload_n 0, []),
  (156, 3, .getfield 35, [7, 14, 2, 0, 634]),
  (159, 2, .iload 10, []),
  (161, 1, .iaload, []),
  (162, 3, .goto (76), [127]),
  (165, 1, .iload_n 2, []),
  (166, 2, .bipush 32, [32, 0]),
  (168, 3, .if_icmp .ne (44), [113]),
  (171, 2, .iload 10, []),
  (173, 2, .iload 8, []),
  (175, 3, .if_icmp .ge (13), [101]),
  (178, 1, .aload_n 0, []),
  (179, 3, .getfield 35, [7, 14, 2, 0, 634]),
  (182, 2, .iload 10, []),
  (184, 1, .iaload, []),
  (185, 3, .goto (53), [127]),
  (188, 2, .iload 10, []),
  (190, 2, .iload 8, []),
  (192, 3, .if_icmp .ne (8), [106]),
  (195, 2, .iload 9, []),
  (197, 3, .goto (41), [127]),
  (200, 1, .aload_n 0, []),
  (201, 3, .getfield 35, [7, 14, 2, 0, 634]),
  (204, 2, .iload 10, []),
  (206, 1, .iconst 1, [1, 0]),
  (207, 1, .isub, []),
  (208, 1, .iaload, []),
  (209, 3, .goto (29), [127]),
  (212, 2, .iload 10, []),
  (214, 2, .iload 8, []),
  (216, 3, .if_icmp .ge (13), [121]),
  (219, 1, .aload_n 0, []),
  (220, 3, .getfield 35, [7, 14, 2, 0, 634]),
  (223, 2, .iload 10, []),
  (225, 1, .iaload, []),
  (226, 3, .goto (12), [127]),
  (229, 1, .aload_n 0, []),
  (230, 3, .getfield 35, [7, 14, 2, 0, 634]),
  (233, 2, .iload 10, []),
  (235, 1, .iconst 1, [1, 0]),
  (236, 1, .iadd, []),
  (237, 1, .iaload, []),
  (238, 1, .iastore, []),
  (239, 3, .iinc 10 (1), [1, 0]),
  (242, 3, .goto (-106), [76]),
  (245, 1, .aload_n 0, []),
  (246, 3, .invokevirtual 83, [34, 0, 7, 0, 720, 722, 31, 47]),
  (249, 1, .iload_n 3, []),
  (250, 3, .if_icmp .ne (14), [140]),
  (253, 1, .aload_n 0, []),
  (254, 3, .invokevirtual 79, [33, 0, 7, 0, 716, 718, 30, 47]),
  (257, 2, .iload 7, []),
  (259, 3, .if_icmp .ne (5), [140]),
  (262, 1, .iconst 1, [1, 0]),
  (263, 1, .ireturn, [1]),
  (264, 3, .iinc 9 (1), [1, 0]),
  (267, 3, .goto (-150), [66]),
  (270, 3, .iinc 8 (1), [1, 0]),
  (273, 3, .goto (-187), [51]),
  (276, 1, .iconst 0, [0, 0]),
  (277, 1, .ireturn, [1])]
theorem po_Mod_isFound : ma_ok me_Mod_isFound pr_Mod_isFound := ma_ok_of (by decide +kernel)
theorem pa_Mod_isFound_0 : pr_Mod_isFound[0]? = some (0, 1, .iload_n 1, []) := rfl
theorem pa_Mod_isFound_1 : pr_Mod_isFound[1]? = some (1, 2, .bipush 12, [12, 0]) := rfl
theorem pa_Mod_isFound_2 : pr_Mod_isFound[2]? = some (3, 1, .isub, []) := rfl
theorem pa_Mod_isFound_3 : pr_Mod_isFound[3]? = some (4, 1, .istore_n 2, []) := rfl
theorem pa_Mod_isFound_4 : pr_Mod_isFound[4]? = some (5, 1, .aload_n 0, []) := rfl
theorem pa_Mod_isFound_5 : pr_Mod_isFound[5]? = some (6, 1, .iload_n 2, []) := rfl
theorem pa_Mod_isFound_6 : pr_Mod_isFound[6]? = some (7, 3, .invokevirtual 114, [30, 1, 7, 0, 773, 775, 34, 47]) := rfl
theorem pa_Mod_isFound_7 : pr_Mod_isFound[7]? = some (10, 1, .istore_n 3, []) := rfl
theorem pa_Mod_isFound_8 : pr_Mod_isFound[8]? = some (11, 1, .aload_n 0, []) := rfl
theorem pa_Mod_isFound_9 : pr_Mod_isFound[9]? = some (12, 1, .iload_n 2, []) := rfl
theorem pa_Mod_isFound_10 : pr_Mod_isFound[10]? = some (13, 1, .iconst 3, [3, 0]) := rfl
theorem pa_Mod_isFound_11 : pr_Mod_isFound[11]? = some (14, 1, .iadd, []) := rfl
theorem pa_Mod_isFound_12 : pr_Mod_isFound[12]? = some (15, 3, .invokevirtual 114, [30, 1, 7, 0, 773, 775, 34, 47]) := rfl
theorem pa_Mod_isFound_13 : pr_Mod_isFound[13]? = some (18, 2, .istore 4, []) := rfl
theorem pa_Mod_isFound_14 : pr_Mod_isFound[14]? = some (20, 1, .aload_n 0, []) := rfl
theorem pa_Mod_isFound_15 : pr_Mod_isFound[15]? = some (21, 1, .iload_n 2, []) := rfl
theorem pa_Mod_isFound_16 : pr_Mod_isFound[16]? = some (22, 2, .bipush 6, [6, 0]) := rfl
theorem pa_Mod_isFound_17 : pr_Mod_isFound[17]? = some (24, 1, .iadd, []) := rfl
theorem pa_Mod_isFound_18 : pr_Mod_isFound[18]? = some (25, 3, .invokevirtual 114, [30, 1, 7, 0, 773, 775, 34, 47]) := rfl
theorem pa_Mod_isFound_19 : pr_Mod_isFound[19]? = some (28, 2, .istore 5, []) := rfl
theorem pa_Mod_isFound_20 : pr_Mod_isFound[20]? = some (30, 1, .aload_n 0, []) := rfl
theorem pa_Mod_isFound_21 : pr_Mod_isFound[21]? = some (31, 1, .iload_n 2, []) := rfl
theorem pa_Mod_isFound_22 : pr_Mod_isFound[22]? = some (32, 2, .bipush 9, [9, 0]) := rfl
theorem pa_Mod_isFound_23 : pr_Mod_isFound[23]? = some (34, 1, .iadd, []) := rfl
theorem pa_Mod_isFound_24 : pr_Mod_isFound[24]? = some (35, 3, .invokevirtual 114, [30, 1, 7, 0, 773, 775, 34, 47]) := rfl
theorem pa_Mod_isFound_25 : pr_Mod_isFound[25]? = some (38, 2, .istore 6, []) := rfl
theorem pa_Mod_isFound_26 : pr_Mod_isFound[26]? = some (40, 2, .bipush 16, [16, 0]) := rfl
theorem pa_Mod_isFound_27 : pr_Mod_isFound[27]? = some (42, 2, .iload 4, []) := rfl
theorem pa_Mod_isFound_28 : pr_Mod_isFound[28]? = some (44, 1, .imul, []) := rfl
theorem pa_Mod_isFound_29 : pr_Mod_isFound[29]? = some (45, 1, .iconst 4, [4, 0]) := rfl
theorem pa_Mod_isFound_30 : pr_Mod_isFound[30]? = some (46, 2, .iload 5, []) := rfl
theorem pa_Mod_isFound_31 : pr_Mod_isFound[31]? = some (48, 1, .imul, []) := rfl
theorem pa_Mod_isFound_32 : pr_Mod_isFound[32]? = some (49, 1, .iadd, []) := rfl
theorem pa_Mod_isFound_33 : pr_Mod_isFound[33]? = some (50, 2, .iload 6, []) := rfl
theorem pa_Mod_isFound_34 : pr_Mod_isFound[34]? = some (52, 1, .iadd, []) := rfl
theorem pa_Mod_isFound_35 : pr_Mod_isFound[35]? = some (53, 2, .istore 7, []) := rfl
theorem pa_Mod_isFound_36 : pr_Mod_isFound[36]? = some (55, 1, .iload_n 3, []) := rfl
theorem pa_Mod_isFound_37 : pr_Mod_isFound[37]? = some (56, 3, .ifCond .lt (25), [47]) := rfl
theorem pa_Mod_isFound_38 : pr_Mod_isFound[38]? = some (59, 2, .iload 4, []) := rfl
theorem pa_Mod_isFound_39 : pr_Mod_isFound[39]? = some (61, 3, .ifCond .lt (20), [47]) := rfl
theorem pa_Mod_isFound_40 : pr_Mod_isFound[40]? = some (64, 2, .iload 5, []) := rfl
theorem pa_Mod_isFound_41 : pr_Mod_isFound[41]? = some (66, 3, .ifCond .lt (15), [47]) := rfl
theorem pa_Mod_isFound_42 : pr_Mod_isFound[42]? = some (69, 2, .iload 6, []) := rfl
theorem pa_Mod_isFound_43 : pr_Mod_isFound[43]? = some (71, 3, .ifCond .lt (10), [47]) := rfl
theorem pa_Mod_isFound_44 : pr_Mod_isFound[44]? = some (74, 2, .iload 7, []) := rfl
theorem pa_Mod_isFound_45 : pr_Mod_isFound[45]? = some (76, 2, .bipush 32, [32, 0]) := rfl
theorem pa_Mod_isFound_46 : pr_Mod_isFound[46]? = some (78, 3, .if_icmp .le (5), [49]) := rfl
theorem pa_Mod_isFound_47 : pr_Mod_isFound[47]? = some (81, 1, .iconst 0, [0, 0]) := rfl
theorem pa_Mod_isFound_48 : pr_Mod_isFound[48]? = some (82, 1, .ireturn, [1]) := rfl
theorem pa_Mod_isFound_49 : pr_Mod_isFound[49]? = some (83, 1, .iconst 0, [0, 0]) := rfl
theorem pa_Mod_isFound_50 : pr_Mod_isFound[50]? = some (84, 2, .istore 8, []) := rfl
theorem pa_Mod_isFound_51 : pr_Mod_isFound[51]? = some (86, 2, .iload 8, []) := rfl
theorem pa_Mod_isFound_52 : pr_Mod_isFound[52]? = some (88, 1, .iload_n 2, []) := rfl
theorem pa_Mod_isFound_53 : pr_Mod_isFound[53]? = some (89, 2, .bipush 33, [33, 0]) := rfl
theorem pa_Mod_isFound_54 : pr_Mod_isFound[54]? = some (91, 3, .if_icmp .ne (7), [57]) := rfl
theorem pa_Mod_isFound_55 : pr_Mod_isFound[55]? = some (94, 1, .iconst 1, [1, 0]) := rfl
theorem pa_Mod_isFound_56 : pr_Mod_isFound[56]? = some (95, 3, .goto (16), [63]) := rfl
theorem pa_Mod_isFound_57 : pr_Mod_isFound[57]? = some (98, 1, .iload_n 2, []) := rfl
theorem pa_Mod_isFound_58 : pr_Mod_isFound[58]? = some (99, 2, .bipush 32, [32, 0]) := rfl
theorem pa_Mod_isFound_59 : pr_Mod_isFound[59]? = some (101, 3, .if_icmp .ne (8), [62]) := rfl
theorem pa_Mod_isFound_60 : pr_Mod_isFound[60]? = some (104, 2, .bipush 33, [33, 0]) := rfl
theorem pa_Mod_isFound_61 : pr_Mod_isFound[61]? = some (106, 3, .goto (5), [63]) := rfl
theorem pa_Mod_isFound_62 : pr_Mod_isFound[62]? = some (109, 2, .bipush 34, [34, 0]) := rfl
theorem pa_Mod_isFound_63 : pr_Mod_isFound[63]? = some (111, 3, .if_icmp .ge (165), [144]) := rfl
theorem pa_Mod_isFound_64 : pr_Mod_isFound[64]? = some (114, 1, .iconst 0, [0, 0]) := rfl
theorem pa_Mod_isFound_65 : pr_Mod_isFound[65]? = some (115, 2, .istore 9, []) := rfl
theorem pa_Mod_isFound_66 : pr_Mod_isFound[66]? = some (117, 2, .iload 9, []) := rfl
theorem pa_Mod_isFound_67 : pr_Mod_isFound[67]? = some (119, 1, .iload_n 2, []) := rfl
theorem pa_Mod_isFound_68 : pr_Mod_isFound[68]? = some (120, 2, .bipush 32, [32, 0]) := rfl
theorem pa_Mod_isFound_69 : pr_Mod_isFound[69]? = some (122, 3, .if_icmp .ne (7), [72]) := rfl
theorem pa_Mod_isFound_70 : pr_Mod_isFound[70]? = some (125, 1, .iconst 4, [4, 0]) := rfl
theorem pa_Mod_isFound_71 : pr_Mod_isFound[71]? = some (126, 3, .goto (4), [73]) := rfl
theorem pa_Mod_isFound_72 : pr_Mod_isFound[72]? = some (129, 1, .iconst 1, [1, 0]) := rfl
theorem pa_Mod_isFound_73 : pr_Mod_isFound[73]? = some (130, 3, .if_icmp .ge (140), [142]) := rfl
theorem pa_Mod_isFound_74 : pr_Mod_isFound[74]? = some (133, 1, .iconst 0, [0, 0]) := rfl
theorem pa_Mod_isFound_75 : pr_Mod_isFound[75]? = some (134, 2, .istore 10, []) := rfl
theorem pa_Mod_isFound_76 : pr_Mod_isFound[76]? = some (136, 2, .iload 10, []) := rfl
theorem pa_Mod_isFound_77 : pr_Mod_isFound[77]? = some (138, 2, .bipush 33, [33, 0]) := rfl
theorem pa_Mod_isFound_78 : pr_Mod_isFound[78]? = some (140, 3, .if_icmp .ge (105), [130]) := rfl
theorem pa_Mod_isFound_79 : pr_Mod_isFound[79]? = some (143, 1, .aload_n 0, []) := rfl
theorem pa_Mod_isFound_80 : pr_Mod_isFound[80]? = some (144, 3, .getfield 32, [7, 13, 2, 0, 633]) := rfl
theorem pa_Mod_isFound_81 : pr_Mod_isFound[81]? = some (147, 2, .iload 10, []) := rfl
theorem pa_Mod_isFound_82 : pr_Mod_isFound[82]? = some (149, 1, .iload_n 2, []) := rfl
theorem pa_Mod_isFound_83 : pr_Mod_isFound[83]? = some (150, 2, .bipush 33, [33, 0]) := rfl
theorem pa_Mod_isFound_84 : pr_Mod_isFound[84]? = some (152, 3, .if_icmp .ne (13), [90]) := rfl
theorem pa_Mod_isFound_85 : pr_Mod_isFound[85]? = some (155, 1, .aload_n 0, []) := rfl
theorem pa_Mod_isFound_86 : pr_Mod_isFound[86]? = some (156, 3, .getfield 35, [7, 14, 2, 0, 634]) := rfl
theorem pa_Mod_isFound_87 : pr_Mod_isFound[87]? = some (159, 2, .iload 10, []) := rfl
theorem pa_Mod_isFound_88 : pr_Mod_isFound[88]? = some (161, 1, .iaload, []) := rfl
theorem pa_Mod_isFound_89 : pr_Mod_isFound[89]? = some (162, 3, .goto (76), [127]) := rfl
theorem pa_Mod_isFound_90 : pr_Mod_isFound[90]? = some (165, 1, .iload_n 2, []) := rfl
theorem pa_Mod_isFound_91 : pr_Mod_isFound[91]? = some (166, 2, .bipush 32, [32, 0]) := rfl
theorem pa_Mod_isFound_92 : pr_Mod_isFound[92]? = some (168, 3, .if_icmp .ne (44), [113]) := rfl
theorem pa_Mod_isFound_93 : pr_Mod_isFound[93]? = some (171, 2, .iload 10, []) := rfl
theorem pa_Mod_isFound_94 : pr_Mod_isFound[94]? = some (173, 2, .iload 8, []) := rfl
theorem pa_Mod_isFound_95 : pr_Mod_isFound[95]? = some (175, 3, .if_icmp .ge (13), [101]) := rfl
theorem pa_Mod_isFound_96 : pr_Mod_isFound[96]? = some (178, 1, .aload_n 0, []) := rfl
theorem pa_Mod_isFound_97 : pr_Mod_isFound[97]? = some (179, 3, .getfield 35, [7, 14, 2, 0, 634]) := rfl
theorem pa_Mod_isFound_98 : pr_Mod_isFound[98]? = some (182, 2, .iload 10, []) := rfl
theorem pa_Mod_isFound_99 : pr_Mod_isFound[99]? = some (184, 1, .iaload, []) := rfl
theorem pa_Mod_isFound_100 : pr_Mod_isFound[100]? = some (185, 3, .goto (53), [127]) := rfl
theorem pa_Mod_isFound_101 : pr_Mod_isFound[101]? = some (188, 2, .iload 10, []) := rfl
theorem pa_Mod_isFound_102 : pr_Mod_isFound[102]? = some (190, 2, .iload 8, []) := rfl
theorem pa_Mod_isFound_103 : pr_Mod_isFound[103]? = some (192, 3, .if_icmp .ne (8), [106]) := rfl
theorem pa_Mod_isFound_104 : pr_Mod_isFound[104]? = some (195, 2, .iload 9, []) := rfl
theorem pa_Mod_isFound_105 : pr_Mod_isFound[105]? = some (197, 3, .goto (41), [127]) := rfl
theorem pa_Mod_isFound_106 : pr_Mod_isFound[106]? = some (200, 1, .aload_n 0, []) := rfl
theorem pa_Mod_isFound_107 : pr_Mod_isFound[107]? = some (201, 3, .getfield 35, [7, 14, 2, 0, 634]) := rfl
theorem pa_Mod_isFound_108 : pr_Mod_isFound[108]? = some (204, 2, .iload 10, []) := rfl
theorem pa_Mod_isFound_109 : pr_Mod_isFound[109]? = some (206, 1, .iconst 1, [1, 0]) := rfl
theorem pa_Mod_isFound_110 : pr_Mod_isFound[110]? = some (207, 1, .isub, []) := rfl
theorem pa_Mod_isFound_111 : pr_Mod_isFound[111]? = some (208, 1, .iaload, []) := rfl
theorem pa_Mod_isFound_112 : pr_Mod_isFound[112]? = some (209, 3, .goto (29), [127]) := rfl
theorem pa_Mod_isFound_113 : pr_Mod_isFound[113]? = some (212, 2, .iload 10, []) := rfl
theorem pa_Mod_isFound_114 : pr_Mod_isFound[114]? = some (214, 2, .iload 8, []) := rfl
theorem pa_Mod_isFound_115 : pr_Mod_isFound[115]? = some (216, 3, .if_icmp .ge (13), [121]) := rfl
theorem pa_Mod_isFound_116 : pr_Mod_isFound[116]? = some (219, 1, .aload_n 0, []) := rfl
theorem pa_Mod_isFound_117 : pr_Mod_isFound[117]? = some (220, 3, .getfield 35, [7, 14, 2, 0, 634]) := rfl
theorem pa_Mod_isFound_118 : pr_Mod_isFound[118]? = some (223, 2, .iload 10, []) := rfl
theorem pa_Mod_isFound_119 : pr_Mod_isFound[119]? = some (225, 1, .iaload, []) := rfl
theorem pa_Mod_isFound_120 : pr_Mod_isFound[120]? = some (226, 3, .goto (12), [127]) := rfl
theorem pa_Mod_isFound_121 : pr_Mod_isFound[121]? = some (229, 1, .aload_n 0, []) := rfl
theorem pa_Mod_isFound_122 : pr_Mod_isFound[122]? = some (230, 3, .getfield 35, [7, 14, 2, 0, 634]) := rfl
theorem pa_Mod_isFound_123 : pr_Mod_isFound[123]? = some (233, 2, .iload 10, []) := rfl
theorem pa_Mod_isFound_124 : pr_Mod_isFound[124]? = some (235, 1, .iconst 1, [1, 0]) := rfl
theorem pa_Mod_isFound_125 : pr_Mod_isFound[125]? = some (236, 1, .iadd, []) := rfl
theorem pa_Mod_isFound_126 : pr_Mod_isFound[126]? = some (237, 1, .iaload, []) := rfl
theorem pa_Mod_isFound_127 : pr_Mod_isFound[127]? = some (238, 1, .iastore, []) := rfl
theorem pa_Mod_isFound_128 : pr_Mod_isFound[128]? = some (239, 3, .iinc 10 (1), [1, 0]) := rfl
theorem pa_Mod_isFound_129 : pr_Mod_isFound[129]? = some (242, 3, .goto (-106), [76]) := rfl
theorem pa_Mod_isFound_130 : pr_Mod_isFound[130]? = some (245, 1, .aload_n 0, []) := rfl
theorem pa_Mod_isFound_131 : pr_Mod_isFound[131]? = some (246, 3, .invokevirtual 83, [34, 0, 7, 0, 720, 722, 31, 47]) := rfl
theorem pa_Mod_isFound_132 : pr_Mod_isFound[132]? = some (249, 1, .iload_n 3, []) := rfl
theorem pa_Mod_isFound_133 : pr_Mod_isFound[133]? = some (250, 3, .if_icmp .ne (14), [140]) := rfl
theorem pa_Mod_isFound_134 : pr_Mod_isFound[134]? = some (253, 1, .aload_n 0, []) := rfl
theorem pa_Mod_isFound_135 : pr_Mod_isFound[135]? = some (254, 3, .invokevirtual 79, [33, 0, 7, 0, 716, 718, 30, 47]) := rfl
theorem pa_Mod_isFound_136 : pr_Mod_isFound[136]? = some (257, 2, .iload 7, []) := rfl
theorem pa_Mod_isFound_137 : pr_Mod_isFound[137]? = some (259, 3, .if_icmp .ne (5), [140]) := rfl
theorem pa_Mod_isFound_138 : pr_Mod_isFound[138]? = some (262, 1, .iconst 1, [1, 0]) := rfl
theorem pa_Mod_isFound_139 : pr_Mod_isFound[139]? = some (263, 1, .ireturn, [1]) := rfl
theorem pa_Mod_isFound_140 : pr_Mod_isFound[140]? = some (264, 3, .iinc 9 (1), [1, 0]) := rfl
theorem pa_Mod_isFound_141 : pr_Mod_isFound[141]? = some (267, 3, .goto (-150), [66]) := rfl
theorem pa_Mod_isFound_142 : pr_Mod_isFound[142]? = some (270, 3, .iinc 8 (1), [1, 0]) := rfl
theorem pa_Mod_isFound_143 : pr_Mod_isFound[143]? = some (273, 3, .goto (-187), [51]) := rfl
theorem pa_Mod_isFound_144 : pr_Mod_isFound[144]? = some (276, 1, .iconst 0, [0, 0]) := rfl
theorem pa_Mod_isFound_145 : pr_Mod_isFound[145]? = some (277, 1, .ireturn, [1]) := rfl
def pa_Mod_isFound := And.intro pa_Mod_isFound_0 (And.intro pa_Mod_isFound_1 (And.intro pa_Mod_isFound_2 (And.intro pa_Mod_isFound_3 (And.intro pa_Mod_isFound_4 (And.intro pa_Mod_isFound_5 (And.intro pa_Mod_isFound_6 (And.intro pa_Mod_isFound_7 (And.intro pa_Mod_isFound_8 (And.intro pa_Mod_isFound_9 (And.intro pa_Mod_isFound_10 (And.intro pa_Mod_isFound_11 (And.intro pa_Mod_isFound_12 (And.intro pa_Mod_isFound_13 (And.intro pa_Mod_isFound_14 (And.intro pa_Mod_isFound_15 (And.intro pa_Mod_isFound_16 (And.intro pa_Mod_isFound_17 (And.intro pa_Mod_isFound_18 (And.intro pa_Mod_isFound_19 (And.intro pa_Mod_isFound_20 (And.intro pa_Mod_isFound_21 (And.intro pa_Mod_isFound_22 (And.intro pa_Mod_isFound_23 (And.intro pa_Mod_isFound_24 (And.intro pa_Mod_isFound_25 (And.intro pa_Mod_isFound_26 (And.intro pa_Mod_isFound_27 (And.intro pa_Mod_isFound_28 (And.intro pa_Mod_isFound_29 (And.intro pa_Mod_isFound_30 (And.intro pa_Mod_isFound_31 (And.intro pa_Mod_isFound_32 (And.intro pa_Mod_isFound_33 (And.intro pa_Mod_isFound_34 (And.intro pa_Mod_isFound_35 (And.intro pa_Mod_isFound_36 (And.intro pa_Mod_isFound_37 (And.intro pa_Mod_isFound_38 (And.intro pa_Mod_isFound_39 (And.intro pa_Mod_isFound_40 (And.intro pa_Mod_isFound_41 (And.intro pa_Mod_isFound_42 (And.intro pa_Mod_isFound_43 (And.intro pa_Mod_isFound_44 (And.intro pa_Mod_isFound_45 (And.intro pa_Mod_isFound_46 (And.intro pa_Mod_isFound_47 (And.intro pa_Mod_isFound_48 (And.intro pa_Mod_isFound_49 (And.intro pa_Mod_isFound_50 (And.intro pa_Mod_isFound_51 (And.intro pa_Mod_isFound_52 (And.intro pa_Mod_isFound_53 (And.intro pa_Mod_isFound_54 (And.intro pa_Mod_isFound_55 (And.intro pa_Mod_isFound_56 (And.intro pa_Mod_isFound_57 (And.intro pa_Mod_isFound_58 (And.intro pa_Mod_isFound_59 (And.intro pa_Mod_isFound_60 (And.intro pa_Mod_isFound_61 (And.intro pa_Mod_isFound_62 (And.intro pa_Mod_isFound_63 (And.intro pa_Mod_isFound_64 (And.intro pa_Mod_isFound_65 (And.intro pa_Mod_isFound_66 (And.intro pa_Mod_isFound_67 (And.intro pa_Mod_isFound_68 (And.intro pa_Mod_isFound_69 (And.intro pa_Mod_isFound_70 (And.intro pa_Mod_isFound_71 (And.intro pa_Mod_isFound_72 (And.intro pa_Mod_isFound_73 (And.intro pa_Mod_isFound_74 (And.intro pa_Mod_isFound_75 (And.intro pa_Mod_isFound_76 (And.intro pa_Mod_isFound_77 (And.intro pa_Mod_isFound_78 (And.intro pa_Mod_isFound_79 (And.intro pa_Mod_isFound_80 (And.intro pa_Mod_isFound_81 (And.intro pa_Mod_isFound_82 (And.intro pa_Mod_isFound_83 (And.intro pa_Mod_isFound_84 (And.intro pa_Mod_isFound_85 (And.intro pa_Mod_isFound_86 (And.intro pa_Mod_isFound_87 (And.intro pa_Mod_isFound_88 (And.intro pa_Mod_isFound_89 (And.intro pa_Mod_isFound_90 (And.intro pa_Mod_isFound_91 (And.intro pa_Mod_isFound_92 (And.intro pa_Mod_isFound_93 (And.intro pa_Mod_isFound_94 (And.intro pa_Mod_isFound_95 (And.intro pa_Mod_isFound_96 (And.intro pa_Mod_isFound_97 (And.intro pa_Mod_isFound_98 (And.intro pa_Mod_isFound_99 (And.intro pa_Mod_isFound_100 (And.intro pa_Mod_isFound_101 (And.intro pa_Mod_isFound_102 (And.intro pa_Mod_isFound_103 (And.intro pa_Mod_isFound_104 (And.intro pa_Mod_isFound_105 (And.intro pa_Mod_isFound_106 (And.intro pa_Mod_isFound_107 (And.intro pa_Mod_isFound_108 (And.intro pa_Mod_isFound_109 (And.intro pa_Mod_isFound_110 (And.intro pa_Mod_isFound_111 (And.intro pa_Mod_isFound_112 (And.intro pa_Mod_isFound_113 (And.intro pa_Mod_isFound_114 (And.intro pa_Mod_isFound_115 (And.intro pa_Mod_isFound_116 (And.intro pa_Mod_isFound_117 (And.intro pa_Mod_isFound_118 (And.intro pa_Mod_isFound_119 (And.intro pa_Mod_isFound_120 (And.intro pa_Mod_isFound_121 (And.intro pa_Mod_isFound_122 (And.intro pa_Mod_isFound_123 (And.intro pa_Mod_isFound_124 (And.intro pa_Mod_isFound_125 (And.intro pa_Mod_isFound_126 (And.intro pa_Mod_isFound_127 (And.intro pa_Mod_isFound_128 (And.intro pa_Mod_isFound_129 (And.intro pa_Mod_isFound_130 (And.intro pa_Mod_isFound_131 (And.intro pa_Mod_isFound_132 (And.intro pa_Mod_isFound_133 (And.intro pa_Mod_isFound_134 (And.intro pa_Mod_isFound_135 (And.intro pa_Mod_isFound_136 (And.intro pa_Mod_isFound_137 (And.intro pa_Mod_isFound_138 (And.intro pa_Mod_isFound_139 (And.intro pa_Mod_isFound_140 (And.intro pa_Mod_isFound_141 (And.intro pa_Mod_isFound_142 (And.intro pa_Mod_isFound_143 (And.intro pa_Mod_isFound_144 (pa_Mod_isFound_145)))))))))))))))))))))))))))))))))))))))))))))))))))))))))))))))))))))))))))))))))))))))))))))))))))))))))))))))))))))))))))))))))))))))))))))))))
def pr_Mod_lay : List ma_E := [(0, 2, .bipush 45, [45, 0]),
  (2, 1, .iload_n 1, []),
  (3, 1, .imul, []),
  (4, 2, .istore 4, []),
  (6, 1, .iconst 3, [3, 0]),
  (7, 2, .istore 5, []),
  (9, 1, .iconst 0, [0, 0]),
  (10, 2, .istore 6, []),
  (12, 2, .iload 6, []),
  (14, 1, .iconst 3, [3, 0]),
  (15, 3, .if_icmp .ge (131), [86]),
  (18, 2, .iload 6, []),
  (20, 3, .ifCond .ne (13), [19]),
  (23, 3, .sipush 256, [256, 0]),
  (26, 1, .iload_n 2, []),
  (27, 1, .imul, []),
  (28, 1, .iload_n 3, []),
  (29, 1, .iadd, []),
  (30, 3, .goto (38), [46]),
  (33, 3, .sipush 256, [256, 0]),
  (36, 1, .aload_n 0, []),
  (37, 3, .getfield 41, [7, 16, 2, 0, 636]),
  (40, 1, .iconst 4, [4, 0]),
  (41, 1, .iload_n 3, []),
  (42, 1, .imul, []),
  (43, 1, .iconst 2, [2, 0]),
  (44, 2, .iload 6, []),
  (46, 1, .imul, []),
  (47, 1, .iadd, []),
  (48, 1, .iconst 2, [2, 0]),
  (49, 1, .isub, []),
  (50, 1, .iaload, []),
  (51, 1, .imul, []),
  (52, 1, .aload_n 0, []),
  (53, 3, .getfield 41, [7, 16, 2, 0, 636]),
  (56, 1, .iconst 4, [4, 0]),
  (57, 1, .iload_n 3, []),
  (58, 1, .imul, []),
  (59, 1, .iconst 2, [2, 0]),
  (60, 2, .iload 6, []),
  (62, 1, .imul, []),
  (63, 1, .iadd, []),
  (64, 1, .iconst 1, [1, 0]),
  (65, 1, .isub, []),
  (66, 1, .iaload, []),
  (67, 1, .iadd, []),
  (68, 2, .istore 7, []),
  (70, 2, .ldc 78, [59049, 0, 715]),
  (72, 2, .istore 8, []),
  (74, 1, .iconst 0, [0, 0]),
  (75, 2, .istore 9, []),
  (77, 2, .iload 9, []),
  (79, 2, .bipush 11, [11, 0]),
  (81, 3, .if_icmp .ge (59), [84]),
  (84, 2, .iload 7, []),
  (86, 2, .iload 8, []),
  (88, 1, .idiv, []),
  (89, 1, .iconst 3, [3, 0]),
  (90, 1, .irem, []),
  (91, 2, .istore 10, []),
  (93, 2, .iload 10, []),
  (95, 2, .iload 5, []),
  (97, 3, .if_icmp .ge (8), [65]),
  (100, 2, .iload 10, []),
  (102, 3, .goto (7), [68]),
  (105, 2, .iload 10, []),
  (107, 1, .iconst 1, [1, 0]),
  (108, 1, .iadd, []),
  (109, 2, .istore 11, []),
  (111, 1, .aload_n 0, []),
  (112, 3, .getfield 13, [7, 3, 2, 0, 623]),
  (115, 2, .iload 4, []),
  (117, 2, .iload 11, []),
  (119, 1, .i2b, []),
  (120, 1, .bastore, [0]),
  (121, 3, .iinc 4 (1), [1, 0]),
  (124, 2, .iload 11, []),
  (126, 2, .istore 5, []),
  (128, 2, .iload 8, []),
  (130, 1, .iconst 3, [3, 0]),
  (131, 1, .idiv, []),
  (132, 2, .istore 8, []),
  (134, 3, .iinc 9 (1), [1, 0]),
  (137, 3, .goto (-60), [51]),
  (140, 3, .iinc 6 (1), [1, 0]),
  (143, 3, .goto (-131), [8]),
  (146, 1, .iconst 0, [0, 0]),
  (147, 2, .istore 6, []),
  (149, 2, .iload 6, []),
  (151, 2, .bipush 33, [33, 0]),
  (153, 3, .if_icmp .ge (28), [105]),
  (156, 1, .aload_n 0, []),
  (157, 3, .getfield 32, [7, 13, 2, 0, 633]),
  (160, 2, .iload 6, []),
  (162, 1, .aload_n 0, []),
  (163, 3, .getfield 13, [7, 3, 2, 0, 623]),
  (166, 2, .bipush 45, [45, 0]),
  (168, 1, .iload_n 1, []),
  (169, 1, .imul, []),
  (170, 2, .iload 6, []),
  (172, 1, .iadd, []),
  (173, 1, .baload, [0]),
  (174, 1, .iastore, []),
  (175, 3, .iinc 6 (1), [1, 0]),
  (178, 3, .goto (-29), [88]),
  (181, 1, .aload_n 0, []),
  (182, 3, .invokevirtual 79, [33, 0, 7, 0, 716, 718, 30, 47]),
  (185, 2, .istore 6, []),
  (187, 1, .iconst 0, [0, 0]),
  (188, 2, .istore 7, []),
  (190, 2, .iload 7, []),
  (192, 2, .bipush 12, [12, 0]),
  (194, 3, .if_icmp .ge (72), [149]),
  (197, 2, .iload 7, []),
  (199, 1, .iconst 3, [3, 0]),
  (200, 3, .if_icmp .ge (10), [119]),
  (203, 1, .aload_n 0, []),
  (204, 3, .invokevirtual 83, [34, 0, 7, 0, 720, 722, 31, 47]),
  (207, 3, .goto (38), [138]),
  (210, 2, .iload 7, []),
  (212, 2, .bipush 6, [6, 0]),
  (214, 3, .if_icmp .ge (11), [126]),
  (217, 2, .iload 6, []),
  (219, 2, .bipush 16, [16, 0]),
  (221, 1, .idiv, []),
  (222, 3, .goto (23), [138]),
  (225, 2, .iload 7, []),
  (227, 2, .bipush 9, [9, 0]),
  (229, 3, .if_icmp .ge (12), [135]),
  (232, 2, .iload 6, []),
  (234, 1, .iconst 4, [4, 0]),
  (235, 1, .idiv, []),
  (236, 1, .iconst 4, [4, 0]),
  (237, 1, .irem, []),
  (238, 3, .goto (7), [138]),
  (241, 2, .iload 6, []),
  (243, 1, .iconst 4, [4, 0]),
  (244, 1, .irem, []),
  (245, 2, .istore 8, []),
  (247, 1, .aload_n 0, []),
  (248, 3, .getfield 13, [7, 3, 2, 0, 623]),
  (251, 2, .iload 4, []),
  (253, 2, .iload 7, []),
  (255, 1, .iadd, []),
  (256, 2, .iload 8, []),
  (258, 1, .i2b, []),
  (259, 1, .bastore, [0]),
  (260, 3, .iinc 7 (1), [1, 0]),
  (263, 3, .goto (-73), [110]),
  (266, 1, .return_, [])]
theorem po_Mod_lay : ma_ok me_Mod_lay pr_Mod_lay := ma_ok_of (by decide +kernel)
theorem pa_Mod_lay_0 : pr_Mod_lay[0]? = some (0, 2, .bipush 45, [45, 0]) := rfl
theorem pa_Mod_lay_1 : pr_Mod_lay[1]? = some (2, 1, .iload_n 1, []) := rfl
theorem pa_Mod_lay_2 : pr_Mod_lay[2]? = some (3, 1, .imul, []) := rfl
theorem pa_Mod_lay_3 : pr_Mod_lay[3]? = some (4, 2, .istore 4, []) := rfl
theorem pa_Mod_lay_4 : pr_Mod_lay[4]? = some (6, 1, .iconst 3, [3, 0]) := rfl
theorem pa_Mod_lay_5 : pr_Mod_lay[5]? = some (7, 2, .istore 5, []) := rfl
theorem pa_Mod_lay_6 : pr_Mod_lay[6]? = some (9, 1, .iconst 0, [0, 0]) := rfl
theorem pa_Mod_lay_7 : pr_Mod_lay[7]? = some (10, 2, .istore 6, []) := rfl
theorem pa_Mod_lay_8 : pr_Mod_lay[8]? = some (12, 2, .iload 6, []) := rfl
theorem pa_Mod_lay_9 : pr_Mod_lay[9]? = some (14, 1, .iconst 3, [3, 0]) := rfl
theorem pa_Mod_lay_10 : pr_Mod_lay[10]? = some (15, 3, .if_icmp .ge (131), [86]) := rfl
theorem pa_Mod_lay_11 : pr_Mod_lay[11]? = some (18, 2, .iload 6, []) := rfl
theorem pa_Mod_lay_12 : pr_Mod_lay[12]? = some (20, 3, .ifCond .ne (13), [19]) := rfl
theorem pa_Mod_lay_13 : pr_Mod_lay[13]? = some (23, 3, .sipush 256, [256, 0]) := rfl
theorem pa_Mod_lay_14 : pr_Mod_lay[14]? = some (26, 1, .iload_n 2, []) := rfl
theorem pa_Mod_lay_15 : pr_Mod_lay[15]? = some (27, 1, .imul, []) := rfl
theorem pa_Mod_lay_16 : pr_Mod_lay[16]? = some (28, 1, .iload_n 3, []) := rfl
theorem pa_Mod_lay_17 : pr_Mod_lay[17]? = some (29, 1, .iadd, []) := rfl
theorem pa_Mod_lay_18 : pr_Mod_lay[18]? = some (30, 3, .goto (38), [46]) := rfl
theorem pa_Mod_lay_19 : pr_Mod_lay[19]? = some (33, 3, .sipush 256, [256, 0]) := rfl
theorem pa_Mod_lay_20 : pr_Mod_lay[20]? = some (36, 1, .aload_n 0, []) := rfl
theorem pa_Mod_lay_21 : pr_Mod_lay[21]? = some (37, 3, .getfield 41, [7, 16, 2, 0, 636]) := rfl
theorem pa_Mod_lay_22 : pr_Mod_lay[22]? = some (40, 1, .iconst 4, [4, 0]) := rfl
theorem pa_Mod_lay_23 : pr_Mod_lay[23]? = some (41, 1, .iload_n 3, []) := rfl
theorem pa_Mod_lay_24 : pr_Mod_lay[24]? = some (42, 1, .imul, []) := rfl
theorem pa_Mod_lay_25 : pr_Mod_lay[25]? = some (43, 1, .iconst 2, [2, 0]) := rfl
theorem pa_Mod_lay_26 : pr_Mod_lay[26]? = some (44, 2, .iload 6, []) := rfl
theorem pa_Mod_lay_27 : pr_Mod_lay[27]? = some (46, 1, .imul, []) := rfl
theorem pa_Mod_lay_28 : pr_Mod_lay[28]? = some (47, 1, .iadd, []) := rfl
theorem pa_Mod_lay_29 : pr_Mod_lay[29]? = some (48, 1, .iconst 2, [2, 0]) := rfl
theorem pa_Mod_lay_30 : pr_Mod_lay[30]? = some (49, 1, .isub, []) := rfl
theorem pa_Mod_lay_31 : pr_Mod_lay[31]? = some (50, 1, .iaload, []) := rfl
theorem pa_Mod_lay_32 : pr_Mod_lay[32]? = some (51, 1, .imul, []) := rfl
theorem pa_Mod_lay_33 : pr_Mod_lay[33]? = some (52, 1, .aload_n 0, []) := rfl
theorem pa_Mod_lay_34 : pr_Mod_lay[34]? = some (53, 3, .getfield 41, [7, 16, 2, 0, 636]) := rfl
theorem pa_Mod_lay_35 : pr_Mod_lay[35]? = some (56, 1, .iconst 4, [4, 0]) := rfl
theorem pa_Mod_lay_36 : pr_Mod_lay[36]? = some (57, 1, .iload_n 3, []) := rfl
theorem pa_Mod_lay_37 : pr_Mod_lay[37]? = some (58, 1, .imul, []) := rfl
theorem pa_Mod_lay_38 : pr_Mod_lay[38]? = some (59, 1, .iconst 2, [2, 0]) := rfl
theorem pa_Mod_lay_39 : pr_Mod_lay[39]? = some (60, 2, .iload 6, []) := rfl
theorem pa_Mod_lay_40 : pr_Mod_lay[40]? = some (62, 1, .imul, []) := rfl
theorem pa_Mod_lay_41 : pr_Mod_lay[41]? = some (63, 1, .iadd, []) := rfl
theorem pa_Mod_lay_42 : pr_Mod_lay[42]? = some (64, 1, .iconst 1, [1, 0]) := rfl
theorem pa_Mod_lay_43 : pr_Mod_lay[43]? = some (65, 1, .isub, []) := rfl
theorem pa_Mod_lay_44 : pr_Mod_lay[44]? = some (66, 1, .iaload, []) := rfl
theorem pa_Mod_lay_45 : pr_Mod_lay[45]? = some (67, 1, .iadd, []) := rfl
theorem pa_Mod_lay_46 : pr_Mod_lay[46]? = some (68, 2, .istore 7, []) := rfl
theorem pa_Mod_lay_47 : pr_Mod_lay[47]? = some (70, 2, .ldc 78, [59049, 0, 715]) := rfl
theorem pa_Mod_lay_48 : pr_Mod_lay[48]? = some (72, 2, .istore 8, []) := rfl
theorem pa_Mod_lay_49 : pr_Mod_lay[49]? = some (74, 1, .iconst 0, [0, 0]) := rfl
theorem pa_Mod_lay_50 : pr_Mod_lay[50]? = some (75, 2, .istore 9, []) := rfl
theorem pa_Mod_lay_51 : pr_Mod_lay[51]? = some (77, 2, .iload 9, []) := rfl
theorem pa_Mod_lay_52 : pr_Mod_lay[52]? = some (79, 2, .bipush 11, [11, 0]) := rfl
theorem pa_Mod_lay_53 : pr_Mod_lay[53]? = some (81, 3, .if_icmp .ge (59), [84]) := rfl
theorem pa_Mod_lay_54 : pr_Mod_lay[54]? = some (84, 2, .iload 7, []) := rfl
theorem pa_Mod_lay_55 : pr_Mod_lay[55]? = some (86, 2, .iload 8, []) := rfl
theorem pa_Mod_lay_56 : pr_Mod_lay[56]? = some (88, 1, .idiv, []) := rfl
theorem pa_Mod_lay_57 : pr_Mod_lay[57]? = some (89, 1, .iconst 3, [3, 0]) := rfl
theorem pa_Mod_lay_58 : pr_Mod_lay[58]? = some (90, 1, .irem, []) := rfl
theorem pa_Mod_lay_59 : pr_Mod_lay[59]? = some (91, 2, .istore 10, []) := rfl
theorem pa_Mod_lay_60 : pr_Mod_lay[60]? = some (93, 2, .iload 10, []) := rfl
theorem pa_Mod_lay_61 : pr_Mod_lay[61]? = some (95, 2, .iload 5, []) := rfl
theorem pa_Mod_lay_62 : pr_Mod_lay[62]? = some (97, 3, .if_icmp .ge (8), [65]) := rfl
theorem pa_Mod_lay_63 : pr_Mod_lay[63]? = some (100, 2, .iload 10, []) := rfl
theorem pa_Mod_lay_64 : pr_Mod_lay[64]? = some (102, 3, .goto (7), [68]) := rfl
theorem pa_Mod_lay_65 : pr_Mod_lay[65]? = some (105, 2, .iload 10, []) := rfl
theorem pa_Mod_lay_66 : pr_Mod_lay[66]? = some (107, 1, .iconst 1, [1, 0]) := rfl
theorem pa_Mod_lay_67 : pr_Mod_lay[67]? = some (108, 1, .iadd, []) := rfl
theorem pa_Mod_lay_68 : pr_Mod_lay[68]? = some (109, 2, .istore 11, []) := rfl
theorem pa_Mod_lay_69 : pr_Mod_lay[69]? = some (111, 1, .aload_n 0, []) := rfl
theorem pa_Mod_lay_70 : pr_Mod_lay[70]? = some (112, 3, .getfield 13, [7, 3, 2, 0, 623]) := rfl
theorem pa_Mod_lay_71 : pr_Mod_lay[71]? = some (115, 2, .iload 4, []) := rfl
theorem pa_Mod_lay_72 : pr_Mod_lay[72]? = some (117, 2, .iload 11, []) := rfl
theorem pa_Mod_lay_73 : pr_Mod_lay[73]? = some (119, 1, .i2b, []) := rfl
theorem pa_Mod_lay_74 : pr_Mod_lay[74]? = some (120, 1, .bastore, [0]) := rfl
theorem pa_Mod_lay_75 : pr_Mod_lay[75]? = some (121, 3, .iinc 4 (1), [1, 0]) := rfl
theorem pa_Mod_lay_76 : pr_Mod_lay[76]? = some (124, 2, .iload 11, []) := rfl
theorem pa_Mod_lay_77 : pr_Mod_lay[77]? = some (126, 2, .istore 5, []) := rfl
theorem pa_Mod_lay_78 : pr_Mod_lay[78]? = some (128, 2, .iload 8, []) := rfl
theorem pa_Mod_lay_79 : pr_Mod_lay[79]? = some (130, 1, .iconst 3, [3, 0]) := rfl
theorem pa_Mod_lay_80 : pr_Mod_lay[80]? = some (131, 1, .idiv, []) := rfl
theorem pa_Mod_lay_81 : pr_Mod_lay[81]? = some (132, 2, .istore 8, []) := rfl
theorem pa_Mod_lay_82 : pr_Mod_lay[82]? = some (134, 3, .iinc 9 (1), [1, 0]) := rfl
theorem pa_Mod_lay_83 : pr_Mod_lay[83]? = some (137, 3, .goto (-60), [51]) := rfl
theorem pa_Mod_lay_84 : pr_Mod_lay[84]? = some (140, 3, .iinc 6 (1), [1, 0]) := rfl
theorem pa_Mod_lay_85 : pr_Mod_lay[85]? = some (143, 3, .goto (-131), [8]) := rfl
theorem pa_Mod_lay_86 : pr_Mod_lay[86]? = some (146, 1, .iconst 0, [0, 0]) := rfl
theorem pa_Mod_lay_87 : pr_Mod_lay[87]? = some (147, 2, .istore 6, []) := rfl
theorem pa_Mod_lay_88 : pr_Mod_lay[88]? = some (149, 2, .iload 6, []) := rfl
theorem pa_Mod_lay_89 : pr_Mod_lay[89]? = some (151, 2, .bipush 33, [33, 0]) := rfl
theorem pa_Mod_lay_90 : pr_Mod_lay[90]? = some (153, 3, .if_icmp .ge (28), [105]) := rfl
theorem pa_Mod_lay_91 : pr_Mod_lay[91]? = some (156, 1, .aload_n 0, []) := rfl
theorem pa_Mod_lay_92 : pr_Mod_lay[92]? = some (157, 3, .getfield 32, [7, 13, 2, 0, 633]) := rfl
theorem pa_Mod_lay_93 : pr_Mod_lay[93]? = some (160, 2, .iload 6, []) := rfl
theorem pa_Mod_lay_94 : pr_Mod_lay[94]? = some (162, 1, .aload_n 0, []) := rfl
theorem pa_Mod_lay_95 : pr_Mod_lay[95]? = some (163, 3, .getfield 13, [7, 3, 2, 0, 623]) := rfl
theorem pa_Mod_lay_96 : pr_Mod_lay[96]? = some (166, 2, .bipush 45, [45, 0]) := rfl
theorem pa_Mod_lay_97 : pr_Mod_lay[97]? = some (168, 1, .iload_n 1, []) := rfl
theorem pa_Mod_lay_98 : pr_Mod_lay[98]? = some (169, 1, .imul, []) := rfl
theorem pa_Mod_lay_99 : pr_Mod_lay[99]? = some (170, 2, .iload 6, []) := rfl
theorem pa_Mod_lay_100 : pr_Mod_lay[100]? = some (172, 1, .iadd, []) := rfl
theorem pa_Mod_lay_101 : pr_Mod_lay[101]? = some (173, 1, .baload, [0]) := rfl
theorem pa_Mod_lay_102 : pr_Mod_lay[102]? = some (174, 1, .iastore, []) := rfl
theorem pa_Mod_lay_103 : pr_Mod_lay[103]? = some (175, 3, .iinc 6 (1), [1, 0]) := rfl
theorem pa_Mod_lay_104 : pr_Mod_lay[104]? = some (178, 3, .goto (-29), [88]) := rfl
theorem pa_Mod_lay_105 : pr_Mod_lay[105]? = some (181, 1, .aload_n 0, []) := rfl
theorem pa_Mod_lay_106 : pr_Mod_lay[106]? = some (182, 3, .invokevirtual 79, [33, 0, 7, 0, 716, 718, 30, 47]) := rfl
theorem pa_Mod_lay_107 : pr_Mod_lay[107]? = some (185, 2, .istore 6, []) := rfl
theorem pa_Mod_lay_108 : pr_Mod_lay[108]? = some (187, 1, .iconst 0, [0, 0]) := rfl
theorem pa_Mod_lay_109 : pr_Mod_lay[109]? = some (188, 2, .istore 7, []) := rfl
theorem pa_Mod_lay_110 : pr_Mod_lay[110]? = some (190, 2, .iload 7, []) := rfl
theorem pa_Mod_lay_111 : pr_Mod_lay[111]? = some (192, 2, .bipush 12, [12, 0]) := rfl
theorem pa_Mod_lay_112 : pr_Mod_lay[112]? = some (194, 3, .if_icmp .ge (72), [149]) := rfl
theorem pa_Mod_lay_113 : pr_Mod_lay[113]? = some (197, 2, .iload 7, []) := rfl
theorem pa_Mod_lay_114 : pr_Mod_lay[114]? = some (199, 1, .iconst 3, [3, 0]) := rfl
theorem pa_Mod_lay_115 : pr_Mod_lay[115]? = some (200, 3, .if_icmp .ge (10), [119]) := rfl
theorem pa_Mod_lay_116 : pr_Mod_lay[116]? = some (203, 1, .aload_n 0, []) := rfl
theorem pa_Mod_lay_117 : pr_Mod_lay[117]? = some (204, 3, .invokevirtual 83, [34, 0, 7, 0, 720, 722, 31, 47]) := rfl
theorem pa_Mod_lay_118 : pr_Mod_lay[118]? = some (207, 3, .goto (38), [138]) := rfl
theorem pa_Mod_lay_119 : pr_Mod_lay[119]? = some (210, 2, .iload 7, []) := rfl
theorem pa_Mod_lay_120 : pr_Mod_lay[120]? = some (212, 2, .bipush 6, [6, 0]) := rfl
theorem pa_Mod_lay_121 : pr_Mod_lay[121]? = some (214, 3, .if_icmp .ge (11), [126]) := rfl
theorem pa_Mod_lay_122 : pr_Mod_lay[122]? = some (217, 2, .iload 6, []) := rfl
theorem pa_Mod_lay_123 : pr_Mod_lay[123]? = some (219, 2, .bipush 16, [16, 0]) := rfl
theorem pa_Mod_lay_124 : pr_Mod_lay[124]? = some (221, 1, .idiv, []) := rfl
theorem pa_Mod_lay_125 : pr_Mod_lay[125]? = some (222, 3, .goto (23), [138]) := rfl
theorem pa_Mod_lay_126 : pr_Mod_lay[126]? = some (225, 2, .iload 7, []) := rfl
theorem pa_Mod_lay_127 : pr_Mod_lay[127]? = some (227, 2, .bipush 9, [9, 0]) := rfl
theorem pa_Mod_lay_128 : pr_Mod_lay[128]? = some (229, 3, .if_icmp .ge (12), [135]) := rfl
theorem pa_Mod_lay_129 : pr_Mod_lay[129]? = some (232, 2, .iload 6, []) := rfl
theorem pa_Mod_lay_130 : pr_Mod_lay[130]? = some (234, 1, .iconst 4, [4, 0]) := rfl
theorem pa_Mod_lay_131 : pr_Mod_lay[131]? = some (235, 1, .idiv, []) := rfl
theorem pa_Mod_lay_132 : pr_Mod_lay[132]? = some (236, 1, .iconst 4, [4, 0]) := rfl
theorem pa_Mod_lay_133 : pr_Mod_lay[133]? = some (237, 1, .irem, []) := rfl
theorem pa_Mod_lay_134 : pr_Mod_lay[134]? = some (238, 3, .goto (7), [138]) := rfl
theorem pa_Mod_lay_135 : pr_Mod_lay[135]? = some (241, 2, .iload 6, []) := rfl
theorem pa_Mod_lay_136 : pr_Mod_lay[136]? = some (243, 1, .iconst 4, [4, 0]) := rfl
theorem pa_Mod_lay_137 : pr_Mod_lay[137]? = some (244, 1, .irem, []) := rfl
theorem pa_Mod_lay_138 : pr_Mod_lay[138]? = some (245, 2, .istore 8, []) := rfl
theorem pa_Mod_lay_139 : pr_Mod_lay[139]? = some (247, 1, .aload_n 0, []) := rfl
theorem pa_Mod_lay_140 : pr_Mod_lay[140]? = some (248, 3, .getfield 13, [7, 3, 2, 0, 623]) := rfl
theorem pa_Mod_lay_141 : pr_Mod_lay[141]? = some (251, 2, .iload 4, []) := rfl
theorem pa_Mod_lay_142 : pr_Mod_lay[142]? = some (253, 2, .iload 7, []) := rfl
theorem pa_Mod_lay_143 : pr_Mod_lay[143]? = some (255, 1, .iadd, []) := rfl
theorem pa_Mod_lay_144 : pr_Mod_lay[144]? = some (256, 2, .iload 8, []) := rfl
theorem pa_Mod_lay_145 : pr_Mod_lay[145]? = some (258, 1, .i2b, []) := rfl
theorem pa_Mod_lay_146 : pr_Mod_lay[146]? = some (259, 1, .bastore, [0]) := rfl
theorem pa_Mod_lay_147 : pr_Mod_lay[147]? = some (260, 3, .iinc 7 (1), [1, 0]) := rfl
theorem pa_Mod_lay_148 : pr_Mod_lay[148]? = some (263, 3, .goto (-73), [110]) := rfl
theorem pa_Mod_lay_149 : pr_Mod_lay[149]? = some (266, 1, .return_, []) := rfl
def pa_Mod_lay := And.intro pa_Mod_lay_0 (And.intro pa_Mod_lay_1 (And.intro pa_Mod_lay_2 (And.intro pa_Mod_lay_3 (And.intro pa_Mod_lay_4 (And.intro pa_Mod_lay_5 (And.intro pa_Mod_lay_6 (And.intro pa_Mod_lay_7 (And.intro pa_Mod_lay_8 (And.intro pa_Mod_lay_9 (And.intro pa_Mod_lay_10 (And.intro pa_Mod_lay_11 (And.intro pa_Mod_lay_12 (And.intro pa_Mod_lay_13 (And.intro pa_Mod_lay_14 (And.intro pa_Mod_lay_15 (And.intro pa_Mod_lay_16 (And.intro pa_Mod_lay_17 (And.intro pa_Mod_lay_18 (And.intro pa_Mod_lay_19 (And.intro pa_Mod_lay_20 (And.intro pa_Mod_lay_21 (And.intro pa_Mod_lay_22 (And.intro pa_Mod_lay_23 (And.intro pa_Mod_lay_24 (And.intro pa_Mod_lay_25 (And.intro pa_Mod_lay_26 (And.intro pa_Mod_lay_27 (And.intro pa_Mod_lay_28 (And.intro pa_Mod_lay_29 (And.intro pa_Mod_lay_30 (And.intro pa_Mod_lay_31 (And.intro pa_Mod_lay_32 (And.intro pa_Mod_lay_33 (And.intro pa_Mod_lay_34 (And.intro pa_Mod_lay_35 (And.intro pa_Mod_lay_36 (And.intro pa_Mod_lay_37 (And.intro pa_Mod_lay_38 (And.intro pa_Mod_lay_39 (And.intro pa_Mod_lay_40 (And.intro pa_Mod_lay_41 (And.intro pa_Mod_lay_42 (And.intro pa_Mod_lay_43 (And.intro pa_Mod_lay_44 (And.intro pa_Mod_lay_45 (And.intro pa_Mod_lay_46 (And.intro pa_Mod_lay_47 (And.intro pa_Mod_lay_48 (And.intro pa_Mod_lay_49 (And.intro pa_Mod_lay_50 (And.intro pa_Mod_lay_51 (And.intro pa_Mod_lay_52 (And.intro pa_Mod_lay_53 (And.intro pa_Mod_lay_54 (And.intro pa_Mod_lay_55 (And.intro pa_Mod_lay_56 (And.intro pa_Mod_lay_57 (And.intro pa_Mod_lay_58 (And.intro pa_Mod_lay_59 (And.intro pa_Mod_lay_60 (And.intro pa_Mod_lay_61 (And.intro pa_Mod_lay_62 (And.intro pa_Mod_lay_63 (And.intro pa_Mod_lay_64 (And.intro pa_Mod_lay_65 (And.intro pa_Mod_lay_66 (And.intro pa_Mod_lay_67 (And.intro pa_Mod_lay_68 (And.intro pa_Mod_lay_69 (And.intro pa_Mod_lay_70 (And.intro pa_Mod_lay_71 (And.intro pa_Mod_lay_72 (And.intro pa_Mod_lay_73 (And.intro pa_Mod_lay_74 (And.intro pa_Mod_lay_75 (And.intro pa_Mod_lay_76 (And.intro pa_Mod_lay_77 (And.intro pa_Mod_lay_78 (And.intro pa_Mod_lay_79 (And.intro pa_Mod_lay_80 (And.intro pa_Mod_lay_81 (And.intro pa_Mod_lay_82 (And.intro pa_Mod_lay_83 (And.intro pa_Mod_lay_84 (And.intro pa_Mod_lay_85 (And.intro pa_Mod_lay_86 (And.intro pa_Mod_lay_87 (And.intro pa_Mod_lay_88 (And.intro pa_Mod_lay_89 (And.intro pa_Mod_lay_90 (And.intro pa_Mod_lay_91 (And.intro pa_Mod_lay_92 (And.intro pa_Mod_lay_93 (And.intro pa_Mod_lay_94 (And.intro pa_Mod_lay_95 (And.intro pa_Mod_lay_96 (And.intro pa_Mod_lay_97 (And.intro pa_Mod_lay_98 (And.intro pa_Mod_lay_99 (And.intro pa_Mod_lay_100 (And.intro pa_Mod_lay_101 (And.intro pa_Mod_lay_102 (And.intro pa_Mod_lay_103 (And.intro pa_Mod_lay_104 (And.intro pa_Mod_lay_105 (And.intro pa_Mod_lay_106 (And.intro pa_Mod_lay_107 (And.intro pa_Mod_lay_108 (And.intro pa_Mod_lay_109 (And.intro pa_Mod_lay_110 (And.intro pa_Mod_lay_111 (And.intro pa_Mod_lay_112 (And.intro pa_Mod_lay_113 (And.intro pa_Mod_lay_114 (And.intro pa_Mod_lay_115 (And.intro pa_Mod_lay_116 (And.intro pa_Mod_lay_117 (And.intro pa_Mod_lay_118 (And.intro pa_Mod_lay_119 (And.intro pa_Mod_lay_120 (And.intro pa_Mod_lay_121 (And.intro pa_Mod_lay_122 (And.intro pa_Mod_lay_123 (And.intro pa_Mod_lay_124 (And.intro pa_Mod_lay_125 (And.intro pa_Mod_lay_126 (And.intro pa_Mod_lay_127 (And.intro pa_Mod_lay_128 (And.intro pa_Mod_lay_129 (And.intro pa_Mod_lay_130 (And.intro pa_Mod_lay_131 (And.intro pa_Mod_lay_132 (And.intro pa_Mod_lay_133 (And.intro pa_Mod_lay_134 (And.intro pa_Mod_lay_135 (And.intro pa_Mod_lay_136 (And.intro pa_Mod_lay_137 (And.intro pa_Mod_lay_138 (And.intro pa_Mod_lay_139 (And.intro pa_Mod_lay_140 (And.intro pa_Mod_lay_141 (And.intro pa_Mod_lay_142 (And.intro pa_Mod_lay_143 (And.intro pa_Mod_lay_144 (And.intro pa_Mod_lay_145 (And.intro pa_Mod_lay_146 (And.intro pa_Mod_lay_147 (And.intro pa_Mod_lay_148 (pa_Mod_lay_149)))))))))))))))))))))))))))))))))))))))))))))))))))))))))))))))))))))))))))))))))))))))))))))))))))))))))))))))))))))))))))))))))))))))))))))))))))))
