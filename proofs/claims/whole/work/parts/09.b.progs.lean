/-! the methods as tables -/
def pr_Mod_heap : List ma_E := [(0, 1, .aload_n 0, []),
  (1, 1, .iconst 0, [0, 0]),
  (2, 3, .putfield 66, [7, 0, 0, 0, 620]),
  (5, 1, .aload_n 0, []),
  (6, 3, .getfield 97, [7, 4, 0, 0, 624]),
  (9, 1, .ireturn, [0])]
theorem po_Mod_heap : ma_ok me_Mod_heap pr_Mod_heap := ma_ok_of (by decide +kernel)
theorem pa_Mod_heap_0 : pr_Mod_heap[0]? = some (0, 1, .aload_n 0, []) := rfl
theorem pa_Mod_heap_1 : pr_Mod_heap[1]? = some (1, 1, .iconst 0, [0, 0]) := rfl
theorem pa_Mod_heap_2 : pr_Mod_heap[2]? = some (2, 3, .putfield 66, [7, 0, 0, 0, 620]) := rfl
theorem pa_Mod_heap_3 : pr_Mod_heap[3]? = some (5, 1, .aload_n 0, []) := rfl
theorem pa_Mod_heap_4 : pr_Mod_heap[4]? = some (6, 3, .getfield 97, [7, 4, 0, 0, 624]) := rfl
theorem pa_Mod_heap_5 : pr_Mod_heap[5]? = some (9, 1, .ireturn, [0]) := rfl
def pa_Mod_heap := And.intro pa_Mod_heap_0 (And.intro pa_Mod_heap_1 (And.intro pa_Mod_heap_2 (And.intro pa_Mod_heap_3 (And.intro pa_Mod_heap_4 (pa_Mod_heap_5)))))
def pr_Mod_in : List ma_E := [(0, 1, .iload_n 0, []),
  (1, 1, .iload_n 1, []),
  (2, 3, .if_icmp .lt (12), [8]),
  (5, 1, .iload_n 0, []),
  (6, 1, .iload_n 2, []),
  (7, 3, .if_icmp .gt (7), [8]),
  (10, 1, .iconst 1, [1, 0]),
  (11, 3, .goto (4), [9]),
  (14, 1, .iconst 0, [0, 0]),
  (15, 1, .ireturn, [1])]
theorem po_Mod_in : ma_ok me_Mod_in pr_Mod_in := ma_ok_of (by decide +kernel)
theorem pa_Mod_in_0 : pr_Mod_in[0]? = some (0, 1, .iload_n 0, []) := rfl
theorem pa_Mod_in_1 : pr_Mod_in[1]? = some (1, 1, .iload_n 1, []) := rfl
theorem pa_Mod_in_2 : pr_Mod_in[2]? = some (2, 3, .if_icmp .lt (12), [8]) := rfl
theorem pa_Mod_in_3 : pr_Mod_in[3]? = some (5, 1, .iload_n 0, []) := rfl
theorem pa_Mod_in_4 : pr_Mod_in[4]? = some (6, 1, .iload_n 2, []) := rfl
theorem pa_Mod_in_5 : pr_Mod_in[5]? = some (7, 3, .if_icmp .gt (7), [8]) := rfl
theorem pa_Mod_in_6 : pr_Mod_in[6]? = some (10, 1, .iconst 1, [1, 0]) := rfl
theorem pa_Mod_in_7 : pr_Mod_in[7]? = some (11, 3, .goto (4), [9]) := rfl
theorem pa_Mod_in_8 : pr_Mod_in[8]? = some (14, 1, .iconst 0, [0, 0]) := rfl
theorem pa_Mod_in_9 : pr_Mod_in[9]? = some (15, 1, .ireturn, [1]) := rfl
def pa_Mod_in := And.intro pa_Mod_in_0 (And.intro pa_Mod_in_1 (And.intro pa_Mod_in_2 (And.intro pa_Mod_in_3 (And.intro pa_Mod_in_4 (And.intro pa_Mod_in_5 (And.intro pa_Mod_in_6 (And.intro pa_Mod_in_7 (And.intro pa_Mod_in_8 (pa_Mod_in_9)))))))))
def pr_Mod_most : List ma_E := [(0, 1, .iconst 0, [0, 0]),
  (1, 1, .istore_n 2, []),
  (2, 1, .iload_n 2, []),
  (3, 1, .iconst 4, [4, 0]),
  (4, 3, .if_icmp .ge (54), [35]),
  (7, 1, .iconst 0, [0, 0]),
  (8, 1, .istore_n 3, []),
  (9, 1, .iload_n 1, []),
  (10, 2, .istore 4, []),
  (12, 2, .iload 4, []),
  (14, 1, .iload_n 1, []),
  (15, 1, .iconst 3, [3, 0]),
  (16, 1, .iadd, []),
  (17, 3, .if_icmp .ge (28), [28]),
  (20, 1, .iload_n 3, []),
  (21, 1, .aload_n 0, []),
  (22, 3, .getfield 35, [7, 14, 2, 0, 634]),
  (25, 2, .iload 4, []),
  (27, 1, .iaload, []),
  (28, 1, .iload_n 2, []),
  (29, 3, .if_icmp .ne (7), [23]),
  (32, 1, .iconst 1, [1, 0]),
  (33, 3, .goto (4), [24]),
  (36, 1, .iconst 0, [0, 0]),
  (37, 1, .iadd, []),
  (38, 1, .istore_n 3, []),
  (39, 3, .iinc 4 (1), [1, 0]),
  (42, 3, .goto (-30), [9]),
  (45, 1, .iload_n 3, []),
  (46, 1, .iconst 1, [1, 0]),
  (47, 3, .if_icmp .le (5), [33]),
  (50, 1, .iload_n 2, []),
  (51, 1, .ireturn, [0]),
  (52, 3, .iinc 2 (1), [1, 0]),
  (55, 3, .goto (-53), [2]),
  (58, 1, .iconst (-1), [1, 1]),
  (59, 1, .ireturn, [0])]
theorem po_Mod_most : ma_ok me_Mod_most pr_Mod_most := ma_ok_of (by decide +kernel)
theorem pa_Mod_most_0 : pr_Mod_most[0]? = some (0, 1, .iconst 0, [0, 0]) := rfl
theorem pa_Mod_most_1 : pr_Mod_most[1]? = some (1, 1, .istore_n 2, []) := rfl
theorem pa_Mod_most_2 : pr_Mod_most[2]? = some (2, 1, .iload_n 2, []) := rfl
theorem pa_Mod_most_3 : pr_Mod_most[3]? = some (3, 1, .iconst 4, [4, 0]) := rfl
theorem pa_Mod_most_4 : pr_Mod_most[4]? = some (4, 3, .if_icmp .ge (54), [35]) := rfl
theorem pa_Mod_most_5 : pr_Mod_most[5]? = some (7, 1, .iconst 0, [0, 0]) := rfl
theorem pa_Mod_most_6 : pr_Mod_most[6]? = some (8, 1, .istore_n 3, []) := rfl
theorem pa_Mod_most_7 : pr_Mod_most[7]? = some (9, 1, .iload_n 1, []) := rfl
theorem pa_Mod_most_8 : pr_Mod_most[8]? = some (10, 2, .istore 4, []) := rfl
theorem pa_Mod_most_9 : pr_Mod_most[9]? = some (12, 2, .iload 4, []) := rfl
theorem pa_Mod_most_10 : pr_Mod_most[10]? = some (14, 1, .iload_n 1, []) := rfl
theorem pa_Mod_most_11 : pr_Mod_most[11]? = some (15, 1, .iconst 3, [3, 0]) := rfl
theorem pa_Mod_most_12 : pr_Mod_most[12]? = some (16, 1, .iadd, []) := rfl
theorem pa_Mod_most_13 : pr_Mod_most[13]? = some (17, 3, .if_icmp .ge (28), [28]) := rfl
theorem pa_Mod_most_14 : pr_Mod_most[14]? = some (20, 1, .iload_n 3, []) := rfl
theorem pa_Mod_most_15 : pr_Mod_most[15]? = some (21, 1, .aload_n 0, []) := rfl
theorem pa_Mod_most_16 : pr_Mod_most[16]? = some (22, 3, .getfield 35, [7, 14, 2, 0, 634]) := rfl
theorem pa_Mod_most_17 : pr_Mod_most[17]? = some (25, 2, .iload 4, []) := rfl
theorem pa_Mod_most_18 : pr_Mod_most[18]? = some (27, 1, .iaload, []) := rfl
theorem pa_Mod_most_19 : pr_Mod_most[19]? = some (28, 1, .iload_n 2, []) := rfl
theorem pa_Mod_most_20 : pr_Mod_most[20]? = some (29, 3, .if_icmp .ne (7), [23]) := rfl
theorem pa_Mod_most_21 : pr_Mod_most[21]? = some (32, 1, .iconst 1, [1, 0]) := rfl
theorem pa_Mod_most_22 : pr_Mod_most[22]? = some (33, 3, .goto (4), [24]) := rfl
theorem pa_Mod_most_23 : pr_Mod_most[23]? = some (36, 1, .iconst 0, [0, 0]) := rfl
theorem pa_Mod_most_24 : pr_Mod_most[24]? = some (37, 1, .iadd, []) := rfl
theorem pa_Mod_most_25 : pr_Mod_most[25]? = some (38, 1, .istore_n 3, []) := rfl
theorem pa_Mod_most_26 : pr_Mod_most[26]? = some (39, 3, .iinc 4 (1), [1, 0]) := rfl
theorem pa_Mod_most_27 : pr_Mod_most[27]? = some (42, 3, .goto (-30), [9]) := rfl
theorem pa_Mod_most_28 : pr_Mod_most[28]? = some (45, 1, .iload_n 3, []) := rfl
theorem pa_Mod_most_29 : pr_Mod_most[29]? = some (46, 1, .iconst 1, [1, 0]) := rfl
theorem pa_Mod_most_30 : pr_Mod_most[30]? = some (47, 3, .if_icmp .le (5), [33]) := rfl
theorem pa_Mod_most_31 : pr_Mod_most[31]? = some (50, 1, .iload_n 2, []) := rfl
theorem pa_Mod_most_32 : pr_Mod_most[32]? = some (51, 1, .ireturn, [0]) := rfl
theorem pa_Mod_most_33 : pr_Mod_most[33]? = some (52, 3, .iinc 2 (1), [1, 0]) := rfl
theorem pa_Mod_most_34 : pr_Mod_most[34]? = some (55, 3, .goto (-53), [2]) := rfl
theorem pa_Mod_most_35 : pr_Mod_most[35]? = some (58, 1, .iconst (-1), [1, 1]) := rfl
theorem pa_Mod_most_36 : pr_Mod_most[36]? = some (59, 1, .ireturn, [0]) := rfl
def pa_Mod_most := And.intro pa_Mod_most_0 (And.intro pa_Mod_most_1 (And.intro pa_Mod_most_2 (And.intro pa_Mod_most_3 (And.intro pa_Mod_most_4 (And.intro pa_Mod_most_5 (And.intro pa_Mod_most_6 (And.intro pa_Mod_most_7 (And.intro pa_Mod_most_8 (And.intro pa_Mod_most_9 (And.intro pa_Mod_most_10 (And.intro pa_Mod_most_11 (And.intro pa_Mod_most_12 (And.intro pa_Mod_most_13 (And.intro pa_Mod_most_14 (And.intro pa_Mod_most_15 (And.intro pa_Mod_most_16 (And.intro pa_Mod_most_17 (And.intro pa_Mod_most_18 (And.intro pa_Mod_most_19 (And.intro pa_Mod_most_20 (And.intro pa_Mod_most_21 (And.intro pa_Mod_most_22 (And.intro pa_Mod_most_23 (And.intro pa_Mod_most_24 (And.intro pa_Mod_most_25 (And.intro pa_Mod_most_26 (And.intro pa_Mod_most_27 (And.intro pa_Mod_most_28 (And.intro pa_Mod_most_29 (And.intro pa_Mod_most_30 (And.intro pa_Mod_most_31 (And.intro pa_Mod_most_32 (And.intro pa_Mod_most_33 (And.intro pa_Mod_most_34 (And.intro pa_Mod_most_35 (pa_Mod_most_36))))))))))))))))))))))))))))))))))))
def pr_Mod_ones : List ma_E := [(0, 1, .iconst 0, [0, 0]),
  (1, 1, .istore_n 1, []),
  (2, 1, .iload_n 0, []),
  (3, 1, .istore_n 2, []),
  (4, 1, .iload_n 2, []),
  (5, 3, .ifCond .eq (15), [14]),
  (8, 3, .iinc 1 (1), [1, 0]),
  (11, 1, .iload_n 2, []),
  (12, 1, .iload_n 2, []),
  (13, 1, .iconst 1, [1, 0]),
  (14, 1, .isub, []),
  (15, 1, .iand, []),
  (16, 1, .istore_n 2, []),
  (17, 3, .goto (-13), [4]),
  (20, 1, .iload_n 1, []),
  (21, 1, .ireturn, [0])]
theorem po_Mod_ones : ma_ok me_Mod_ones pr_Mod_ones := ma_ok_of (by decide +kernel)
theorem pa_Mod_ones_0 : pr_Mod_ones[0]? = some (0, 1, .iconst 0, [0, 0]) := rfl
theorem pa_Mod_ones_1 : pr_Mod_ones[1]? = some (1, 1, .istore_n 1, []) := rfl
theorem pa_Mod_ones_2 : pr_Mod_ones[2]? = some (2, 1, .iload_n 0, []) := rfl
theorem pa_Mod_ones_3 : pr_Mod_ones[3]? = some (3, 1, .istore_n 2, []) := rfl
theorem pa_Mod_ones_4 : pr_Mod_ones[4]? = some (4, 1, .iload_n 2, []) := rfl
theorem pa_Mod_ones_5 : pr_Mod_ones[5]? = some (5, 3, .ifCond .eq (15), [14]) := rfl
theorem pa_Mod_ones_6 : pr_Mod_ones[6]? = some (8, 3, .iinc 1 (1), [1, 0]) := rfl
theorem pa_Mod_ones_7 : pr_Mod_ones[7]? = some (11, 1, .iload_n 2, []) := rfl
theorem pa_Mod_ones_8 : pr_Mod_ones[8]? = some (12, 1, .iload_n 2, []) := rfl
theorem pa_Mod_ones_9 : pr_Mod_ones[9]? = some (13, 1, .iconst 1, [1, 0]) := rfl
theorem pa_Mod_ones_10 : pr_Mod_ones[10]? = some (14, 1, .isub, []) := rfl
theorem pa_Mod_ones_11 : pr_Mod_ones[11]? = some (15, 1, .iand, []) := rfl
theorem pa_Mod_ones_12 : pr_Mod_ones[12]? = some (16, 1, .istore_n 2, []) := rfl
theorem pa_Mod_ones_13 : pr_Mod_ones[13]? = some (17, 3, .goto (-13), [4]) := rfl
theorem pa_Mod_ones_14 : pr_Mod_ones[14]? = some (20, 1, .iload_n 1, []) := rfl
theorem pa_Mod_ones_15 : pr_Mod_ones[15]? = some (21, 1, .ireturn, [0]) := rfl
def pa_Mod_ones := And.intro pa_Mod_ones_0 (And.intro pa_Mod_ones_1 (And.intro pa_Mod_ones_2 (And.intro pa_Mod_ones_3 (And.intro pa_Mod_ones_4 (And.intro pa_Mod_ones_5 (And.intro pa_Mod_ones_6 (And.intro pa_Mod_ones_7 (And.intro pa_Mod_ones_8 (And.intro pa_Mod_ones_9 (And.intro pa_Mod_ones_10 (And.intro pa_Mod_ones_11 (And.intro pa_Mod_ones_12 (And.intro pa_Mod_ones_13 (And.intro pa_Mod_ones_14 (pa_Mod_ones_15)))))))))))))))
def pr_Mod_shuffle : List ma_E := [(0, 1, .aload_n 0, []),
  (1, 1, .iconst 0, [0, 0]),
  (2, 3, .putfield 66, [7, 0, 0, 0, 620]),
  (5, 1, .iload_n 1, []),
  (6, 3, .ifCond .ge (5), [7]),
  (9, 1, .iconst 0, [0, 0]),
  (10, 1, .ireturn, [1]),
  (11, 1, .iload_n 1, []),
  (12, 1, .i2l, []),
  (13, 1, .lstore_n 2, []),
  (14, 1, .aload_n 0, []),
  (15, 3, .getfield 97, [7, 4, 0, 0, 624]),
  (18, 1, .iconst 1, [1, 0]),
  (19, 1, .isub, []),
  (20, 2, .istore 4, []),
  (22, 2, .iload 4, []),
  (24, 3, .ifCond .le (141), [96]),
  (27, 1, .lload_n 2, []),
  (28, 3, .ldc2_w 106, [1103515245, 0, 757]),
  (31, 1, .lmul, []),
  (32, 3, .ldc2_w 108, [12345, 0, 758]),
  (35, 1, .ladd, []),
  (36, 3, .ldc2_w 110, [2147483648, 0, 759]),
  (39, 1, .lrem, []),
  (40, 1, .lstore_n 2, []),
  (41, 1, .lload_n 2, []),
  (42, 3, .ldc2_w 112, [65536, 0, 760]),
  (45, 1, .ldiv, []),
  (46, 2, .iload 4, []),
  (48, 1, .iconst 1, [1, 0]),
  (49, 1, .iadd, []),
  (50, 1, .i2l, []),
  (51, 1, .lrem, []),
  (52, 1, .l2i, []),
  (53, 2, .istore 5, []),
  (55, 1, .iconst 0, [0, 0]),
  (56, 2, .istore 6, []),
  (58, 2, .iload 6, []),
  (60, 2, .bipush 60, [60, 0]),
  (62, 3, .if_icmp .ge (65), [76]),
  (65, 1, .aload_n 0, []),
  (66, 3, .getfield 17, [7, 5, 2, 0, 625]),
  (69, 2, .bipush 60, [60, 0]),
  (71, 2, .iload 4, []),
  (73, 1, .imul, []),
  (74, 2, .iload 6, []),
  (76, 1, .iadd, []),
  (77, 1, .baload, [0]),
  (78, 2, .istore 7, []),
  (80, 1, .aload_n 0, []),
  (81, 3, .getfield 17, [7, 5, 2, 0, 625]),
  (84, 2, .bipush 60, [60, 0]),
  (86, 2, .iload 4, []),
  (88, 1, .imul, []),
  (89, 2, .iload 6, []),
  (91, 1, .iadd, []),
  (92, 1, .aload_n 0, []),
  (93, 3, .getfield 17, [7, 5, 2, 0, 625]),
  (96, 2, .bipush 60, [60, 0]),
  (98, 2, .iload 5, []),
  (100, 1, .imul, []),
  (101, 2, .iload 6, []),
  (103, 1, .iadd, []),
  (104, 1, .baload, [0]),
  (105, 1, .bastore, [0]),
  (106, 1, .aload_n 0, []),
  (107, 3, .getfield 17, [7, 5, 2, 0, 625]),
  (110, 2, .bipush 60, [60, 0]),
  (112, 2, .iload 5, []),
  (114, 1, .imul, []),
  (115, 2, .iload 6, []),
  (117, 1, .iadd, []),
  (118, 2, .iload 7, []),
  (120, 1, .bastore, [0]),
  (121, 3, .iinc 6 (1), [1, 0]),
  (124, 3, .goto (-66), [37]),
  (127, 1, .aload_n 0, []),
  (128, 3, .getfield 20, [7, 6, 2, 0, 626]),
  (131, 2, .iload 4, []),
  (133, 1, .iaload, []),
  (134, 2, .istore 6, []),
  (136, 1, .aload_n 0, []),
  (137, 3, .getfield 20, [7, 6, 2, 0, 626]),
  (140, 2, .iload 4, []),
  (142, 1, .aload_n 0, []),
  (143, 3, .getfield 20, [7, 6, 2, 0, 626]),
  (146, 2, .iload 5, []),
  (148, 1, .iaload, []),
  (149, 1, .iastore, []),
  (150, 1, .aload_n 0, []),
  (151, 3, .getfield 20, [7, 6, 2, 0, 626]),
  (154, 2, .iload 5, []),
  (156, 2, .iload 6, []),
  (158, 1, .iastore, []),
  (159, 3, .iinc 4 (-1), [1, 1]),
  (162, 3, .goto (-140), [15]),
  (165, 1, .iconst 1, [1, 0]),
  (166, 1, .ireturn, [1])]
theorem po_Mod_shuffle : ma_ok me_Mod_shuffle pr_Mod_shuffle := ma_ok_of (by decide +kernel)
theorem pa_Mod_shuffle_0 : pr_Mod_shuffle[0]? = some (0, 1, .aload_n 0, []) := rfl
theorem pa_Mod_shuffle_1 : pr_Mod_shuffle[1]? = some (1, 1, .iconst 0, [0, 0]) := rfl
theorem pa_Mod_shuffle_2 : pr_Mod_shuffle[2]? = some (2, 3, .putfield 66, [7, 0, 0, 0, 620]) := rfl
theorem pa_Mod_shuffle_3 : pr_Mod_shuffle[3]? = some (5, 1, .iload_n 1, []) := rfl
theorem pa_Mod_shuffle_4 : pr_Mod_shuffle[4]? = some (6, 3, .ifCond .ge (5), [7]) := rfl
theorem pa_Mod_shuffle_5 : pr_Mod_shuffle[5]? = some (9, 1, .iconst 0, [0, 0]) := rfl
theorem pa_Mod_shuffle_6 : pr_Mod_shuffle[6]? = some (10, 1, .ireturn, [1]) := rfl
theorem pa_Mod_shuffle_7 : pr_Mod_shuffle[7]? = some (11, 1, .iload_n 1, []) := rfl
theorem pa_Mod_shuffle_8 : pr_Mod_shuffle[8]? = some (12, 1, .i2l, []) := rfl
theorem pa_Mod_shuffle_9 : pr_Mod_shuffle[9]? = some (13, 1, .lstore_n 2, []) := rfl
theorem pa_Mod_shuffle_10 : pr_Mod_shuffle[10]? = some (14, 1, .aload_n 0, []) := rfl
theorem pa_Mod_shuffle_11 : pr_Mod_shuffle[11]? = some (15, 3, .getfield 97, [7, 4, 0, 0, 624]) := rfl
theorem pa_Mod_shuffle_12 : pr_Mod_shuffle[12]? = some (18, 1, .iconst 1, [1, 0]) := rfl
theorem pa_Mod_shuffle_13 : pr_Mod_shuffle[13]? = some (19, 1, .isub, []) := rfl
theorem pa_Mod_shuffle_14 : pr_Mod_shuffle[14]? = some (20, 2, .istore 4, []) := rfl
theorem pa_Mod_shuffle_15 : pr_Mod_shuffle[15]? = some (22, 2, .iload 4, []) := rfl
theorem pa_Mod_shuffle_16 : pr_Mod_shuffle[16]? = some (24, 3, .ifCond .le (141), [96]) := rfl
theorem pa_Mod_shuffle_17 : pr_Mod_shuffle[17]? = some (27, 1, .lload_n 2, []) := rfl
theorem pa_Mod_shuffle_18 : pr_Mod_shuffle[18]? = some (28, 3, .ldc2_w 106, [1103515245, 0, 757]) := rfl
theorem pa_Mod_shuffle_19 : pr_Mod_shuffle[19]? = some (31, 1, .lmul, []) := rfl
theorem pa_Mod_shuffle_20 : pr_Mod_shuffle[20]? = some (32, 3, .ldc2_w 108, [12345, 0, 758]) := rfl
theorem pa_Mod_shuffle_21 : pr_Mod_shuffle[21]? = some (35, 1, .ladd, []) := rfl
theorem pa_Mod_shuffle_22 : pr_Mod_shuffle[22]? = some (36, 3, .ldc2_w 110, [2147483648, 0, 759]) := rfl
theorem pa_Mod_shuffle_23 : pr_Mod_shuffle[23]? = some (39, 1, .lrem, []) := rfl
theorem pa_Mod_shuffle_24 : pr_Mod_shuffle[24]? = some (40, 1, .lstore_n 2, []) := rfl
theorem pa_Mod_shuffle_25 : pr_Mod_shuffle[25]? = some (41, 1, .lload_n 2, []) := rfl
theorem pa_Mod_shuffle_26 : pr_Mod_shuffle[26]? = some (42, 3, .ldc2_w 112, [65536, 0, 760]) := rfl
theorem pa_Mod_shuffle_27 : pr_Mod_shuffle[27]? = some (45, 1, .ldiv, []) := rfl
theorem pa_Mod_shuffle_28 : pr_Mod_shuffle[28]? = some (46, 2, .iload 4, []) := rfl
theorem pa_Mod_shuffle_29 : pr_Mod_shuffle[29]? = some (48, 1, .iconst 1, [1, 0]) := rfl
theorem pa_Mod_shuffle_30 : pr_Mod_shuffle[30]? = some (49, 1, .iadd, []) := rfl
theorem pa_Mod_shuffle_31 : pr_Mod_shuffle[31]? = some (50, 1, .i2l, []) := rfl
theorem pa_Mod_shuffle_32 : pr_Mod_shuffle[32]? = some (51, 1, .lrem, []) := rfl
theorem pa_Mod_shuffle_33 : pr_Mod_shuffle[33]? = some (52, 1, .l2i, []) := rfl
theorem pa_Mod_shuffle_34 : pr_Mod_shuffle[34]? = some (53, 2, .istore 5, []) := rfl
theorem pa_Mod_shuffle_35 : pr_Mod_shuffle[35]? = some (55, 1, .iconst 0, [0, 0]) := rfl
theorem pa_Mod_shuffle_36 : pr_Mod_shuffle[36]? = some (56, 2, .istore 6, []) := rfl
theorem pa_Mod_shuffle_37 : pr_Mod_shuffle[37]? = some (58, 2, .iload 6, []) := rfl
theorem pa_Mod_shuffle_38 : pr_Mod_shuffle[38]? = some (60, 2, .bipush 60, [60, 0]) := rfl
theorem pa_Mod_shuffle_39 : pr_Mod_shuffle[39]? = some (62, 3, .if_icmp .ge (65), [76]) := rfl
theorem pa_Mod_shuffle_40 : pr_Mod_shuffle[40]? = some (65, 1, .aload_n 0, []) := rfl
theorem pa_Mod_shuffle_41 : pr_Mod_shuffle[41]? = some (66, 3, .getfield 17, [7, 5, 2, 0, 625]) := rfl
theorem pa_Mod_shuffle_42 : pr_Mod_shuffle[42]? = some (69, 2, .bipush 60, [60, 0]) := rfl
theorem pa_Mod_shuffle_43 : pr_Mod_shuffle[43]? = some (71, 2, .iload 4, []) := rfl
theorem pa_Mod_shuffle_44 : pr_Mod_shuffle[44]? = some (73, 1, .imul, []) := rfl
theorem pa_Mod_shuffle_45 : pr_Mod_shuffle[45]? = some (74, 2, .iload 6, []) := rfl
theorem pa_Mod_shuffle_46 : pr_Mod_shuffle[46]? = some (76, 1, .iadd, []) := rfl
theorem pa_Mod_shuffle_47 : pr_Mod_shuffle[47]? = some (77, 1, .baload, [0]) := rfl
theorem pa_Mod_shuffle_48 : pr_Mod_shuffle[48]? = some (78, 2, .istore 7, []) := rfl
theorem pa_Mod_shuffle_49 : pr_Mod_shuffle[49]? = some (80, 1, .aload_n 0, []) := rfl
theorem pa_Mod_shuffle_50 : pr_Mod_shuffle[50]? = some (81, 3, .getfield 17, [7, 5, 2, 0, 625]) := rfl
theorem pa_Mod_shuffle_51 : pr_Mod_shuffle[51]? = some (84, 2, .bipush 60, [60, 0]) := rfl
theorem pa_Mod_shuffle_52 : pr_Mod_shuffle[52]? = some (86, 2, .iload 4, []) := rfl
theorem pa_Mod_shuffle_53 : pr_Mod_shuffle[53]? = some (88, 1, .imul, []) := rfl
theorem pa_Mod_shuffle_54 : pr_Mod_shuffle[54]? = some (89, 2, .iload 6, []) := rfl
theorem pa_Mod_shuffle_55 : pr_Mod_shuffle[55]? = some (91, 1, .iadd, []) := rfl
theorem pa_Mod_shuffle_56 : pr_Mod_shuffle[56]? = some (92, 1, .aload_n 0, []) := rfl
theorem pa_Mod_shuffle_57 : pr_Mod_shuffle[57]? = some (93, 3, .getfield 17, [7, 5, 2, 0, 625]) := rfl
theorem pa_Mod_shuffle_58 : pr_Mod_shuffle[58]? = some (96, 2, .bipush 60, [60, 0]) := rfl
theorem pa_Mod_shuffle_59 : pr_Mod_shuffle[59]? = some (98, 2, .iload 5, []) := rfl
theorem pa_Mod_shuffle_60 : pr_Mod_shuffle[60]? = some (100, 1, .imul, []) := rfl
theorem pa_Mod_shuffle_61 : pr_Mod_shuffle[61]? = some (101, 2, .iload 6, []) := rfl
theorem pa_Mod_shuffle_62 : pr_Mod_shuffle[62]? = some (103, 1, .iadd, []) := rfl
theorem pa_Mod_shuffle_63 : pr_Mod_shuffle[63]? = some (104, 1, .baload, [0]) := rfl
theorem pa_Mod_shuffle_64 : pr_Mod_shuffle[64]? = some (105, 1, .bastore, [0]) := rfl
theorem pa_Mod_shuffle_65 : pr_Mod_shuffle[65]? = some (106, 1, .aload_n 0, []) := rfl
theorem pa_Mod_shuffle_66 : pr_Mod_shuffle[66]? = some (107, 3, .getfield 17, [7, 5, 2, 0, 625]) := rfl
theorem pa_Mod_shuffle_67 : pr_Mod_shuffle[67]? = some (110, 2, .bipush 60, [60, 0]) := rfl
theorem pa_Mod_shuffle_68 : pr_Mod_shuffle[68]? = some (112, 2, .iload 5, []) := rfl
theorem pa_Mod_shuffle_69 : pr_Mod_shuffle[69]? = some (114, 1, .imul, []) := rfl
theorem pa_Mod_shuffle_70 : pr_Mod_shuffle[70]? = some (115, 2, .iload 6, []) := rfl
theorem pa_Mod_shuffle_71 : pr_Mod_shuffle[71]? = some (117, 1, .iadd, []) := rfl
theorem pa_Mod_shuffle_72 : pr_Mod_shuffle[72]? = some (118, 2, .iload 7, []) := rfl
theorem pa_Mod_shuffle_73 : pr_Mod_shuffle[73]? = some (120, 1, .bastore, [0]) := rfl
theorem pa_Mod_shuffle_74 : pr_Mod_shuffle[74]? = some (121, 3, .iinc 6 (1), [1, 0]) := rfl
theorem pa_Mod_shuffle_75 : pr_Mod_shuffle[75]? = some (124, 3, .goto (-66), [37]) := rfl
theorem pa_Mod_shuffle_76 : pr_Mod_shuffle[76]? = some (127, 1, .aload_n 0, []) := rfl
theorem pa_Mod_shuffle_77 : pr_Mod_shuffle[77]? = some (128, 3, .getfield 20, [7, 6, 2, 0, 626]) := rfl
theorem pa_Mod_shuffle_78 : pr_Mod_shuffle[78]? = some (131, 2, .iload 4, []) := rfl
theorem pa_Mod_shuffle_79 : pr_Mod_shuffle[79]? = some (133, 1, .iaload, []) := rfl
theorem pa_Mod_shuffle_80 : pr_Mod_shuffle[80]? = some (134, 2, .istore 6, []) := rfl
theorem pa_Mod_shuffle_81 : pr_Mod_shuffle[81]? = some (136, 1, .aload_n 0, []) := rfl
theorem pa_Mod_shuffle_82 : pr_Mod_shuffle[82]? = some (137, 3, .getfield 20, [7, 6, 2, 0, 626]) := rfl
theorem pa_Mod_shuffle_83 : pr_Mod_shuffle[83]? = some (140, 2, .iload 4, []) := rfl
theorem pa_Mod_shuffle_84 : pr_Mod_shuffle[84]? = some (142, 1, .aload_n 0, []) := rfl
theorem pa_Mod_shuffle_85 : pr_Mod_shuffle[85]? = some (143, 3, .getfield 20, [7, 6, 2, 0, 626]) := rfl
theorem pa_Mod_shuffle_86 : pr_Mod_shuffle[86]? = some (146, 2, .iload 5, []) := rfl
theorem pa_Mod_shuffle_87 : pr_Mod_shuffle[87]? = some (148, 1, .iaload, []) := rfl
theorem pa_Mod_shuffle_88 : pr_Mod_shuffle[88]? = some (149, 1, .iastore, []) := rfl
theorem pa_Mod_shuffle_89 : pr_Mod_shuffle[89]? = some (150, 1, .aload_n 0, []) := rfl
theorem pa_Mod_shuffle_90 : pr_Mod_shuffle[90]? = some (151, 3, .getfield 20, [7, 6, 2, 0, 626]) := rfl
theorem pa_Mod_shuffle_91 : pr_Mod_shuffle[91]? = some (154, 2, .iload 5, []) := rfl
theorem pa_Mod_shuffle_92 : pr_Mod_shuffle[92]? = some (156, 2, .iload 6, []) := rfl
theorem pa_Mod_shuffle_93 : pr_Mod_shuffle[93]? = some (158, 1, .iastore, []) := rfl
theorem pa_Mod_shuffle_94 : pr_Mod_shuffle[94]? = some (159, 3, .iinc 4 (-1), [1, 1]) := rfl
theorem pa_Mod_shuffle_95 : pr_Mod_shuffle[95]? = some (162, 3, .goto (-140), [15]) := rfl
theorem pa_Mod_shuffle_96 : pr_Mod_shuffle[96]? = some (165, 1, .iconst 1, [1, 0]) := rfl
theorem pa_Mod_shuffle_97 : pr_Mod_shuffle[97]? = some (166, 1, .ireturn, [1]) := rfl
def pa_Mod_shuffle := And.intro pa_Mod_shuffle_0 (And.intro pa_Mod_shuffle_1 (And.intro pa_Mod_shuffle_2 (And.intro pa_Mod_shuffle_3 (And.intro pa_Mod_shuffle_4 (And.intro pa_Mod_shuffle_5 (And.intro pa_Mod_shuffle_6 (And.intro pa_Mod_shuffle_7 (And.intro pa_Mod_shuffle_8 (And.intro pa_Mod_shuffle_9 (And.intro pa_Mod_shuffle_10 (And.intro pa_Mod_shuffle_11 (And.intro pa_Mod_shuffle_12 (And.intro pa_Mod_shuffle_13 (And.intro pa_Mod_shuffle_14 (And.intro pa_Mod_shuffle_15 (And.intro pa_Mod_shuffle_16 (And.intro pa_Mod_shuffle_17 (And.intro pa_Mod_shuffle_18 (And.intro pa_Mod_shuffle_19 (And.intro pa_Mod_shuffle_20 (And.intro pa_Mod_shuffle_21 (And.intro pa_Mod_shuffle_22 (And.intro pa_Mod_shuffle_23 (And.intro pa_Mod_shuffle_24 (And.intro pa_Mod_shuffle_25 (And.intro pa_Mod_shuffle_26 (And.intro pa_Mod_shuffle_27 (And.intro pa_Mod_shuffle_28 (And.intro pa_Mod_shuffle_29 (And.intro pa_Mod_shuffle_30 (And.intro pa_Mod_shuffle_31 (And.intro pa_Mod_shuffle_32 (And.intro pa_Mod_shuffle_33 (And.intro pa_Mod_shuffle_34 (And.intro pa_Mod_shuffle_35 (And.intro pa_Mod_shuffle_36 (And.intro pa_Mod_shuffle_37 (And.intro pa_Mod_shuffle_38 (And.intro pa_Mod_shuffle_39 (And.intro pa_Mod_shuffle_40 (And.intro pa_Mod_shuffle_41 (And.intro pa_Mod_shuffle_42 (And.intro pa_Mod_shuffle_43 (And.intro pa_Mod_shuffle_44 (And.intro pa_Mod_shuffle_45 (And.intro pa_Mod_shuffle_46 (And.intro pa_Mod_shuffle_47 (And.intro pa_Mod_shuffle_48 (And.intro pa_Mod_shuffle_49 (And.intro pa_Mod_shuffle_50 (And.intro pa_Mod_shuffle_51 (And.intro pa_Mod_shuffle_52 (And.intro pa_Mod_shuffle_53 (And.intro pa_Mod_shuffle_54 (And.intro pa_Mod_shuffle_55 (And.intro pa_Mod_shuffle_56 (And.intro pa_Mod_shuffle_57 (And.intro pa_Mod_shuffle_58 (And.intro pa_Mod_shuffle_59 (And.intro pa_Mod_shuffle_60 (And.intro pa_Mod_shuffle_61 (And.intro pa_Mod_shuffle_62 (And.intro pa_Mod_shuffle_63 (And.intro pa_Mod_shuffle_64 (And.intro pa_Mod_shuffle_65 (And.intro pa_Mod_shuffle_66 (And.intro pa_Mod_shuffle_67 (And.intro pa_Mod_shuffle_68 (And.intro pa_Mod_shuffle_69 (And.intro pa_Mod_shuffle_70 (And.intro pa_Mod_shuffle_71 (And.intro pa_Mod_shuffle_72 (And.intro pa_Mod_shuffle_73 (And.intro pa_Mod_shuffle_74 (And.intro pa_Mod_shuffle_75 (And.intro pa_Mod_shuffle_76 (And.intro pa_Mod_shuffle_77 (And.intro pa_Mod_shuffle_78 (And.intro pa_Mod_shuffle_79 (And.intro pa_Mod_shuffle_80 (And.intro pa_Mod_shuffle_81 (And.intro pa_Mod_shuffle_82 (And.intro pa_Mod_shuffle_83 (And.intro pa_Mod_shuffle_84 (And.intro pa_Mod_shuffle_85 (And.intro pa_Mod_shuffle_86 (And.intro pa_Mod_shuffle_87 (And.intro pa_Mod_shuffle_88 (And.intro pa_Mod_shuffle_89 (And.intro pa_Mod_shuffle_90 (And.intro pa_Mod_shuffle_91 (And.intro pa_Mod_shuffle_92 (And.intro pa_Mod_shuffle_93 (And.intro pa_Mod_shuffle_94 (And.intro pa_Mod_shuffle_95 (And.intro pa_Mod_shuffle_96 (pa_Mod_shuffle_97)))))))))))))))))))))))))))))))))))))))))))))))))))))))))))))))))))))))))))))))))))))))))))))))))
def pr_Mod_signature : List ma_E := [(0, 1, .iconst 0, [0, 0]),
  (1, 1, .istore_n 1, []),
  (2, 1, .iconst 1, [1, 0]),
  (3, 1, .istore_n 2, []),
  (4, 1, .iload_n 2, []),
  (5, 2, .bipush 33, [33, 0]),
  (7, 3, .if_icmp .ge (34), [26]),
  (10, 1, .iload_n 1, []),
  (11, 1, .aload_n 0, []),
  (12, 3, .getfield 32, [7, 13, 2, 0, 633]),
  (15, 1, .iload_n 2, []),
  (16, 1, .iaload, []),
  (17, 1, .aload_n 0, []),
  (18, 3, .getfield 32, [7, 13, 2, 0, 633]),
  (21, 1, .iload_n 2, []),
  (22, 1, .iconst 1, [1, 0]),
  (23, 1, .isub, []),
  (24, 1, .iaload, []),
  (25, 3, .if_icmp .lt (7), [21]),
  (28, 1, .iload_n 2, []),
  (29, 3, .goto (4), [22]),
  (32, 1, .iconst 0, [0, 0]),
  (33, 1, .iadd, []),
  (34, 1, .istore_n 1, []),
  (35, 3, .iinc 2 (1), [1, 0]),
  (38, 3, .goto (-34), [4]),
  (41, 1, .iload_n 1, []),
  (42, 2, .bipush 33, [33, 0]),
  (44, 1, .irem, []),
  (45, 1, .ireturn, [0])]
theorem po_Mod_signature : ma_ok me_Mod_signature pr_Mod_signature := ma_ok_of (by decide +kernel)
theorem pa_Mod_signature_0 : pr_Mod_signature[0]? = some (0, 1, .iconst 0, [0, 0]) := rfl
theorem pa_Mod_signature_1 : pr_Mod_signature[1]? = some (1, 1, .istore_n 1, []) := rfl
theorem pa_Mod_signature_2 : pr_Mod_signature[2]? = some (2, 1, .iconst 1, [1, 0]) := rfl
theorem pa_Mod_signature_3 : pr_Mod_signature[3]? = some (3, 1, .istore_n 2, []) := rfl
theorem pa_Mod_signature_4 : pr_Mod_signature[4]? = some (4, 1, .iload_n 2, []) := rfl
theorem pa_Mod_signature_5 : pr_Mod_signature[5]? = some (5, 2, .bipush 33, [33, 0]) := rfl
theorem pa_Mod_signature_6 : pr_Mod_signature[6]? = some (7, 3, .if_icmp .ge (34), [26]) := rfl
theorem pa_Mod_signature_7 : pr_Mod_signature[7]? = some (10, 1, .iload_n 1, []) := rfl
theorem pa_Mod_signature_8 : pr_Mod_signature[8]? = some (11, 1, .aload_n 0, []) := rfl
theorem pa_Mod_signature_9 : pr_Mod_signature[9]? = some (12, 3, .getfield 32, [7, 13, 2, 0, 633]) := rfl
theorem pa_Mod_signature_10 : pr_Mod_signature[10]? = some (15, 1, .iload_n 2, []) := rfl
theorem pa_Mod_signature_11 : pr_Mod_signature[11]? = some (16, 1, .iaload, []) := rfl
theorem pa_Mod_signature_12 : pr_Mod_signature[12]? = some (17, 1, .aload_n 0, []) := rfl
theorem pa_Mod_signature_13 : pr_Mod_signature[13]? = some (18, 3, .getfield 32, [7, 13, 2, 0, 633]) := rfl
theorem pa_Mod_signature_14 : pr_Mod_signature[14]? = some (21, 1, .iload_n 2, []) := rfl
theorem pa_Mod_signature_15 : pr_Mod_signature[15]? = some (22, 1, .iconst 1, [1, 0]) := rfl
theorem pa_Mod_signature_16 : pr_Mod_signature[16]? = some (23, 1, .isub, []) := rfl
theorem pa_Mod_signature_17 : pr_Mod_signature[17]? = some (24, 1, .iaload, []) := rfl
theorem pa_Mod_signature_18 : pr_Mod_signature[18]? = some (25, 3, .if_icmp .lt (7), [21]) := rfl
theorem pa_Mod_signature_19 : pr_Mod_signature[19]? = some (28, 1, .iload_n 2, []) := rfl
theorem pa_Mod_signature_20 : pr_Mod_signature[20]? = some (29, 3, .goto (4), [22]) := rfl
theorem pa_Mod_signature_21 : pr_Mod_signature[21]? = some (32, 1, .iconst 0, [0, 0]) := rfl
theorem pa_Mod_signature_22 : pr_Mod_signature[22]? = some (33, 1, .iadd, []) := rfl
theorem pa_Mod_signature_23 : pr_Mod_signature[23]? = some (34, 1, .istore_n 1, []) := rfl
theorem pa_Mod_signature_24 : pr_Mod_signature[24]? = some (35, 3, .iinc 2 (1), [1, 0]) := rfl
theorem pa_Mod_signature_25 : pr_Mod_signature[25]? = some (38, 3, .goto (-34), [4]) := rfl
theorem pa_Mod_signature_26 : pr_Mod_signature[26]? = some (41, 1, .iload_n 1, []) := rfl
theorem pa_Mod_signature_27 : pr_Mod_signature[27]? = some (42, 2, .bipush 33, [33, 0]) := rfl
theorem pa_Mod_signature_28 : pr_Mod_signature[28]? = some (44, 1, .irem, []) := rfl
theorem pa_Mod_signature_29 : pr_Mod_signature[29]? = some (45, 1, .ireturn, [0]) := rfl
def pa_Mod_signature := And.intro pa_Mod_signature_0 (And.intro pa_Mod_signature_1 (And.intro pa_Mod_signature_2 (And.intro pa_Mod_signature_3 (And.intro pa_Mod_signature_4 (And.intro pa_Mod_signature_5 (And.intro pa_Mod_signature_6 (And.intro pa_Mod_signature_7 (And.intro pa_Mod_signature_8 (And.intro pa_Mod_signature_9 (And.intro pa_Mod_signature_10 (And.intro pa_Mod_signature_11 (And.intro pa_Mod_signature_12 (And.intro pa_Mod_signature_13 (And.intro pa_Mod_signature_14 (And.intro pa_Mod_signature_15 (And.intro pa_Mod_signature_16 (And.intro pa_Mod_signature_17 (And.intro pa_Mod_signature_18 (And.intro pa_Mod_signature_19 (And.intro pa_Mod_signature_20 (And.intro pa_Mod_signature_21 (And.intro pa_Mod_signature_22 (And.intro pa_Mod_signature_23 (And.intro pa_Mod_signature_24 (And.intro pa_Mod_signature_25 (And.intro pa_Mod_signature_26 (And.intro pa_Mod_signature_27 (And.intro pa_Mod_signature_28 (pa_Mod_signature_29)))))))))))))))))))))))))))))
def pr_Mod_sum : List ma_E := [(0, 1, .iconst 0, [0, 0]),
  (1, 1, .istore_n 1, []),
  (2, 1, .iconst 0, [0, 0]),
  (3, 1, .istore_n 2, []),
  (4, 1, .iload_n 2, []),
  (5, 2, .bipush 33, [33, 0]),
  (7, 3, .if_icmp .ge (18), [16]),
  (10, 1, .iload_n 1, []),
  (11, 1, .aload_n 0, []),
  (12, 3, .getfield 32, [7, 13, 2, 0, 633]),
  (15, 1, .iload_n 2, []),
  (16, 1, .iaload, []),
  (17, 1, .iadd, []),
  (18, 1, .istore_n 1, []),
  (19, 3, .iinc 2 (1), [1, 0]),
  (22, 3, .goto (-18), [4]),
  (25, 1, .iload_n 1, []),
  (26, 1, .iconst 4, [4, 0]),
  (27, 1, .irem, []),
  (28, 1, .ireturn, [0])]
theorem po_Mod_sum : ma_ok me_Mod_sum pr_Mod_sum := ma_ok_of (by decide +kernel)
theorem pa_Mod_sum_0 : pr_Mod_sum[0]? = some (0, 1, .iconst 0, [0, 0]) := rfl
theorem pa_Mod_sum_1 : pr_Mod_sum[1]? = some (1, 1, .istore_n 1, []) := rfl
theorem pa_Mod_sum_2 : pr_Mod_sum[2]? = some (2, 1, .iconst 0, [0, 0]) := rfl
theorem pa_Mod_sum_3 : pr_Mod_sum[3]? = some (3, 1, .istore_n 2, []) := rfl
theorem pa_Mod_sum_4 : pr_Mod_sum[4]? = some (4, 1, .iload_n 2, []) := rfl
theorem pa_Mod_sum_5 : pr_Mod_sum[5]? = some (5, 2, .bipush 33, [33, 0]) := rfl
theorem pa_Mod_sum_6 : pr_Mod_sum[6]? = some (7, 3, .if_icmp .ge (18), [16]) := rfl
theorem pa_Mod_sum_7 : pr_Mod_sum[7]? = some (10, 1, .iload_n 1, []) := rfl
theorem pa_Mod_sum_8 : pr_Mod_sum[8]? = some (11, 1, .aload_n 0, []) := rfl
theorem pa_Mod_sum_9 : pr_Mod_sum[9]? = some (12, 3, .getfield 32, [7, 13, 2, 0, 633]) := rfl
theorem pa_Mod_sum_10 : pr_Mod_sum[10]? = some (15, 1, .iload_n 2, []) := rfl
theorem pa_Mod_sum_11 : pr_Mod_sum[11]? = some (16, 1, .iaload, []) := rfl
theorem pa_Mod_sum_12 : pr_Mod_sum[12]? = some (17, 1, .iadd, []) := rfl
theorem pa_Mod_sum_13 : pr_Mod_sum[13]? = some (18, 1, .istore_n 1, []) := rfl
theorem pa_Mod_sum_14 : pr_Mod_sum[14]? = some (19, 3, .iinc 2 (1), [1, 0]) := rfl
theorem pa_Mod_sum_15 : pr_Mod_sum[15]? = some (22, 3, .goto (-18), [4]) := rfl
theorem pa_Mod_sum_16 : pr_Mod_sum[16]? = some (25, 1, .iload_n 1, []) := rfl
theorem pa_Mod_sum_17 : pr_Mod_sum[17]? = some (26, 1, .iconst 4, [4, 0]) := rfl
theorem pa_Mod_sum_18 : pr_Mod_sum[18]? = some (27, 1, .irem, []) := rfl
theorem pa_Mod_sum_19 : pr_Mod_sum[19]? = some (28, 1, .ireturn, [0]) := rfl
def pa_Mod_sum := And.intro pa_Mod_sum_0 (And.intro pa_Mod_sum_1 (And.intro pa_Mod_sum_2 (And.intro pa_Mod_sum_3 (And.intro pa_Mod_sum_4 (And.intro pa_Mod_sum_5 (And.intro pa_Mod_sum_6 (And.intro pa_Mod_sum_7 (And.intro pa_Mod_sum_8 (And.intro pa_Mod_sum_9 (And.intro pa_Mod_sum_10 (And.intro pa_Mod_sum_11 (And.intro pa_Mod_sum_12 (And.intro pa_Mod_sum_13 (And.intro pa_Mod_sum_14 (And.intro pa_Mod_sum_15 (And.intro pa_Mod_sum_16 (And.intro pa_Mod_sum_17 (And.intro pa_Mod_sum_18 (pa_Mod_sum_19)))))))))))))))))))
def pr_Mod_thrown : List ma_E := [(0, 1, .aload_n 0, []),
  (1, 3, .getfield 66, [7, 0, 0, 0, 620]),
  (4, 1, .ireturn, [0])]
theorem po_Mod_thrown : ma_ok me_Mod_thrown pr_Mod_thrown := ma_ok_of (by decide +kernel)
theorem pa_Mod_thrown_0 : pr_Mod_thrown[0]? = some (0, 1, .aload_n 0, []) := rfl
theorem pa_Mod_thrown_1 : pr_Mod_thrown[1]? = some (1, 3, .getfield 66, [7, 0, 0, 0, 620]) := rfl
theorem pa_Mod_thrown_2 : pr_Mod_thrown[2]? = some (4, 1, .ireturn, [0]) := rfl
def pa_Mod_thrown := And.intro pa_Mod_thrown_0 (And.intro pa_Mod_thrown_1 (pa_Mod_thrown_2))
def pr_Mod_times : List ma_E := [(0, 1, .iconst 0, [0, 0]),
  (1, 1, .istore_n 2, []),
  (2, 1, .iload_n 0, []),
  (3, 3, .sipush 255, [255, 0]),
  (6, 1, .iand, []),
  (7, 1, .istore_n 3, []),
  (8, 1, .iconst 0, [0, 0]),
  (9, 2, .istore 4, []),
  (11, 2, .iload 4, []),
  (13, 2, .bipush 8, [8, 0]),
  (15, 3, .if_icmp .ge (40), [35]),
  (18, 1, .iload_n 1, []),
  (19, 2, .iload 4, []),
  (21, 1, .ishr, []),
  (22, 1, .iconst 1, [1, 0]),
  (23, 1, .iand, []),
  (24, 1, .iconst 1, [1, 0]),
  (25, 3, .if_icmp .ne (7), [22]),
  (28, 1, .iload_n 2, []),
  (29, 1, .iload_n 3, []),
  (30, 1, .ixor, []),
  (31, 1, .istore_n 2, []),
  (32, 1, .iload_n 3, []),
  (33, 1, .iconst 1, [1, 0]),
  (34, 1, .ishl, []),
  (35, 1, .istore_n 3, []),
  (36, 1, .iload_n 3, []),
  (37, 3, .sipush 255, [255, 0]),
  (40, 3, .if_icmp .le (9), [33]),
  (43, 1, .iload_n 3, []),
  (44, 3, .sipush 285, [285, 0]),
  (47, 1, .ixor, []),
  (48, 1, .istore_n 3, []),
  (49, 3, .iinc 4 (1), [1, 0]),
  (52, 3, .goto (-41), [8]),
  (55, 1, .iload_n 2, []),
  (56, 1, .ireturn, [0])]
theorem po_Mod_times : ma_ok me_Mod_times pr_Mod_times := ma_ok_of (by decide +kernel)
theorem pa_Mod_times_0 : pr_Mod_times[0]? = some (0, 1, .iconst 0, [0, 0]) := rfl
theorem pa_Mod_times_1 : pr_Mod_times[1]? = some (1, 1, .istore_n 2, []) := rfl
theorem pa_Mod_times_2 : pr_Mod_times[2]? = some (2, 1, .iload_n 0, []) := rfl
theorem pa_Mod_times_3 : pr_Mod_times[3]? = some (3, 3, .sipush 255, [255, 0]) := rfl
theorem pa_Mod_times_4 : pr_Mod_times[4]? = some (6, 1, .iand, []) := rfl
theorem pa_Mod_times_5 : pr_Mod_times[5]? = some (7, 1, .istore_n 3, []) := rfl
theorem pa_Mod_times_6 : pr_Mod_times[6]? = some (8, 1, .iconst 0, [0, 0]) := rfl
theorem pa_Mod_times_7 : pr_Mod_times[7]? = some (9, 2, .istore 4, []) := rfl
theorem pa_Mod_times_8 : pr_Mod_times[8]? = some (11, 2, .iload 4, []) := rfl
theorem pa_Mod_times_9 : pr_Mod_times[9]? = some (13, 2, .bipush 8, [8, 0]) := rfl
theorem pa_Mod_times_10 : pr_Mod_times[10]? = some (15, 3, .if_icmp .ge (40), [35]) := rfl
theorem pa_Mod_times_11 : pr_Mod_times[11]? = some (18, 1, .iload_n 1, []) := rfl
theorem pa_Mod_times_12 : pr_Mod_times[12]? = some (19, 2, .iload 4, []) := rfl
theorem pa_Mod_times_13 : pr_Mod_times[13]? = some (21, 1, .ishr, []) := rfl
theorem pa_Mod_times_14 : pr_Mod_times[14]? = some (22, 1, .iconst 1, [1, 0]) := rfl
theorem pa_Mod_times_15 : pr_Mod_times[15]? = some (23, 1, .iand, []) := rfl
theorem pa_Mod_times_16 : pr_Mod_times[16]? = some (24, 1, .iconst 1, [1, 0]) := rfl
theorem pa_Mod_times_17 : pr_Mod_times[17]? = some (25, 3, .if_icmp .ne (7), [22]) := rfl
theorem pa_Mod_times_18 : pr_Mod_times[18]? = some (28, 1, .iload_n 2, []) := rfl
theorem pa_Mod_times_19 : pr_Mod_times[19]? = some (29, 1, .iload_n 3, []) := rfl
theorem pa_Mod_times_20 : pr_Mod_times[20]? = some (30, 1, .ixor, []) := rfl
theorem pa_Mod_times_21 : pr_Mod_times[21]? = some (31, 1, .istore_n 2, []) := rfl
theorem pa_Mod_times_22 : pr_Mod_times[22]? = some (32, 1, .iload_n 3, []) := rfl
theorem pa_Mod_times_23 : pr_Mod_times[23]? = some (33, 1, .iconst 1, [1, 0]) := rfl
theorem pa_Mod_times_24 : pr_Mod_times[24]? = some (34, 1, .ishl, []) := rfl
theorem pa_Mod_times_25 : pr_Mod_times[25]? = some (35, 1, .istore_n 3, []) := rfl
theorem pa_Mod_times_26 : pr_Mod_times[26]? = some (36, 1, .iload_n 3, []) := rfl
theorem pa_Mod_times_27 : pr_Mod_times[27]? = some (37, 3, .sipush 255, [255, 0]) := rfl
theorem pa_Mod_times_28 : pr_Mod_times[28]? = some (40, 3, .if_icmp .le (9), [33]) := rfl
theorem pa_Mod_times_29 : pr_Mod_times[29]? = some (43, 1, .iload_n 3, []) := rfl
theorem pa_Mod_times_30 : pr_Mod_times[30]? = some (44, 3, .sipush 285, [285, 0]) := rfl
theorem pa_Mod_times_31 : pr_Mod_times[31]? = some (47, 1, .ixor, []) := rfl
theorem pa_Mod_times_32 : pr_Mod_times[32]? = some (48, 1, .istore_n 3, []) := rfl
theorem pa_Mod_times_33 : pr_Mod_times[33]? = some (49, 3, .iinc 4 (1), [1, 0]) := rfl
theorem pa_Mod_times_34 : pr_Mod_times[34]? = some (52, 3, .goto (-41), [8]) := rfl
theorem pa_Mod_times_35 : pr_Mod_times[35]? = some (55, 1, .iload_n 2, []) := rfl
theorem pa_Mod_times_36 : pr_Mod_times[36]? = some (56, 1, .ireturn, [0]) := rfl
def pa_Mod_times := And.intro pa_Mod_times_0 (And.intro pa_Mod_times_1 (And.intro pa_Mod_times_2 (And.intro pa_Mod_times_3 (And.intro pa_Mod_times_4 (And.intro pa_Mod_times_5 (And.intro pa_Mod_times_6 (And.intro pa_Mod_times_7 (And.intro pa_Mod_times_8 (And.intro pa_Mod_times_9 (And.intro pa_Mod_times_10 (And.intro pa_Mod_times_11 (And.intro pa_Mod_times_12 (And.intro pa_Mod_times_13 (And.intro pa_Mod_times_14 (And.intro pa_Mod_times_15 (And.intro pa_Mod_times_16 (And.intro pa_Mod_times_17 (And.intro pa_Mod_times_18 (And.intro pa_Mod_times_19 (And.intro pa_Mod_times_20 (And.intro pa_Mod_times_21 (And.intro pa_Mod_times_22 (And.intro pa_Mod_times_23 (And.intro pa_Mod_times_24 (And.intro pa_Mod_times_25 (And.intro pa_Mod_times_26 (And.intro pa_Mod_times_27 (And.intro pa_Mod_times_28 (And.intro pa_Mod_times_29 (And.intro pa_Mod_times_30 (And.intro pa_Mod_times_31 (And.intro pa_Mod_times_32 (And.intro pa_Mod_times_33 (And.intro pa_Mod_times_34 (And.intro pa_Mod_times_35 (pa_Mod_times_36))))))))))))))))))))))))))))))))))))
def pr_Itg_bitCount : List ma_E := [(0, 1, .iload_n 0, []),
  (1, 1, .iload_n 0, []),
  (2, 1, .iconst 1, [1, 0]),
  (3, 1, .iushr, []),
  (4, 3, .ldc_w 265, [1431655765, 0, 517]),
  (7, 1, .iand, []),
  (8, 1, .isub, []),
  (9, 1, .istore_n 0, []),
  (10, 1, .iload_n 0, []),
  (11, 3, .ldc_w 266, [858993459, 0, 518]),
  (14, 1, .iand, []),
  (15, 1, .iload_n 0, []),
  (16, 1, .iconst 2, [2, 0]),
  (17, 1, .iushr, []),
  (18, 3, .ldc_w 266, [858993459, 0, 518]),
  (21, 1, .iand, []),
  (22, 1, .iadd, []),
  (23, 1, .istore_n 0, []),
  (24, 1, .iload_n 0, []),
  (25, 1, .iload_n 0, []),
  (26, 1, .iconst 4, [4, 0]),
  (27, 1, .iushr, []),
  (28, 1, .iadd, []),
  (29, 3, .ldc_w 267, [252645135, 0, 519]),
  (32, 1, .iand, []),
  (33, 1, .istore_n 0, []),
  (34, 1, .iload_n 0, []),
  (35, 1, .iload_n 0, []),
  (36, 2, .bipush 8, [8, 0]),
  (38, 1, .iushr, []),
  (39, 1, .iadd, []),
  (40, 1, .istore_n 0, []),
  (41, 1, .iload_n 0, []),
  (42, 1, .iload_n 0, []),
  (43, 2, .bipush 16, [16, 0]),
  (45, 1, .iushr, []),
  (46, 1, .iadd, []),
  (47, 1, .istore_n 0, []),
  (48, 1, .iload_n 0, []),
  (49, 2, .bipush 63, [63, 0]),
  (51, 1, .iand, []),
  (52, 1, .ireturn, [0])]
theorem po_Itg_bitCount : ma_ok me_Itg_bitCount pr_Itg_bitCount := ma_ok_of (by decide +kernel)
theorem pa_Itg_bitCount_0 : pr_Itg_bitCount[0]? = some (0, 1, .iload_n 0, []) := rfl
theorem pa_Itg_bitCount_1 : pr_Itg_bitCount[1]? = some (1, 1, .iload_n 0, []) := rfl
theorem pa_Itg_bitCount_2 : pr_Itg_bitCount[2]? = some (2, 1, .iconst 1, [1, 0]) := rfl
theorem pa_Itg_bitCount_3 : pr_Itg_bitCount[3]? = some (3, 1, .iushr, []) := rfl
theorem pa_Itg_bitCount_4 : pr_Itg_bitCount[4]? = some (4, 3, .ldc_w 265, [1431655765, 0, 517]) := rfl
theorem pa_Itg_bitCount_5 : pr_Itg_bitCount[5]? = some (7, 1, .iand, []) := rfl
theorem pa_Itg_bitCount_6 : pr_Itg_bitCount[6]? = some (8, 1, .isub, []) := rfl
theorem pa_Itg_bitCount_7 : pr_Itg_bitCount[7]? = some (9, 1, .istore_n 0, []) := rfl
theorem pa_Itg_bitCount_8 : pr_Itg_bitCount[8]? = some (10, 1, .iload_n 0, []) := rfl
theorem pa_Itg_bitCount_9 : pr_Itg_bitCount[9]? = some (11, 3, .ldc_w 266, [858993459, 0, 518]) := rfl
theorem pa_Itg_bitCount_10 : pr_Itg_bitCount[10]? = some (14, 1, .iand, []) := rfl
theorem pa_Itg_bitCount_11 : pr_Itg_bitCount[11]? = some (15, 1, .iload_n 0, []) := rfl
theorem pa_Itg_bitCount_12 : pr_Itg_bitCount[12]? = some (16, 1, .iconst 2, [2, 0]) := rfl
theorem pa_Itg_bitCount_13 : pr_Itg_bitCount[13]? = some (17, 1, .iushr, []) := rfl
theorem pa_Itg_bitCount_14 : pr_Itg_bitCount[14]? = some (18, 3, .ldc_w 266, [858993459, 0, 518]) := rfl
theorem pa_Itg_bitCount_15 : pr_Itg_bitCount[15]? = some (21, 1, .iand, []) := rfl
theorem pa_Itg_bitCount_16 : pr_Itg_bitCount[16]? = some (22, 1, .iadd, []) := rfl
theorem pa_Itg_bitCount_17 : pr_Itg_bitCount[17]? = some (23, 1, .istore_n 0, []) := rfl
theorem pa_Itg_bitCount_18 : pr_Itg_bitCount[18]? = some (24, 1, .iload_n 0, []) := rfl
theorem pa_Itg_bitCount_19 : pr_Itg_bitCount[19]? = some (25, 1, .iload_n 0, []) := rfl
theorem pa_Itg_bitCount_20 : pr_Itg_bitCount[20]? = some (26, 1, .iconst 4, [4, 0]) := rfl
theorem pa_Itg_bitCount_21 : pr_Itg_bitCount[21]? = some (27, 1, .iushr, []) := rfl
theorem pa_Itg_bitCount_22 : pr_Itg_bitCount[22]? = some (28, 1, .iadd, []) := rfl
theorem pa_Itg_bitCount_23 : pr_Itg_bitCount[23]? = some (29, 3, .ldc_w 267, [252645135, 0, 519]) := rfl
theorem pa_Itg_bitCount_24 : pr_Itg_bitCount[24]? = some (32, 1, .iand, []) := rfl
theorem pa_Itg_bitCount_25 : pr_Itg_bitCount[25]? = some (33, 1, .istore_n 0, []) := rfl
theorem pa_Itg_bitCount_26 : pr_Itg_bitCount[26]? = some (34, 1, .iload_n 0, []) := rfl
theorem pa_Itg_bitCount_27 : pr_Itg_bitCount[27]? = some (35, 1, .iload_n 0, []) := rfl
theorem pa_Itg_bitCount_28 : pr_Itg_bitCount[28]? = some (36, 2, .bipush 8, [8, 0]) := rfl
theorem pa_Itg_bitCount_29 : pr_Itg_bitCount[29]? = some (38, 1, .iushr, []) := rfl
theorem pa_Itg_bitCount_30 : pr_Itg_bitCount[30]? = some (39, 1, .iadd, []) := rfl
theorem pa_Itg_bitCount_31 : pr_Itg_bitCount[31]? = some (40, 1, .istore_n 0, []) := rfl
theorem pa_Itg_bitCount_32 : pr_Itg_bitCount[32]? = some (41, 1, .iload_n 0, []) := rfl
theorem pa_Itg_bitCount_33 : pr_Itg_bitCount[33]? = some (42, 1, .iload_n 0, []) := rfl
theorem pa_Itg_bitCount_34 : pr_Itg_bitCount[34]? = some (43, 2, .bipush 16, [16, 0]) := rfl
theorem pa_Itg_bitCount_35 : pr_Itg_bitCount[35]? = some (45, 1, .iushr, []) := rfl
theorem pa_Itg_bitCount_36 : pr_Itg_bitCount[36]? = some (46, 1, .iadd, []) := rfl
theorem pa_Itg_bitCount_37 : pr_Itg_bitCount[37]? = some (47, 1, .istore_n 0, []) := rfl
theorem pa_Itg_bitCount_38 : pr_Itg_bitCount[38]? = some (48, 1, .iload_n 0, []) := rfl
theorem pa_Itg_bitCount_39 : pr_Itg_bitCount[39]? = some (49, 2, .bipush 63, [63, 0]) := rfl
theorem pa_Itg_bitCount_40 : pr_Itg_bitCount[40]? = some (51, 1, .iand, []) := rfl
theorem pa_Itg_bitCount_41 : pr_Itg_bitCount[41]? = some (52, 1, .ireturn, [0]) := rfl
def pa_Itg_bitCount := And.intro pa_Itg_bitCount_0 (And.intro pa_Itg_bitCount_1 (And.intro pa_Itg_bitCount_2 (And.intro pa_Itg_bitCount_3 (And.intro pa_Itg_bitCount_4 (And.intro pa_Itg_bitCount_5 (And.intro pa_Itg_bitCount_6 (And.intro pa_Itg_bitCount_7 (And.intro pa_Itg_bitCount_8 (And.intro pa_Itg_bitCount_9 (And.intro pa_Itg_bitCount_10 (And.intro pa_Itg_bitCount_11 (And.intro pa_Itg_bitCount_12 (And.intro pa_Itg_bitCount_13 (And.intro pa_Itg_bitCount_14 (And.intro pa_Itg_bitCount_15 (And.intro pa_Itg_bitCount_16 (And.intro pa_Itg_bitCount_17 (And.intro pa_Itg_bitCount_18 (And.intro pa_Itg_bitCount_19 (And.intro pa_Itg_bitCount_20 (And.intro pa_Itg_bitCount_21 (And.intro pa_Itg_bitCount_22 (And.intro pa_Itg_bitCount_23 (And.intro pa_Itg_bitCount_24 (And.intro pa_Itg_bitCount_25 (And.intro pa_Itg_bitCount_26 (And.intro pa_Itg_bitCount_27 (And.intro pa_Itg_bitCount_28 (And.intro pa_Itg_bitCount_29 (And.intro pa_Itg_bitCount_30 (And.intro pa_Itg_bitCount_31 (And.intro pa_Itg_bitCount_32 (And.intro pa_Itg_bitCount_33 (And.intro pa_Itg_bitCount_34 (And.intro pa_Itg_bitCount_35 (And.intro pa_Itg_bitCount_36 (And.intro pa_Itg_bitCount_37 (And.intro pa_Itg_bitCount_38 (And.intro pa_Itg_bitCount_39 (And.intro pa_Itg_bitCount_40 (pa_Itg_bitCount_41)))))))))))))))))))))))))))))))))))))))))
def pr_Arr_fill : List ma_E := [(0, 1, .iconst 0, [0, 0]),
  (1, 1, .istore_n 2, []),
  (2, 1, .aload_n 0, []),
  (3, 1, .arraylength, []),
  (4, 1, .istore_n 3, []),
  (5, 1, .iload_n 2, []),
  (6, 1, .iload_n 3, []),
  (7, 3, .if_icmp .ge (13), [14]),
  (10, 1, .aload_n 0, []),
  (11, 1, .iload_n 2, []),
  (12, 1, .iload_n 1, []),
  (13, 1, .iastore, []),
  (14, 3, .iinc 2 (1), [1, 0]),
  (17, 3, .goto (-12), [5]),
  (20, 1, .return_, [])]
theorem po_Arr_fill : ma_ok me_Arr_fill pr_Arr_fill := ma_ok_of (by decide +kernel)
theorem pa_Arr_fill_0 : pr_Arr_fill[0]? = some (0, 1, .iconst 0, [0, 0]) := rfl
theorem pa_Arr_fill_1 : pr_Arr_fill[1]? = some (1, 1, .istore_n 2, []) := rfl
theorem pa_Arr_fill_2 : pr_Arr_fill[2]? = some (2, 1, .aload_n 0, []) := rfl
theorem pa_Arr_fill_3 : pr_Arr_fill[3]? = some (3, 1, .arraylength, []) := rfl
theorem pa_Arr_fill_4 : pr_Arr_fill[4]? = some (4, 1, .istore_n 3, []) := rfl
theorem pa_Arr_fill_5 : pr_Arr_fill[5]? = some (5, 1, .iload_n 2, []) := rfl
theorem pa_Arr_fill_6 : pr_Arr_fill[6]? = some (6, 1, .iload_n 3, []) := rfl
theorem pa_Arr_fill_7 : pr_Arr_fill[7]? = some (7, 3, .if_icmp .ge (13), [14]) := rfl
theorem pa_Arr_fill_8 : pr_Arr_fill[8]? = some (10, 1, .aload_n 0, []) := rfl
theorem pa_Arr_fill_9 : pr_Arr_fill[9]? = some (11, 1, .iload_n 2, []) := rfl
theorem pa_Arr_fill_10 : pr_Arr_fill[10]? = some (12, 1, .iload_n 1, []) := rfl
theorem pa_Arr_fill_11 : pr_Arr_fill[11]? = some (13, 1, .iastore, []) := rfl
theorem pa_Arr_fill_12 : pr_Arr_fill[12]? = some (14, 3, .iinc 2 (1), [1, 0]) := rfl
theorem pa_Arr_fill_13 : pr_Arr_fill[13]? = some (17, 3, .goto (-12), [5]) := rfl
theorem pa_Arr_fill_14 : pr_Arr_fill[14]? = some (20, 1, .return_, []) := rfl
def pa_Arr_fill := And.intro pa_Arr_fill_0 (And.intro pa_Arr_fill_1 (And.intro pa_Arr_fill_2 (And.intro pa_Arr_fill_3 (And.intro pa_Arr_fill_4 (And.intro pa_Arr_fill_5 (And.intro pa_Arr_fill_6 (And.intro pa_Arr_fill_7 (And.intro pa_Arr_fill_8 (And.intro pa_Arr_fill_9 (And.intro pa_Arr_fill_10 (And.intro pa_Arr_fill_11 (And.intro pa_Arr_fill_12 (And.intro pa_Arr_fill_13 (pa_Arr_fill_14))))))))))))))
def pr_Mth_floorMod : List ma_E := [(0, 1, .iload_n 0, []),
  (1, 1, .iload_n 1, []),
  (2, 1, .irem, []),
  (3, 1, .istore_n 2, []),
  (4, 1, .iload_n 0, []),
  (5, 1, .iload_n 1, []),
  (6, 1, .ixor, []),
  (7, 3, .ifCond .ge (11), [14]),
  (10, 1, .iload_n 2, []),
  (11, 3, .ifCond .eq (7), [14]),
  (14, 1, .iload_n 2, []),
  (15, 1, .iload_n 1, []),
  (16, 1, .iadd, []),
  (17, 1, .ireturn, [0]),
  (18, 1, .iload_n 2, []),
  (19, 1, .ireturn, [0])]
theorem po_Mth_floorMod : ma_ok me_Mth_floorMod pr_Mth_floorMod := ma_ok_of (by decide +kernel)
theorem pa_Mth_floorMod_0 : pr_Mth_floorMod[0]? = some (0, 1, .iload_n 0, []) := rfl
theorem pa_Mth_floorMod_1 : pr_Mth_floorMod[1]? = some (1, 1, .iload_n 1, []) := rfl
theorem pa_Mth_floorMod_2 : pr_Mth_floorMod[2]? = some (2, 1, .irem, []) := rfl
theorem pa_Mth_floorMod_3 : pr_Mth_floorMod[3]? = some (3, 1, .istore_n 2, []) := rfl
theorem pa_Mth_floorMod_4 : pr_Mth_floorMod[4]? = some (4, 1, .iload_n 0, []) := rfl
theorem pa_Mth_floorMod_5 : pr_Mth_floorMod[5]? = some (5, 1, .iload_n 1, []) := rfl
theorem pa_Mth_floorMod_6 : pr_Mth_floorMod[6]? = some (6, 1, .ixor, []) := rfl
theorem pa_Mth_floorMod_7 : pr_Mth_floorMod[7]? = some (7, 3, .ifCond .ge (11), [14]) := rfl
theorem pa_Mth_floorMod_8 : pr_Mth_floorMod[8]? = some (10, 1, .iload_n 2, []) := rfl
theorem pa_Mth_floorMod_9 : pr_Mth_floorMod[9]? = some (11, 3, .ifCond .eq (7), [14]) := rfl
theorem pa_Mth_floorMod_10 : pr_Mth_floorMod[10]? = some (14, 1, .iload_n 2, []) := rfl
theorem pa_Mth_floorMod_11 : pr_Mth_floorMod[11]? = some (15, 1, .iload_n 1, []) := rfl
theorem pa_Mth_floorMod_12 : pr_Mth_floorMod[12]? = some (16, 1, .iadd, []) := rfl
theorem pa_Mth_floorMod_13 : pr_Mth_floorMod[13]? = some (17, 1, .ireturn, [0]) := rfl
theorem pa_Mth_floorMod_14 : pr_Mth_floorMod[14]? = some (18, 1, .iload_n 2, []) := rfl
theorem pa_Mth_floorMod_15 : pr_Mth_floorMod[15]? = some (19, 1, .ireturn, [0]) := rfl
def pa_Mth_floorMod := And.intro pa_Mth_floorMod_0 (And.intro pa_Mth_floorMod_1 (And.intro pa_Mth_floorMod_2 (And.intro pa_Mth_floorMod_3 (And.intro pa_Mth_floorMod_4 (And.intro pa_Mth_floorMod_5 (And.intro pa_Mth_floorMod_6 (And.intro pa_Mth_floorMod_7 (And.intro pa_Mth_floorMod_8 (And.intro pa_Mth_floorMod_9 (And.intro pa_Mth_floorMod_10 (And.intro pa_Mth_floorMod_11 (And.intro pa_Mth_floorMod_12 (And.intro pa_Mth_floorMod_13 (And.intro pa_Mth_floorMod_14 (pa_Mth_floorMod_15)))))))))))))))
def pr_Row_init : List ma_E := [(0, 1, .aload_n 0, []),
  (1, 3, .invokespecial 1, [0, 73, 62, 63]),
  (4, 1, .aload_n 0, []),
  (5, 1, .lconst 0, [0]),
  (6, 3, .putfield 7, [0, 0, 1, 0, 74]),
  (9, 1, .aload_n 0, []),
  (10, 1, .lconst 0, [0]),
  (11, 3, .putfield 13, [0, 1, 1, 0, 76]),
  (14, 1, .aload_n 0, []),
  (15, 1, .iconst 0, [0, 0]),
  (16, 3, .putfield 16, [0, 2, 0, 0, 78]),
  (19, 1, .return_, [])]
theorem po_Row_init : ma_ok me_Row_init pr_Row_init := ma_ok_of (by decide +kernel)
theorem pa_Row_init_0 : pr_Row_init[0]? = some (0, 1, .aload_n 0, []) := rfl
theorem pa_Row_init_1 : pr_Row_init[1]? = some (1, 3, .invokespecial 1, [0, 73, 62, 63]) := rfl
theorem pa_Row_init_2 : pr_Row_init[2]? = some (4, 1, .aload_n 0, []) := rfl
theorem pa_Row_init_3 : pr_Row_init[3]? = some (5, 1, .lconst 0, [0]) := rfl
theorem pa_Row_init_4 : pr_Row_init[4]? = some (6, 3, .putfield 7, [0, 0, 1, 0, 74]) := rfl
theorem pa_Row_init_5 : pr_Row_init[5]? = some (9, 1, .aload_n 0, []) := rfl
theorem pa_Row_init_6 : pr_Row_init[6]? = some (10, 1, .lconst 0, [0]) := rfl
theorem pa_Row_init_7 : pr_Row_init[7]? = some (11, 3, .putfield 13, [0, 1, 1, 0, 76]) := rfl
theorem pa_Row_init_8 : pr_Row_init[8]? = some (14, 1, .aload_n 0, []) := rfl
theorem pa_Row_init_9 : pr_Row_init[9]? = some (15, 1, .iconst 0, [0, 0]) := rfl
theorem pa_Row_init_10 : pr_Row_init[10]? = some (16, 3, .putfield 16, [0, 2, 0, 0, 78]) := rfl
theorem pa_Row_init_11 : pr_Row_init[11]? = some (19, 1, .return_, []) := rfl
def pa_Row_init := And.intro pa_Row_init_0 (And.intro pa_Row_init_1 (And.intro pa_Row_init_2 (And.intro pa_Row_init_3 (And.intro pa_Row_init_4 (And.intro pa_Row_init_5 (And.intro pa_Row_init_6 (And.intro pa_Row_init_7 (And.intro pa_Row_init_8 (And.intro pa_Row_init_9 (And.intro pa_Row_init_10 (pa_Row_init_11)))))))))))
def pr_Row_appendPart : List ma_E := [(0, 1, .iload_n 2, []),
  (1, 2, .istore 4, []),
  (3, 2, .iload 4, []),
  (5, 1, .iload_n 3, []),
  (6, 3, .if_icmp .ge (19), [12]),
  (9, 1, .aload_n 0, []),
  (10, 1, .aload_n 1, []),
  (11, 2, .iload 4, []),
  (13, 3, .invokevirtual 22, [2, 1, 0, 0, 418, 390, 391, 41]),
  (16, 3, .invokevirtual 26, [1, 1, 0, 0, 419, 367, 368, 41]),
  (19, 3, .iinc 4 (1), [1, 0]),
  (22, 3, .goto (-19), [2]),
  (25, 1, .return_, [])]
theorem po_Row_appendPart : ma_ok me_Row_appendPart pr_Row_appendPart := ma_ok_of (by decide +kernel)
theorem pa_Row_appendPart_0 : pr_Row_appendPart[0]? = some (0, 1, .iload_n 2, []) := rfl
theorem pa_Row_appendPart_1 : pr_Row_appendPart[1]? = some (1, 2, .istore 4, []) := rfl
theorem pa_Row_appendPart_2 : pr_Row_appendPart[2]? = some (3, 2, .iload 4, []) := rfl
theorem pa_Row_appendPart_3 : pr_Row_appendPart[3]? = some (5, 1, .iload_n 3, []) := rfl
theorem pa_Row_appendPart_4 : pr_Row_appendPart[4]? = some (6, 3, .if_icmp .ge (19), [12]) := rfl
theorem pa_Row_appendPart_5 : pr_Row_appendPart[5]? = some (9, 1, .aload_n 0, []) := rfl
theorem pa_Row_appendPart_6 : pr_Row_appendPart[6]? = some (10, 1, .aload_n 1, []) := rfl
theorem pa_Row_appendPart_7 : pr_Row_appendPart[7]? = some (11, 2, .iload 4, []) := rfl
theorem pa_Row_appendPart_8 : pr_Row_appendPart[8]? = some (13, 3, .invokevirtual 22, [2, 1, 0, 0, 418, 390, 391, 41]) := rfl
theorem pa_Row_appendPart_9 : pr_Row_appendPart[9]? = some (16, 3, .invokevirtual 26, [1, 1, 0, 0, 419, 367, 368, 41]) := rfl
theorem pa_Row_appendPart_10 : pr_Row_appendPart[10]? = some (19, 3, .iinc 4 (1), [1, 0]) := rfl
theorem pa_Row_appendPart_11 : pr_Row_appendPart[11]? = some (22, 3, .goto (-19), [2]) := rfl
theorem pa_Row_appendPart_12 : pr_Row_appendPart[12]? = some (25, 1, .return_, []) := rfl
def pa_Row_appendPart := And.intro pa_Row_appendPart_0 (And.intro pa_Row_appendPart_1 (And.intro pa_Row_appendPart_2 (And.intro pa_Row_appendPart_3 (And.intro pa_Row_appendPart_4 (And.intro pa_Row_appendPart_5 (And.intro pa_Row_appendPart_6 (And.intro pa_Row_appendPart_7 (And.intro pa_Row_appendPart_8 (And.intro pa_Row_appendPart_9 (And.intro pa_Row_appendPart_10 (And.intro pa_Row_appendPart_11 (pa_Row_appendPart_12))))))))))))
def pr_Fld_init : List ma_E := [(0, 1, .aload_n 0, []),
  (1, 3, .invokespecial 1, [0, 95, 62, 63]),
  (4, 1, .aload_n 0, []),
  (5, 3, .sipush 255, [255, 0]),
  (8, 2, .newarray .int, [89]),
  (10, 3, .putfield 9, [1, 0, 2, 0, 96]),
  (13, 1, .aload_n 0, []),
  (14, 3, .sipush 256, [256, 0]),
  (17, 2, .newarray .int, [89]),
  (19, 3, .putfield 13, [1, 1, 2, 0, 97]),
  (22, 1, .iconst 1, [1, 0]),
  (23, 1, .istore_n 1, []),
  (24, 1, .iconst 0, [0, 0]),
  (25, 1, .istore_n 2, []),
  (26, 1, .iload_n 2, []),
  (27, 3, .sipush 255, [255, 0]),
  (30, 3, .if_icmp .ge (44), [42]),
  (33, 1, .aload_n 0, []),
  (34, 3, .getfield 9, [1, 0, 2, 0, 96]),
  (37, 1, .iload_n 2, []),
  (38, 1, .iload_n 1, []),
  (39, 1, .iastore, []),
  (40, 1, .aload_n 0, []),
  (41, 3, .getfield 13, [1, 1, 2, 0, 97]),
  (44, 1, .iload_n 1, []),
  (45, 1, .iload_n 2, []),
  (46, 1, .iastore, []),
  (47, 1, .iload_n 1, []),
  (48, 3, .sipush 128, [128, 0]),
  (51, 3, .if_icmp .ge (9), [34]),
  (54, 1, .iconst 2, [2, 0]),
  (55, 1, .iload_n 1, []),
  (56, 1, .imul, []),
  (57, 3, .goto (10), [39]),
  (60, 1, .iconst 2, [2, 0]),
  (61, 1, .iload_n 1, []),
  (62, 1, .imul, []),
  (63, 3, .sipush 285, [285, 0]),
  (66, 1, .ixor, []),
  (67, 1, .istore_n 1, []),
  (68, 3, .iinc 2 (1), [1, 0]),
  (71, 3, .goto (-45), [14]),
  (74, 1, .return_, [])]
theorem po_Fld_init : ma_ok me_Fld_init pr_Fld_init := ma_ok_of (by decide +kernel)
theorem pa_Fld_init_0 : pr_Fld_init[0]? = some (0, 1, .aload_n 0, []) := rfl
theorem pa_Fld_init_1 : pr_Fld_init[1]? = some (1, 3, .invokespecial 1, [0, 95, 62, 63]) := rfl
theorem pa_Fld_init_2 : pr_Fld_init[2]? = some (4, 1, .aload_n 0, []) := rfl
theorem pa_Fld_init_3 : pr_Fld_init[3]? = some (5, 3, .sipush 255, [255, 0]) := rfl
theorem pa_Fld_init_4 : pr_Fld_init[4]? = some (8, 2, .newarray .int, [89]) := rfl
theorem pa_Fld_init_5 : pr_Fld_init[5]? = some (10, 3, .putfield 9, [1, 0, 2, 0, 96]) := rfl
theorem pa_Fld_init_6 : pr_Fld_init[6]? = some (13, 1, .aload_n 0, []) := rfl
theorem pa_Fld_init_7 : pr_Fld_init[7]? = some (14, 3, .sipush 256, [256, 0]) := rfl
theorem pa_Fld_init_8 : pr_Fld_init[8]? = some (17, 2, .newarray .int, [89]) := rfl
theorem pa_Fld_init_9 : pr_Fld_init[9]? = some (19, 3, .putfield 13, [1, 1, 2, 0, 97]) := rfl
theorem pa_Fld_init_10 : pr_Fld_init[10]? = some (22, 1, .iconst 1, [1, 0]) := rfl
theorem pa_Fld_init_11 : pr_Fld_init[11]? = some (23, 1, .istore_n 1, []) := rfl
theorem pa_Fld_init_12 : pr_Fld_init[12]? = some (24, 1, .iconst 0, [0, 0]) := rfl
theorem pa_Fld_init_13 : pr_Fld_init[13]? = some (25, 1, .istore_n 2, []) := rfl
theorem pa_Fld_init_14 : pr_Fld_init[14]? = some (26, 1, .iload_n 2, []) := rfl
theorem pa_Fld_init_15 : pr_Fld_init[15]? = some (27, 3, .sipush 255, [255, 0]) := rfl
theorem pa_Fld_init_16 : pr_Fld_init[16]? = some (30, 3, .if_icmp .ge (44), [42]) := rfl
theorem pa_Fld_init_17 : pr_Fld_init[17]? = some (33, 1, .aload_n 0, []) := rfl
theorem pa_Fld_init_18 : pr_Fld_init[18]? = some (34, 3, .getfield 9, [1, 0, 2, 0, 96]) := rfl
theorem pa_Fld_init_19 : pr_Fld_init[19]? = some (37, 1, .iload_n 2, []) := rfl
theorem pa_Fld_init_20 : pr_Fld_init[20]? = some (38, 1, .iload_n 1, []) := rfl
theorem pa_Fld_init_21 : pr_Fld_init[21]? = some (39, 1, .iastore, []) := rfl
theorem pa_Fld_init_22 : pr_Fld_init[22]? = some (40, 1, .aload_n 0, []) := rfl
theorem pa_Fld_init_23 : pr_Fld_init[23]? = some (41, 3, .getfield 13, [1, 1, 2, 0, 97]) := rfl
theorem pa_Fld_init_24 : pr_Fld_init[24]? = some (44, 1, .iload_n 1, []) := rfl
theorem pa_Fld_init_25 : pr_Fld_init[25]? = some (45, 1, .iload_n 2, []) := rfl
theorem pa_Fld_init_26 : pr_Fld_init[26]? = some (46, 1, .iastore, []) := rfl
theorem pa_Fld_init_27 : pr_Fld_init[27]? = some (47, 1, .iload_n 1, []) := rfl
theorem pa_Fld_init_28 : pr_Fld_init[28]? = some (48, 3, .sipush 128, [128, 0]) := rfl
theorem pa_Fld_init_29 : pr_Fld_init[29]? = some (51, 3, .if_icmp .ge (9), [34]) := rfl
theorem pa_Fld_init_30 : pr_Fld_init[30]? = some (54, 1, .iconst 2, [2, 0]) := rfl
theorem pa_Fld_init_31 : pr_Fld_init[31]? = some (55, 1, .iload_n 1, []) := rfl
theorem pa_Fld_init_32 : pr_Fld_init[32]? = some (56, 1, .imul, []) := rfl
theorem pa_Fld_init_33 : pr_Fld_init[33]? = some (57, 3, .goto (10), [39]) := rfl
theorem pa_Fld_init_34 : pr_Fld_init[34]? = some (60, 1, .iconst 2, [2, 0]) := rfl
theorem pa_Fld_init_35 : pr_Fld_init[35]? = some (61, 1, .iload_n 1, []) := rfl
theorem pa_Fld_init_36 : pr_Fld_init[36]? = some (62, 1, .imul, []) := rfl
theorem pa_Fld_init_37 : pr_Fld_init[37]? = some (63, 3, .sipush 285, [285, 0]) := rfl
theorem pa_Fld_init_38 : pr_Fld_init[38]? = some (66, 1, .ixor, []) := rfl
theorem pa_Fld_init_39 : pr_Fld_init[39]? = some (67, 1, .istore_n 1, []) := rfl
theorem pa_Fld_init_40 : pr_Fld_init[40]? = some (68, 3, .iinc 2 (1), [1, 0]) := rfl
theorem pa_Fld_init_41 : pr_Fld_init[41]? = some (71, 3, .goto (-45), [14]) := rfl
theorem pa_Fld_init_42 : pr_Fld_init[42]? = some (74, 1, .return_, []) := rfl
def pa_Fld_init := And.intro pa_Fld_init_0 (And.intro pa_Fld_init_1 (And.intro pa_Fld_init_2 (And.intro pa_Fld_init_3 (And.intro pa_Fld_init_4 (And.intro pa_Fld_init_5 (And.intro pa_Fld_init_6 (And.intro pa_Fld_init_7 (And.intro pa_Fld_init_8 (And.intro pa_Fld_init_9 (And.intro pa_Fld_init_10 (And.intro pa_Fld_init_11 (And.intro pa_Fld_init_12 (And.intro pa_Fld_init_13 (And.intro pa_Fld_init_14 (And.intro pa_Fld_init_15 (And.intro pa_Fld_init_16 (And.intro pa_Fld_init_17 (And.intro pa_Fld_init_18 (And.intro pa_Fld_init_19 (And.intro pa_Fld_init_20 (And.intro pa_Fld_init_21 (And.intro pa_Fld_init_22 (And.intro pa_Fld_init_23 (And.intro pa_Fld_init_24 (And.intro pa_Fld_init_25 (And.intro pa_Fld_init_26 (And.intro pa_Fld_init_27 (And.intro pa_Fld_init_28 (And.intro pa_Fld_init_29 (And.intro pa_Fld_init_30 (And.intro pa_Fld_init_31 (And.intro pa_Fld_init_32 (And.intro pa_Fld_init_33 (And.intro pa_Fld_init_34 (And.intro pa_Fld_init_35 (And.intro pa_Fld_init_36 (And.intro pa_Fld_init_37 (And.intro pa_Fld_init_38 (And.intro pa_Fld_init_39 (And.intro pa_Fld_init_40 (And.intro pa_Fld_init_41 (pa_Fld_init_42))))))))))))))))))))))))))))))))))))))))))
def pr_Bod_init : List ma_E := [(0, 1, .aload_n 0, []),
  (1, 3, .invokespecial 3, [0, 145, 62, 63]),
  (4, 1, .aload_n 0, []),
  (5, 2, .bipush 33, [33, 0]),
  (7, 2, .newarray .int, [89]),
  (9, 3, .putfield 9, [2, 0, 2, 0, 146]),
  (12, 1, .aload_n 0, []),
  (13, 1, .iconst 0, [0, 0]),
  (14, 3, .putfield 15, [2, 1, 0, 0, 148]),
  (17, 1, .aload_n 0, []),
  (18, 1, .iconst 0, [0, 0]),
  (19, 3, .putfield 19, [2, 2, 0, 0, 149]),
  (22, 1, .iconst 1, [1, 0]),
  (23, 1, .istore_n 1, []),
  (24, 1, .iload_n 1, []),
  (25, 2, .bipush 33, [33, 0]),
  (27, 3, .if_icmp .ge (19), [25]),
  (30, 1, .aload_n 0, []),
  (31, 1, .dup, []),
  (32, 3, .getfield 19, [2, 2, 0, 0, 149]),
  (35, 1, .iload_n 1, []),
  (36, 1, .iadd, []),
  (37, 3, .putfield 19, [2, 2, 0, 0, 149]),
  (40, 3, .iinc 1 (1), [1, 0]),
  (43, 3, .goto (-19), [14]),
  (46, 1, .return_, [])]
theorem po_Bod_init : ma_ok me_Bod_init pr_Bod_init := ma_ok_of (by decide +kernel)
theorem pa_Bod_init_0 : pr_Bod_init[0]? = some (0, 1, .aload_n 0, []) := rfl
theorem pa_Bod_init_1 : pr_Bod_init[1]? = some (1, 3, .invokespecial 3, [0, 145, 62, 63]) := rfl
theorem pa_Bod_init_2 : pr_Bod_init[2]? = some (4, 1, .aload_n 0, []) := rfl
theorem pa_Bod_init_3 : pr_Bod_init[3]? = some (5, 2, .bipush 33, [33, 0]) := rfl
theorem pa_Bod_init_4 : pr_Bod_init[4]? = some (7, 2, .newarray .int, [89]) := rfl
theorem pa_Bod_init_5 : pr_Bod_init[5]? = some (9, 3, .putfield 9, [2, 0, 2, 0, 146]) := rfl
theorem pa_Bod_init_6 : pr_Bod_init[6]? = some (12, 1, .aload_n 0, []) := rfl
theorem pa_Bod_init_7 : pr_Bod_init[7]? = some (13, 1, .iconst 0, [0, 0]) := rfl
theorem pa_Bod_init_8 : pr_Bod_init[8]? = some (14, 3, .putfield 15, [2, 1, 0, 0, 148]) := rfl
theorem pa_Bod_init_9 : pr_Bod_init[9]? = some (17, 1, .aload_n 0, []) := rfl
theorem pa_Bod_init_10 : pr_Bod_init[10]? = some (18, 1, .iconst 0, [0, 0]) := rfl
theorem pa_Bod_init_11 : pr_Bod_init[11]? = some (19, 3, .putfield 19, [2, 2, 0, 0, 149]) := rfl
theorem pa_Bod_init_12 : pr_Bod_init[12]? = some (22, 1, .iconst 1, [1, 0]) := rfl
theorem pa_Bod_init_13 : pr_Bod_init[13]? = some (23, 1, .istore_n 1, []) := rfl
theorem pa_Bod_init_14 : pr_Bod_init[14]? = some (24, 1, .iload_n 1, []) := rfl
theorem pa_Bod_init_15 : pr_Bod_init[15]? = some (25, 2, .bipush 33, [33, 0]) := rfl
theorem pa_Bod_init_16 : pr_Bod_init[16]? = some (27, 3, .if_icmp .ge (19), [25]) := rfl
theorem pa_Bod_init_17 : pr_Bod_init[17]? = some (30, 1, .aload_n 0, []) := rfl
theorem pa_Bod_init_18 : pr_Bod_init[18]? = some (31, 1, .dup, []) := rfl
theorem pa_Bod_init_19 : pr_Bod_init[19]? = some (32, 3, .getfield 19, [2, 2, 0, 0, 149]) := rfl
theorem pa_Bod_init_20 : pr_Bod_init[20]? = some (35, 1, .iload_n 1, []) := rfl
theorem pa_Bod_init_21 : pr_Bod_init[21]? = some (36, 1, .iadd, []) := rfl
theorem pa_Bod_init_22 : pr_Bod_init[22]? = some (37, 3, .putfield 19, [2, 2, 0, 0, 149]) := rfl
theorem pa_Bod_init_23 : pr_Bod_init[23]? = some (40, 3, .iinc 1 (1), [1, 0]) := rfl
theorem pa_Bod_init_24 : pr_Bod_init[24]? = some (43, 3, .goto (-19), [14]) := rfl
theorem pa_Bod_init_25 : pr_Bod_init[25]? = some (46, 1, .return_, []) := rfl
def pa_Bod_init := And.intro pa_Bod_init_0 (And.intro pa_Bod_init_1 (And.intro pa_Bod_init_2 (And.intro pa_Bod_init_3 (And.intro pa_Bod_init_4 (And.intro pa_Bod_init_5 (And.intro pa_Bod_init_6 (And.intro pa_Bod_init_7 (And.intro pa_Bod_init_8 (And.intro pa_Bod_init_9 (And.intro pa_Bod_init_10 (And.intro pa_Bod_init_11 (And.intro pa_Bod_init_12 (And.intro pa_Bod_init_13 (And.intro pa_Bod_init_14 (And.intro pa_Bod_init_15 (And.intro pa_Bod_init_16 (And.intro pa_Bod_init_17 (And.intro pa_Bod_init_18 (And.intro pa_Bod_init_19 (And.intro pa_Bod_init_20 (And.intro pa_Bod_init_21 (And.intro pa_Bod_init_22 (And.intro pa_Bod_init_23 (And.intro pa_Bod_init_24 (pa_Bod_init_25)))))))))))))))))))))))))
def pr_Bod_put : List ma_E := [(0, 1, .aload_n 0, []),
  (1, 1, .dup, []),
  (2, 3, .getfield 19, [2, 2, 0, 0, 149]),
  (5, 1, .aload_n 0, []),
  (6, 1, .iload_n 1, []),
  (7, 3, .invokevirtual 22, [8, 1, 2, 0, 358, 360, 14, 44]),
  (10, 1, .aload_n 0, []),
  (11, 1, .iload_n 1, []),
  (12, 1, .iconst 1, [1, 0]),
  (13, 1, .iadd, []),
  (14, 3, .invokevirtual 22, [8, 1, 2, 0, 358, 360, 14, 44]),
  (17, 1, .iadd, []),
  (18, 1, .isub, []),
  (19, 3, .putfield 19, [2, 2, 0, 0, 149]),
  (22, 1, .aload_n 0, []),
  (23, 1, .dup, []),
  (24, 3, .getfield 15, [2, 1, 0, 0, 148]),
  (27, 1, .aload_n 0, []),
  (28, 3, .getfield 9, [2, 0, 2, 0, 146]),
  (31, 1, .iload_n 1, []),
  (32, 1, .iaload, []),
  (33, 1, .isub, []),
  (34, 3, .putfield 15, [2, 1, 0, 0, 148]),
  (37, 1, .aload_n 0, []),
  (38, 3, .getfield 9, [2, 0, 2, 0, 146]),
  (41, 1, .iload_n 1, []),
  (42, 1, .iload_n 2, []),
  (43, 1, .iastore, []),
  (44, 1, .aload_n 0, []),
  (45, 1, .dup, []),
  (46, 3, .getfield 15, [2, 1, 0, 0, 148]),
  (49, 1, .iload_n 2, []),
  (50, 1, .iadd, []),
  (51, 3, .putfield 15, [2, 1, 0, 0, 148]),
  (54, 1, .aload_n 0, []),
  (55, 1, .dup, []),
  (56, 3, .getfield 19, [2, 2, 0, 0, 149]),
  (59, 1, .aload_n 0, []),
  (60, 1, .iload_n 1, []),
  (61, 3, .invokevirtual 22, [8, 1, 2, 0, 358, 360, 14, 44]),
  (64, 1, .aload_n 0, []),
  (65, 1, .iload_n 1, []),
  (66, 1, .iconst 1, [1, 0]),
  (67, 1, .iadd, []),
  (68, 3, .invokevirtual 22, [8, 1, 2, 0, 358, 360, 14, 44]),
  (71, 1, .iadd, []),
  (72, 1, .iadd, []),
  (73, 3, .putfield 19, [2, 2, 0, 0, 149]),
  (76, 1, .return_, [])]
theorem po_Bod_put : ma_ok me_Bod_put pr_Bod_put := ma_ok_of (by decide +kernel)
theorem pa_Bod_put_0 : pr_Bod_put[0]? = some (0, 1, .aload_n 0, []) := rfl
theorem pa_Bod_put_1 : pr_Bod_put[1]? = some (1, 1, .dup, []) := rfl
theorem pa_Bod_put_2 : pr_Bod_put[2]? = some (2, 3, .getfield 19, [2, 2, 0, 0, 149]) := rfl
theorem pa_Bod_put_3 : pr_Bod_put[3]? = some (5, 1, .aload_n 0, []) := rfl
theorem pa_Bod_put_4 : pr_Bod_put[4]? = some (6, 1, .iload_n 1, []) := rfl
theorem pa_Bod_put_5 : pr_Bod_put[5]? = some (7, 3, .invokevirtual 22, [8, 1, 2, 0, 358, 360, 14, 44]) := rfl
theorem pa_Bod_put_6 : pr_Bod_put[6]? = some (10, 1, .aload_n 0, []) := rfl
theorem pa_Bod_put_7 : pr_Bod_put[7]? = some (11, 1, .iload_n 1, []) := rfl
theorem pa_Bod_put_8 : pr_Bod_put[8]? = some (12, 1, .iconst 1, [1, 0]) := rfl
theorem pa_Bod_put_9 : pr_Bod_put[9]? = some (13, 1, .iadd, []) := rfl
theorem pa_Bod_put_10 : pr_Bod_put[10]? = some (14, 3, .invokevirtual 22, [8, 1, 2, 0, 358, 360, 14, 44]) := rfl
theorem pa_Bod_put_11 : pr_Bod_put[11]? = some (17, 1, .iadd, []) := rfl
theorem pa_Bod_put_12 : pr_Bod_put[12]? = some (18, 1, .isub, []) := rfl
theorem pa_Bod_put_13 : pr_Bod_put[13]? = some (19, 3, .putfield 19, [2, 2, 0, 0, 149]) := rfl
theorem pa_Bod_put_14 : pr_Bod_put[14]? = some (22, 1, .aload_n 0, []) := rfl
theorem pa_Bod_put_15 : pr_Bod_put[15]? = some (23, 1, .dup, []) := rfl
theorem pa_Bod_put_16 : pr_Bod_put[16]? = some (24, 3, .getfield 15, [2, 1, 0, 0, 148]) := rfl
theorem pa_Bod_put_17 : pr_Bod_put[17]? = some (27, 1, .aload_n 0, []) := rfl
theorem pa_Bod_put_18 : pr_Bod_put[18]? = some (28, 3, .getfield 9, [2, 0, 2, 0, 146]) := rfl
theorem pa_Bod_put_19 : pr_Bod_put[19]? = some (31, 1, .iload_n 1, []) := rfl
theorem pa_Bod_put_20 : pr_Bod_put[20]? = some (32, 1, .iaload, []) := rfl
theorem pa_Bod_put_21 : pr_Bod_put[21]? = some (33, 1, .isub, []) := rfl
theorem pa_Bod_put_22 : pr_Bod_put[22]? = some (34, 3, .putfield 15, [2, 1, 0, 0, 148]) := rfl
theorem pa_Bod_put_23 : pr_Bod_put[23]? = some (37, 1, .aload_n 0, []) := rfl
theorem pa_Bod_put_24 : pr_Bod_put[24]? = some (38, 3, .getfield 9, [2, 0, 2, 0, 146]) := rfl
theorem pa_Bod_put_25 : pr_Bod_put[25]? = some (41, 1, .iload_n 1, []) := rfl
theorem pa_Bod_put_26 : pr_Bod_put[26]? = some (42, 1, .iload_n 2, []) := rfl
theorem pa_Bod_put_27 : pr_Bod_put[27]? = some (43, 1, .iastore, []) := rfl
theorem pa_Bod_put_28 : pr_Bod_put[28]? = some (44, 1, .aload_n 0, []) := rfl
theorem pa_Bod_put_29 : pr_Bod_put[29]? = some (45, 1, .dup, []) := rfl
theorem pa_Bod_put_30 : pr_Bod_put[30]? = some (46, 3, .getfield 15, [2, 1, 0, 0, 148]) := rfl
theorem pa_Bod_put_31 : pr_Bod_put[31]? = some (49, 1, .iload_n 2, []) := rfl
theorem pa_Bod_put_32 : pr_Bod_put[32]? = some (50, 1, .iadd, []) := rfl
theorem pa_Bod_put_33 : pr_Bod_put[33]? = some (51, 3, .putfield 15, [2, 1, 0, 0, 148]) := rfl
theorem pa_Bod_put_34 : pr_Bod_put[34]? = some (54, 1, .aload_n 0, []) := rfl
theorem pa_Bod_put_35 : pr_Bod_put[35]? = some (55, 1, .dup, []) := rfl
theorem pa_Bod_put_36 : pr_Bod_put[36]? = some (56, 3, .getfield 19, [2, 2, 0, 0, 149]) := rfl
theorem pa_Bod_put_37 : pr_Bod_put[37]? = some (59, 1, .aload_n 0, []) := rfl
theorem pa_Bod_put_38 : pr_Bod_put[38]? = some (60, 1, .iload_n 1, []) := rfl
theorem pa_Bod_put_39 : pr_Bod_put[39]? = some (61, 3, .invokevirtual 22, [8, 1, 2, 0, 358, 360, 14, 44]) := rfl
theorem pa_Bod_put_40 : pr_Bod_put[40]? = some (64, 1, .aload_n 0, []) := rfl
theorem pa_Bod_put_41 : pr_Bod_put[41]? = some (65, 1, .iload_n 1, []) := rfl
theorem pa_Bod_put_42 : pr_Bod_put[42]? = some (66, 1, .iconst 1, [1, 0]) := rfl
theorem pa_Bod_put_43 : pr_Bod_put[43]? = some (67, 1, .iadd, []) := rfl
theorem pa_Bod_put_44 : pr_Bod_put[44]? = some (68, 3, .invokevirtual 22, [8, 1, 2, 0, 358, 360, 14, 44]) := rfl
theorem pa_Bod_put_45 : pr_Bod_put[45]? = some (71, 1, .iadd, []) := rfl
theorem pa_Bod_put_46 : pr_Bod_put[46]? = some (72, 1, .iadd, []) := rfl
theorem pa_Bod_put_47 : pr_Bod_put[47]? = some (73, 3, .putfield 19, [2, 2, 0, 0, 149]) := rfl
theorem pa_Bod_put_48 : pr_Bod_put[48]? = some (76, 1, .return_, []) := rfl
def pa_Bod_put := And.intro pa_Bod_put_0 (And.intro pa_Bod_put_1 (And.intro pa_Bod_put_2 (And.intro pa_Bod_put_3 (And.intro pa_Bod_put_4 (And.intro pa_Bod_put_5 (And.intro pa_Bod_put_6 (And.intro pa_Bod_put_7 (And.intro pa_Bod_put_8 (And.intro pa_Bod_put_9 (And.intro pa_Bod_put_10 (And.intro pa_Bod_put_11 (And.intro pa_Bod_put_12 (And.intro pa_Bod_put_13 (And.intro pa_Bod_put_14 (And.intro pa_Bod_put_15 (And.intro pa_Bod_put_16 (And.intro pa_Bod_put_17 (And.intro pa_Bod_put_18 (And.intro pa_Bod_put_19 (And.intro pa_Bod_put_20 (And.intro pa_Bod_put_21 (And.intro pa_Bod_put_22 (And.intro pa_Bod_put_23 (And.intro pa_Bod_put_24 (And.intro pa_Bod_put_25 (And.intro pa_Bod_put_26 (And.intro pa_Bod_put_27 (And.intro pa_Bod_put_28 (And.intro pa_Bod_put_29 (And.intro pa_Bod_put_30 (And.intro pa_Bod_put_31 (And.intro pa_Bod_put_32 (And.intro pa_Bod_put_33 (And.intro pa_Bod_put_34 (And.intro pa_Bod_put_35 (And.intro pa_Bod_put_36 (And.intro pa_Bod_put_37 (And.intro pa_Bod_put_38 (And.intro pa_Bod_put_39 (And.intro pa_Bod_put_40 (And.intro pa_Bod_put_41 (And.intro pa_Bod_put_42 (And.intro pa_Bod_put_43 (And.intro pa_Bod_put_44 (And.intro pa_Bod_put_45 (And.intro pa_Bod_put_46 (And.intro pa_Bod_put_47 (pa_Bod_put_48))))))))))))))))))))))))))))))))))))))))))))))))
