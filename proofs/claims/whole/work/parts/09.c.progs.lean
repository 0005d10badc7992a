/-! the methods as tables -/
def pr_Bod_spelled : List ma_E := [(0, 1, .iconst 0, [0, 0]),
  (1, 1, .istore_n 2, []),
  (2, 1, .iload_n 1, []),
  (3, 2, .bipush 11, [11, 0]),
  (5, 1, .imul, []),
  (6, 1, .istore_n 3, []),
  (7, 1, .iload_n 3, []),
  (8, 2, .istore 4, []),
  (10, 2, .iload 4, []),
  (12, 1, .iload_n 3, []),
  (13, 2, .bipush 11, [11, 0]),
  (15, 1, .iadd, []),
  (16, 3, .if_icmp .ge (56), [42]),
  (19, 1, .aload_n 0, []),
  (20, 3, .getfield 9, [2, 0, 2, 0, 146]),
  (23, 2, .iload 4, []),
  (25, 1, .iaload, []),
  (26, 2, .istore 5, []),
  (28, 2, .iload 5, []),
  (30, 1, .aload_n 0, []),
  (31, 2, .iload 4, []),
  (33, 3, .invokevirtual 27, [7, 1, 2, 0, 350, 352, 13, 44]),
  (36, 3, .if_icmp .ne (5), [25]),
  (39, 1, .iconst (-1), [1, 1]),
  (40, 1, .ireturn, [0]),
  (41, 1, .iconst 3, [3, 0]),
  (42, 1, .iload_n 2, []),
  (43, 1, .imul, []),
  (44, 2, .iload 5, []),
  (46, 1, .aload_n 0, []),
  (47, 2, .iload 4, []),
  (49, 3, .invokevirtual 27, [7, 1, 2, 0, 350, 352, 13, 44]),
  (52, 3, .if_icmp .ge (8), [35]),
  (55, 2, .iload 5, []),
  (57, 3, .goto (7), [38]),
  (60, 2, .iload 5, []),
  (62, 1, .iconst 1, [1, 0]),
  (63, 1, .isub, []),
  (64, 1, .iadd, []),
  (65, 1, .istore_n 2, []),
  (66, 3, .iinc 4 (1), [1, 0]),
  (69, 3, .goto (-59), [8]),
  (72, 1, .iload_n 2, []),
  (73, 2, .ldc 34, [65536, 0, 490]),
  (75, 3, .if_icmp .ge (7), [47]),
  (78, 1, .iload_n 2, []),
  (79, 3, .goto (4), [48]),
  (82, 1, .iconst (-1), [1, 1]),
  (83, 1, .ireturn, [0])]
theorem po_Bod_spelled : ma_ok me_Bod_spelled pr_Bod_spelled := ma_ok_of (by decide +kernel)
theorem pa_Bod_spelled_0 : pr_Bod_spelled[0]? = some (0, 1, .iconst 0, [0, 0]) := rfl
theorem pa_Bod_spelled_1 : pr_Bod_spelled[1]? = some (1, 1, .istore_n 2, []) := rfl
theorem pa_Bod_spelled_2 : pr_Bod_spelled[2]? = some (2, 1, .iload_n 1, []) := rfl
theorem pa_Bod_spelled_3 : pr_Bod_spelled[3]? = some (3, 2, .bipush 11, [11, 0]) := rfl
theorem pa_Bod_spelled_4 : pr_Bod_spelled[4]? = some (5, 1, .imul, []) := rfl
theorem pa_Bod_spelled_5 : pr_Bod_spelled[5]? = some (6, 1, .istore_n 3, []) := rfl
theorem pa_Bod_spelled_6 : pr_Bod_spelled[6]? = some (7, 1, .iload_n 3, []) := rfl
theorem pa_Bod_spelled_7 : pr_Bod_spelled[7]? = some (8, 2, .istore 4, []) := rfl
theorem pa_Bod_spelled_8 : pr_Bod_spelled[8]? = some (10, 2, .iload 4, []) := rfl
theorem pa_Bod_spelled_9 : pr_Bod_spelled[9]? = some (12, 1, .iload_n 3, []) := rfl
theorem pa_Bod_spelled_10 : pr_Bod_spelled[10]? = some (13, 2, .bipush 11, [11, 0]) := rfl
theorem pa_Bod_spelled_11 : pr_Bod_spelled[11]? = some (15, 1, .iadd, []) := rfl
theorem pa_Bod_spelled_12 : pr_Bod_spelled[12]? = some (16, 3, .if_icmp .ge (56), [42]) := rfl
theorem pa_Bod_spelled_13 : pr_Bod_spelled[13]? = some (19, 1, .aload_n 0, []) := rfl
theorem pa_Bod_spelled_14 : pr_Bod_spelled[14]? = some (20, 3, .getfield 9, [2, 0, 2, 0, 146]) := rfl
theorem pa_Bod_spelled_15 : pr_Bod_spelled[15]? = some (23, 2, .iload 4, []) := rfl
theorem pa_Bod_spelled_16 : pr_Bod_spelled[16]? = some (25, 1, .iaload, []) := rfl
theorem pa_Bod_spelled_17 : pr_Bod_spelled[17]? = some (26, 2, .istore 5, []) := rfl
theorem pa_Bod_spelled_18 : pr_Bod_spelled[18]? = some (28, 2, .iload 5, []) := rfl
theorem pa_Bod_spelled_19 : pr_Bod_spelled[19]? = some (30, 1, .aload_n 0, []) := rfl
theorem pa_Bod_spelled_20 : pr_Bod_spelled[20]? = some (31, 2, .iload 4, []) := rfl
theorem pa_Bod_spelled_21 : pr_Bod_spelled[21]? = some (33, 3, .invokevirtual 27, [7, 1, 2, 0, 350, 352, 13, 44]) := rfl
theorem pa_Bod_spelled_22 : pr_Bod_spelled[22]? = some (36, 3, .if_icmp .ne (5), [25]) := rfl
theorem pa_Bod_spelled_23 : pr_Bod_spelled[23]? = some (39, 1, .iconst (-1), [1, 1]) := rfl
theorem pa_Bod_spelled_24 : pr_Bod_spelled[24]? = some (40, 1, .ireturn, [0]) := rfl
theorem pa_Bod_spelled_25 : pr_Bod_spelled[25]? = some (41, 1, .iconst 3, [3, 0]) := rfl
theorem pa_Bod_spelled_26 : pr_Bod_spelled[26]? = some (42, 1, .iload_n 2, []) := rfl
theorem pa_Bod_spelled_27 : pr_Bod_spelled[27]? = some (43, 1, .imul, []) := rfl
theorem pa_Bod_spelled_28 : pr_Bod_spelled[28]? = some (44, 2, .iload 5, []) := rfl
theorem pa_Bod_spelled_29 : pr_Bod_spelled[29]? = some (46, 1, .aload_n 0, []) := rfl
theorem pa_Bod_spelled_30 : pr_Bod_spelled[30]? = some (47, 2, .iload 4, []) := rfl
theorem pa_Bod_spelled_31 : pr_Bod_spelled[31]? = some (49, 3, .invokevirtual 27, [7, 1, 2, 0, 350, 352, 13, 44]) := rfl
theorem pa_Bod_spelled_32 : pr_Bod_spelled[32]? = some (52, 3, .if_icmp .ge (8), [35]) := rfl
theorem pa_Bod_spelled_33 : pr_Bod_spelled[33]? = some (55, 2, .iload 5, []) := rfl
theorem pa_Bod_spelled_34 : pr_Bod_spelled[34]? = some (57, 3, .goto (7), [38]) := rfl
theorem pa_Bod_spelled_35 : pr_Bod_spelled[35]? = some (60, 2, .iload 5, []) := rfl
theorem pa_Bod_spelled_36 : pr_Bod_spelled[36]? = some (62, 1, .iconst 1, [1, 0]) := rfl
theorem pa_Bod_spelled_37 : pr_Bod_spelled[37]? = some (63, 1, .isub, []) := rfl
theorem pa_Bod_spelled_38 : pr_Bod_spelled[38]? = some (64, 1, .iadd, []) := rfl
theorem pa_Bod_spelled_39 : pr_Bod_spelled[39]? = some (65, 1, .istore_n 2, []) := rfl
theorem pa_Bod_spelled_40 : pr_Bod_spelled[40]? = some (66, 3, .iinc 4 (1), [1, 0]) := rfl
theorem pa_Bod_spelled_41 : pr_Bod_spelled[41]? = some (69, 3, .goto (-59), [8]) := rfl
theorem pa_Bod_spelled_42 : pr_Bod_spelled[42]? = some (72, 1, .iload_n 2, []) := rfl
theorem pa_Bod_spelled_43 : pr_Bod_spelled[43]? = some (73, 2, .ldc 34, [65536, 0, 490]) := rfl
theorem pa_Bod_spelled_44 : pr_Bod_spelled[44]? = some (75, 3, .if_icmp .ge (7), [47]) := rfl
theorem pa_Bod_spelled_45 : pr_Bod_spelled[45]? = some (78, 1, .iload_n 2, []) := rfl
theorem pa_Bod_spelled_46 : pr_Bod_spelled[46]? = some (79, 3, .goto (4), [48]) := rfl
theorem pa_Bod_spelled_47 : pr_Bod_spelled[47]? = some (82, 1, .iconst (-1), [1, 1]) := rfl
theorem pa_Bod_spelled_48 : pr_Bod_spelled[48]? = some (83, 1, .ireturn, [0]) := rfl
def pa_Bod_spelled := And.intro pa_Bod_spelled_0 (And.intro pa_Bod_spelled_1 (And.intro pa_Bod_spelled_2 (And.intro pa_Bod_spelled_3 (And.intro pa_Bod_spelled_4 (And.intro pa_Bod_spelled_5 (And.intro pa_Bod_spelled_6 (And.intro pa_Bod_spelled_7 (And.intro pa_Bod_spelled_8 (And.intro pa_Bod_spelled_9 (And.intro pa_Bod_spelled_10 (And.intro pa_Bod_spelled_11 (And.intro pa_Bod_spelled_12 (And.intro pa_Bod_spelled_13 (And.intro pa_Bod_spelled_14 (And.intro pa_Bod_spelled_15 (And.intro pa_Bod_spelled_16 (And.intro pa_Bod_spelled_17 (And.intro pa_Bod_spelled_18 (And.intro pa_Bod_spelled_19 (And.intro pa_Bod_spelled_20 (And.intro pa_Bod_spelled_21 (And.intro pa_Bod_spelled_22 (And.intro pa_Bod_spelled_23 (And.intro pa_Bod_spelled_24 (And.intro pa_Bod_spelled_25 (And.intro pa_Bod_spelled_26 (And.intro pa_Bod_spelled_27 (And.intro pa_Bod_spelled_28 (And.intro pa_Bod_spelled_29 (And.intro pa_Bod_spelled_30 (And.intro pa_Bod_spelled_31 (And.intro pa_Bod_spelled_32 (And.intro pa_Bod_spelled_33 (And.intro pa_Bod_spelled_34 (And.intro pa_Bod_spelled_35 (And.intro pa_Bod_spelled_36 (And.intro pa_Bod_spelled_37 (And.intro pa_Bod_spelled_38 (And.intro pa_Bod_spelled_39 (And.intro pa_Bod_spelled_40 (And.intro pa_Bod_spelled_41 (And.intro pa_Bod_spelled_42 (And.intro pa_Bod_spelled_43 (And.intro pa_Bod_spelled_44 (And.intro pa_Bod_spelled_45 (And.intro pa_Bod_spelled_46 (And.intro pa_Bod_spelled_47 (pa_Bod_spelled_48))))))))))))))))))))))))))))))))))))))))))))))))
def pr_Rdr_isDue : List ma_E := [(0, 1, .aload_n 0, []),
  (1, 3, .getfield 12, [3, 0, 2, 0, 171]),
  (4, 3, .invokevirtual 51, [10, 0, 2, 0, 476, 375, 376, 44]),
  (7, 1, .aload_n 0, []),
  (8, 3, .getfield 18, [3, 1, 0, 0, 173]),
  (11, 3, .if_icmp .ne (21), [14]),
  (14, 1, .aload_n 0, []),
  (15, 3, .getfield 12, [3, 0, 2, 0, 171]),
  (18, 3, .invokevirtual 55, [9, 0, 2, 0, 477, 371, 372, 44]),
  (21, 1, .aload_n 0, []),
  (22, 3, .getfield 22, [3, 2, 0, 0, 174]),
  (25, 3, .if_icmp .ne (7), [14]),
  (28, 1, .iconst 1, [1, 0]),
  (29, 3, .goto (4), [15]),
  (32, 1, .iconst 0, [0, 0]),
  (33, 1, .ireturn, [1])]
theorem po_Rdr_isDue : ma_ok me_Rdr_isDue pr_Rdr_isDue := ma_ok_of (by decide +kernel)
theorem pa_Rdr_isDue_0 : pr_Rdr_isDue[0]? = some (0, 1, .aload_n 0, []) := rfl
theorem pa_Rdr_isDue_1 : pr_Rdr_isDue[1]? = some (1, 3, .getfield 12, [3, 0, 2, 0, 171]) := rfl
theorem pa_Rdr_isDue_2 : pr_Rdr_isDue[2]? = some (4, 3, .invokevirtual 51, [10, 0, 2, 0, 476, 375, 376, 44]) := rfl
theorem pa_Rdr_isDue_3 : pr_Rdr_isDue[3]? = some (7, 1, .aload_n 0, []) := rfl
theorem pa_Rdr_isDue_4 : pr_Rdr_isDue[4]? = some (8, 3, .getfield 18, [3, 1, 0, 0, 173]) := rfl
theorem pa_Rdr_isDue_5 : pr_Rdr_isDue[5]? = some (11, 3, .if_icmp .ne (21), [14]) := rfl
theorem pa_Rdr_isDue_6 : pr_Rdr_isDue[6]? = some (14, 1, .aload_n 0, []) := rfl
theorem pa_Rdr_isDue_7 : pr_Rdr_isDue[7]? = some (15, 3, .getfield 12, [3, 0, 2, 0, 171]) := rfl
theorem pa_Rdr_isDue_8 : pr_Rdr_isDue[8]? = some (18, 3, .invokevirtual 55, [9, 0, 2, 0, 477, 371, 372, 44]) := rfl
theorem pa_Rdr_isDue_9 : pr_Rdr_isDue[9]? = some (21, 1, .aload_n 0, []) := rfl
theorem pa_Rdr_isDue_10 : pr_Rdr_isDue[10]? = some (22, 3, .getfield 22, [3, 2, 0, 0, 174]) := rfl
theorem pa_Rdr_isDue_11 : pr_Rdr_isDue[11]? = some (25, 3, .if_icmp .ne (7), [14]) := rfl
theorem pa_Rdr_isDue_12 : pr_Rdr_isDue[12]? = some (28, 1, .iconst 1, [1, 0]) := rfl
theorem pa_Rdr_isDue_13 : pr_Rdr_isDue[13]? = some (29, 3, .goto (4), [15]) := rfl
theorem pa_Rdr_isDue_14 : pr_Rdr_isDue[14]? = some (32, 1, .iconst 0, [0, 0]) := rfl
theorem pa_Rdr_isDue_15 : pr_Rdr_isDue[15]? = some (33, 1, .ireturn, [1]) := rfl
def pa_Rdr_isDue := And.intro pa_Rdr_isDue_0 (And.intro pa_Rdr_isDue_1 (And.intro pa_Rdr_isDue_2 (And.intro pa_Rdr_isDue_3 (And.intro pa_Rdr_isDue_4 (And.intro pa_Rdr_isDue_5 (And.intro pa_Rdr_isDue_6 (And.intro pa_Rdr_isDue_7 (And.intro pa_Rdr_isDue_8 (And.intro pa_Rdr_isDue_9 (And.intro pa_Rdr_isDue_10 (And.intro pa_Rdr_isDue_11 (And.intro pa_Rdr_isDue_12 (And.intro pa_Rdr_isDue_13 (And.intro pa_Rdr_isDue_14 (pa_Rdr_isDue_15)))))))))))))))
def pr_Rdr_majority : List ma_E := [(0, 1, .aload_n 0, []),
  (1, 1, .iload_n 1, []),
  (2, 3, .invokevirtual 47, [2, 1, 0, 0, 463, 390, 391, 41]),
  (5, 1, .istore_n 2, []),
  (6, 1, .aload_n 0, []),
  (7, 1, .iload_n 1, []),
  (8, 1, .iconst 1, [1, 0]),
  (9, 1, .iadd, []),
  (10, 3, .invokevirtual 47, [2, 1, 0, 0, 463, 390, 391, 41]),
  (13, 1, .istore_n 3, []),
  (14, 1, .aload_n 0, []),
  (15, 1, .iload_n 1, []),
  (16, 1, .iconst 2, [2, 0]),
  (17, 1, .iadd, []),
  (18, 3, .invokevirtual 47, [2, 1, 0, 0, 463, 390, 391, 41]),
  (21, 2, .istore 4, []),
  (23, 1, .iload_n 2, []),
  (24, 1, .iload_n 3, []),
  (25, 3, .if_icmp .eq (9), [22]),
  (28, 1, .iload_n 2, []),
  (29, 2, .iload 4, []),
  (31, 3, .if_icmp .ne (5), [24]),
  (34, 1, .iload_n 2, []),
  (35, 1, .ireturn, [0]),
  (36, 1, .iload_n 3, []),
  (37, 2, .iload 4, []),
  (39, 3, .if_icmp .ne (7), [29]),
  (42, 1, .iload_n 3, []),
  (43, 3, .goto (4), [30]),
  (46, 1, .iconst (-1), [1, 1]),
  (47, 1, .ireturn, [0])]
theorem po_Rdr_majority : ma_ok me_Rdr_majority pr_Rdr_majority := ma_ok_of (by decide +kernel)
theorem pa_Rdr_majority_0 : pr_Rdr_majority[0]? = some (0, 1, .aload_n 0, []) := rfl
theorem pa_Rdr_majority_1 : pr_Rdr_majority[1]? = some (1, 1, .iload_n 1, []) := rfl
theorem pa_Rdr_majority_2 : pr_Rdr_majority[2]? = some (2, 3, .invokevirtual 47, [2, 1, 0, 0, 463, 390, 391, 41]) := rfl
theorem pa_Rdr_majority_3 : pr_Rdr_majority[3]? = some (5, 1, .istore_n 2, []) := rfl
theorem pa_Rdr_majority_4 : pr_Rdr_majority[4]? = some (6, 1, .aload_n 0, []) := rfl
theorem pa_Rdr_majority_5 : pr_Rdr_majority[5]? = some (7, 1, .iload_n 1, []) := rfl
theorem pa_Rdr_majority_6 : pr_Rdr_majority[6]? = some (8, 1, .iconst 1, [1, 0]) := rfl
theorem pa_Rdr_majority_7 : pr_Rdr_majority[7]? = some (9, 1, .iadd, []) := rfl
theorem pa_Rdr_majority_8 : pr_Rdr_majority[8]? = some (10, 3, .invokevirtual 47, [2, 1, 0, 0, 463, 390, 391, 41]) := rfl
theorem pa_Rdr_majority_9 : pr_Rdr_majority[9]? = some (13, 1, .istore_n 3, []) := rfl
theorem pa_Rdr_majority_10 : pr_Rdr_majority[10]? = some (14, 1, .aload_n 0, []) := rfl
theorem pa_Rdr_majority_11 : pr_Rdr_majority[11]? = some (15, 1, .iload_n 1, []) := rfl
theorem pa_Rdr_majority_12 : pr_Rdr_majority[12]? = some (16, 1, .iconst 2, [2, 0]) := rfl
theorem pa_Rdr_majority_13 : pr_Rdr_majority[13]? = some (17, 1, .iadd, []) := rfl
theorem pa_Rdr_majority_14 : pr_Rdr_majority[14]? = some (18, 3, .invokevirtual 47, [2, 1, 0, 0, 463, 390, 391, 41]) := rfl
theorem pa_Rdr_majority_15 : pr_Rdr_majority[15]? = some (21, 2, .istore 4, []) := rfl
theorem pa_Rdr_majority_16 : pr_Rdr_majority[16]? = some (23, 1, .iload_n 2, []) := rfl
theorem pa_Rdr_majority_17 : pr_Rdr_majority[17]? = some (24, 1, .iload_n 3, []) := rfl
theorem pa_Rdr_majority_18 : pr_Rdr_majority[18]? = some (25, 3, .if_icmp .eq (9), [22]) := rfl
theorem pa_Rdr_majority_19 : pr_Rdr_majority[19]? = some (28, 1, .iload_n 2, []) := rfl
theorem pa_Rdr_majority_20 : pr_Rdr_majority[20]? = some (29, 2, .iload 4, []) := rfl
theorem pa_Rdr_majority_21 : pr_Rdr_majority[21]? = some (31, 3, .if_icmp .ne (5), [24]) := rfl
theorem pa_Rdr_majority_22 : pr_Rdr_majority[22]? = some (34, 1, .iload_n 2, []) := rfl
theorem pa_Rdr_majority_23 : pr_Rdr_majority[23]? = some (35, 1, .ireturn, [0]) := rfl
theorem pa_Rdr_majority_24 : pr_Rdr_majority[24]? = some (36, 1, .iload_n 3, []) := rfl
theorem pa_Rdr_majority_25 : pr_Rdr_majority[25]? = some (37, 2, .iload 4, []) := rfl
theorem pa_Rdr_majority_26 : pr_Rdr_majority[26]? = some (39, 3, .if_icmp .ne (7), [29]) := rfl
theorem pa_Rdr_majority_27 : pr_Rdr_majority[27]? = some (42, 1, .iload_n 3, []) := rfl
theorem pa_Rdr_majority_28 : pr_Rdr_majority[28]? = some (43, 3, .goto (4), [30]) := rfl
theorem pa_Rdr_majority_29 : pr_Rdr_majority[29]? = some (46, 1, .iconst (-1), [1, 1]) := rfl
theorem pa_Rdr_majority_30 : pr_Rdr_majority[30]? = some (47, 1, .ireturn, [0]) := rfl
def pa_Rdr_majority := And.intro pa_Rdr_majority_0 (And.intro pa_Rdr_majority_1 (And.intro pa_Rdr_majority_2 (And.intro pa_Rdr_majority_3 (And.intro pa_Rdr_majority_4 (And.intro pa_Rdr_majority_5 (And.intro pa_Rdr_majority_6 (And.intro pa_Rdr_majority_7 (And.intro pa_Rdr_majority_8 (And.intro pa_Rdr_majority_9 (And.intro pa_Rdr_majority_10 (And.intro pa_Rdr_majority_11 (And.intro pa_Rdr_majority_12 (And.intro pa_Rdr_majority_13 (And.intro pa_Rdr_majority_14 (And.intro pa_Rdr_majority_15 (And.intro pa_Rdr_majority_16 (And.intro pa_Rdr_majority_17 (And.intro pa_Rdr_majority_18 (And.intro pa_Rdr_majority_19 (And.intro pa_Rdr_majority_20 (And.intro pa_Rdr_majority_21 (And.intro pa_Rdr_majority_22 (And.intro pa_Rdr_majority_23 (And.intro pa_Rdr_majority_24 (And.intro pa_Rdr_majority_25 (And.intro pa_Rdr_majority_26 (And.intro pa_Rdr_majority_27 (And.intro pa_Rdr_majority_28 (And.intro pa_Rdr_majority_29 (pa_Rdr_majority_30))))))))))))))))))))))))))))))
def pr_Col_init : List ma_E := [(0, 1, .aload_n 0, []),
  (1, 3, .invokespecial 3, [0, 108, 62, 63]),
  (4, 1, .aload_n 0, []),
  (5, 2, .bipush 16, [16, 0]),
  (7, 2, .newarray .int, [89]),
  (9, 3, .putfield 9, [4, 1, 2, 0, 110]),
  (12, 1, .aload_n 0, []),
  (13, 2, .bipush 16, [16, 0]),
  (15, 2, .newarray .boolean, [139]),
  (17, 3, .putfield 15, [4, 2, 2, 0, 113]),
  (20, 1, .aload_n 0, []),
  (21, 2, .bipush 6, [6, 0]),
  (23, 2, .newarray .int, [89]),
  (25, 3, .putfield 19, [4, 3, 2, 0, 114]),
  (28, 1, .aload_n 0, []),
  (29, 2, .bipush 6, [6, 0]),
  (31, 2, .newarray .int, [89]),
  (33, 3, .putfield 22, [4, 4, 2, 0, 115]),
  (36, 1, .aload_n 0, []),
  (37, 2, .bipush 7, [7, 0]),
  (39, 2, .newarray .int, [89]),
  (41, 3, .putfield 25, [4, 5, 2, 0, 116]),
  (44, 1, .aload_n 0, []),
  (45, 2, .bipush 7, [7, 0]),
  (47, 2, .newarray .int, [89]),
  (49, 3, .putfield 28, [4, 6, 2, 0, 117]),
  (52, 1, .aload_n 0, []),
  (53, 2, .bipush 7, [7, 0]),
  (55, 2, .newarray .int, [89]),
  (57, 3, .putfield 31, [4, 7, 2, 0, 118]),
  (60, 1, .aload_n 0, []),
  (61, 2, .bipush 7, [7, 0]),
  (63, 2, .newarray .int, [89]),
  (65, 3, .putfield 34, [4, 8, 2, 0, 119]),
  (68, 1, .aload_n 0, []),
  (69, 1, .aload_n 1, []),
  (70, 3, .putfield 37, [4, 0, 2, 0, 109]),
  (73, 1, .return_, [])]
theorem po_Col_init : ma_ok me_Col_init pr_Col_init := ma_ok_of (by decide +kernel)
theorem pa_Col_init_0 : pr_Col_init[0]? = some (0, 1, .aload_n 0, []) := rfl
theorem pa_Col_init_1 : pr_Col_init[1]? = some (1, 3, .invokespecial 3, [0, 108, 62, 63]) := rfl
theorem pa_Col_init_2 : pr_Col_init[2]? = some (4, 1, .aload_n 0, []) := rfl
theorem pa_Col_init_3 : pr_Col_init[3]? = some (5, 2, .bipush 16, [16, 0]) := rfl
theorem pa_Col_init_4 : pr_Col_init[4]? = some (7, 2, .newarray .int, [89]) := rfl
theorem pa_Col_init_5 : pr_Col_init[5]? = some (9, 3, .putfield 9, [4, 1, 2, 0, 110]) := rfl
theorem pa_Col_init_6 : pr_Col_init[6]? = some (12, 1, .aload_n 0, []) := rfl
theorem pa_Col_init_7 : pr_Col_init[7]? = some (13, 2, .bipush 16, [16, 0]) := rfl
theorem pa_Col_init_8 : pr_Col_init[8]? = some (15, 2, .newarray .boolean, [139]) := rfl
theorem pa_Col_init_9 : pr_Col_init[9]? = some (17, 3, .putfield 15, [4, 2, 2, 0, 113]) := rfl
theorem pa_Col_init_10 : pr_Col_init[10]? = some (20, 1, .aload_n 0, []) := rfl
theorem pa_Col_init_11 : pr_Col_init[11]? = some (21, 2, .bipush 6, [6, 0]) := rfl
theorem pa_Col_init_12 : pr_Col_init[12]? = some (23, 2, .newarray .int, [89]) := rfl
theorem pa_Col_init_13 : pr_Col_init[13]? = some (25, 3, .putfield 19, [4, 3, 2, 0, 114]) := rfl
theorem pa_Col_init_14 : pr_Col_init[14]? = some (28, 1, .aload_n 0, []) := rfl
theorem pa_Col_init_15 : pr_Col_init[15]? = some (29, 2, .bipush 6, [6, 0]) := rfl
theorem pa_Col_init_16 : pr_Col_init[16]? = some (31, 2, .newarray .int, [89]) := rfl
theorem pa_Col_init_17 : pr_Col_init[17]? = some (33, 3, .putfield 22, [4, 4, 2, 0, 115]) := rfl
theorem pa_Col_init_18 : pr_Col_init[18]? = some (36, 1, .aload_n 0, []) := rfl
theorem pa_Col_init_19 : pr_Col_init[19]? = some (37, 2, .bipush 7, [7, 0]) := rfl
theorem pa_Col_init_20 : pr_Col_init[20]? = some (39, 2, .newarray .int, [89]) := rfl
theorem pa_Col_init_21 : pr_Col_init[21]? = some (41, 3, .putfield 25, [4, 5, 2, 0, 116]) := rfl
theorem pa_Col_init_22 : pr_Col_init[22]? = some (44, 1, .aload_n 0, []) := rfl
theorem pa_Col_init_23 : pr_Col_init[23]? = some (45, 2, .bipush 7, [7, 0]) := rfl
theorem pa_Col_init_24 : pr_Col_init[24]? = some (47, 2, .newarray .int, [89]) := rfl
theorem pa_Col_init_25 : pr_Col_init[25]? = some (49, 3, .putfield 28, [4, 6, 2, 0, 117]) := rfl
theorem pa_Col_init_26 : pr_Col_init[26]? = some (52, 1, .aload_n 0, []) := rfl
theorem pa_Col_init_27 : pr_Col_init[27]? = some (53, 2, .bipush 7, [7, 0]) := rfl
theorem pa_Col_init_28 : pr_Col_init[28]? = some (55, 2, .newarray .int, [89]) := rfl
theorem pa_Col_init_29 : pr_Col_init[29]? = some (57, 3, .putfield 31, [4, 7, 2, 0, 118]) := rfl
theorem pa_Col_init_30 : pr_Col_init[30]? = some (60, 1, .aload_n 0, []) := rfl
theorem pa_Col_init_31 : pr_Col_init[31]? = some (61, 2, .bipush 7, [7, 0]) := rfl
theorem pa_Col_init_32 : pr_Col_init[32]? = some (63, 2, .newarray .int, [89]) := rfl
theorem pa_Col_init_33 : pr_Col_init[33]? = some (65, 3, .putfield 34, [4, 8, 2, 0, 119]) := rfl
theorem pa_Col_init_34 : pr_Col_init[34]? = some (68, 1, .aload_n 0, []) := rfl
theorem pa_Col_init_35 : pr_Col_init[35]? = some (69, 1, .aload_n 1, []) := rfl
theorem pa_Col_init_36 : pr_Col_init[36]? = some (70, 3, .putfield 37, [4, 0, 2, 0, 109]) := rfl
theorem pa_Col_init_37 : pr_Col_init[37]? = some (73, 1, .return_, []) := rfl
def pa_Col_init := And.intro pa_Col_init_0 (And.intro pa_Col_init_1 (And.intro pa_Col_init_2 (And.intro pa_Col_init_3 (And.intro pa_Col_init_4 (And.intro pa_Col_init_5 (And.intro pa_Col_init_6 (And.intro pa_Col_init_7 (And.intro pa_Col_init_8 (And.intro pa_Col_init_9 (And.intro pa_Col_init_10 (And.intro pa_Col_init_11 (And.intro pa_Col_init_12 (And.intro pa_Col_init_13 (And.intro pa_Col_init_14 (And.intro pa_Col_init_15 (And.intro pa_Col_init_16 (And.intro pa_Col_init_17 (And.intro pa_Col_init_18 (And.intro pa_Col_init_19 (And.intro pa_Col_init_20 (And.intro pa_Col_init_21 (And.intro pa_Col_init_22 (And.intro pa_Col_init_23 (And.intro pa_Col_init_24 (And.intro pa_Col_init_25 (And.intro pa_Col_init_26 (And.intro pa_Col_init_27 (And.intro pa_Col_init_28 (And.intro pa_Col_init_29 (And.intro pa_Col_init_30 (And.intro pa_Col_init_31 (And.intro pa_Col_init_32 (And.intro pa_Col_init_33 (And.intro pa_Col_init_34 (And.intro pa_Col_init_35 (And.intro pa_Col_init_36 (pa_Col_init_37)))))))))))))))))))))))))))))))))))))
def pr_Col_addUp : List ma_E := [(0, 1, .iconst 0, [0, 0]),
  (1, 1, .istore_n 1, []),
  (2, 1, .iload_n 1, []),
  (3, 2, .bipush 6, [6, 0]),
  (5, 3, .if_icmp .ge (58), [37]),
  (8, 1, .iconst 0, [0, 0]),
  (9, 1, .istore_n 2, []),
  (10, 1, .iconst 0, [0, 0]),
  (11, 1, .istore_n 3, []),
  (12, 1, .iload_n 3, []),
  (13, 2, .bipush 16, [16, 0]),
  (15, 3, .if_icmp .ge (35), [30]),
  (18, 1, .iload_n 2, []),
  (19, 1, .aload_n 0, []),
  (20, 3, .getfield 37, [4, 0, 2, 0, 109]),
  (23, 1, .aload_n 0, []),
  (24, 3, .getfield 9, [4, 1, 2, 0, 110]),
  (27, 1, .iload_n 3, []),
  (28, 1, .iaload, []),
  (29, 1, .aload_n 0, []),
  (30, 3, .getfield 37, [4, 0, 2, 0, 109]),
  (33, 1, .iload_n 1, []),
  (34, 1, .iload_n 3, []),
  (35, 1, .imul, []),
  (36, 3, .invokevirtual 62, [5, 1, 1, 0, 287, 288, 289, 42]),
  (39, 3, .invokevirtual 67, [6, 2, 1, 0, 291, 292, 293, 42]),
  (42, 1, .ixor, []),
  (43, 1, .istore_n 2, []),
  (44, 3, .iinc 3 (1), [1, 0]),
  (47, 3, .goto (-35), [9]),
  (50, 1, .aload_n 0, []),
  (51, 3, .getfield 19, [4, 3, 2, 0, 114]),
  (54, 1, .iload_n 1, []),
  (55, 1, .iload_n 2, []),
  (56, 1, .iastore, []),
  (57, 3, .iinc 1 (1), [1, 0]),
  (60, 3, .goto (-58), [2]),
  (63, 1, .return_, [])]
theorem po_Col_addUp : ma_ok me_Col_addUp pr_Col_addUp := ma_ok_of (by decide +kernel)
theorem pa_Col_addUp_0 : pr_Col_addUp[0]? = some (0, 1, .iconst 0, [0, 0]) := rfl
theorem pa_Col_addUp_1 : pr_Col_addUp[1]? = some (1, 1, .istore_n 1, []) := rfl
theorem pa_Col_addUp_2 : pr_Col_addUp[2]? = some (2, 1, .iload_n 1, []) := rfl
theorem pa_Col_addUp_3 : pr_Col_addUp[3]? = some (3, 2, .bipush 6, [6, 0]) := rfl
theorem pa_Col_addUp_4 : pr_Col_addUp[4]? = some (5, 3, .if_icmp .ge (58), [37]) := rfl
theorem pa_Col_addUp_5 : pr_Col_addUp[5]? = some (8, 1, .iconst 0, [0, 0]) := rfl
theorem pa_Col_addUp_6 : pr_Col_addUp[6]? = some (9, 1, .istore_n 2, []) := rfl
theorem pa_Col_addUp_7 : pr_Col_addUp[7]? = some (10, 1, .iconst 0, [0, 0]) := rfl
theorem pa_Col_addUp_8 : pr_Col_addUp[8]? = some (11, 1, .istore_n 3, []) := rfl
theorem pa_Col_addUp_9 : pr_Col_addUp[9]? = some (12, 1, .iload_n 3, []) := rfl
theorem pa_Col_addUp_10 : pr_Col_addUp[10]? = some (13, 2, .bipush 16, [16, 0]) := rfl
theorem pa_Col_addUp_11 : pr_Col_addUp[11]? = some (15, 3, .if_icmp .ge (35), [30]) := rfl
theorem pa_Col_addUp_12 : pr_Col_addUp[12]? = some (18, 1, .iload_n 2, []) := rfl
theorem pa_Col_addUp_13 : pr_Col_addUp[13]? = some (19, 1, .aload_n 0, []) := rfl
theorem pa_Col_addUp_14 : pr_Col_addUp[14]? = some (20, 3, .getfield 37, [4, 0, 2, 0, 109]) := rfl
theorem pa_Col_addUp_15 : pr_Col_addUp[15]? = some (23, 1, .aload_n 0, []) := rfl
theorem pa_Col_addUp_16 : pr_Col_addUp[16]? = some (24, 3, .getfield 9, [4, 1, 2, 0, 110]) := rfl
theorem pa_Col_addUp_17 : pr_Col_addUp[17]? = some (27, 1, .iload_n 3, []) := rfl
theorem pa_Col_addUp_18 : pr_Col_addUp[18]? = some (28, 1, .iaload, []) := rfl
theorem pa_Col_addUp_19 : pr_Col_addUp[19]? = some (29, 1, .aload_n 0, []) := rfl
theorem pa_Col_addUp_20 : pr_Col_addUp[20]? = some (30, 3, .getfield 37, [4, 0, 2, 0, 109]) := rfl
theorem pa_Col_addUp_21 : pr_Col_addUp[21]? = some (33, 1, .iload_n 1, []) := rfl
theorem pa_Col_addUp_22 : pr_Col_addUp[22]? = some (34, 1, .iload_n 3, []) := rfl
theorem pa_Col_addUp_23 : pr_Col_addUp[23]? = some (35, 1, .imul, []) := rfl
theorem pa_Col_addUp_24 : pr_Col_addUp[24]? = some (36, 3, .invokevirtual 62, [5, 1, 1, 0, 287, 288, 289, 42]) := rfl
theorem pa_Col_addUp_25 : pr_Col_addUp[25]? = some (39, 3, .invokevirtual 67, [6, 2, 1, 0, 291, 292, 293, 42]) := rfl
theorem pa_Col_addUp_26 : pr_Col_addUp[26]? = some (42, 1, .ixor, []) := rfl
theorem pa_Col_addUp_27 : pr_Col_addUp[27]? = some (43, 1, .istore_n 2, []) := rfl
theorem pa_Col_addUp_28 : pr_Col_addUp[28]? = some (44, 3, .iinc 3 (1), [1, 0]) := rfl
theorem pa_Col_addUp_29 : pr_Col_addUp[29]? = some (47, 3, .goto (-35), [9]) := rfl
theorem pa_Col_addUp_30 : pr_Col_addUp[30]? = some (50, 1, .aload_n 0, []) := rfl
theorem pa_Col_addUp_31 : pr_Col_addUp[31]? = some (51, 3, .getfield 19, [4, 3, 2, 0, 114]) := rfl
theorem pa_Col_addUp_32 : pr_Col_addUp[32]? = some (54, 1, .iload_n 1, []) := rfl
theorem pa_Col_addUp_33 : pr_Col_addUp[33]? = some (55, 1, .iload_n 2, []) := rfl
theorem pa_Col_addUp_34 : pr_Col_addUp[34]? = some (56, 1, .iastore, []) := rfl
theorem pa_Col_addUp_35 : pr_Col_addUp[35]? = some (57, 3, .iinc 1 (1), [1, 0]) := rfl
theorem pa_Col_addUp_36 : pr_Col_addUp[36]? = some (60, 3, .goto (-58), [2]) := rfl
theorem pa_Col_addUp_37 : pr_Col_addUp[37]? = some (63, 1, .return_, []) := rfl
def pa_Col_addUp := And.intro pa_Col_addUp_0 (And.intro pa_Col_addUp_1 (And.intro pa_Col_addUp_2 (And.intro pa_Col_addUp_3 (And.intro pa_Col_addUp_4 (And.intro pa_Col_addUp_5 (And.intro pa_Col_addUp_6 (And.intro pa_Col_addUp_7 (And.intro pa_Col_addUp_8 (And.intro pa_Col_addUp_9 (And.intro pa_Col_addUp_10 (And.intro pa_Col_addUp_11 (And.intro pa_Col_addUp_12 (And.intro pa_Col_addUp_13 (And.intro pa_Col_addUp_14 (And.intro pa_Col_addUp_15 (And.intro pa_Col_addUp_16 (And.intro pa_Col_addUp_17 (And.intro pa_Col_addUp_18 (And.intro pa_Col_addUp_19 (And.intro pa_Col_addUp_20 (And.intro pa_Col_addUp_21 (And.intro pa_Col_addUp_22 (And.intro pa_Col_addUp_23 (And.intro pa_Col_addUp_24 (And.intro pa_Col_addUp_25 (And.intro pa_Col_addUp_26 (And.intro pa_Col_addUp_27 (And.intro pa_Col_addUp_28 (And.intro pa_Col_addUp_29 (And.intro pa_Col_addUp_30 (And.intro pa_Col_addUp_31 (And.intro pa_Col_addUp_32 (And.intro pa_Col_addUp_33 (And.intro pa_Col_addUp_34 (And.intro pa_Col_addUp_35 (And.intro pa_Col_addUp_36 (pa_Col_addUp_37)))))))))))))))))))))))))))))))))))))
def pr_Col_missAt : List ma_E := [(0, 1, .iconst 0, [0, 0]),
  (1, 1, .istore_n 3, []),
  (2, 1, .iconst 0, [0, 0]),
  (3, 2, .istore 4, []),
  (5, 2, .iload 4, []),
  (7, 1, .iload_n 2, []),
  (8, 3, .if_icmp .gt (41), [28]),
  (11, 2, .iload 4, []),
  (13, 1, .iload_n 1, []),
  (14, 3, .if_icmp .gt (35), [28]),
  (17, 1, .iload_n 3, []),
  (18, 1, .aload_n 0, []),
  (19, 3, .getfield 37, [4, 0, 2, 0, 109]),
  (22, 1, .aload_n 0, []),
  (23, 3, .getfield 28, [4, 6, 2, 0, 117]),
  (26, 2, .iload 4, []),
  (28, 1, .iaload, []),
  (29, 1, .aload_n 0, []),
  (30, 3, .getfield 22, [4, 4, 2, 0, 115]),
  (33, 1, .iload_n 1, []),
  (34, 2, .iload 4, []),
  (36, 1, .isub, []),
  (37, 1, .iaload, []),
  (38, 3, .invokevirtual 67, [6, 2, 1, 0, 291, 292, 293, 42]),
  (41, 1, .ixor, []),
  (42, 1, .istore_n 3, []),
  (43, 3, .iinc 4 (1), [1, 0]),
  (46, 3, .goto (-41), [4]),
  (49, 1, .iload_n 3, []),
  (50, 1, .ireturn, [0])]
theorem po_Col_missAt : ma_ok me_Col_missAt pr_Col_missAt := ma_ok_of (by decide +kernel)
theorem pa_Col_missAt_0 : pr_Col_missAt[0]? = some (0, 1, .iconst 0, [0, 0]) := rfl
theorem pa_Col_missAt_1 : pr_Col_missAt[1]? = some (1, 1, .istore_n 3, []) := rfl
theorem pa_Col_missAt_2 : pr_Col_missAt[2]? = some (2, 1, .iconst 0, [0, 0]) := rfl
theorem pa_Col_missAt_3 : pr_Col_missAt[3]? = some (3, 2, .istore 4, []) := rfl
theorem pa_Col_missAt_4 : pr_Col_missAt[4]? = some (5, 2, .iload 4, []) := rfl
theorem pa_Col_missAt_5 : pr_Col_missAt[5]? = some (7, 1, .iload_n 2, []) := rfl
theorem pa_Col_missAt_6 : pr_Col_missAt[6]? = some (8, 3, .if_icmp .gt (41), [28]) := rfl
theorem pa_Col_missAt_7 : pr_Col_missAt[7]? = some (11, 2, .iload 4, []) := rfl
theorem pa_Col_missAt_8 : pr_Col_missAt[8]? = some (13, 1, .iload_n 1, []) := rfl
theorem pa_Col_missAt_9 : pr_Col_missAt[9]? = some (14, 3, .if_icmp .gt (35), [28]) := rfl
theorem pa_Col_missAt_10 : pr_Col_missAt[10]? = some (17, 1, .iload_n 3, []) := rfl
theorem pa_Col_missAt_11 : pr_Col_missAt[11]? = some (18, 1, .aload_n 0, []) := rfl
theorem pa_Col_missAt_12 : pr_Col_missAt[12]? = some (19, 3, .getfield 37, [4, 0, 2, 0, 109]) := rfl
theorem pa_Col_missAt_13 : pr_Col_missAt[13]? = some (22, 1, .aload_n 0, []) := rfl
theorem pa_Col_missAt_14 : pr_Col_missAt[14]? = some (23, 3, .getfield 28, [4, 6, 2, 0, 117]) := rfl
theorem pa_Col_missAt_15 : pr_Col_missAt[15]? = some (26, 2, .iload 4, []) := rfl
theorem pa_Col_missAt_16 : pr_Col_missAt[16]? = some (28, 1, .iaload, []) := rfl
theorem pa_Col_missAt_17 : pr_Col_missAt[17]? = some (29, 1, .aload_n 0, []) := rfl
theorem pa_Col_missAt_18 : pr_Col_missAt[18]? = some (30, 3, .getfield 22, [4, 4, 2, 0, 115]) := rfl
theorem pa_Col_missAt_19 : pr_Col_missAt[19]? = some (33, 1, .iload_n 1, []) := rfl
theorem pa_Col_missAt_20 : pr_Col_missAt[20]? = some (34, 2, .iload 4, []) := rfl
theorem pa_Col_missAt_21 : pr_Col_missAt[21]? = some (36, 1, .isub, []) := rfl
theorem pa_Col_missAt_22 : pr_Col_missAt[22]? = some (37, 1, .iaload, []) := rfl
theorem pa_Col_missAt_23 : pr_Col_missAt[23]? = some (38, 3, .invokevirtual 67, [6, 2, 1, 0, 291, 292, 293, 42]) := rfl
theorem pa_Col_missAt_24 : pr_Col_missAt[24]? = some (41, 1, .ixor, []) := rfl
theorem pa_Col_missAt_25 : pr_Col_missAt[25]? = some (42, 1, .istore_n 3, []) := rfl
theorem pa_Col_missAt_26 : pr_Col_missAt[26]? = some (43, 3, .iinc 4 (1), [1, 0]) := rfl
theorem pa_Col_missAt_27 : pr_Col_missAt[27]? = some (46, 3, .goto (-41), [4]) := rfl
theorem pa_Col_missAt_28 : pr_Col_missAt[28]? = some (49, 1, .iload_n 3, []) := rfl
theorem pa_Col_missAt_29 : pr_Col_missAt[29]? = some (50, 1, .ireturn, [0]) := rfl
def pa_Col_missAt := And.intro pa_Col_missAt_0 (And.intro pa_Col_missAt_1 (And.intro pa_Col_missAt_2 (And.intro pa_Col_missAt_3 (And.intro pa_Col_missAt_4 (And.intro pa_Col_missAt_5 (And.intro pa_Col_missAt_6 (And.intro pa_Col_missAt_7 (And.intro pa_Col_missAt_8 (And.intro pa_Col_missAt_9 (And.intro pa_Col_missAt_10 (And.intro pa_Col_missAt_11 (And.intro pa_Col_missAt_12 (And.intro pa_Col_missAt_13 (And.intro pa_Col_missAt_14 (And.intro pa_Col_missAt_15 (And.intro pa_Col_missAt_16 (And.intro pa_Col_missAt_17 (And.intro pa_Col_missAt_18 (And.intro pa_Col_missAt_19 (And.intro pa_Col_missAt_20 (And.intro pa_Col_missAt_21 (And.intro pa_Col_missAt_22 (And.intro pa_Col_missAt_23 (And.intro pa_Col_missAt_24 (And.intro pa_Col_missAt_25 (And.intro pa_Col_missAt_26 (And.intro pa_Col_missAt_27 (And.intro pa_Col_missAt_28 (pa_Col_missAt_29)))))))))))))))))))))))))))))
def pr_Col_polynomialAt : List ma_E := [(0, 1, .iconst 0, [0, 0]),
  (1, 1, .istore_n 3, []),
  (2, 1, .iload_n 2, []),
  (3, 2, .istore 4, []),
  (5, 2, .iload 4, []),
  (7, 3, .ifCond .lt (27), [19]),
  (10, 1, .aload_n 0, []),
  (11, 3, .getfield 37, [4, 0, 2, 0, 109]),
  (14, 1, .iload_n 3, []),
  (15, 1, .iload_n 1, []),
  (16, 3, .invokevirtual 67, [6, 2, 1, 0, 291, 292, 293, 42]),
  (19, 1, .aload_n 0, []),
  (20, 3, .getfield 25, [4, 5, 2, 0, 116]),
  (23, 2, .iload 4, []),
  (25, 1, .iaload, []),
  (26, 1, .ixor, []),
  (27, 1, .istore_n 3, []),
  (28, 3, .iinc 4 (-1), [1, 1]),
  (31, 3, .goto (-26), [4]),
  (34, 1, .iload_n 3, []),
  (35, 1, .ireturn, [0])]
theorem po_Col_polynomialAt : ma_ok me_Col_polynomialAt pr_Col_polynomialAt := ma_ok_of (by decide +kernel)
theorem pa_Col_polynomialAt_0 : pr_Col_polynomialAt[0]? = some (0, 1, .iconst 0, [0, 0]) := rfl
theorem pa_Col_polynomialAt_1 : pr_Col_polynomialAt[1]? = some (1, 1, .istore_n 3, []) := rfl
theorem pa_Col_polynomialAt_2 : pr_Col_polynomialAt[2]? = some (2, 1, .iload_n 2, []) := rfl
theorem pa_Col_polynomialAt_3 : pr_Col_polynomialAt[3]? = some (3, 2, .istore 4, []) := rfl
theorem pa_Col_polynomialAt_4 : pr_Col_polynomialAt[4]? = some (5, 2, .iload 4, []) := rfl
theorem pa_Col_polynomialAt_5 : pr_Col_polynomialAt[5]? = some (7, 3, .ifCond .lt (27), [19]) := rfl
theorem pa_Col_polynomialAt_6 : pr_Col_polynomialAt[6]? = some (10, 1, .aload_n 0, []) := rfl
theorem pa_Col_polynomialAt_7 : pr_Col_polynomialAt[7]? = some (11, 3, .getfield 37, [4, 0, 2, 0, 109]) := rfl
theorem pa_Col_polynomialAt_8 : pr_Col_polynomialAt[8]? = some (14, 1, .iload_n 3, []) := rfl
theorem pa_Col_polynomialAt_9 : pr_Col_polynomialAt[9]? = some (15, 1, .iload_n 1, []) := rfl
theorem pa_Col_polynomialAt_10 : pr_Col_polynomialAt[10]? = some (16, 3, .invokevirtual 67, [6, 2, 1, 0, 291, 292, 293, 42]) := rfl
theorem pa_Col_polynomialAt_11 : pr_Col_polynomialAt[11]? = some (19, 1, .aload_n 0, []) := rfl
theorem pa_Col_polynomialAt_12 : pr_Col_polynomialAt[12]? = some (20, 3, .getfield 25, [4, 5, 2, 0, 116]) := rfl
theorem pa_Col_polynomialAt_13 : pr_Col_polynomialAt[13]? = some (23, 2, .iload 4, []) := rfl
theorem pa_Col_polynomialAt_14 : pr_Col_polynomialAt[14]? = some (25, 1, .iaload, []) := rfl
theorem pa_Col_polynomialAt_15 : pr_Col_polynomialAt[15]? = some (26, 1, .ixor, []) := rfl
theorem pa_Col_polynomialAt_16 : pr_Col_polynomialAt[16]? = some (27, 1, .istore_n 3, []) := rfl
theorem pa_Col_polynomialAt_17 : pr_Col_polynomialAt[17]? = some (28, 3, .iinc 4 (-1), [1, 1]) := rfl
theorem pa_Col_polynomialAt_18 : pr_Col_polynomialAt[18]? = some (31, 3, .goto (-26), [4]) := rfl
theorem pa_Col_polynomialAt_19 : pr_Col_polynomialAt[19]? = some (34, 1, .iload_n 3, []) := rfl
theorem pa_Col_polynomialAt_20 : pr_Col_polynomialAt[20]? = some (35, 1, .ireturn, [0]) := rfl
def pa_Col_polynomialAt := And.intro pa_Col_polynomialAt_0 (And.intro pa_Col_polynomialAt_1 (And.intro pa_Col_polynomialAt_2 (And.intro pa_Col_polynomialAt_3 (And.intro pa_Col_polynomialAt_4 (And.intro pa_Col_polynomialAt_5 (And.intro pa_Col_polynomialAt_6 (And.intro pa_Col_polynomialAt_7 (And.intro pa_Col_polynomialAt_8 (And.intro pa_Col_polynomialAt_9 (And.intro pa_Col_polynomialAt_10 (And.intro pa_Col_polynomialAt_11 (And.intro pa_Col_polynomialAt_12 (And.intro pa_Col_polynomialAt_13 (And.intro pa_Col_polynomialAt_14 (And.intro pa_Col_polynomialAt_15 (And.intro pa_Col_polynomialAt_16 (And.intro pa_Col_polynomialAt_17 (And.intro pa_Col_polynomialAt_18 (And.intro pa_Col_polynomialAt_19 (pa_Col_polynomialAt_20))))))))))))))))))))
def pr_Col_recurrenceAt : List ma_E := [(0, 1, .iconst 0, [0, 0]),
  (1, 1, .istore_n 3, []),
  (2, 1, .iconst 0, [0, 0]),
  (3, 2, .istore 4, []),
  (5, 2, .iload 4, []),
  (7, 1, .iload_n 2, []),
  (8, 3, .if_icmp .gt (27), [20]),
  (11, 1, .aload_n 0, []),
  (12, 3, .getfield 37, [4, 0, 2, 0, 109]),
  (15, 1, .iload_n 3, []),
  (16, 1, .iload_n 1, []),
  (17, 3, .invokevirtual 67, [6, 2, 1, 0, 291, 292, 293, 42]),
  (20, 1, .aload_n 0, []),
  (21, 3, .getfield 28, [4, 6, 2, 0, 117]),
  (24, 2, .iload 4, []),
  (26, 1, .iaload, []),
  (27, 1, .ixor, []),
  (28, 1, .istore_n 3, []),
  (29, 3, .iinc 4 (1), [1, 0]),
  (32, 3, .goto (-27), [4]),
  (35, 1, .iload_n 3, []),
  (36, 1, .ireturn, [0])]
theorem po_Col_recurrenceAt : ma_ok me_Col_recurrenceAt pr_Col_recurrenceAt := ma_ok_of (by decide +kernel)
theorem pa_Col_recurrenceAt_0 : pr_Col_recurrenceAt[0]? = some (0, 1, .iconst 0, [0, 0]) := rfl
theorem pa_Col_recurrenceAt_1 : pr_Col_recurrenceAt[1]? = some (1, 1, .istore_n 3, []) := rfl
theorem pa_Col_recurrenceAt_2 : pr_Col_recurrenceAt[2]? = some (2, 1, .iconst 0, [0, 0]) := rfl
theorem pa_Col_recurrenceAt_3 : pr_Col_recurrenceAt[3]? = some (3, 2, .istore 4, []) := rfl
theorem pa_Col_recurrenceAt_4 : pr_Col_recurrenceAt[4]? = some (5, 2, .iload 4, []) := rfl
theorem pa_Col_recurrenceAt_5 : pr_Col_recurrenceAt[5]? = some (7, 1, .iload_n 2, []) := rfl
theorem pa_Col_recurrenceAt_6 : pr_Col_recurrenceAt[6]? = some (8, 3, .if_icmp .gt (27), [20]) := rfl
theorem pa_Col_recurrenceAt_7 : pr_Col_recurrenceAt[7]? = some (11, 1, .aload_n 0, []) := rfl
theorem pa_Col_recurrenceAt_8 : pr_Col_recurrenceAt[8]? = some (12, 3, .getfield 37, [4, 0, 2, 0, 109]) := rfl
theorem pa_Col_recurrenceAt_9 : pr_Col_recurrenceAt[9]? = some (15, 1, .iload_n 3, []) := rfl
theorem pa_Col_recurrenceAt_10 : pr_Col_recurrenceAt[10]? = some (16, 1, .iload_n 1, []) := rfl
theorem pa_Col_recurrenceAt_11 : pr_Col_recurrenceAt[11]? = some (17, 3, .invokevirtual 67, [6, 2, 1, 0, 291, 292, 293, 42]) := rfl
theorem pa_Col_recurrenceAt_12 : pr_Col_recurrenceAt[12]? = some (20, 1, .aload_n 0, []) := rfl
theorem pa_Col_recurrenceAt_13 : pr_Col_recurrenceAt[13]? = some (21, 3, .getfield 28, [4, 6, 2, 0, 117]) := rfl
theorem pa_Col_recurrenceAt_14 : pr_Col_recurrenceAt[14]? = some (24, 2, .iload 4, []) := rfl
theorem pa_Col_recurrenceAt_15 : pr_Col_recurrenceAt[15]? = some (26, 1, .iaload, []) := rfl
theorem pa_Col_recurrenceAt_16 : pr_Col_recurrenceAt[16]? = some (27, 1, .ixor, []) := rfl
theorem pa_Col_recurrenceAt_17 : pr_Col_recurrenceAt[17]? = some (28, 1, .istore_n 3, []) := rfl
theorem pa_Col_recurrenceAt_18 : pr_Col_recurrenceAt[18]? = some (29, 3, .iinc 4 (1), [1, 0]) := rfl
theorem pa_Col_recurrenceAt_19 : pr_Col_recurrenceAt[19]? = some (32, 3, .goto (-27), [4]) := rfl
theorem pa_Col_recurrenceAt_20 : pr_Col_recurrenceAt[20]? = some (35, 1, .iload_n 3, []) := rfl
theorem pa_Col_recurrenceAt_21 : pr_Col_recurrenceAt[21]? = some (36, 1, .ireturn, [0]) := rfl
def pa_Col_recurrenceAt := And.intro pa_Col_recurrenceAt_0 (And.intro pa_Col_recurrenceAt_1 (And.intro pa_Col_recurrenceAt_2 (And.intro pa_Col_recurrenceAt_3 (And.intro pa_Col_recurrenceAt_4 (And.intro pa_Col_recurrenceAt_5 (And.intro pa_Col_recurrenceAt_6 (And.intro pa_Col_recurrenceAt_7 (And.intro pa_Col_recurrenceAt_8 (And.intro pa_Col_recurrenceAt_9 (And.intro pa_Col_recurrenceAt_10 (And.intro pa_Col_recurrenceAt_11 (And.intro pa_Col_recurrenceAt_12 (And.intro pa_Col_recurrenceAt_13 (And.intro pa_Col_recurrenceAt_14 (And.intro pa_Col_recurrenceAt_15 (And.intro pa_Col_recurrenceAt_16 (And.intro pa_Col_recurrenceAt_17 (And.intro pa_Col_recurrenceAt_18 (And.intro pa_Col_recurrenceAt_19 (And.intro pa_Col_recurrenceAt_20 (pa_Col_recurrenceAt_21)))))))))))))))))))))
def pr_Col_spanUnknown : List ma_E := [(0, 1, .aload_n 0, []),
  (1, 3, .getfield 25, [4, 5, 2, 0, 116]),
  (4, 1, .iconst 0, [0, 0]),
  (5, 3, .invokestatic 77, [38, 2, 0, 303, 304, 48]),
  (8, 1, .aload_n 0, []),
  (9, 3, .getfield 25, [4, 5, 2, 0, 116]),
  (12, 1, .iconst 0, [0, 0]),
  (13, 1, .iconst 1, [1, 0]),
  (14, 1, .iastore, []),
  (15, 1, .iconst 0, [0, 0]),
  (16, 1, .istore_n 2, []),
  (17, 1, .iconst 0, [0, 0]),
  (18, 1, .istore_n 3, []),
  (19, 1, .iload_n 3, []),
  (20, 2, .bipush 16, [16, 0]),
  (22, 3, .if_icmp .ge (111), [73]),
  (25, 1, .aload_n 0, []),
  (26, 3, .getfield 15, [4, 2, 2, 0, 113]),
  (29, 1, .iload_n 3, []),
  (30, 1, .baload, [1]),
  (31, 3, .ifCond .eq (96), [71]),
  (34, 1, .iload_n 3, []),
  (35, 1, .iload_n 1, []),
  (36, 3, .if_icmp .eq (91), [71]),
  (39, 1, .iload_n 2, []),
  (40, 2, .bipush 6, [6, 0]),
  (42, 3, .if_icmp .ge (85), [71]),
  (45, 3, .iinc 2 (1), [1, 0]),
  (48, 1, .aload_n 0, []),
  (49, 3, .getfield 37, [4, 0, 2, 0, 109]),
  (52, 1, .iload_n 3, []),
  (53, 3, .invokevirtual 62, [5, 1, 1, 0, 287, 288, 289, 42]),
  (56, 2, .istore 4, []),
  (58, 1, .iload_n 2, []),
  (59, 2, .istore 5, []),
  (61, 2, .iload 5, []),
  (63, 1, .iconst 1, [1, 0]),
  (64, 3, .if_icmp .lt (42), [59]),
  (67, 1, .aload_n 0, []),
  (68, 3, .getfield 25, [4, 5, 2, 0, 116]),
  (71, 2, .iload 5, []),
  (73, 1, .aload_n 0, []),
  (74, 3, .getfield 25, [4, 5, 2, 0, 116]),
  (77, 2, .iload 5, []),
  (79, 1, .iconst 1, [1, 0]),
  (80, 1, .isub, []),
  (81, 1, .iaload, []),
  (82, 1, .aload_n 0, []),
  (83, 3, .getfield 37, [4, 0, 2, 0, 109]),
  (86, 2, .iload 4, []),
  (88, 1, .aload_n 0, []),
  (89, 3, .getfield 25, [4, 5, 2, 0, 116]),
  (92, 2, .iload 5, []),
  (94, 1, .iaload, []),
  (95, 3, .invokevirtual 67, [6, 2, 1, 0, 291, 292, 293, 42]),
  (98, 1, .ixor, []),
  (99, 1, .iastore, []),
  (100, 3, .iinc 5 (-1), [1, 1]),
  (103, 3, .goto (-42), [35]),
  (106, 1, .aload_n 0, []),
  (107, 3, .getfield 25, [4, 5, 2, 0, 116]),
  (110, 1, .iconst 0, [0, 0]),
  (111, 1, .aload_n 0, []),
  (112, 3, .getfield 37, [4, 0, 2, 0, 109]),
  (115, 2, .iload 4, []),
  (117, 1, .aload_n 0, []),
  (118, 3, .getfield 25, [4, 5, 2, 0, 116]),
  (121, 1, .iconst 0, [0, 0]),
  (122, 1, .iaload, []),
  (123, 3, .invokevirtual 67, [6, 2, 1, 0, 291, 292, 293, 42]),
  (126, 1, .iastore, []),
  (127, 3, .iinc 3 (1), [1, 0]),
  (130, 3, .goto (-111), [13]),
  (133, 1, .iload_n 2, []),
  (134, 1, .ireturn, [0])]
theorem po_Col_spanUnknown : ma_ok me_Col_spanUnknown pr_Col_spanUnknown := ma_ok_of (by decide +kernel)
theorem pa_Col_spanUnknown_0 : pr_Col_spanUnknown[0]? = some (0, 1, .aload_n 0, []) := rfl
theorem pa_Col_spanUnknown_1 : pr_Col_spanUnknown[1]? = some (1, 3, .getfield 25, [4, 5, 2, 0, 116]) := rfl
theorem pa_Col_spanUnknown_2 : pr_Col_spanUnknown[2]? = some (4, 1, .iconst 0, [0, 0]) := rfl
theorem pa_Col_spanUnknown_3 : pr_Col_spanUnknown[3]? = some (5, 3, .invokestatic 77, [38, 2, 0, 303, 304, 48]) := rfl
theorem pa_Col_spanUnknown_4 : pr_Col_spanUnknown[4]? = some (8, 1, .aload_n 0, []) := rfl
theorem pa_Col_spanUnknown_5 : pr_Col_spanUnknown[5]? = some (9, 3, .getfield 25, [4, 5, 2, 0, 116]) := rfl
theorem pa_Col_spanUnknown_6 : pr_Col_spanUnknown[6]? = some (12, 1, .iconst 0, [0, 0]) := rfl
theorem pa_Col_spanUnknown_7 : pr_Col_spanUnknown[7]? = some (13, 1, .iconst 1, [1, 0]) := rfl
theorem pa_Col_spanUnknown_8 : pr_Col_spanUnknown[8]? = some (14, 1, .iastore, []) := rfl
theorem pa_Col_spanUnknown_9 : pr_Col_spanUnknown[9]? = some (15, 1, .iconst 0, [0, 0]) := rfl
theorem pa_Col_spanUnknown_10 : pr_Col_spanUnknown[10]? = some (16, 1, .istore_n 2, []) := rfl
theorem pa_Col_spanUnknown_11 : pr_Col_spanUnknown[11]? = some (17, 1, .iconst 0, [0, 0]) := rfl
theorem pa_Col_spanUnknown_12 : pr_Col_spanUnknown[12]? = some (18, 1, .istore_n 3, []) := rfl
theorem pa_Col_spanUnknown_13 : pr_Col_spanUnknown[13]? = some (19, 1, .iload_n 3, []) := rfl
theorem pa_Col_spanUnknown_14 : pr_Col_spanUnknown[14]? = some (20, 2, .bipush 16, [16, 0]) := rfl
theorem pa_Col_spanUnknown_15 : pr_Col_spanUnknown[15]? = some (22, 3, .if_icmp .ge (111), [73]) := rfl
theorem pa_Col_spanUnknown_16 : pr_Col_spanUnknown[16]? = some (25, 1, .aload_n 0, []) := rfl
theorem pa_Col_spanUnknown_17 : pr_Col_spanUnknown[17]? = some (26, 3, .getfield 15, [4, 2, 2, 0, 113]) := rfl
theorem pa_Col_spanUnknown_18 : pr_Col_spanUnknown[18]? = some (29, 1, .iload_n 3, []) := rfl
theorem pa_Col_spanUnknown_19 : pr_Col_spanUnknown[19]? = some (30, 1, .baload, [1]) := rfl
theorem pa_Col_spanUnknown_20 : pr_Col_spanUnknown[20]? = some (31, 3, .ifCond .eq (96), [71]) := rfl
theorem pa_Col_spanUnknown_21 : pr_Col_spanUnknown[21]? = some (34, 1, .iload_n 3, []) := rfl
theorem pa_Col_spanUnknown_22 : pr_Col_spanUnknown[22]? = some (35, 1, .iload_n 1, []) := rfl
theorem pa_Col_spanUnknown_23 : pr_Col_spanUnknown[23]? = some (36, 3, .if_icmp .eq (91), [71]) := rfl
theorem pa_Col_spanUnknown_24 : pr_Col_spanUnknown[24]? = some (39, 1, .iload_n 2, []) := rfl
theorem pa_Col_spanUnknown_25 : pr_Col_spanUnknown[25]? = some (40, 2, .bipush 6, [6, 0]) := rfl
theorem pa_Col_spanUnknown_26 : pr_Col_spanUnknown[26]? = some (42, 3, .if_icmp .ge (85), [71]) := rfl
theorem pa_Col_spanUnknown_27 : pr_Col_spanUnknown[27]? = some (45, 3, .iinc 2 (1), [1, 0]) := rfl
theorem pa_Col_spanUnknown_28 : pr_Col_spanUnknown[28]? = some (48, 1, .aload_n 0, []) := rfl
theorem pa_Col_spanUnknown_29 : pr_Col_spanUnknown[29]? = some (49, 3, .getfield 37, [4, 0, 2, 0, 109]) := rfl
theorem pa_Col_spanUnknown_30 : pr_Col_spanUnknown[30]? = some (52, 1, .iload_n 3, []) := rfl
theorem pa_Col_spanUnknown_31 : pr_Col_spanUnknown[31]? = some (53, 3, .invokevirtual 62, [5, 1, 1, 0, 287, 288, 289, 42]) := rfl
theorem pa_Col_spanUnknown_32 : pr_Col_spanUnknown[32]? = some (56, 2, .istore 4, []) := rfl
theorem pa_Col_spanUnknown_33 : pr_Col_spanUnknown[33]? = some (58, 1, .iload_n 2, []) := rfl
theorem pa_Col_spanUnknown_34 : pr_Col_spanUnknown[34]? = some (59, 2, .istore 5, []) := rfl
theorem pa_Col_spanUnknown_35 : pr_Col_spanUnknown[35]? = some (61, 2, .iload 5, []) := rfl
theorem pa_Col_spanUnknown_36 : pr_Col_spanUnknown[36]? = some (63, 1, .iconst 1, [1, 0]) := rfl
theorem pa_Col_spanUnknown_37 : pr_Col_spanUnknown[37]? = some (64, 3, .if_icmp .lt (42), [59]) := rfl
theorem pa_Col_spanUnknown_38 : pr_Col_spanUnknown[38]? = some (67, 1, .aload_n 0, []) := rfl
theorem pa_Col_spanUnknown_39 : pr_Col_spanUnknown[39]? = some (68, 3, .getfield 25, [4, 5, 2, 0, 116]) := rfl
theorem pa_Col_spanUnknown_40 : pr_Col_spanUnknown[40]? = some (71, 2, .iload 5, []) := rfl
theorem pa_Col_spanUnknown_41 : pr_Col_spanUnknown[41]? = some (73, 1, .aload_n 0, []) := rfl
theorem pa_Col_spanUnknown_42 : pr_Col_spanUnknown[42]? = some (74, 3, .getfield 25, [4, 5, 2, 0, 116]) := rfl
theorem pa_Col_spanUnknown_43 : pr_Col_spanUnknown[43]? = some (77, 2, .iload 5, []) := rfl
theorem pa_Col_spanUnknown_44 : pr_Col_spanUnknown[44]? = some (79, 1, .iconst 1, [1, 0]) := rfl
theorem pa_Col_spanUnknown_45 : pr_Col_spanUnknown[45]? = some (80, 1, .isub, []) := rfl
theorem pa_Col_spanUnknown_46 : pr_Col_spanUnknown[46]? = some (81, 1, .iaload, []) := rfl
theorem pa_Col_spanUnknown_47 : pr_Col_spanUnknown[47]? = some (82, 1, .aload_n 0, []) := rfl
theorem pa_Col_spanUnknown_48 : pr_Col_spanUnknown[48]? = some (83, 3, .getfield 37, [4, 0, 2, 0, 109]) := rfl
theorem pa_Col_spanUnknown_49 : pr_Col_spanUnknown[49]? = some (86, 2, .iload 4, []) := rfl
theorem pa_Col_spanUnknown_50 : pr_Col_spanUnknown[50]? = some (88, 1, .aload_n 0, []) := rfl
theorem pa_Col_spanUnknown_51 : pr_Col_spanUnknown[51]? = some (89, 3, .getfield 25, [4, 5, 2, 0, 116]) := rfl
theorem pa_Col_spanUnknown_52 : pr_Col_spanUnknown[52]? = some (92, 2, .iload 5, []) := rfl
theorem pa_Col_spanUnknown_53 : pr_Col_spanUnknown[53]? = some (94, 1, .iaload, []) := rfl
theorem pa_Col_spanUnknown_54 : pr_Col_spanUnknown[54]? = some (95, 3, .invokevirtual 67, [6, 2, 1, 0, 291, 292, 293, 42]) := rfl
theorem pa_Col_spanUnknown_55 : pr_Col_spanUnknown[55]? = some (98, 1, .ixor, []) := rfl
theorem pa_Col_spanUnknown_56 : pr_Col_spanUnknown[56]? = some (99, 1, .iastore, []) := rfl
theorem pa_Col_spanUnknown_57 : pr_Col_spanUnknown[57]? = some (100, 3, .iinc 5 (-1), [1, 1]) := rfl
theorem pa_Col_spanUnknown_58 : pr_Col_spanUnknown[58]? = some (103, 3, .goto (-42), [35]) := rfl
theorem pa_Col_spanUnknown_59 : pr_Col_spanUnknown[59]? = some (106, 1, .aload_n 0, []) := rfl
theorem pa_Col_spanUnknown_60 : pr_Col_spanUnknown[60]? = some (107, 3, .getfield 25, [4, 5, 2, 0, 116]) := rfl
theorem pa_Col_spanUnknown_61 : pr_Col_spanUnknown[61]? = some (110, 1, .iconst 0, [0, 0]) := rfl
theorem pa_Col_spanUnknown_62 : pr_Col_spanUnknown[62]? = some (111, 1, .aload_n 0, []) := rfl
theorem pa_Col_spanUnknown_63 : pr_Col_spanUnknown[63]? = some (112, 3, .getfield 37, [4, 0, 2, 0, 109]) := rfl
theorem pa_Col_spanUnknown_64 : pr_Col_spanUnknown[64]? = some (115, 2, .iload 4, []) := rfl
theorem pa_Col_spanUnknown_65 : pr_Col_spanUnknown[65]? = some (117, 1, .aload_n 0, []) := rfl
theorem pa_Col_spanUnknown_66 : pr_Col_spanUnknown[66]? = some (118, 3, .getfield 25, [4, 5, 2, 0, 116]) := rfl
theorem pa_Col_spanUnknown_67 : pr_Col_spanUnknown[67]? = some (121, 1, .iconst 0, [0, 0]) := rfl
theorem pa_Col_spanUnknown_68 : pr_Col_spanUnknown[68]? = some (122, 1, .iaload, []) := rfl
theorem pa_Col_spanUnknown_69 : pr_Col_spanUnknown[69]? = some (123, 3, .invokevirtual 67, [6, 2, 1, 0, 291, 292, 293, 42]) := rfl
theorem pa_Col_spanUnknown_70 : pr_Col_spanUnknown[70]? = some (126, 1, .iastore, []) := rfl
theorem pa_Col_spanUnknown_71 : pr_Col_spanUnknown[71]? = some (127, 3, .iinc 3 (1), [1, 0]) := rfl
theorem pa_Col_spanUnknown_72 : pr_Col_spanUnknown[72]? = some (130, 3, .goto (-111), [13]) := rfl
theorem pa_Col_spanUnknown_73 : pr_Col_spanUnknown[73]? = some (133, 1, .iload_n 2, []) := rfl
theorem pa_Col_spanUnknown_74 : pr_Col_spanUnknown[74]? = some (134, 1, .ireturn, [0]) := rfl
def pa_Col_spanUnknown := And.intro pa_Col_spanUnknown_0 (And.intro pa_Col_spanUnknown_1 (And.intro pa_Col_spanUnknown_2 (And.intro pa_Col_spanUnknown_3 (And.intro pa_Col_spanUnknown_4 (And.intro pa_Col_spanUnknown_5 (And.intro pa_Col_spanUnknown_6 (And.intro pa_Col_spanUnknown_7 (And.intro pa_Col_spanUnknown_8 (And.intro pa_Col_spanUnknown_9 (And.intro pa_Col_spanUnknown_10 (And.intro pa_Col_spanUnknown_11 (And.intro pa_Col_spanUnknown_12 (And.intro pa_Col_spanUnknown_13 (And.intro pa_Col_spanUnknown_14 (And.intro pa_Col_spanUnknown_15 (And.intro pa_Col_spanUnknown_16 (And.intro pa_Col_spanUnknown_17 (And.intro pa_Col_spanUnknown_18 (And.intro pa_Col_spanUnknown_19 (And.intro pa_Col_spanUnknown_20 (And.intro pa_Col_spanUnknown_21 (And.intro pa_Col_spanUnknown_22 (And.intro pa_Col_spanUnknown_23 (And.intro pa_Col_spanUnknown_24 (And.intro pa_Col_spanUnknown_25 (And.intro pa_Col_spanUnknown_26 (And.intro pa_Col_spanUnknown_27 (And.intro pa_Col_spanUnknown_28 (And.intro pa_Col_spanUnknown_29 (And.intro pa_Col_spanUnknown_30 (And.intro pa_Col_spanUnknown_31 (And.intro pa_Col_spanUnknown_32 (And.intro pa_Col_spanUnknown_33 (And.intro pa_Col_spanUnknown_34 (And.intro pa_Col_spanUnknown_35 (And.intro pa_Col_spanUnknown_36 (And.intro pa_Col_spanUnknown_37 (And.intro pa_Col_spanUnknown_38 (And.intro pa_Col_spanUnknown_39 (And.intro pa_Col_spanUnknown_40 (And.intro pa_Col_spanUnknown_41 (And.intro pa_Col_spanUnknown_42 (And.intro pa_Col_spanUnknown_43 (And.intro pa_Col_spanUnknown_44 (And.intro pa_Col_spanUnknown_45 (And.intro pa_Col_spanUnknown_46 (And.intro pa_Col_spanUnknown_47 (And.intro pa_Col_spanUnknown_48 (And.intro pa_Col_spanUnknown_49 (And.intro pa_Col_spanUnknown_50 (And.intro pa_Col_spanUnknown_51 (And.intro pa_Col_spanUnknown_52 (And.intro pa_Col_spanUnknown_53 (And.intro pa_Col_spanUnknown_54 (And.intro pa_Col_spanUnknown_55 (And.intro pa_Col_spanUnknown_56 (And.intro pa_Col_spanUnknown_57 (And.intro pa_Col_spanUnknown_58 (And.intro pa_Col_spanUnknown_59 (And.intro pa_Col_spanUnknown_60 (And.intro pa_Col_spanUnknown_61 (And.intro pa_Col_spanUnknown_62 (And.intro pa_Col_spanUnknown_63 (And.intro pa_Col_spanUnknown_64 (And.intro pa_Col_spanUnknown_65 (And.intro pa_Col_spanUnknown_66 (And.intro pa_Col_spanUnknown_67 (And.intro pa_Col_spanUnknown_68 (And.intro pa_Col_spanUnknown_69 (And.intro pa_Col_spanUnknown_70 (And.intro pa_Col_spanUnknown_71 (And.intro pa_Col_spanUnknown_72 (And.intro pa_Col_spanUnknown_73 (pa_Col_spanUnknown_74))))))))))))))))))))))))))))))))))))))))))))))))))))))))))))))))))))))))))
def pr_Col_weigh : List ma_E := [(0, 1, .iconst 0, [0, 0]),
  (1, 1, .istore_n 3, []),
  (2, 1, .iconst 0, [0, 0]),
  (3, 2, .istore 4, []),
  (5, 2, .iload 4, []),
  (7, 1, .iload_n 2, []),
  (8, 3, .if_icmp .gt (44), [30]),
  (11, 1, .iload_n 1, []),
  (12, 2, .iload 4, []),
  (14, 1, .iadd, []),
  (15, 2, .bipush 6, [6, 0]),
  (17, 3, .if_icmp .ge (35), [30]),
  (20, 1, .iload_n 3, []),
  (21, 1, .aload_n 0, []),
  (22, 3, .getfield 37, [4, 0, 2, 0, 109]),
  (25, 1, .aload_n 0, []),
  (26, 3, .getfield 25, [4, 5, 2, 0, 116]),
  (29, 2, .iload 4, []),
  (31, 1, .iaload, []),
  (32, 1, .aload_n 0, []),
  (33, 3, .getfield 19, [4, 3, 2, 0, 114]),
  (36, 1, .iload_n 1, []),
  (37, 2, .iload 4, []),
  (39, 1, .iadd, []),
  (40, 1, .iaload, []),
  (41, 3, .invokevirtual 67, [6, 2, 1, 0, 291, 292, 293, 42]),
  (44, 1, .ixor, []),
  (45, 1, .istore_n 3, []),
  (46, 3, .iinc 4 (1), [1, 0]),
  (49, 3, .goto (-44), [4]),
  (52, 1, .iload_n 3, []),
  (53, 1, .ireturn, [0])]
theorem po_Col_weigh : ma_ok me_Col_weigh pr_Col_weigh := ma_ok_of (by decide +kernel)
theorem pa_Col_weigh_0 : pr_Col_weigh[0]? = some (0, 1, .iconst 0, [0, 0]) := rfl
theorem pa_Col_weigh_1 : pr_Col_weigh[1]? = some (1, 1, .istore_n 3, []) := rfl
theorem pa_Col_weigh_2 : pr_Col_weigh[2]? = some (2, 1, .iconst 0, [0, 0]) := rfl
theorem pa_Col_weigh_3 : pr_Col_weigh[3]? = some (3, 2, .istore 4, []) := rfl
theorem pa_Col_weigh_4 : pr_Col_weigh[4]? = some (5, 2, .iload 4, []) := rfl
theorem pa_Col_weigh_5 : pr_Col_weigh[5]? = some (7, 1, .iload_n 2, []) := rfl
theorem pa_Col_weigh_6 : pr_Col_weigh[6]? = some (8, 3, .if_icmp .gt (44), [30]) := rfl
theorem pa_Col_weigh_7 : pr_Col_weigh[7]? = some (11, 1, .iload_n 1, []) := rfl
theorem pa_Col_weigh_8 : pr_Col_weigh[8]? = some (12, 2, .iload 4, []) := rfl
theorem pa_Col_weigh_9 : pr_Col_weigh[9]? = some (14, 1, .iadd, []) := rfl
theorem pa_Col_weigh_10 : pr_Col_weigh[10]? = some (15, 2, .bipush 6, [6, 0]) := rfl
theorem pa_Col_weigh_11 : pr_Col_weigh[11]? = some (17, 3, .if_icmp .ge (35), [30]) := rfl
theorem pa_Col_weigh_12 : pr_Col_weigh[12]? = some (20, 1, .iload_n 3, []) := rfl
theorem pa_Col_weigh_13 : pr_Col_weigh[13]? = some (21, 1, .aload_n 0, []) := rfl
theorem pa_Col_weigh_14 : pr_Col_weigh[14]? = some (22, 3, .getfield 37, [4, 0, 2, 0, 109]) := rfl
theorem pa_Col_weigh_15 : pr_Col_weigh[15]? = some (25, 1, .aload_n 0, []) := rfl
theorem pa_Col_weigh_16 : pr_Col_weigh[16]? = some (26, 3, .getfield 25, [4, 5, 2, 0, 116]) := rfl
theorem pa_Col_weigh_17 : pr_Col_weigh[17]? = some (29, 2, .iload 4, []) := rfl
theorem pa_Col_weigh_18 : pr_Col_weigh[18]? = some (31, 1, .iaload, []) := rfl
theorem pa_Col_weigh_19 : pr_Col_weigh[19]? = some (32, 1, .aload_n 0, []) := rfl
theorem pa_Col_weigh_20 : pr_Col_weigh[20]? = some (33, 3, .getfield 19, [4, 3, 2, 0, 114]) := rfl
theorem pa_Col_weigh_21 : pr_Col_weigh[21]? = some (36, 1, .iload_n 1, []) := rfl
theorem pa_Col_weigh_22 : pr_Col_weigh[22]? = some (37, 2, .iload 4, []) := rfl
theorem pa_Col_weigh_23 : pr_Col_weigh[23]? = some (39, 1, .iadd, []) := rfl
theorem pa_Col_weigh_24 : pr_Col_weigh[24]? = some (40, 1, .iaload, []) := rfl
theorem pa_Col_weigh_25 : pr_Col_weigh[25]? = some (41, 3, .invokevirtual 67, [6, 2, 1, 0, 291, 292, 293, 42]) := rfl
theorem pa_Col_weigh_26 : pr_Col_weigh[26]? = some (44, 1, .ixor, []) := rfl
theorem pa_Col_weigh_27 : pr_Col_weigh[27]? = some (45, 1, .istore_n 3, []) := rfl
theorem pa_Col_weigh_28 : pr_Col_weigh[28]? = some (46, 3, .iinc 4 (1), [1, 0]) := rfl
theorem pa_Col_weigh_29 : pr_Col_weigh[29]? = some (49, 3, .goto (-44), [4]) := rfl
theorem pa_Col_weigh_30 : pr_Col_weigh[30]? = some (52, 1, .iload_n 3, []) := rfl
theorem pa_Col_weigh_31 : pr_Col_weigh[31]? = some (53, 1, .ireturn, [0]) := rfl
def pa_Col_weigh := And.intro pa_Col_weigh_0 (And.intro pa_Col_weigh_1 (And.intro pa_Col_weigh_2 (And.intro pa_Col_weigh_3 (And.intro pa_Col_weigh_4 (And.intro pa_Col_weigh_5 (And.intro pa_Col_weigh_6 (And.intro pa_Col_weigh_7 (And.intro pa_Col_weigh_8 (And.intro pa_Col_weigh_9 (And.intro pa_Col_weigh_10 (And.intro pa_Col_weigh_11 (And.intro pa_Col_weigh_12 (And.intro pa_Col_weigh_13 (And.intro pa_Col_weigh_14 (And.intro pa_Col_weigh_15 (And.intro pa_Col_weigh_16 (And.intro pa_Col_weigh_17 (And.intro pa_Col_weigh_18 (And.intro pa_Col_weigh_19 (And.intro pa_Col_weigh_20 (And.intro pa_Col_weigh_21 (And.intro pa_Col_weigh_22 (And.intro pa_Col_weigh_23 (And.intro pa_Col_weigh_24 (And.intro pa_Col_weigh_25 (And.intro pa_Col_weigh_26 (And.intro pa_Col_weigh_27 (And.intro pa_Col_weigh_28 (And.intro pa_Col_weigh_29 (And.intro pa_Col_weigh_30 (pa_Col_weigh_31)))))))))))))))))))))))))))))))
def pr_Dec_begin : List ma_E := [(0, 1, .aload_n 0, []),
  (1, 1, .iload_n 1, []),
  (2, 3, .putfield 29, [5, 5, 0, 0, 187]),
  (5, 1, .aload_n 0, []),
  (6, 1, .iconst 0, [0, 0]),
  (7, 3, .putfield 32, [5, 6, 0, 0, 189]),
  (10, 1, .aload_n 0, []),
  (11, 1, .iconst 0, [0, 0]),
  (12, 3, .putfield 35, [5, 7, 0, 0, 191]),
  (15, 1, .aload_n 0, []),
  (16, 3, .getfield 18, [5, 2, 2, 0, 184]),
  (19, 1, .iconst 0, [0, 0]),
  (20, 3, .invokestatic 51, [38, 2, 0, 447, 304, 48]),
  (23, 1, .return_, [])]
theorem po_Dec_begin : ma_ok me_Dec_begin pr_Dec_begin := ma_ok_of (by decide +kernel)
theorem pa_Dec_begin_0 : pr_Dec_begin[0]? = some (0, 1, .aload_n 0, []) := rfl
theorem pa_Dec_begin_1 : pr_Dec_begin[1]? = some (1, 1, .iload_n 1, []) := rfl
theorem pa_Dec_begin_2 : pr_Dec_begin[2]? = some (2, 3, .putfield 29, [5, 5, 0, 0, 187]) := rfl
theorem pa_Dec_begin_3 : pr_Dec_begin[3]? = some (5, 1, .aload_n 0, []) := rfl
theorem pa_Dec_begin_4 : pr_Dec_begin[4]? = some (6, 1, .iconst 0, [0, 0]) := rfl
theorem pa_Dec_begin_5 : pr_Dec_begin[5]? = some (7, 3, .putfield 32, [5, 6, 0, 0, 189]) := rfl
theorem pa_Dec_begin_6 : pr_Dec_begin[6]? = some (10, 1, .aload_n 0, []) := rfl
theorem pa_Dec_begin_7 : pr_Dec_begin[7]? = some (11, 1, .iconst 0, [0, 0]) := rfl
theorem pa_Dec_begin_8 : pr_Dec_begin[8]? = some (12, 3, .putfield 35, [5, 7, 0, 0, 191]) := rfl
theorem pa_Dec_begin_9 : pr_Dec_begin[9]? = some (15, 1, .aload_n 0, []) := rfl
theorem pa_Dec_begin_10 : pr_Dec_begin[10]? = some (16, 3, .getfield 18, [5, 2, 2, 0, 184]) := rfl
theorem pa_Dec_begin_11 : pr_Dec_begin[11]? = some (19, 1, .iconst 0, [0, 0]) := rfl
theorem pa_Dec_begin_12 : pr_Dec_begin[12]? = some (20, 3, .invokestatic 51, [38, 2, 0, 447, 304, 48]) := rfl
theorem pa_Dec_begin_13 : pr_Dec_begin[13]? = some (23, 1, .return_, []) := rfl
def pa_Dec_begin := And.intro pa_Dec_begin_0 (And.intro pa_Dec_begin_1 (And.intro pa_Dec_begin_2 (And.intro pa_Dec_begin_3 (And.intro pa_Dec_begin_4 (And.intro pa_Dec_begin_5 (And.intro pa_Dec_begin_6 (And.intro pa_Dec_begin_7 (And.intro pa_Dec_begin_8 (And.intro pa_Dec_begin_9 (And.intro pa_Dec_begin_10 (And.intro pa_Dec_begin_11 (And.intro pa_Dec_begin_12 (pa_Dec_begin_13)))))))))))))
def pr_Dec_slotOf : List ma_E := [(0, 1, .iload_n 1, []),
  (1, 3, .sipush 256, [256, 0]),
  (4, 1, .idiv, []),
  (5, 1, .istore_n 2, []),
  (6, 1, .iload_n 1, []),
  (7, 3, .sipush 256, [256, 0]),
  (10, 1, .irem, []),
  (11, 1, .istore_n 3, []),
  (12, 1, .iload_n 1, []),
  (13, 1, .iconst (-1), [1, 1]),
  (14, 3, .if_icmp .eq (24), [21]),
  (17, 1, .iload_n 2, []),
  (18, 1, .aload_n 0, []),
  (19, 3, .getfield 29, [5, 5, 0, 0, 187]),
  (22, 3, .invokestatic 95, [15, 1, 1, 2, 265, 40]),
  (25, 3, .if_icmp .ge (13), [21]),
  (28, 1, .iload_n 3, []),
  (29, 2, .bipush 16, [16, 0]),
  (31, 3, .if_icmp .ge (7), [21]),
  (34, 1, .iconst 1, [1, 0]),
  (35, 3, .goto (4), [22]),
  (38, 1, .iconst 0, [0, 0]),
  (39, 2, .istore 4, []),
  (41, 2, .iload 4, []),
  (43, 3, .ifCond .eq (12), [31]),
  (46, 1, .iload_n 2, []),
  (47, 2, .bipush 16, [16, 0]),
  (49, 1, .imul, []),
  (50, 1, .iload_n 3, []),
  (51, 1, .iadd, []),
  (52, 3, .goto (4), [32]),
  (55, 1, .iconst (-1), [1, 1]),
  (56, 1, .ireturn, [0])]
theorem po_Dec_slotOf : ma_ok me_Dec_slotOf pr_Dec_slotOf := ma_ok_of (by decide +kernel)
theorem pa_Dec_slotOf_0 : pr_Dec_slotOf[0]? = some (0, 1, .iload_n 1, []) := rfl
theorem pa_Dec_slotOf_1 : pr_Dec_slotOf[1]? = some (1, 3, .sipush 256, [256, 0]) := rfl
theorem pa_Dec_slotOf_2 : pr_Dec_slotOf[2]? = some (4, 1, .idiv, []) := rfl
theorem pa_Dec_slotOf_3 : pr_Dec_slotOf[3]? = some (5, 1, .istore_n 2, []) := rfl
theorem pa_Dec_slotOf_4 : pr_Dec_slotOf[4]? = some (6, 1, .iload_n 1, []) := rfl
theorem pa_Dec_slotOf_5 : pr_Dec_slotOf[5]? = some (7, 3, .sipush 256, [256, 0]) := rfl
theorem pa_Dec_slotOf_6 : pr_Dec_slotOf[6]? = some (10, 1, .irem, []) := rfl
theorem pa_Dec_slotOf_7 : pr_Dec_slotOf[7]? = some (11, 1, .istore_n 3, []) := rfl
theorem pa_Dec_slotOf_8 : pr_Dec_slotOf[8]? = some (12, 1, .iload_n 1, []) := rfl
theorem pa_Dec_slotOf_9 : pr_Dec_slotOf[9]? = some (13, 1, .iconst (-1), [1, 1]) := rfl
theorem pa_Dec_slotOf_10 : pr_Dec_slotOf[10]? = some (14, 3, .if_icmp .eq (24), [21]) := rfl
theorem pa_Dec_slotOf_11 : pr_Dec_slotOf[11]? = some (17, 1, .iload_n 2, []) := rfl
theorem pa_Dec_slotOf_12 : pr_Dec_slotOf[12]? = some (18, 1, .aload_n 0, []) := rfl
theorem pa_Dec_slotOf_13 : pr_Dec_slotOf[13]? = some (19, 3, .getfield 29, [5, 5, 0, 0, 187]) := rfl
theorem pa_Dec_slotOf_14 : pr_Dec_slotOf[14]? = some (22, 3, .invokestatic 95, [15, 1, 1, 2, 265, 40]) := rfl
theorem pa_Dec_slotOf_15 : pr_Dec_slotOf[15]? = some (25, 3, .if_icmp .ge (13), [21]) := rfl
theorem pa_Dec_slotOf_16 : pr_Dec_slotOf[16]? = some (28, 1, .iload_n 3, []) := rfl
theorem pa_Dec_slotOf_17 : pr_Dec_slotOf[17]? = some (29, 2, .bipush 16, [16, 0]) := rfl
theorem pa_Dec_slotOf_18 : pr_Dec_slotOf[18]? = some (31, 3, .if_icmp .ge (7), [21]) := rfl
theorem pa_Dec_slotOf_19 : pr_Dec_slotOf[19]? = some (34, 1, .iconst 1, [1, 0]) := rfl
theorem pa_Dec_slotOf_20 : pr_Dec_slotOf[20]? = some (35, 3, .goto (4), [22]) := rfl
theorem pa_Dec_slotOf_21 : pr_Dec_slotOf[21]? = some (38, 1, .iconst 0, [0, 0]) := rfl
theorem pa_Dec_slotOf_22 : pr_Dec_slotOf[22]? = some (39, 2, .istore 4, []) := rfl
theorem pa_Dec_slotOf_23 : pr_Dec_slotOf[23]? = some (41, 2, .iload 4, []) := rfl
theorem pa_Dec_slotOf_24 : pr_Dec_slotOf[24]? = some (43, 3, .ifCond .eq (12), [31]) := rfl
theorem pa_Dec_slotOf_25 : pr_Dec_slotOf[25]? = some (46, 1, .iload_n 2, []) := rfl
theorem pa_Dec_slotOf_26 : pr_Dec_slotOf[26]? = some (47, 2, .bipush 16, [16, 0]) := rfl
theorem pa_Dec_slotOf_27 : pr_Dec_slotOf[27]? = some (49, 1, .imul, []) := rfl
theorem pa_Dec_slotOf_28 : pr_Dec_slotOf[28]? = some (50, 1, .iload_n 3, []) := rfl
theorem pa_Dec_slotOf_29 : pr_Dec_slotOf[29]? = some (51, 1, .iadd, []) := rfl
theorem pa_Dec_slotOf_30 : pr_Dec_slotOf[30]? = some (52, 3, .goto (4), [32]) := rfl
theorem pa_Dec_slotOf_31 : pr_Dec_slotOf[31]? = some (55, 1, .iconst (-1), [1, 1]) := rfl
theorem pa_Dec_slotOf_32 : pr_Dec_slotOf[32]? = some (56, 1, .ireturn, [0]) := rfl
def pa_Dec_slotOf := And.intro pa_Dec_slotOf_0 (And.intro pa_Dec_slotOf_1 (And.intro pa_Dec_slotOf_2 (And.intro pa_Dec_slotOf_3 (And.intro pa_Dec_slotOf_4 (And.intro pa_Dec_slotOf_5 (And.intro pa_Dec_slotOf_6 (And.intro pa_Dec_slotOf_7 (And.intro pa_Dec_slotOf_8 (And.intro pa_Dec_slotOf_9 (And.intro pa_Dec_slotOf_10 (And.intro pa_Dec_slotOf_11 (And.intro pa_Dec_slotOf_12 (And.intro pa_Dec_slotOf_13 (And.intro pa_Dec_slotOf_14 (And.intro pa_Dec_slotOf_15 (And.intro pa_Dec_slotOf_16 (And.intro pa_Dec_slotOf_17 (And.intro pa_Dec_slotOf_18 (And.intro pa_Dec_slotOf_19 (And.intro pa_Dec_slotOf_20 (And.intro pa_Dec_slotOf_21 (And.intro pa_Dec_slotOf_22 (And.intro pa_Dec_slotOf_23 (And.intro pa_Dec_slotOf_24 (And.intro pa_Dec_slotOf_25 (And.intro pa_Dec_slotOf_26 (And.intro pa_Dec_slotOf_27 (And.intro pa_Dec_slotOf_28 (And.intro pa_Dec_slotOf_29 (And.intro pa_Dec_slotOf_30 (And.intro pa_Dec_slotOf_31 (pa_Dec_slotOf_32))))))))))))))))))))))))))))))))
def pr_Arc_appendCopies : List ma_E := [(0, 1, .iconst 0, [0, 0]),
  (1, 1, .istore_n 2, []),
  (2, 1, .iload_n 2, []),
  (3, 1, .iconst 3, [3, 0]),
  (4, 3, .if_icmp .ge (14), [10]),
  (7, 1, .aload_n 0, []),
  (8, 1, .iload_n 1, []),
  (9, 3, .invokevirtual 115, [1, 1, 0, 0, 366, 367, 368, 41]),
  (12, 3, .iinc 2 (1), [1, 0]),
  (15, 3, .goto (-13), [2]),
  (18, 1, .return_, [])]
theorem po_Arc_appendCopies : ma_ok me_Arc_appendCopies pr_Arc_appendCopies := ma_ok_of (by decide +kernel)
theorem pa_Arc_appendCopies_0 : pr_Arc_appendCopies[0]? = some (0, 1, .iconst 0, [0, 0]) := rfl
theorem pa_Arc_appendCopies_1 : pr_Arc_appendCopies[1]? = some (1, 1, .istore_n 2, []) := rfl
theorem pa_Arc_appendCopies_2 : pr_Arc_appendCopies[2]? = some (2, 1, .iload_n 2, []) := rfl
theorem pa_Arc_appendCopies_3 : pr_Arc_appendCopies[3]? = some (3, 1, .iconst 3, [3, 0]) := rfl
theorem pa_Arc_appendCopies_4 : pr_Arc_appendCopies[4]? = some (4, 3, .if_icmp .ge (14), [10]) := rfl
theorem pa_Arc_appendCopies_5 : pr_Arc_appendCopies[5]? = some (7, 1, .aload_n 0, []) := rfl
theorem pa_Arc_appendCopies_6 : pr_Arc_appendCopies[6]? = some (8, 1, .iload_n 1, []) := rfl
theorem pa_Arc_appendCopies_7 : pr_Arc_appendCopies[7]? = some (9, 3, .invokevirtual 115, [1, 1, 0, 0, 366, 367, 368, 41]) := rfl
theorem pa_Arc_appendCopies_8 : pr_Arc_appendCopies[8]? = some (12, 3, .iinc 2 (1), [1, 0]) := rfl
theorem pa_Arc_appendCopies_9 : pr_Arc_appendCopies[9]? = some (15, 3, .goto (-13), [2]) := rfl
theorem pa_Arc_appendCopies_10 : pr_Arc_appendCopies[10]? = some (18, 1, .return_, []) := rfl
def pa_Arc_appendCopies := And.intro pa_Arc_appendCopies_0 (And.intro pa_Arc_appendCopies_1 (And.intro pa_Arc_appendCopies_2 (And.intro pa_Arc_appendCopies_3 (And.intro pa_Arc_appendCopies_4 (And.intro pa_Arc_appendCopies_5 (And.intro pa_Arc_appendCopies_6 (And.intro pa_Arc_appendCopies_7 (And.intro pa_Arc_appendCopies_8 (And.intro pa_Arc_appendCopies_9 (pa_Arc_appendCopies_10))))))))))
def pr_Arc_forge : List ma_E := [(0, 1, .aload_n 0, []),
  (1, 3, .invokevirtual 89, [19, 0, 6, 0, 402, 404, 16, 40]),
  (4, 3, .ifCond .ne (15), [8]),
  (7, 2, .iload 5, []),
  (9, 3, .ifCond .lt (10), [8]),
  (12, 2, .iload 5, []),
  (14, 2, .bipush 60, [60, 0]),
  (16, 3, .if_icmp .le (5), [10]),
  (19, 1, .iconst 0, [0, 0]),
  (20, 1, .ireturn, [1]),
  (21, 1, .aload_n 0, []),
  (22, 3, .invokevirtual 93, [23, 0, 6, 0, 406, 408, 17, 40]),
  (25, 1, .lload_n 1, []),
  (26, 1, .lload_n 3, []),
  (27, 2, .iload 5, []),
  (29, 3, .invokevirtual 107, [3, 3, 0, 0, 362, 363, 364, 41]),
  (32, 1, .iconst 1, [1, 0]),
  (33, 1, .ireturn, [1])]
theorem po_Arc_forge : ma_ok me_Arc_forge pr_Arc_forge := ma_ok_of (by decide +kernel)
theorem pa_Arc_forge_0 : pr_Arc_forge[0]? = some (0, 1, .aload_n 0, []) := rfl
theorem pa_Arc_forge_1 : pr_Arc_forge[1]? = some (1, 3, .invokevirtual 89, [19, 0, 6, 0, 402, 404, 16, 40]) := rfl
theorem pa_Arc_forge_2 : pr_Arc_forge[2]? = some (4, 3, .ifCond .ne (15), [8]) := rfl
theorem pa_Arc_forge_3 : pr_Arc_forge[3]? = some (7, 2, .iload 5, []) := rfl
theorem pa_Arc_forge_4 : pr_Arc_forge[4]? = some (9, 3, .ifCond .lt (10), [8]) := rfl
theorem pa_Arc_forge_5 : pr_Arc_forge[5]? = some (12, 2, .iload 5, []) := rfl
theorem pa_Arc_forge_6 : pr_Arc_forge[6]? = some (14, 2, .bipush 60, [60, 0]) := rfl
theorem pa_Arc_forge_7 : pr_Arc_forge[7]? = some (16, 3, .if_icmp .le (5), [10]) := rfl
theorem pa_Arc_forge_8 : pr_Arc_forge[8]? = some (19, 1, .iconst 0, [0, 0]) := rfl
theorem pa_Arc_forge_9 : pr_Arc_forge[9]? = some (20, 1, .ireturn, [1]) := rfl
theorem pa_Arc_forge_10 : pr_Arc_forge[10]? = some (21, 1, .aload_n 0, []) := rfl
theorem pa_Arc_forge_11 : pr_Arc_forge[11]? = some (22, 3, .invokevirtual 93, [23, 0, 6, 0, 406, 408, 17, 40]) := rfl
theorem pa_Arc_forge_12 : pr_Arc_forge[12]? = some (25, 1, .lload_n 1, []) := rfl
theorem pa_Arc_forge_13 : pr_Arc_forge[13]? = some (26, 1, .lload_n 3, []) := rfl
theorem pa_Arc_forge_14 : pr_Arc_forge[14]? = some (27, 2, .iload 5, []) := rfl
theorem pa_Arc_forge_15 : pr_Arc_forge[15]? = some (29, 3, .invokevirtual 107, [3, 3, 0, 0, 362, 363, 364, 41]) := rfl
theorem pa_Arc_forge_16 : pr_Arc_forge[16]? = some (32, 1, .iconst 1, [1, 0]) := rfl
theorem pa_Arc_forge_17 : pr_Arc_forge[17]? = some (33, 1, .ireturn, [1]) := rfl
def pa_Arc_forge := And.intro pa_Arc_forge_0 (And.intro pa_Arc_forge_1 (And.intro pa_Arc_forge_2 (And.intro pa_Arc_forge_3 (And.intro pa_Arc_forge_4 (And.intro pa_Arc_forge_5 (And.intro pa_Arc_forge_6 (And.intro pa_Arc_forge_7 (And.intro pa_Arc_forge_8 (And.intro pa_Arc_forge_9 (And.intro pa_Arc_forge_10 (And.intro pa_Arc_forge_11 (And.intro pa_Arc_forge_12 (And.intro pa_Arc_forge_13 (And.intro pa_Arc_forge_14 (And.intro pa_Arc_forge_15 (And.intro pa_Arc_forge_16 (pa_Arc_forge_17)))))))))))))))))
def pr_Arc_letter : List ma_E := [(0, 1, .aload_n 0, []),
  (1, 1, .iload_n 1, []),
  (2, 3, .invokevirtual 81, [21, 1, 6, 0, 385, 387, 15, 40]),
  (5, 3, .ifCond .eq (13), [9]),
  (8, 1, .iload_n 2, []),
  (9, 3, .ifCond .lt (9), [9]),
  (12, 1, .iload_n 2, []),
  (13, 2, .bipush 45, [45, 0]),
  (15, 3, .if_icmp .lt (5), [11]),
  (18, 1, .iconst (-1), [1, 1]),
  (19, 1, .ireturn, [0]),
  (20, 1, .aload_n 0, []),
  (21, 3, .getfield 17, [6, 1, 2, 0, 223]),
  (24, 1, .iload_n 1, []),
  (25, 1, .aaload, []),
  (26, 1, .iload_n 2, []),
  (27, 3, .invokevirtual 84, [2, 1, 0, 0, 389, 390, 391, 41]),
  (30, 1, .ireturn, [0])]
theorem po_Arc_letter : ma_ok me_Arc_letter pr_Arc_letter := ma_ok_of (by decide +kernel)
theorem pa_Arc_letter_0 : pr_Arc_letter[0]? = some (0, 1, .aload_n 0, []) := rfl
theorem pa_Arc_letter_1 : pr_Arc_letter[1]? = some (1, 1, .iload_n 1, []) := rfl
theorem pa_Arc_letter_2 : pr_Arc_letter[2]? = some (2, 3, .invokevirtual 81, [21, 1, 6, 0, 385, 387, 15, 40]) := rfl
theorem pa_Arc_letter_3 : pr_Arc_letter[3]? = some (5, 3, .ifCond .eq (13), [9]) := rfl
theorem pa_Arc_letter_4 : pr_Arc_letter[4]? = some (8, 1, .iload_n 2, []) := rfl
theorem pa_Arc_letter_5 : pr_Arc_letter[5]? = some (9, 3, .ifCond .lt (9), [9]) := rfl
theorem pa_Arc_letter_6 : pr_Arc_letter[6]? = some (12, 1, .iload_n 2, []) := rfl
theorem pa_Arc_letter_7 : pr_Arc_letter[7]? = some (13, 2, .bipush 45, [45, 0]) := rfl
theorem pa_Arc_letter_8 : pr_Arc_letter[8]? = some (15, 3, .if_icmp .lt (5), [11]) := rfl
theorem pa_Arc_letter_9 : pr_Arc_letter[9]? = some (18, 1, .iconst (-1), [1, 1]) := rfl
theorem pa_Arc_letter_10 : pr_Arc_letter[10]? = some (19, 1, .ireturn, [0]) := rfl
theorem pa_Arc_letter_11 : pr_Arc_letter[11]? = some (20, 1, .aload_n 0, []) := rfl
theorem pa_Arc_letter_12 : pr_Arc_letter[12]? = some (21, 3, .getfield 17, [6, 1, 2, 0, 223]) := rfl
theorem pa_Arc_letter_13 : pr_Arc_letter[13]? = some (24, 1, .iload_n 1, []) := rfl
theorem pa_Arc_letter_14 : pr_Arc_letter[14]? = some (25, 1, .aaload, []) := rfl
theorem pa_Arc_letter_15 : pr_Arc_letter[15]? = some (26, 1, .iload_n 2, []) := rfl
theorem pa_Arc_letter_16 : pr_Arc_letter[16]? = some (27, 3, .invokevirtual 84, [2, 1, 0, 0, 389, 390, 391, 41]) := rfl
theorem pa_Arc_letter_17 : pr_Arc_letter[17]? = some (30, 1, .ireturn, [0]) := rfl
def pa_Arc_letter := And.intro pa_Arc_letter_0 (And.intro pa_Arc_letter_1 (And.intro pa_Arc_letter_2 (And.intro pa_Arc_letter_3 (And.intro pa_Arc_letter_4 (And.intro pa_Arc_letter_5 (And.intro pa_Arc_letter_6 (And.intro pa_Arc_letter_7 (And.intro pa_Arc_letter_8 (And.intro pa_Arc_letter_9 (And.intro pa_Arc_letter_10 (And.intro pa_Arc_letter_11 (And.intro pa_Arc_letter_12 (And.intro pa_Arc_letter_13 (And.intro pa_Arc_letter_14 (And.intro pa_Arc_letter_15 (And.intro pa_Arc_letter_16 (pa_Arc_letter_17)))))))))))))))))
def pr_Arc_product : List ma_E := [(0, 1, .aload_n 0, []),
  (1, 3, .getfield 34, [6, 5, 2, 0, 227]),
  (4, 1, .iload_n 1, []),
  (5, 3, .sipush 255, [255, 0]),
  (8, 1, .iand, []),
  (9, 1, .iload_n 2, []),
  (10, 3, .sipush 255, [255, 0]),
  (13, 1, .iand, []),
  (14, 3, .invokevirtual 151, [6, 2, 1, 0, 528, 292, 293, 42]),
  (17, 1, .ireturn, [0])]
theorem po_Arc_product : ma_ok me_Arc_product pr_Arc_product := ma_ok_of (by decide +kernel)
theorem pa_Arc_product_0 : pr_Arc_product[0]? = some (0, 1, .aload_n 0, []) := rfl
theorem pa_Arc_product_1 : pr_Arc_product[1]? = some (1, 3, .getfield 34, [6, 5, 2, 0, 227]) := rfl
theorem pa_Arc_product_2 : pr_Arc_product[2]? = some (4, 1, .iload_n 1, []) := rfl
theorem pa_Arc_product_3 : pr_Arc_product[3]? = some (5, 3, .sipush 255, [255, 0]) := rfl
theorem pa_Arc_product_4 : pr_Arc_product[4]? = some (8, 1, .iand, []) := rfl
theorem pa_Arc_product_5 : pr_Arc_product[5]? = some (9, 1, .iload_n 2, []) := rfl
theorem pa_Arc_product_6 : pr_Arc_product[6]? = some (10, 3, .sipush 255, [255, 0]) := rfl
theorem pa_Arc_product_7 : pr_Arc_product[7]? = some (13, 1, .iand, []) := rfl
theorem pa_Arc_product_8 : pr_Arc_product[8]? = some (14, 3, .invokevirtual 151, [6, 2, 1, 0, 528, 292, 293, 42]) := rfl
theorem pa_Arc_product_9 : pr_Arc_product[9]? = some (17, 1, .ireturn, [0]) := rfl
def pa_Arc_product := And.intro pa_Arc_product_0 (And.intro pa_Arc_product_1 (And.intro pa_Arc_product_2 (And.intro pa_Arc_product_3 (And.intro pa_Arc_product_4 (And.intro pa_Arc_product_5 (And.intro pa_Arc_product_6 (And.intro pa_Arc_product_7 (And.intro pa_Arc_product_8 (pa_Arc_product_9)))))))))
