/-! the methods as tables -/
def pr_Row_append : List ma_E := [(0, 1, .aload_n 0, []),
  (1, 3, .getfield 16, [0, 2, 0, 0, 78]),
  (4, 2, .bipush 32, [32, 0]),
  (6, 3, .if_icmp .ge (24), [17]),
  (9, 1, .aload_n 0, []),
  (10, 1, .dup, []),
  (11, 3, .getfield 7, [0, 0, 1, 0, 74]),
  (14, 1, .iload_n 1, []),
  (15, 1, .i2l, []),
  (16, 1, .iconst 2, [2, 0]),
  (17, 1, .aload_n 0, []),
  (18, 3, .getfield 16, [0, 2, 0, 0, 78]),
  (21, 1, .imul, []),
  (22, 1, .lshl, []),
  (23, 1, .lor, []),
  (24, 3, .putfield 7, [0, 0, 1, 0, 74]),
  (27, 3, .goto (24), [31]),
  (30, 1, .aload_n 0, []),
  (31, 1, .dup, []),
  (32, 3, .getfield 13, [0, 1, 1, 0, 76]),
  (35, 1, .iload_n 1, []),
  (36, 1, .i2l, []),
  (37, 1, .iconst 2, [2, 0]),
  (38, 1, .aload_n 0, []),
  (39, 3, .getfield 16, [0, 2, 0, 0, 78]),
  (42, 2, .bipush 32, [32, 0]),
  (44, 1, .isub, []),
  (45, 1, .imul, []),
  (46, 1, .lshl, []),
  (47, 1, .lor, []),
  (48, 3, .putfield 13, [0, 1, 1, 0, 76]),
  (51, 1, .aload_n 0, []),
  (52, 1, .dup, []),
  (53, 3, .getfield 16, [0, 2, 0, 0, 78]),
  (56, 1, .iconst 1, [1, 0]),
  (57, 1, .iadd, []),
  (58, 3, .putfield 16, [0, 2, 0, 0, 78]),
  (61, 1, .return_, [])]
theorem po_Row_append : ma_ok me_Row_append pr_Row_append := ma_ok_of (by decide +kernel)
theorem pa_Row_append_0 : pr_Row_append[0]? = some (0, 1, .aload_n 0, []) := rfl
theorem pa_Row_append_1 : pr_Row_append[1]? = some (1, 3, .getfield 16, [0, 2, 0, 0, 78]) := rfl
theorem pa_Row_append_2 : pr_Row_append[2]? = some (4, 2, .bipush 32, [32, 0]) := rfl
theorem pa_Row_append_3 : pr_Row_append[3]? = some (6, 3, .if_icmp .ge (24), [17]) := rfl
theorem pa_Row_append_4 : pr_Row_append[4]? = some (9, 1, .aload_n 0, []) := rfl
theorem pa_Row_append_5 : pr_Row_append[5]? = some (10, 1, .dup, []) := rfl
theorem pa_Row_append_6 : pr_Row_append[6]? = some (11, 3, .getfield 7, [0, 0, 1, 0, 74]) := rfl
theorem pa_Row_append_7 : pr_Row_append[7]? = some (14, 1, .iload_n 1, []) := rfl
theorem pa_Row_append_8 : pr_Row_append[8]? = some (15, 1, .i2l, []) := rfl
theorem pa_Row_append_9 : pr_Row_append[9]? = some (16, 1, .iconst 2, [2, 0]) := rfl
theorem pa_Row_append_10 : pr_Row_append[10]? = some (17, 1, .aload_n 0, []) := rfl
theorem pa_Row_append_11 : pr_Row_append[11]? = some (18, 3, .getfield 16, [0, 2, 0, 0, 78]) := rfl
theorem pa_Row_append_12 : pr_Row_append[12]? = some (21, 1, .imul, []) := rfl
theorem pa_Row_append_13 : pr_Row_append[13]? = some (22, 1, .lshl, []) := rfl
theorem pa_Row_append_14 : pr_Row_append[14]? = some (23, 1, .lor, []) := rfl
theorem pa_Row_append_15 : pr_Row_append[15]? = some (24, 3, .putfield 7, [0, 0, 1, 0, 74]) := rfl
theorem pa_Row_append_16 : pr_Row_append[16]? = some (27, 3, .goto (24), [31]) := rfl
theorem pa_Row_append_17 : pr_Row_append[17]? = some (30, 1, .aload_n 0, []) := rfl
theorem pa_Row_append_18 : pr_Row_append[18]? = some (31, 1, .dup, []) := rfl
theorem pa_Row_append_19 : pr_Row_append[19]? = some (32, 3, .getfield 13, [0, 1, 1, 0, 76]) := rfl
theorem pa_Row_append_20 : pr_Row_append[20]? = some (35, 1, .iload_n 1, []) := rfl
theorem pa_Row_append_21 : pr_Row_append[21]? = some (36, 1, .i2l, []) := rfl
theorem pa_Row_append_22 : pr_Row_append[22]? = some (37, 1, .iconst 2, [2, 0]) := rfl
theorem pa_Row_append_23 : pr_Row_append[23]? = some (38, 1, .aload_n 0, []) := rfl
theorem pa_Row_append_24 : pr_Row_append[24]? = some (39, 3, .getfield 16, [0, 2, 0, 0, 78]) := rfl
theorem pa_Row_append_25 : pr_Row_append[25]? = some (42, 2, .bipush 32, [32, 0]) := rfl
theorem pa_Row_append_26 : pr_Row_append[26]? = some (44, 1, .isub, []) := rfl
theorem pa_Row_append_27 : pr_Row_append[27]? = some (45, 1, .imul, []) := rfl
theorem pa_Row_append_28 : pr_Row_append[28]? = some (46, 1, .lshl, []) := rfl
theorem pa_Row_append_29 : pr_Row_append[29]? = some (47, 1, .lor, []) := rfl
theorem pa_Row_append_30 : pr_Row_append[30]? = some (48, 3, .putfield 13, [0, 1, 1, 0, 76]) := rfl
theorem pa_Row_append_31 : pr_Row_append[31]? = some (51, 1, .aload_n 0, []) := rfl
theorem pa_Row_append_32 : pr_Row_append[32]? = some (52, 1, .dup, []) := rfl
theorem pa_Row_append_33 : pr_Row_append[33]? = some (53, 3, .getfield 16, [0, 2, 0, 0, 78]) := rfl
theorem pa_Row_append_34 : pr_Row_append[34]? = some (56, 1, .iconst 1, [1, 0]) := rfl
theorem pa_Row_append_35 : pr_Row_append[35]? = some (57, 1, .iadd, []) := rfl
theorem pa_Row_append_36 : pr_Row_append[36]? = some (58, 3, .putfield 16, [0, 2, 0, 0, 78]) := rfl
theorem pa_Row_append_37 : pr_Row_append[37]? = some (61, 1, .return_, []) := rfl
def pa_Row_append := And.intro pa_Row_append_0 (And.intro pa_Row_append_1 (And.intro pa_Row_append_2 (And.intro pa_Row_append_3 (And.intro pa_Row_append_4 (And.intro pa_Row_append_5 (And.intro pa_Row_append_6 (And.intro pa_Row_append_7 (And.intro pa_Row_append_8 (And.intro pa_Row_append_9 (And.intro pa_Row_append_10 (And.intro pa_Row_append_11 (And.intro pa_Row_append_12 (And.intro pa_Row_append_13 (And.intro pa_Row_append_14 (And.intro pa_Row_append_15 (And.intro pa_Row_append_16 (And.intro pa_Row_append_17 (And.intro pa_Row_append_18 (And.intro pa_Row_append_19 (And.intro pa_Row_append_20 (And.intro pa_Row_append_21 (And.intro pa_Row_append_22 (And.intro pa_Row_append_23 (And.intro pa_Row_append_24 (And.intro pa_Row_append_25 (And.intro pa_Row_append_26 (And.intro pa_Row_append_27 (And.intro pa_Row_append_28 (And.intro pa_Row_append_29 (And.intro pa_Row_append_30 (And.intro pa_Row_append_31 (And.intro pa_Row_append_32 (And.intro pa_Row_append_33 (And.intro pa_Row_append_34 (And.intro pa_Row_append_35 (And.intro pa_Row_append_36 (pa_Row_append_37)))))))))))))))))))))))))))))))))))))
def pr_Row_at : List ma_E := [(0, 1, .iload_n 1, []),
  (1, 2, .bipush 32, [32, 0]),
  (3, 3, .if_icmp .ge (14), [10]),
  (6, 1, .aload_n 0, []),
  (7, 3, .getfield 7, [0, 0, 1, 0, 74]),
  (10, 1, .iconst 2, [2, 0]),
  (11, 1, .iload_n 1, []),
  (12, 1, .imul, []),
  (13, 1, .lushr, []),
  (14, 3, .goto (14), [18]),
  (17, 1, .aload_n 0, []),
  (18, 3, .getfield 13, [0, 1, 1, 0, 76]),
  (21, 1, .iconst 2, [2, 0]),
  (22, 1, .iload_n 1, []),
  (23, 2, .bipush 32, [32, 0]),
  (25, 1, .isub, []),
  (26, 1, .imul, []),
  (27, 1, .lushr, []),
  (28, 1, .lstore_n 2, []),
  (29, 1, .lload_n 2, []),
  (30, 3, .ldc2_w 20, [3, 0, 393]),
  (33, 1, .land, []),
  (34, 1, .l2i, []),
  (35, 1, .ireturn, [0])]
theorem po_Row_at : ma_ok me_Row_at pr_Row_at := ma_ok_of (by decide +kernel)
theorem pa_Row_at_0 : pr_Row_at[0]? = some (0, 1, .iload_n 1, []) := rfl
theorem pa_Row_at_1 : pr_Row_at[1]? = some (1, 2, .bipush 32, [32, 0]) := rfl
theorem pa_Row_at_2 : pr_Row_at[2]? = some (3, 3, .if_icmp .ge (14), [10]) := rfl
theorem pa_Row_at_3 : pr_Row_at[3]? = some (6, 1, .aload_n 0, []) := rfl
theorem pa_Row_at_4 : pr_Row_at[4]? = some (7, 3, .getfield 7, [0, 0, 1, 0, 74]) := rfl
theorem pa_Row_at_5 : pr_Row_at[5]? = some (10, 1, .iconst 2, [2, 0]) := rfl
theorem pa_Row_at_6 : pr_Row_at[6]? = some (11, 1, .iload_n 1, []) := rfl
theorem pa_Row_at_7 : pr_Row_at[7]? = some (12, 1, .imul, []) := rfl
theorem pa_Row_at_8 : pr_Row_at[8]? = some (13, 1, .lushr, []) := rfl
theorem pa_Row_at_9 : pr_Row_at[9]? = some (14, 3, .goto (14), [18]) := rfl
theorem pa_Row_at_10 : pr_Row_at[10]? = some (17, 1, .aload_n 0, []) := rfl
theorem pa_Row_at_11 : pr_Row_at[11]? = some (18, 3, .getfield 13, [0, 1, 1, 0, 76]) := rfl
theorem pa_Row_at_12 : pr_Row_at[12]? = some (21, 1, .iconst 2, [2, 0]) := rfl
theorem pa_Row_at_13 : pr_Row_at[13]? = some (22, 1, .iload_n 1, []) := rfl
theorem pa_Row_at_14 : pr_Row_at[14]? = some (23, 2, .bipush 32, [32, 0]) := rfl
theorem pa_Row_at_15 : pr_Row_at[15]? = some (25, 1, .isub, []) := rfl
theorem pa_Row_at_16 : pr_Row_at[16]? = some (26, 1, .imul, []) := rfl
theorem pa_Row_at_17 : pr_Row_at[17]? = some (27, 1, .lushr, []) := rfl
theorem pa_Row_at_18 : pr_Row_at[18]? = some (28, 1, .lstore_n 2, []) := rfl
theorem pa_Row_at_19 : pr_Row_at[19]? = some (29, 1, .lload_n 2, []) := rfl
theorem pa_Row_at_20 : pr_Row_at[20]? = some (30, 3, .ldc2_w 20, [3, 0, 393]) := rfl
theorem pa_Row_at_21 : pr_Row_at[21]? = some (33, 1, .land, []) := rfl
theorem pa_Row_at_22 : pr_Row_at[22]? = some (34, 1, .l2i, []) := rfl
theorem pa_Row_at_23 : pr_Row_at[23]? = some (35, 1, .ireturn, [0]) := rfl
def pa_Row_at := And.intro pa_Row_at_0 (And.intro pa_Row_at_1 (And.intro pa_Row_at_2 (And.intro pa_Row_at_3 (And.intro pa_Row_at_4 (And.intro pa_Row_at_5 (And.intro pa_Row_at_6 (And.intro pa_Row_at_7 (And.intro pa_Row_at_8 (And.intro pa_Row_at_9 (And.intro pa_Row_at_10 (And.intro pa_Row_at_11 (And.intro pa_Row_at_12 (And.intro pa_Row_at_13 (And.intro pa_Row_at_14 (And.intro pa_Row_at_15 (And.intro pa_Row_at_16 (And.intro pa_Row_at_17 (And.intro pa_Row_at_18 (And.intro pa_Row_at_19 (And.intro pa_Row_at_20 (And.intro pa_Row_at_21 (And.intro pa_Row_at_22 (pa_Row_at_23)))))))))))))))))))))))
def pr_Row_become : List ma_E := [(0, 1, .aload_n 0, []),
  (1, 1, .lload_n 1, []),
  (2, 3, .putfield 7, [0, 0, 1, 0, 74]),
  (5, 1, .aload_n 0, []),
  (6, 1, .lload_n 3, []),
  (7, 3, .putfield 13, [0, 1, 1, 0, 76]),
  (10, 1, .aload_n 0, []),
  (11, 2, .iload 5, []),
  (13, 3, .putfield 16, [0, 2, 0, 0, 78]),
  (16, 1, .return_, [])]
theorem po_Row_become : ma_ok me_Row_become pr_Row_become := ma_ok_of (by decide +kernel)
theorem pa_Row_become_0 : pr_Row_become[0]? = some (0, 1, .aload_n 0, []) := rfl
theorem pa_Row_become_1 : pr_Row_become[1]? = some (1, 1, .lload_n 1, []) := rfl
theorem pa_Row_become_2 : pr_Row_become[2]? = some (2, 3, .putfield 7, [0, 0, 1, 0, 74]) := rfl
theorem pa_Row_become_3 : pr_Row_become[3]? = some (5, 1, .aload_n 0, []) := rfl
theorem pa_Row_become_4 : pr_Row_become[4]? = some (6, 1, .lload_n 3, []) := rfl
theorem pa_Row_become_5 : pr_Row_become[5]? = some (7, 3, .putfield 13, [0, 1, 1, 0, 76]) := rfl
theorem pa_Row_become_6 : pr_Row_become[6]? = some (10, 1, .aload_n 0, []) := rfl
theorem pa_Row_become_7 : pr_Row_become[7]? = some (11, 2, .iload 5, []) := rfl
theorem pa_Row_become_8 : pr_Row_become[8]? = some (13, 3, .putfield 16, [0, 2, 0, 0, 78]) := rfl
theorem pa_Row_become_9 : pr_Row_become[9]? = some (16, 1, .return_, []) := rfl
def pa_Row_become := And.intro pa_Row_become_0 (And.intro pa_Row_become_1 (And.intro pa_Row_become_2 (And.intro pa_Row_become_3 (And.intro pa_Row_become_4 (And.intro pa_Row_become_5 (And.intro pa_Row_become_6 (And.intro pa_Row_become_7 (And.intro pa_Row_become_8 (pa_Row_become_9)))))))))
def pr_Fld_over : List ma_E := [(0, 1, .iload_n 1, []),
  (1, 3, .ifCond .eq (7), [4]),
  (4, 1, .iload_n 2, []),
  (5, 3, .ifCond .ne (7), [6]),
  (8, 1, .iconst 0, [0, 0]),
  (9, 3, .goto (29), [22]),
  (12, 1, .aload_n 0, []),
  (13, 3, .getfield 9, [1, 0, 2, 0, 96]),
  (16, 1, .aload_n 0, []),
  (17, 3, .getfield 13, [1, 1, 2, 0, 97]),
  (20, 1, .iload_n 1, []),
  (21, 1, .iaload, []),
  (22, 1, .aload_n 0, []),
  (23, 3, .getfield 13, [1, 1, 2, 0, 97]),
  (26, 1, .iload_n 2, []),
  (27, 1, .iaload, []),
  (28, 1, .isub, []),
  (29, 3, .sipush 255, [255, 0]),
  (32, 1, .iadd, []),
  (33, 3, .sipush 255, [255, 0]),
  (36, 1, .irem, []),
  (37, 1, .iaload, []),
  (38, 1, .ireturn, [0])]
theorem po_Fld_over : ma_ok me_Fld_over pr_Fld_over := ma_ok_of (by decide +kernel)
theorem pa_Fld_over_0 : pr_Fld_over[0]? = some (0, 1, .iload_n 1, []) := rfl
theorem pa_Fld_over_1 : pr_Fld_over[1]? = some (1, 3, .ifCond .eq (7), [4]) := rfl
theorem pa_Fld_over_2 : pr_Fld_over[2]? = some (4, 1, .iload_n 2, []) := rfl
theorem pa_Fld_over_3 : pr_Fld_over[3]? = some (5, 3, .ifCond .ne (7), [6]) := rfl
theorem pa_Fld_over_4 : pr_Fld_over[4]? = some (8, 1, .iconst 0, [0, 0]) := rfl
theorem pa_Fld_over_5 : pr_Fld_over[5]? = some (9, 3, .goto (29), [22]) := rfl
theorem pa_Fld_over_6 : pr_Fld_over[6]? = some (12, 1, .aload_n 0, []) := rfl
theorem pa_Fld_over_7 : pr_Fld_over[7]? = some (13, 3, .getfield 9, [1, 0, 2, 0, 96]) := rfl
theorem pa_Fld_over_8 : pr_Fld_over[8]? = some (16, 1, .aload_n 0, []) := rfl
theorem pa_Fld_over_9 : pr_Fld_over[9]? = some (17, 3, .getfield 13, [1, 1, 2, 0, 97]) := rfl
theorem pa_Fld_over_10 : pr_Fld_over[10]? = some (20, 1, .iload_n 1, []) := rfl
theorem pa_Fld_over_11 : pr_Fld_over[11]? = some (21, 1, .iaload, []) := rfl
theorem pa_Fld_over_12 : pr_Fld_over[12]? = some (22, 1, .aload_n 0, []) := rfl
theorem pa_Fld_over_13 : pr_Fld_over[13]? = some (23, 3, .getfield 13, [1, 1, 2, 0, 97]) := rfl
theorem pa_Fld_over_14 : pr_Fld_over[14]? = some (26, 1, .iload_n 2, []) := rfl
theorem pa_Fld_over_15 : pr_Fld_over[15]? = some (27, 1, .iaload, []) := rfl
theorem pa_Fld_over_16 : pr_Fld_over[16]? = some (28, 1, .isub, []) := rfl
theorem pa_Fld_over_17 : pr_Fld_over[17]? = some (29, 3, .sipush 255, [255, 0]) := rfl
theorem pa_Fld_over_18 : pr_Fld_over[18]? = some (32, 1, .iadd, []) := rfl
theorem pa_Fld_over_19 : pr_Fld_over[19]? = some (33, 3, .sipush 255, [255, 0]) := rfl
theorem pa_Fld_over_20 : pr_Fld_over[20]? = some (36, 1, .irem, []) := rfl
theorem pa_Fld_over_21 : pr_Fld_over[21]? = some (37, 1, .iaload, []) := rfl
theorem pa_Fld_over_22 : pr_Fld_over[22]? = some (38, 1, .ireturn, [0]) := rfl
def pa_Fld_over := And.intro pa_Fld_over_0 (And.intro pa_Fld_over_1 (And.intro pa_Fld_over_2 (And.intro pa_Fld_over_3 (And.intro pa_Fld_over_4 (And.intro pa_Fld_over_5 (And.intro pa_Fld_over_6 (And.intro pa_Fld_over_7 (And.intro pa_Fld_over_8 (And.intro pa_Fld_over_9 (And.intro pa_Fld_over_10 (And.intro pa_Fld_over_11 (And.intro pa_Fld_over_12 (And.intro pa_Fld_over_13 (And.intro pa_Fld_over_14 (And.intro pa_Fld_over_15 (And.intro pa_Fld_over_16 (And.intro pa_Fld_over_17 (And.intro pa_Fld_over_18 (And.intro pa_Fld_over_19 (And.intro pa_Fld_over_20 (And.intro pa_Fld_over_21 (pa_Fld_over_22))))))))))))))))))))))
def pr_Fld_powerOfTwo : List ma_E := [(0, 1, .aload_n 0, []),
  (1, 3, .getfield 9, [1, 0, 2, 0, 96]),
  (4, 1, .iload_n 1, []),
  (5, 3, .sipush 255, [255, 0]),
  (8, 1, .irem, []),
  (9, 1, .iaload, []),
  (10, 1, .ireturn, [0])]
theorem po_Fld_powerOfTwo : ma_ok me_Fld_powerOfTwo pr_Fld_powerOfTwo := ma_ok_of (by decide +kernel)
theorem pa_Fld_powerOfTwo_0 : pr_Fld_powerOfTwo[0]? = some (0, 1, .aload_n 0, []) := rfl
theorem pa_Fld_powerOfTwo_1 : pr_Fld_powerOfTwo[1]? = some (1, 3, .getfield 9, [1, 0, 2, 0, 96]) := rfl
theorem pa_Fld_powerOfTwo_2 : pr_Fld_powerOfTwo[2]? = some (4, 1, .iload_n 1, []) := rfl
theorem pa_Fld_powerOfTwo_3 : pr_Fld_powerOfTwo[3]? = some (5, 3, .sipush 255, [255, 0]) := rfl
theorem pa_Fld_powerOfTwo_4 : pr_Fld_powerOfTwo[4]? = some (8, 1, .irem, []) := rfl
theorem pa_Fld_powerOfTwo_5 : pr_Fld_powerOfTwo[5]? = some (9, 1, .iaload, []) := rfl
theorem pa_Fld_powerOfTwo_6 : pr_Fld_powerOfTwo[6]? = some (10, 1, .ireturn, [0]) := rfl
def pa_Fld_powerOfTwo := And.intro pa_Fld_powerOfTwo_0 (And.intro pa_Fld_powerOfTwo_1 (And.intro pa_Fld_powerOfTwo_2 (And.intro pa_Fld_powerOfTwo_3 (And.intro pa_Fld_powerOfTwo_4 (And.intro pa_Fld_powerOfTwo_5 (pa_Fld_powerOfTwo_6))))))
def pr_Fld_times : List ma_E := [(0, 1, .iload_n 1, []),
  (1, 3, .ifCond .eq (7), [4]),
  (4, 1, .iload_n 2, []),
  (5, 3, .ifCond .ne (7), [6]),
  (8, 1, .iconst 0, [0, 0]),
  (9, 3, .goto (25), [20]),
  (12, 1, .aload_n 0, []),
  (13, 3, .getfield 9, [1, 0, 2, 0, 96]),
  (16, 1, .aload_n 0, []),
  (17, 3, .getfield 13, [1, 1, 2, 0, 97]),
  (20, 1, .iload_n 1, []),
  (21, 1, .iaload, []),
  (22, 1, .aload_n 0, []),
  (23, 3, .getfield 13, [1, 1, 2, 0, 97]),
  (26, 1, .iload_n 2, []),
  (27, 1, .iaload, []),
  (28, 1, .iadd, []),
  (29, 3, .sipush 255, [255, 0]),
  (32, 1, .irem, []),
  (33, 1, .iaload, []),
  (34, 1, .ireturn, [0])]
theorem po_Fld_times : ma_ok me_Fld_times pr_Fld_times := ma_ok_of (by decide +kernel)
theorem pa_Fld_times_0 : pr_Fld_times[0]? = some (0, 1, .iload_n 1, []) := rfl
theorem pa_Fld_times_1 : pr_Fld_times[1]? = some (1, 3, .ifCond .eq (7), [4]) := rfl
theorem pa_Fld_times_2 : pr_Fld_times[2]? = some (4, 1, .iload_n 2, []) := rfl
theorem pa_Fld_times_3 : pr_Fld_times[3]? = some (5, 3, .ifCond .ne (7), [6]) := rfl
theorem pa_Fld_times_4 : pr_Fld_times[4]? = some (8, 1, .iconst 0, [0, 0]) := rfl
theorem pa_Fld_times_5 : pr_Fld_times[5]? = some (9, 3, .goto (25), [20]) := rfl
theorem pa_Fld_times_6 : pr_Fld_times[6]? = some (12, 1, .aload_n 0, []) := rfl
theorem pa_Fld_times_7 : pr_Fld_times[7]? = some (13, 3, .getfield 9, [1, 0, 2, 0, 96]) := rfl
theorem pa_Fld_times_8 : pr_Fld_times[8]? = some (16, 1, .aload_n 0, []) := rfl
theorem pa_Fld_times_9 : pr_Fld_times[9]? = some (17, 3, .getfield 13, [1, 1, 2, 0, 97]) := rfl
theorem pa_Fld_times_10 : pr_Fld_times[10]? = some (20, 1, .iload_n 1, []) := rfl
theorem pa_Fld_times_11 : pr_Fld_times[11]? = some (21, 1, .iaload, []) := rfl
theorem pa_Fld_times_12 : pr_Fld_times[12]? = some (22, 1, .aload_n 0, []) := rfl
theorem pa_Fld_times_13 : pr_Fld_times[13]? = some (23, 3, .getfield 13, [1, 1, 2, 0, 97]) := rfl
theorem pa_Fld_times_14 : pr_Fld_times[14]? = some (26, 1, .iload_n 2, []) := rfl
theorem pa_Fld_times_15 : pr_Fld_times[15]? = some (27, 1, .iaload, []) := rfl
theorem pa_Fld_times_16 : pr_Fld_times[16]? = some (28, 1, .iadd, []) := rfl
theorem pa_Fld_times_17 : pr_Fld_times[17]? = some (29, 3, .sipush 255, [255, 0]) := rfl
theorem pa_Fld_times_18 : pr_Fld_times[18]? = some (32, 1, .irem, []) := rfl
theorem pa_Fld_times_19 : pr_Fld_times[19]? = some (33, 1, .iaload, []) := rfl
theorem pa_Fld_times_20 : pr_Fld_times[20]? = some (34, 1, .ireturn, [0]) := rfl
def pa_Fld_times := And.intro pa_Fld_times_0 (And.intro pa_Fld_times_1 (And.intro pa_Fld_times_2 (And.intro pa_Fld_times_3 (And.intro pa_Fld_times_4 (And.intro pa_Fld_times_5 (And.intro pa_Fld_times_6 (And.intro pa_Fld_times_7 (And.intro pa_Fld_times_8 (And.intro pa_Fld_times_9 (And.intro pa_Fld_times_10 (And.intro pa_Fld_times_11 (And.intro pa_Fld_times_12 (And.intro pa_Fld_times_13 (And.intro pa_Fld_times_14 (And.intro pa_Fld_times_15 (And.intro pa_Fld_times_16 (And.intro pa_Fld_times_17 (And.intro pa_Fld_times_18 (And.intro pa_Fld_times_19 (pa_Fld_times_20))))))))))))))))))))
def pr_Bod_ahead : List ma_E := [(0, 1, .iload_n 1, []),
  (1, 3, .ifCond .ne (7), [4]),
  (4, 1, .iconst 3, [3, 0]),
  (5, 3, .goto (11), [10]),
  (8, 1, .aload_n 0, []),
  (9, 3, .getfield 9, [2, 0, 2, 0, 146]),
  (12, 1, .iload_n 1, []),
  (13, 1, .iconst 1, [1, 0]),
  (14, 1, .isub, []),
  (15, 1, .iaload, []),
  (16, 1, .ireturn, [0])]
theorem po_Bod_ahead : ma_ok me_Bod_ahead pr_Bod_ahead := ma_ok_of (by decide +kernel)
theorem pa_Bod_ahead_0 : pr_Bod_ahead[0]? = some (0, 1, .iload_n 1, []) := rfl
theorem pa_Bod_ahead_1 : pr_Bod_ahead[1]? = some (1, 3, .ifCond .ne (7), [4]) := rfl
theorem pa_Bod_ahead_2 : pr_Bod_ahead[2]? = some (4, 1, .iconst 3, [3, 0]) := rfl
theorem pa_Bod_ahead_3 : pr_Bod_ahead[3]? = some (5, 3, .goto (11), [10]) := rfl
theorem pa_Bod_ahead_4 : pr_Bod_ahead[4]? = some (8, 1, .aload_n 0, []) := rfl
theorem pa_Bod_ahead_5 : pr_Bod_ahead[5]? = some (9, 3, .getfield 9, [2, 0, 2, 0, 146]) := rfl
theorem pa_Bod_ahead_6 : pr_Bod_ahead[6]? = some (12, 1, .iload_n 1, []) := rfl
theorem pa_Bod_ahead_7 : pr_Bod_ahead[7]? = some (13, 1, .iconst 1, [1, 0]) := rfl
theorem pa_Bod_ahead_8 : pr_Bod_ahead[8]? = some (14, 1, .isub, []) := rfl
theorem pa_Bod_ahead_9 : pr_Bod_ahead[9]? = some (15, 1, .iaload, []) := rfl
theorem pa_Bod_ahead_10 : pr_Bod_ahead[10]? = some (16, 1, .ireturn, [0]) := rfl
def pa_Bod_ahead := And.intro pa_Bod_ahead_0 (And.intro pa_Bod_ahead_1 (And.intro pa_Bod_ahead_2 (And.intro pa_Bod_ahead_3 (And.intro pa_Bod_ahead_4 (And.intro pa_Bod_ahead_5 (And.intro pa_Bod_ahead_6 (And.intro pa_Bod_ahead_7 (And.intro pa_Bod_ahead_8 (And.intro pa_Bod_ahead_9 (pa_Bod_ahead_10))))))))))
def pr_Bod_rise : List ma_E := [(0, 1, .iload_n 1, []),
  (1, 1, .iconst 1, [1, 0]),
  (2, 3, .if_icmp .lt (30), [19]),
  (5, 1, .iload_n 1, []),
  (6, 2, .bipush 33, [33, 0]),
  (8, 3, .if_icmp .ge (24), [19]),
  (11, 1, .aload_n 0, []),
  (12, 3, .getfield 9, [2, 0, 2, 0, 146]),
  (15, 1, .iload_n 1, []),
  (16, 1, .iaload, []),
  (17, 1, .aload_n 0, []),
  (18, 3, .getfield 9, [2, 0, 2, 0, 146]),
  (21, 1, .iload_n 1, []),
  (22, 1, .iconst 1, [1, 0]),
  (23, 1, .isub, []),
  (24, 1, .iaload, []),
  (25, 3, .if_icmp .lt (7), [19]),
  (28, 1, .iload_n 1, []),
  (29, 3, .goto (4), [20]),
  (32, 1, .iconst 0, [0, 0]),
  (33, 1, .ireturn, [0])]
theorem po_Bod_rise : ma_ok me_Bod_rise pr_Bod_rise := ma_ok_of (by decide +kernel)
theorem pa_Bod_rise_0 : pr_Bod_rise[0]? = some (0, 1, .iload_n 1, []) := rfl
theorem pa_Bod_rise_1 : pr_Bod_rise[1]? = some (1, 1, .iconst 1, [1, 0]) := rfl
theorem pa_Bod_rise_2 : pr_Bod_rise[2]? = some (2, 3, .if_icmp .lt (30), [19]) := rfl
theorem pa_Bod_rise_3 : pr_Bod_rise[3]? = some (5, 1, .iload_n 1, []) := rfl
theorem pa_Bod_rise_4 : pr_Bod_rise[4]? = some (6, 2, .bipush 33, [33, 0]) := rfl
theorem pa_Bod_rise_5 : pr_Bod_rise[5]? = some (8, 3, .if_icmp .ge (24), [19]) := rfl
theorem pa_Bod_rise_6 : pr_Bod_rise[6]? = some (11, 1, .aload_n 0, []) := rfl
theorem pa_Bod_rise_7 : pr_Bod_rise[7]? = some (12, 3, .getfield 9, [2, 0, 2, 0, 146]) := rfl
theorem pa_Bod_rise_8 : pr_Bod_rise[8]? = some (15, 1, .iload_n 1, []) := rfl
theorem pa_Bod_rise_9 : pr_Bod_rise[9]? = some (16, 1, .iaload, []) := rfl
theorem pa_Bod_rise_10 : pr_Bod_rise[10]? = some (17, 1, .aload_n 0, []) := rfl
theorem pa_Bod_rise_11 : pr_Bod_rise[11]? = some (18, 3, .getfield 9, [2, 0, 2, 0, 146]) := rfl
theorem pa_Bod_rise_12 : pr_Bod_rise[12]? = some (21, 1, .iload_n 1, []) := rfl
theorem pa_Bod_rise_13 : pr_Bod_rise[13]? = some (22, 1, .iconst 1, [1, 0]) := rfl
theorem pa_Bod_rise_14 : pr_Bod_rise[14]? = some (23, 1, .isub, []) := rfl
theorem pa_Bod_rise_15 : pr_Bod_rise[15]? = some (24, 1, .iaload, []) := rfl
theorem pa_Bod_rise_16 : pr_Bod_rise[16]? = some (25, 3, .if_icmp .lt (7), [19]) := rfl
theorem pa_Bod_rise_17 : pr_Bod_rise[17]? = some (28, 1, .iload_n 1, []) := rfl
theorem pa_Bod_rise_18 : pr_Bod_rise[18]? = some (29, 3, .goto (4), [20]) := rfl
theorem pa_Bod_rise_19 : pr_Bod_rise[19]? = some (32, 1, .iconst 0, [0, 0]) := rfl
theorem pa_Bod_rise_20 : pr_Bod_rise[20]? = some (33, 1, .ireturn, [0]) := rfl
def pa_Bod_rise := And.intro pa_Bod_rise_0 (And.intro pa_Bod_rise_1 (And.intro pa_Bod_rise_2 (And.intro pa_Bod_rise_3 (And.intro pa_Bod_rise_4 (And.intro pa_Bod_rise_5 (And.intro pa_Bod_rise_6 (And.intro pa_Bod_rise_7 (And.intro pa_Bod_rise_8 (And.intro pa_Bod_rise_9 (And.intro pa_Bod_rise_10 (And.intro pa_Bod_rise_11 (And.intro pa_Bod_rise_12 (And.intro pa_Bod_rise_13 (And.intro pa_Bod_rise_14 (And.intro pa_Bod_rise_15 (And.intro pa_Bod_rise_16 (And.intro pa_Bod_rise_17 (And.intro pa_Bod_rise_18 (And.intro pa_Bod_rise_19 (pa_Bod_rise_20))))))))))))))))))))
def pr_Bod_signature : List ma_E := [(0, 1, .aload_n 0, []),
  (1, 3, .getfield 19, [2, 2, 0, 0, 149]),
  (4, 2, .bipush 33, [33, 0]),
  (6, 1, .irem, []),
  (7, 1, .ireturn, [0])]
theorem po_Bod_signature : ma_ok me_Bod_signature pr_Bod_signature := ma_ok_of (by decide +kernel)
theorem pa_Bod_signature_0 : pr_Bod_signature[0]? = some (0, 1, .aload_n 0, []) := rfl
theorem pa_Bod_signature_1 : pr_Bod_signature[1]? = some (1, 3, .getfield 19, [2, 2, 0, 0, 149]) := rfl
theorem pa_Bod_signature_2 : pr_Bod_signature[2]? = some (4, 2, .bipush 33, [33, 0]) := rfl
theorem pa_Bod_signature_3 : pr_Bod_signature[3]? = some (6, 1, .irem, []) := rfl
theorem pa_Bod_signature_4 : pr_Bod_signature[4]? = some (7, 1, .ireturn, [0]) := rfl
def pa_Bod_signature := And.intro pa_Bod_signature_0 (And.intro pa_Bod_signature_1 (And.intro pa_Bod_signature_2 (And.intro pa_Bod_signature_3 (pa_Bod_signature_4))))
def pr_Bod_sum : List ma_E := [(0, 1, .aload_n 0, []),
  (1, 3, .getfield 15, [2, 1, 0, 0, 148]),
  (4, 1, .iconst 4, [4, 0]),
  (5, 1, .irem, []),
  (6, 1, .ireturn, [0])]
theorem po_Bod_sum : ma_ok me_Bod_sum pr_Bod_sum := ma_ok_of (by decide +kernel)
theorem pa_Bod_sum_0 : pr_Bod_sum[0]? = some (0, 1, .aload_n 0, []) := rfl
theorem pa_Bod_sum_1 : pr_Bod_sum[1]? = some (1, 3, .getfield 15, [2, 1, 0, 0, 148]) := rfl
theorem pa_Bod_sum_2 : pr_Bod_sum[2]? = some (4, 1, .iconst 4, [4, 0]) := rfl
theorem pa_Bod_sum_3 : pr_Bod_sum[3]? = some (5, 1, .irem, []) := rfl
theorem pa_Bod_sum_4 : pr_Bod_sum[4]? = some (6, 1, .ireturn, [0]) := rfl
def pa_Bod_sum := And.intro pa_Bod_sum_0 (And.intro pa_Bod_sum_1 (And.intro pa_Bod_sum_2 (And.intro pa_Bod_sum_3 (pa_Bod_sum_4))))
def pr_Col_countUnknown : List ma_E := [(0, 1, .iconst 0, [0, 0]),
  (1, 1, .istore_n 1, []),
  (2, 1, .iconst 0, [0, 0]),
  (3, 1, .istore_n 2, []),
  (4, 1, .iload_n 2, []),
  (5, 2, .bipush 16, [16, 0]),
  (7, 3, .if_icmp .ge (26), [20]),
  (10, 1, .iload_n 1, []),
  (11, 1, .aload_n 0, []),
  (12, 3, .getfield 15, [4, 2, 2, 0, 113]),
  (15, 1, .iload_n 2, []),
  (16, 1, .baload, [1]),
  (17, 3, .ifCond .eq (7), [15]),
  (20, 1, .iconst 1, [1, 0]),
  (21, 3, .goto (4), [16]),
  (24, 1, .iconst 0, [0, 0]),
  (25, 1, .iadd, []),
  (26, 1, .istore_n 1, []),
  (27, 3, .iinc 2 (1), [1, 0]),
  (30, 3, .goto (-26), [4]),
  (33, 1, .iload_n 1, []),
  (34, 1, .ireturn, [0])]
theorem po_Col_countUnknown : ma_ok me_Col_countUnknown pr_Col_countUnknown := ma_ok_of (by decide +kernel)
theorem pa_Col_countUnknown_0 : pr_Col_countUnknown[0]? = some (0, 1, .iconst 0, [0, 0]) := rfl
theorem pa_Col_countUnknown_1 : pr_Col_countUnknown[1]? = some (1, 1, .istore_n 1, []) := rfl
theorem pa_Col_countUnknown_2 : pr_Col_countUnknown[2]? = some (2, 1, .iconst 0, [0, 0]) := rfl
theorem pa_Col_countUnknown_3 : pr_Col_countUnknown[3]? = some (3, 1, .istore_n 2, []) := rfl
theorem pa_Col_countUnknown_4 : pr_Col_countUnknown[4]? = some (4, 1, .iload_n 2, []) := rfl
theorem pa_Col_countUnknown_5 : pr_Col_countUnknown[5]? = some (5, 2, .bipush 16, [16, 0]) := rfl
theorem pa_Col_countUnknown_6 : pr_Col_countUnknown[6]? = some (7, 3, .if_icmp .ge (26), [20]) := rfl
theorem pa_Col_countUnknown_7 : pr_Col_countUnknown[7]? = some (10, 1, .iload_n 1, []) := rfl
theorem pa_Col_countUnknown_8 : pr_Col_countUnknown[8]? = some (11, 1, .aload_n 0, []) := rfl
theorem pa_Col_countUnknown_9 : pr_Col_countUnknown[9]? = some (12, 3, .getfield 15, [4, 2, 2, 0, 113]) := rfl
theorem pa_Col_countUnknown_10 : pr_Col_countUnknown[10]? = some (15, 1, .iload_n 2, []) := rfl
theorem pa_Col_countUnknown_11 : pr_Col_countUnknown[11]? = some (16, 1, .baload, [1]) := rfl
theorem pa_Col_countUnknown_12 : pr_Col_countUnknown[12]? = some (17, 3, .ifCond .eq (7), [15]) := rfl
theorem pa_Col_countUnknown_13 : pr_Col_countUnknown[13]? = some (20, 1, .iconst 1, [1, 0]) := rfl
theorem pa_Col_countUnknown_14 : pr_Col_countUnknown[14]? = some (21, 3, .goto (4), [16]) := rfl
theorem pa_Col_countUnknown_15 : pr_Col_countUnknown[15]? = some (24, 1, .iconst 0, [0, 0]) := rfl
theorem pa_Col_countUnknown_16 : pr_Col_countUnknown[16]? = some (25, 1, .iadd, []) := rfl
theorem pa_Col_countUnknown_17 : pr_Col_countUnknown[17]? = some (26, 1, .istore_n 1, []) := rfl
theorem pa_Col_countUnknown_18 : pr_Col_countUnknown[18]? = some (27, 3, .iinc 2 (1), [1, 0]) := rfl
theorem pa_Col_countUnknown_19 : pr_Col_countUnknown[19]? = some (30, 3, .goto (-26), [4]) := rfl
theorem pa_Col_countUnknown_20 : pr_Col_countUnknown[20]? = some (33, 1, .iload_n 1, []) := rfl
theorem pa_Col_countUnknown_21 : pr_Col_countUnknown[21]? = some (34, 1, .ireturn, [0]) := rfl
def pa_Col_countUnknown := And.intro pa_Col_countUnknown_0 (And.intro pa_Col_countUnknown_1 (And.intro pa_Col_countUnknown_2 (And.intro pa_Col_countUnknown_3 (And.intro pa_Col_countUnknown_4 (And.intro pa_Col_countUnknown_5 (And.intro pa_Col_countUnknown_6 (And.intro pa_Col_countUnknown_7 (And.intro pa_Col_countUnknown_8 (And.intro pa_Col_countUnknown_9 (And.intro pa_Col_countUnknown_10 (And.intro pa_Col_countUnknown_11 (And.intro pa_Col_countUnknown_12 (And.intro pa_Col_countUnknown_13 (And.intro pa_Col_countUnknown_14 (And.intro pa_Col_countUnknown_15 (And.intro pa_Col_countUnknown_16 (And.intro pa_Col_countUnknown_17 (And.intro pa_Col_countUnknown_18 (And.intro pa_Col_countUnknown_19 (And.intro pa_Col_countUnknown_20 (pa_Col_countUnknown_21)))))))))))))))))))))
def pr_Col_set : List ma_E := [(0, 1, .aload_n 0, []),
  (1, 3, .getfield 9, [4, 1, 2, 0, 110]),
  (4, 1, .iload_n 1, []),
  (5, 1, .iload_n 3, []),
  (6, 3, .ifCond .eq (7), [7]),
  (9, 1, .iconst 0, [0, 0]),
  (10, 3, .goto (4), [8]),
  (13, 1, .iload_n 2, []),
  (14, 1, .iastore, []),
  (15, 1, .aload_n 0, []),
  (16, 3, .getfield 15, [4, 2, 2, 0, 113]),
  (19, 1, .iload_n 1, []),
  (20, 1, .iload_n 3, []),
  (21, 1, .bastore, [1]),
  (22, 1, .return_, [])]
theorem po_Col_set : ma_ok me_Col_set pr_Col_set := ma_ok_of (by decide +kernel)
theorem pa_Col_set_0 : pr_Col_set[0]? = some (0, 1, .aload_n 0, []) := rfl
theorem pa_Col_set_1 : pr_Col_set[1]? = some (1, 3, .getfield 9, [4, 1, 2, 0, 110]) := rfl
theorem pa_Col_set_2 : pr_Col_set[2]? = some (4, 1, .iload_n 1, []) := rfl
theorem pa_Col_set_3 : pr_Col_set[3]? = some (5, 1, .iload_n 3, []) := rfl
theorem pa_Col_set_4 : pr_Col_set[4]? = some (6, 3, .ifCond .eq (7), [7]) := rfl
theorem pa_Col_set_5 : pr_Col_set[5]? = some (9, 1, .iconst 0, [0, 0]) := rfl
theorem pa_Col_set_6 : pr_Col_set[6]? = some (10, 3, .goto (4), [8]) := rfl
theorem pa_Col_set_7 : pr_Col_set[7]? = some (13, 1, .iload_n 2, []) := rfl
theorem pa_Col_set_8 : pr_Col_set[8]? = some (14, 1, .iastore, []) := rfl
theorem pa_Col_set_9 : pr_Col_set[9]? = some (15, 1, .aload_n 0, []) := rfl
theorem pa_Col_set_10 : pr_Col_set[10]? = some (16, 3, .getfield 15, [4, 2, 2, 0, 113]) := rfl
theorem pa_Col_set_11 : pr_Col_set[11]? = some (19, 1, .iload_n 1, []) := rfl
theorem pa_Col_set_12 : pr_Col_set[12]? = some (20, 1, .iload_n 3, []) := rfl
theorem pa_Col_set_13 : pr_Col_set[13]? = some (21, 1, .bastore, [1]) := rfl
theorem pa_Col_set_14 : pr_Col_set[14]? = some (22, 1, .return_, []) := rfl
def pa_Col_set := And.intro pa_Col_set_0 (And.intro pa_Col_set_1 (And.intro pa_Col_set_2 (And.intro pa_Col_set_3 (And.intro pa_Col_set_4 (And.intro pa_Col_set_5 (And.intro pa_Col_set_6 (And.intro pa_Col_set_7 (And.intro pa_Col_set_8 (And.intro pa_Col_set_9 (And.intro pa_Col_set_10 (And.intro pa_Col_set_11 (And.intro pa_Col_set_12 (And.intro pa_Col_set_13 (pa_Col_set_14))))))))))))))
def pr_Dec_loseBlock : List ma_E := [(0, 1, .aload_n 0, []),
  (1, 3, .getfield 44, [5, 10, 2, 0, 197]),
  (4, 1, .iload_n 1, []),
  (5, 1, .iconst (-1), [1, 1]),
  (6, 1, .iastore, []),
  (7, 1, .iconst 0, [0, 0]),
  (8, 1, .istore_n 2, []),
  (9, 1, .iload_n 2, []),
  (10, 2, .bipush 40, [40, 0]),
  (12, 3, .if_icmp .ge (21), [21]),
  (15, 1, .aload_n 0, []),
  (16, 3, .getfield 38, [5, 8, 2, 0, 193]),
  (19, 1, .iload_n 1, []),
  (20, 2, .bipush 40, [40, 0]),
  (22, 1, .imul, []),
  (23, 1, .iload_n 2, []),
  (24, 1, .iadd, []),
  (25, 1, .iconst 0, [0, 0]),
  (26, 1, .iastore, []),
  (27, 3, .iinc 2 (1), [1, 0]),
  (30, 3, .goto (-21), [7]),
  (33, 1, .return_, [])]
theorem po_Dec_loseBlock : ma_ok me_Dec_loseBlock pr_Dec_loseBlock := ma_ok_of (by decide +kernel)
theorem pa_Dec_loseBlock_0 : pr_Dec_loseBlock[0]? = some (0, 1, .aload_n 0, []) := rfl
theorem pa_Dec_loseBlock_1 : pr_Dec_loseBlock[1]? = some (1, 3, .getfield 44, [5, 10, 2, 0, 197]) := rfl
theorem pa_Dec_loseBlock_2 : pr_Dec_loseBlock[2]? = some (4, 1, .iload_n 1, []) := rfl
theorem pa_Dec_loseBlock_3 : pr_Dec_loseBlock[3]? = some (5, 1, .iconst (-1), [1, 1]) := rfl
theorem pa_Dec_loseBlock_4 : pr_Dec_loseBlock[4]? = some (6, 1, .iastore, []) := rfl
theorem pa_Dec_loseBlock_5 : pr_Dec_loseBlock[5]? = some (7, 1, .iconst 0, [0, 0]) := rfl
theorem pa_Dec_loseBlock_6 : pr_Dec_loseBlock[6]? = some (8, 1, .istore_n 2, []) := rfl
theorem pa_Dec_loseBlock_7 : pr_Dec_loseBlock[7]? = some (9, 1, .iload_n 2, []) := rfl
theorem pa_Dec_loseBlock_8 : pr_Dec_loseBlock[8]? = some (10, 2, .bipush 40, [40, 0]) := rfl
theorem pa_Dec_loseBlock_9 : pr_Dec_loseBlock[9]? = some (12, 3, .if_icmp .ge (21), [21]) := rfl
theorem pa_Dec_loseBlock_10 : pr_Dec_loseBlock[10]? = some (15, 1, .aload_n 0, []) := rfl
theorem pa_Dec_loseBlock_11 : pr_Dec_loseBlock[11]? = some (16, 3, .getfield 38, [5, 8, 2, 0, 193]) := rfl
theorem pa_Dec_loseBlock_12 : pr_Dec_loseBlock[12]? = some (19, 1, .iload_n 1, []) := rfl
theorem pa_Dec_loseBlock_13 : pr_Dec_loseBlock[13]? = some (20, 2, .bipush 40, [40, 0]) := rfl
theorem pa_Dec_loseBlock_14 : pr_Dec_loseBlock[14]? = some (22, 1, .imul, []) := rfl
theorem pa_Dec_loseBlock_15 : pr_Dec_loseBlock[15]? = some (23, 1, .iload_n 2, []) := rfl
theorem pa_Dec_loseBlock_16 : pr_Dec_loseBlock[16]? = some (24, 1, .iadd, []) := rfl
theorem pa_Dec_loseBlock_17 : pr_Dec_loseBlock[17]? = some (25, 1, .iconst 0, [0, 0]) := rfl
theorem pa_Dec_loseBlock_18 : pr_Dec_loseBlock[18]? = some (26, 1, .iastore, []) := rfl
theorem pa_Dec_loseBlock_19 : pr_Dec_loseBlock[19]? = some (27, 3, .iinc 2 (1), [1, 0]) := rfl
theorem pa_Dec_loseBlock_20 : pr_Dec_loseBlock[20]? = some (30, 3, .goto (-21), [7]) := rfl
theorem pa_Dec_loseBlock_21 : pr_Dec_loseBlock[21]? = some (33, 1, .return_, []) := rfl
def pa_Dec_loseBlock := And.intro pa_Dec_loseBlock_0 (And.intro pa_Dec_loseBlock_1 (And.intro pa_Dec_loseBlock_2 (And.intro pa_Dec_loseBlock_3 (And.intro pa_Dec_loseBlock_4 (And.intro pa_Dec_loseBlock_5 (And.intro pa_Dec_loseBlock_6 (And.intro pa_Dec_loseBlock_7 (And.intro pa_Dec_loseBlock_8 (And.intro pa_Dec_loseBlock_9 (And.intro pa_Dec_loseBlock_10 (And.intro pa_Dec_loseBlock_11 (And.intro pa_Dec_loseBlock_12 (And.intro pa_Dec_loseBlock_13 (And.intro pa_Dec_loseBlock_14 (And.intro pa_Dec_loseBlock_15 (And.intro pa_Dec_loseBlock_16 (And.intro pa_Dec_loseBlock_17 (And.intro pa_Dec_loseBlock_18 (And.intro pa_Dec_loseBlock_19 (And.intro pa_Dec_loseBlock_20 (pa_Dec_loseBlock_21)))))))))))))))))))))
def pr_Dec_settleSlots : List ma_E := [(0, 1, .aload_n 0, []),
  (1, 3, .getfield 41, [5, 9, 2, 0, 195]),
  (4, 1, .iload_n 1, []),
  (5, 1, .iconst 0, [0, 0]),
  (6, 1, .iastore, []),
  (7, 1, .iconst 0, [0, 0]),
  (8, 1, .istore_n 2, []),
  (9, 1, .iload_n 2, []),
  (10, 2, .bipush 16, [16, 0]),
  (12, 3, .if_icmp .ge (59), [45]),
  (15, 1, .aload_n 0, []),
  (16, 3, .getfield 18, [5, 2, 2, 0, 184]),
  (19, 1, .iload_n 1, []),
  (20, 2, .bipush 16, [16, 0]),
  (22, 1, .imul, []),
  (23, 1, .iload_n 2, []),
  (24, 1, .iadd, []),
  (25, 1, .iaload, []),
  (26, 1, .istore_n 3, []),
  (27, 1, .aload_n 0, []),
  (28, 3, .getfield 41, [5, 9, 2, 0, 195]),
  (31, 1, .iload_n 1, []),
  (32, 1, .dup2, []),
  (33, 1, .iaload, []),
  (34, 1, .iload_n 3, []),
  (35, 1, .iconst 1, [1, 0]),
  (36, 3, .if_icmp .ne (7), [29]),
  (39, 1, .iconst 0, [0, 0]),
  (40, 3, .goto (4), [30]),
  (43, 1, .iconst 1, [1, 0]),
  (44, 1, .iadd, []),
  (45, 1, .iastore, []),
  (46, 1, .aload_n 0, []),
  (47, 1, .dup, []),
  (48, 3, .getfield 35, [5, 7, 0, 0, 191]),
  (51, 1, .iload_n 3, []),
  (52, 1, .iconst 1, [1, 0]),
  (53, 3, .if_icmp .le (7), [40]),
  (56, 1, .iload_n 3, []),
  (57, 3, .goto (4), [41]),
  (60, 1, .iconst 0, [0, 0]),
  (61, 1, .iadd, []),
  (62, 3, .putfield 35, [5, 7, 0, 0, 191]),
  (65, 3, .iinc 2 (1), [1, 0]),
  (68, 3, .goto (-59), [7]),
  (71, 1, .return_, [])]
theorem po_Dec_settleSlots : ma_ok me_Dec_settleSlots pr_Dec_settleSlots := ma_ok_of (by decide +kernel)
theorem pa_Dec_settleSlots_0 : pr_Dec_settleSlots[0]? = some (0, 1, .aload_n 0, []) := rfl
theorem pa_Dec_settleSlots_1 : pr_Dec_settleSlots[1]? = some (1, 3, .getfield 41, [5, 9, 2, 0, 195]) := rfl
theorem pa_Dec_settleSlots_2 : pr_Dec_settleSlots[2]? = some (4, 1, .iload_n 1, []) := rfl
theorem pa_Dec_settleSlots_3 : pr_Dec_settleSlots[3]? = some (5, 1, .iconst 0, [0, 0]) := rfl
theorem pa_Dec_settleSlots_4 : pr_Dec_settleSlots[4]? = some (6, 1, .iastore, []) := rfl
theorem pa_Dec_settleSlots_5 : pr_Dec_settleSlots[5]? = some (7, 1, .iconst 0, [0, 0]) := rfl
theorem pa_Dec_settleSlots_6 : pr_Dec_settleSlots[6]? = some (8, 1, .istore_n 2, []) := rfl
theorem pa_Dec_settleSlots_7 : pr_Dec_settleSlots[7]? = some (9, 1, .iload_n 2, []) := rfl
theorem pa_Dec_settleSlots_8 : pr_Dec_settleSlots[8]? = some (10, 2, .bipush 16, [16, 0]) := rfl
theorem pa_Dec_settleSlots_9 : pr_Dec_settleSlots[9]? = some (12, 3, .if_icmp .ge (59), [45]) := rfl
theorem pa_Dec_settleSlots_10 : pr_Dec_settleSlots[10]? = some (15, 1, .aload_n 0, []) := rfl
theorem pa_Dec_settleSlots_11 : pr_Dec_settleSlots[11]? = some (16, 3, .getfield 18, [5, 2, 2, 0, 184]) := rfl
theorem pa_Dec_settleSlots_12 : pr_Dec_settleSlots[12]? = some (19, 1, .iload_n 1, []) := rfl
theorem pa_Dec_settleSlots_13 : pr_Dec_settleSlots[13]? = some (20, 2, .bipush 16, [16, 0]) := rfl
theorem pa_Dec_settleSlots_14 : pr_Dec_settleSlots[14]? = some (22, 1, .imul, []) := rfl
theorem pa_Dec_settleSlots_15 : pr_Dec_settleSlots[15]? = some (23, 1, .iload_n 2, []) := rfl
theorem pa_Dec_settleSlots_16 : pr_Dec_settleSlots[16]? = some (24, 1, .iadd, []) := rfl
theorem pa_Dec_settleSlots_17 : pr_Dec_settleSlots[17]? = some (25, 1, .iaload, []) := rfl
theorem pa_Dec_settleSlots_18 : pr_Dec_settleSlots[18]? = some (26, 1, .istore_n 3, []) := rfl
theorem pa_Dec_settleSlots_19 : pr_Dec_settleSlots[19]? = some (27, 1, .aload_n 0, []) := rfl
theorem pa_Dec_settleSlots_20 : pr_Dec_settleSlots[20]? = some (28, 3, .getfield 41, [5, 9, 2, 0, 195]) := rfl
theorem pa_Dec_settleSlots_21 : pr_Dec_settleSlots[21]? = some (31, 1, .iload_n 1, []) := rfl
theorem pa_Dec_settleSlots_22 : pr_Dec_settleSlots[22]? = some (32, 1, .dup2, []) := rfl
theorem pa_Dec_settleSlots_23 : pr_Dec_settleSlots[23]? = some (33, 1, .iaload, []) := rfl
theorem pa_Dec_settleSlots_24 : pr_Dec_settleSlots[24]? = some (34, 1, .iload_n 3, []) := rfl
theorem pa_Dec_settleSlots_25 : pr_Dec_settleSlots[25]? = some (35, 1, .iconst 1, [1, 0]) := rfl
theorem pa_Dec_settleSlots_26 : pr_Dec_settleSlots[26]? = some (36, 3, .if_icmp .ne (7), [29]) := rfl
theorem pa_Dec_settleSlots_27 : pr_Dec_settleSlots[27]? = some (39, 1, .iconst 0, [0, 0]) := rfl
theorem pa_Dec_settleSlots_28 : pr_Dec_settleSlots[28]? = some (40, 3, .goto (4), [30]) := rfl
theorem pa_Dec_settleSlots_29 : pr_Dec_settleSlots[29]? = some (43, 1, .iconst 1, [1, 0]) := rfl
theorem pa_Dec_settleSlots_30 : pr_Dec_settleSlots[30]? = some (44, 1, .iadd, []) := rfl
theorem pa_Dec_settleSlots_31 : pr_Dec_settleSlots[31]? = some (45, 1, .iastore, []) := rfl
theorem pa_Dec_settleSlots_32 : pr_Dec_settleSlots[32]? = some (46, 1, .aload_n 0, []) := rfl
theorem pa_Dec_settleSlots_33 : pr_Dec_settleSlots[33]? = some (47, 1, .dup, []) := rfl
theorem pa_Dec_settleSlots_34 : pr_Dec_settleSlots[34]? = some (48, 3, .getfield 35, [5, 7, 0, 0, 191]) := rfl
theorem pa_Dec_settleSlots_35 : pr_Dec_settleSlots[35]? = some (51, 1, .iload_n 3, []) := rfl
theorem pa_Dec_settleSlots_36 : pr_Dec_settleSlots[36]? = some (52, 1, .iconst 1, [1, 0]) := rfl
theorem pa_Dec_settleSlots_37 : pr_Dec_settleSlots[37]? = some (53, 3, .if_icmp .le (7), [40]) := rfl
theorem pa_Dec_settleSlots_38 : pr_Dec_settleSlots[38]? = some (56, 1, .iload_n 3, []) := rfl
theorem pa_Dec_settleSlots_39 : pr_Dec_settleSlots[39]? = some (57, 3, .goto (4), [41]) := rfl
theorem pa_Dec_settleSlots_40 : pr_Dec_settleSlots[40]? = some (60, 1, .iconst 0, [0, 0]) := rfl
theorem pa_Dec_settleSlots_41 : pr_Dec_settleSlots[41]? = some (61, 1, .iadd, []) := rfl
theorem pa_Dec_settleSlots_42 : pr_Dec_settleSlots[42]? = some (62, 3, .putfield 35, [5, 7, 0, 0, 191]) := rfl
theorem pa_Dec_settleSlots_43 : pr_Dec_settleSlots[43]? = some (65, 3, .iinc 2 (1), [1, 0]) := rfl
theorem pa_Dec_settleSlots_44 : pr_Dec_settleSlots[44]? = some (68, 3, .goto (-59), [7]) := rfl
theorem pa_Dec_settleSlots_45 : pr_Dec_settleSlots[45]? = some (71, 1, .return_, []) := rfl
def pa_Dec_settleSlots := And.intro pa_Dec_settleSlots_0 (And.intro pa_Dec_settleSlots_1 (And.intro pa_Dec_settleSlots_2 (And.intro pa_Dec_settleSlots_3 (And.intro pa_Dec_settleSlots_4 (And.intro pa_Dec_settleSlots_5 (And.intro pa_Dec_settleSlots_6 (And.intro pa_Dec_settleSlots_7 (And.intro pa_Dec_settleSlots_8 (And.intro pa_Dec_settleSlots_9 (And.intro pa_Dec_settleSlots_10 (And.intro pa_Dec_settleSlots_11 (And.intro pa_Dec_settleSlots_12 (And.intro pa_Dec_settleSlots_13 (And.intro pa_Dec_settleSlots_14 (And.intro pa_Dec_settleSlots_15 (And.intro pa_Dec_settleSlots_16 (And.intro pa_Dec_settleSlots_17 (And.intro pa_Dec_settleSlots_18 (And.intro pa_Dec_settleSlots_19 (And.intro pa_Dec_settleSlots_20 (And.intro pa_Dec_settleSlots_21 (And.intro pa_Dec_settleSlots_22 (And.intro pa_Dec_settleSlots_23 (And.intro pa_Dec_settleSlots_24 (And.intro pa_Dec_settleSlots_25 (And.intro pa_Dec_settleSlots_26 (And.intro pa_Dec_settleSlots_27 (And.intro pa_Dec_settleSlots_28 (And.intro pa_Dec_settleSlots_29 (And.intro pa_Dec_settleSlots_30 (And.intro pa_Dec_settleSlots_31 (And.intro pa_Dec_settleSlots_32 (And.intro pa_Dec_settleSlots_33 (And.intro pa_Dec_settleSlots_34 (And.intro pa_Dec_settleSlots_35 (And.intro pa_Dec_settleSlots_36 (And.intro pa_Dec_settleSlots_37 (And.intro pa_Dec_settleSlots_38 (And.intro pa_Dec_settleSlots_39 (And.intro pa_Dec_settleSlots_40 (And.intro pa_Dec_settleSlots_41 (And.intro pa_Dec_settleSlots_42 (And.intro pa_Dec_settleSlots_43 (And.intro pa_Dec_settleSlots_44 (pa_Dec_settleSlots_45)))))))))))))))))))))))))))))))))))))))))))))
def pr_Arc_blocksOf : List ma_E := [(0, 1, .iload_n 0, []),
  (1, 2, .bipush 40, [40, 0]),
  (3, 1, .iadd, []),
  (4, 1, .iconst 1, [1, 0]),
  (5, 1, .isub, []),
  (6, 2, .bipush 40, [40, 0]),
  (8, 1, .idiv, []),
  (9, 1, .ireturn, [0])]
theorem po_Arc_blocksOf : ma_ok me_Arc_blocksOf pr_Arc_blocksOf := ma_ok_of (by decide +kernel)
theorem pa_Arc_blocksOf_0 : pr_Arc_blocksOf[0]? = some (0, 1, .iload_n 0, []) := rfl
theorem pa_Arc_blocksOf_1 : pr_Arc_blocksOf[1]? = some (1, 2, .bipush 40, [40, 0]) := rfl
theorem pa_Arc_blocksOf_2 : pr_Arc_blocksOf[2]? = some (3, 1, .iadd, []) := rfl
theorem pa_Arc_blocksOf_3 : pr_Arc_blocksOf[3]? = some (4, 1, .iconst 1, [1, 0]) := rfl
theorem pa_Arc_blocksOf_4 : pr_Arc_blocksOf[4]? = some (5, 1, .isub, []) := rfl
theorem pa_Arc_blocksOf_5 : pr_Arc_blocksOf[5]? = some (6, 2, .bipush 40, [40, 0]) := rfl
theorem pa_Arc_blocksOf_6 : pr_Arc_blocksOf[6]? = some (8, 1, .idiv, []) := rfl
theorem pa_Arc_blocksOf_7 : pr_Arc_blocksOf[7]? = some (9, 1, .ireturn, [0]) := rfl
def pa_Arc_blocksOf := And.intro pa_Arc_blocksOf_0 (And.intro pa_Arc_blocksOf_1 (And.intro pa_Arc_blocksOf_2 (And.intro pa_Arc_blocksOf_3 (And.intro pa_Arc_blocksOf_4 (And.intro pa_Arc_blocksOf_5 (And.intro pa_Arc_blocksOf_6 (pa_Arc_blocksOf_7)))))))
def pr_Arc_clear : List ma_E := [(0, 1, .aload_n 0, []),
  (1, 1, .iconst 0, [0, 0]),
  (2, 3, .putfield 28, [6, 4, 0, 0, 226]),
  (5, 1, .return_, [])]
theorem po_Arc_clear : ma_ok me_Arc_clear pr_Arc_clear := ma_ok_of (by decide +kernel)
theorem pa_Arc_clear_0 : pr_Arc_clear[0]? = some (0, 1, .aload_n 0, []) := rfl
theorem pa_Arc_clear_1 : pr_Arc_clear[1]? = some (1, 1, .iconst 0, [0, 0]) := rfl
theorem pa_Arc_clear_2 : pr_Arc_clear[2]? = some (2, 3, .putfield 28, [6, 4, 0, 0, 226]) := rfl
theorem pa_Arc_clear_3 : pr_Arc_clear[3]? = some (5, 1, .return_, []) := rfl
def pa_Arc_clear := And.intro pa_Arc_clear_0 (And.intro pa_Arc_clear_1 (And.intro pa_Arc_clear_2 (pa_Arc_clear_3)))
def pr_Arc_count : List ma_E := [(0, 1, .iload_n 1, []),
  (1, 27, .tableswitch 51 0 2 #[27, 35, 43], [14, 2, 6, 10]),
  (28, 1, .aload_n 0, []),
  (29, 3, .getfield 62, [6, 9, 2, 0, 231]),
  (32, 3, .getfield 132, [5, 5, 0, 1, 9]),
  (35, 1, .ireturn, [0]),
  (36, 1, .aload_n 0, []),
  (37, 3, .getfield 62, [6, 9, 2, 0, 231]),
  (40, 3, .getfield 139, [5, 6, 0, 1, 10]),
  (43, 1, .ireturn, [0]),
  (44, 1, .aload_n 0, []),
  (45, 3, .getfield 62, [6, 9, 2, 0, 231]),
  (48, 3, .getfield 142, [5, 7, 0, 1, 11]),
  (51, 1, .ireturn, [0]),
  (52, 1, .iconst (-1), [1, 1]),
  (53, 1, .ireturn, [0])]
theorem po_Arc_count : ma_ok me_Arc_count pr_Arc_count := ma_ok_of (by decide +kernel)
theorem pa_Arc_count_0 : pr_Arc_count[0]? = some (0, 1, .iload_n 1, []) := rfl
theorem pa_Arc_count_1 : pr_Arc_count[1]? = some (1, 27, .tableswitch 51 0 2 #[27, 35, 43], [14, 2, 6, 10]) := rfl
theorem pa_Arc_count_2 : pr_Arc_count[2]? = some (28, 1, .aload_n 0, []) := rfl
theorem pa_Arc_count_3 : pr_Arc_count[3]? = some (29, 3, .getfield 62, [6, 9, 2, 0, 231]) := rfl
theorem pa_Arc_count_4 : pr_Arc_count[4]? = some (32, 3, .getfield 132, [5, 5, 0, 1, 9]) := rfl
theorem pa_Arc_count_5 : pr_Arc_count[5]? = some (35, 1, .ireturn, [0]) := rfl
theorem pa_Arc_count_6 : pr_Arc_count[6]? = some (36, 1, .aload_n 0, []) := rfl
theorem pa_Arc_count_7 : pr_Arc_count[7]? = some (37, 3, .getfield 62, [6, 9, 2, 0, 231]) := rfl
theorem pa_Arc_count_8 : pr_Arc_count[8]? = some (40, 3, .getfield 139, [5, 6, 0, 1, 10]) := rfl
theorem pa_Arc_count_9 : pr_Arc_count[9]? = some (43, 1, .ireturn, [0]) := rfl
theorem pa_Arc_count_10 : pr_Arc_count[10]? = some (44, 1, .aload_n 0, []) := rfl
theorem pa_Arc_count_11 : pr_Arc_count[11]? = some (45, 3, .getfield 62, [6, 9, 2, 0, 231]) := rfl
theorem pa_Arc_count_12 : pr_Arc_count[12]? = some (48, 3, .getfield 142, [5, 7, 0, 1, 11]) := rfl
theorem pa_Arc_count_13 : pr_Arc_count[13]? = some (51, 1, .ireturn, [0]) := rfl
theorem pa_Arc_count_14 : pr_Arc_count[14]? = some (52, 1, .iconst (-1), [1, 1]) := rfl
theorem pa_Arc_count_15 : pr_Arc_count[15]? = some (53, 1, .ireturn, [0]) := rfl
def pa_Arc_count := And.intro pa_Arc_count_0 (And.intro pa_Arc_count_1 (And.intro pa_Arc_count_2 (And.intro pa_Arc_count_3 (And.intro pa_Arc_count_4 (And.intro pa_Arc_count_5 (And.intro pa_Arc_count_6 (And.intro pa_Arc_count_7 (And.intro pa_Arc_count_8 (And.intro pa_Arc_count_9 (And.intro pa_Arc_count_10 (And.intro pa_Arc_count_11 (And.intro pa_Arc_count_12 (And.intro pa_Arc_count_13 (And.intro pa_Arc_count_14 (pa_Arc_count_15)))))))))))))))
def pr_Arc_heap : List ma_E := [(0, 1, .aload_n 0, []),
  (1, 3, .getfield 28, [6, 4, 0, 0, 226]),
  (4, 1, .ireturn, [0])]
theorem po_Arc_heap : ma_ok me_Arc_heap pr_Arc_heap := ma_ok_of (by decide +kernel)
theorem pa_Arc_heap_0 : pr_Arc_heap[0]? = some (0, 1, .aload_n 0, []) := rfl
theorem pa_Arc_heap_1 : pr_Arc_heap[1]? = some (1, 3, .getfield 28, [6, 4, 0, 0, 226]) := rfl
theorem pa_Arc_heap_2 : pr_Arc_heap[2]? = some (4, 1, .ireturn, [0]) := rfl
def pa_Arc_heap := And.intro pa_Arc_heap_0 (And.intro pa_Arc_heap_1 (pa_Arc_heap_2))
def pr_Arc_isFull : List ma_E := [(0, 1, .aload_n 0, []),
  (1, 3, .getfield 28, [6, 4, 0, 0, 226]),
  (4, 2, .bipush 90, [90, 0]),
  (6, 3, .if_icmp .lt (7), [6]),
  (9, 1, .iconst 1, [1, 0]),
  (10, 3, .goto (4), [7]),
  (13, 1, .iconst 0, [0, 0]),
  (14, 1, .ireturn, [1])]
theorem po_Arc_isFull : ma_ok me_Arc_isFull pr_Arc_isFull := ma_ok_of (by decide +kernel)
theorem pa_Arc_isFull_0 : pr_Arc_isFull[0]? = some (0, 1, .aload_n 0, []) := rfl
theorem pa_Arc_isFull_1 : pr_Arc_isFull[1]? = some (1, 3, .getfield 28, [6, 4, 0, 0, 226]) := rfl
theorem pa_Arc_isFull_2 : pr_Arc_isFull[2]? = some (4, 2, .bipush 90, [90, 0]) := rfl
theorem pa_Arc_isFull_3 : pr_Arc_isFull[3]? = some (6, 3, .if_icmp .lt (7), [6]) := rfl
theorem pa_Arc_isFull_4 : pr_Arc_isFull[4]? = some (9, 1, .iconst 1, [1, 0]) := rfl
theorem pa_Arc_isFull_5 : pr_Arc_isFull[5]? = some (10, 3, .goto (4), [7]) := rfl
theorem pa_Arc_isFull_6 : pr_Arc_isFull[6]? = some (13, 1, .iconst 0, [0, 0]) := rfl
theorem pa_Arc_isFull_7 : pr_Arc_isFull[7]? = some (14, 1, .ireturn, [1]) := rfl
def pa_Arc_isFull := And.intro pa_Arc_isFull_0 (And.intro pa_Arc_isFull_1 (And.intro pa_Arc_isFull_2 (And.intro pa_Arc_isFull_3 (And.intro pa_Arc_isFull_4 (And.intro pa_Arc_isFull_5 (And.intro pa_Arc_isFull_6 (pa_Arc_isFull_7)))))))
def pr_Arc_isSize : List ma_E := [(0, 1, .iload_n 0, []),
  (1, 1, .iconst 1, [1, 0]),
  (2, 3, .if_icmp .lt (14), [8]),
  (5, 1, .iload_n 0, []),
  (6, 3, .sipush 160, [160, 0]),
  (9, 3, .if_icmp .gt (7), [8]),
  (12, 1, .iconst 1, [1, 0]),
  (13, 3, .goto (4), [9]),
  (16, 1, .iconst 0, [0, 0]),
  (17, 1, .ireturn, [1])]
theorem po_Arc_isSize : ma_ok me_Arc_isSize pr_Arc_isSize := ma_ok_of (by decide +kernel)
theorem pa_Arc_isSize_0 : pr_Arc_isSize[0]? = some (0, 1, .iload_n 0, []) := rfl
theorem pa_Arc_isSize_1 : pr_Arc_isSize[1]? = some (1, 1, .iconst 1, [1, 0]) := rfl
theorem pa_Arc_isSize_2 : pr_Arc_isSize[2]? = some (2, 3, .if_icmp .lt (14), [8]) := rfl
theorem pa_Arc_isSize_3 : pr_Arc_isSize[3]? = some (5, 1, .iload_n 0, []) := rfl
theorem pa_Arc_isSize_4 : pr_Arc_isSize[4]? = some (6, 3, .sipush 160, [160, 0]) := rfl
theorem pa_Arc_isSize_5 : pr_Arc_isSize[5]? = some (9, 3, .if_icmp .gt (7), [8]) := rfl
theorem pa_Arc_isSize_6 : pr_Arc_isSize[6]? = some (12, 1, .iconst 1, [1, 0]) := rfl
theorem pa_Arc_isSize_7 : pr_Arc_isSize[7]? = some (13, 3, .goto (4), [9]) := rfl
theorem pa_Arc_isSize_8 : pr_Arc_isSize[8]? = some (16, 1, .iconst 0, [0, 0]) := rfl
theorem pa_Arc_isSize_9 : pr_Arc_isSize[9]? = some (17, 1, .ireturn, [1]) := rfl
def pa_Arc_isSize := And.intro pa_Arc_isSize_0 (And.intro pa_Arc_isSize_1 (And.intro pa_Arc_isSize_2 (And.intro pa_Arc_isSize_3 (And.intro pa_Arc_isSize_4 (And.intro pa_Arc_isSize_5 (And.intro pa_Arc_isSize_6 (And.intro pa_Arc_isSize_7 (And.intro pa_Arc_isSize_8 (pa_Arc_isSize_9)))))))))
def pr_Arc_isWritten : List ma_E := [(0, 1, .iload_n 1, []),
  (1, 3, .ifCond .lt (15), [8]),
  (4, 1, .iload_n 1, []),
  (5, 1, .aload_n 0, []),
  (6, 3, .getfield 21, [6, 2, 0, 0, 224]),
  (9, 3, .if_icmp .ge (7), [8]),
  (12, 1, .iconst 1, [1, 0]),
  (13, 3, .goto (4), [9]),
  (16, 1, .iconst 0, [0, 0]),
  (17, 1, .ireturn, [1])]
theorem po_Arc_isWritten : ma_ok me_Arc_isWritten pr_Arc_isWritten := ma_ok_of (by decide +kernel)
theorem pa_Arc_isWritten_0 : pr_Arc_isWritten[0]? = some (0, 1, .iload_n 1, []) := rfl
theorem pa_Arc_isWritten_1 : pr_Arc_isWritten[1]? = some (1, 3, .ifCond .lt (15), [8]) := rfl
theorem pa_Arc_isWritten_2 : pr_Arc_isWritten[2]? = some (4, 1, .iload_n 1, []) := rfl
theorem pa_Arc_isWritten_3 : pr_Arc_isWritten[3]? = some (5, 1, .aload_n 0, []) := rfl
theorem pa_Arc_isWritten_4 : pr_Arc_isWritten[4]? = some (6, 3, .getfield 21, [6, 2, 0, 0, 224]) := rfl
theorem pa_Arc_isWritten_5 : pr_Arc_isWritten[5]? = some (9, 3, .if_icmp .ge (7), [8]) := rfl
theorem pa_Arc_isWritten_6 : pr_Arc_isWritten[6]? = some (12, 1, .iconst 1, [1, 0]) := rfl
theorem pa_Arc_isWritten_7 : pr_Arc_isWritten[7]? = some (13, 3, .goto (4), [9]) := rfl
theorem pa_Arc_isWritten_8 : pr_Arc_isWritten[8]? = some (16, 1, .iconst 0, [0, 0]) := rfl
theorem pa_Arc_isWritten_9 : pr_Arc_isWritten[9]? = some (17, 1, .ireturn, [1]) := rfl
def pa_Arc_isWritten := And.intro pa_Arc_isWritten_0 (And.intro pa_Arc_isWritten_1 (And.intro pa_Arc_isWritten_2 (And.intro pa_Arc_isWritten_3 (And.intro pa_Arc_isWritten_4 (And.intro pa_Arc_isWritten_5 (And.intro pa_Arc_isWritten_6 (And.intro pa_Arc_isWritten_7 (And.intro pa_Arc_isWritten_8 (pa_Arc_isWritten_9)))))))))
def pr_Arc_load : List ma_E := [(0, 1, .iload_n 1, []),
  (1, 3, .ifCond .lt (10), [5]),
  (4, 1, .iload_n 1, []),
  (5, 3, .sipush 160, [160, 0]),
  (8, 3, .if_icmp .lt (5), [7]),
  (11, 1, .iconst 0, [0, 0]),
  (12, 1, .ireturn, [1]),
  (13, 1, .aload_n 0, []),
  (14, 3, .getfield 9, [6, 0, 2, 0, 222]),
  (17, 1, .iload_n 1, []),
  (18, 1, .iload_n 2, []),
  (19, 3, .sipush 255, [255, 0]),
  (22, 1, .iand, []),
  (23, 1, .iastore, []),
  (24, 1, .iconst 1, [1, 0]),
  (25, 1, .ireturn, [1])]
theorem po_Arc_load : ma_ok me_Arc_load pr_Arc_load := ma_ok_of (by decide +kernel)
theorem pa_Arc_load_0 : pr_Arc_load[0]? = some (0, 1, .iload_n 1, []) := rfl
theorem pa_Arc_load_1 : pr_Arc_load[1]? = some (1, 3, .ifCond .lt (10), [5]) := rfl
theorem pa_Arc_load_2 : pr_Arc_load[2]? = some (4, 1, .iload_n 1, []) := rfl
theorem pa_Arc_load_3 : pr_Arc_load[3]? = some (5, 3, .sipush 160, [160, 0]) := rfl
theorem pa_Arc_load_4 : pr_Arc_load[4]? = some (8, 3, .if_icmp .lt (5), [7]) := rfl
theorem pa_Arc_load_5 : pr_Arc_load[5]? = some (11, 1, .iconst 0, [0, 0]) := rfl
theorem pa_Arc_load_6 : pr_Arc_load[6]? = some (12, 1, .ireturn, [1]) := rfl
theorem pa_Arc_load_7 : pr_Arc_load[7]? = some (13, 1, .aload_n 0, []) := rfl
theorem pa_Arc_load_8 : pr_Arc_load[8]? = some (14, 3, .getfield 9, [6, 0, 2, 0, 222]) := rfl
theorem pa_Arc_load_9 : pr_Arc_load[9]? = some (17, 1, .iload_n 1, []) := rfl
theorem pa_Arc_load_10 : pr_Arc_load[10]? = some (18, 1, .iload_n 2, []) := rfl
theorem pa_Arc_load_11 : pr_Arc_load[11]? = some (19, 3, .sipush 255, [255, 0]) := rfl
theorem pa_Arc_load_12 : pr_Arc_load[12]? = some (22, 1, .iand, []) := rfl
theorem pa_Arc_load_13 : pr_Arc_load[13]? = some (23, 1, .iastore, []) := rfl
theorem pa_Arc_load_14 : pr_Arc_load[14]? = some (24, 1, .iconst 1, [1, 0]) := rfl
theorem pa_Arc_load_15 : pr_Arc_load[15]? = some (25, 1, .ireturn, [1]) := rfl
def pa_Arc_load := And.intro pa_Arc_load_0 (And.intro pa_Arc_load_1 (And.intro pa_Arc_load_2 (And.intro pa_Arc_load_3 (And.intro pa_Arc_load_4 (And.intro pa_Arc_load_5 (And.intro pa_Arc_load_6 (And.intro pa_Arc_load_7 (And.intro pa_Arc_load_8 (And.intro pa_Arc_load_9 (And.intro pa_Arc_load_10 (And.intro pa_Arc_load_11 (And.intro pa_Arc_load_12 (And.intro pa_Arc_load_13 (And.intro pa_Arc_load_14 (pa_Arc_load_15)))))))))))))))
def pr_Arc_nextRead : List ma_E := [(0, 1, .aload_n 0, []),
  (1, 1, .dup, []),
  (2, 3, .getfield 28, [6, 4, 0, 0, 226]),
  (5, 1, .iconst 1, [1, 0]),
  (6, 1, .iadd, []),
  (7, 3, .putfield 28, [6, 4, 0, 0, 226]),
  (10, 1, .aload_n 0, []),
  (11, 3, .getfield 25, [6, 3, 2, 0, 225]),
  (14, 1, .aload_n 0, []),
  (15, 3, .getfield 28, [6, 4, 0, 0, 226]),
  (18, 1, .iconst 1, [1, 0]),
  (19, 1, .isub, []),
  (20, 1, .aaload, []),
  (21, 1, .areturn, [])]
theorem po_Arc_nextRead : ma_ok me_Arc_nextRead pr_Arc_nextRead := ma_ok_of (by decide +kernel)
theorem pa_Arc_nextRead_0 : pr_Arc_nextRead[0]? = some (0, 1, .aload_n 0, []) := rfl
theorem pa_Arc_nextRead_1 : pr_Arc_nextRead[1]? = some (1, 1, .dup, []) := rfl
theorem pa_Arc_nextRead_2 : pr_Arc_nextRead[2]? = some (2, 3, .getfield 28, [6, 4, 0, 0, 226]) := rfl
theorem pa_Arc_nextRead_3 : pr_Arc_nextRead[3]? = some (5, 1, .iconst 1, [1, 0]) := rfl
theorem pa_Arc_nextRead_4 : pr_Arc_nextRead[4]? = some (6, 1, .iadd, []) := rfl
theorem pa_Arc_nextRead_5 : pr_Arc_nextRead[5]? = some (7, 3, .putfield 28, [6, 4, 0, 0, 226]) := rfl
theorem pa_Arc_nextRead_6 : pr_Arc_nextRead[6]? = some (10, 1, .aload_n 0, []) := rfl
theorem pa_Arc_nextRead_7 : pr_Arc_nextRead[7]? = some (11, 3, .getfield 25, [6, 3, 2, 0, 225]) := rfl
theorem pa_Arc_nextRead_8 : pr_Arc_nextRead[8]? = some (14, 1, .aload_n 0, []) := rfl
theorem pa_Arc_nextRead_9 : pr_Arc_nextRead[9]? = some (15, 3, .getfield 28, [6, 4, 0, 0, 226]) := rfl
theorem pa_Arc_nextRead_10 : pr_Arc_nextRead[10]? = some (18, 1, .iconst 1, [1, 0]) := rfl
theorem pa_Arc_nextRead_11 : pr_Arc_nextRead[11]? = some (19, 1, .isub, []) := rfl
theorem pa_Arc_nextRead_12 : pr_Arc_nextRead[12]? = some (20, 1, .aaload, []) := rfl
theorem pa_Arc_nextRead_13 : pr_Arc_nextRead[13]? = some (21, 1, .areturn, []) := rfl
def pa_Arc_nextRead := And.intro pa_Arc_nextRead_0 (And.intro pa_Arc_nextRead_1 (And.intro pa_Arc_nextRead_2 (And.intro pa_Arc_nextRead_3 (And.intro pa_Arc_nextRead_4 (And.intro pa_Arc_nextRead_5 (And.intro pa_Arc_nextRead_6 (And.intro pa_Arc_nextRead_7 (And.intro pa_Arc_nextRead_8 (And.intro pa_Arc_nextRead_9 (And.intro pa_Arc_nextRead_10 (And.intro pa_Arc_nextRead_11 (And.intro pa_Arc_nextRead_12 (pa_Arc_nextRead_13)))))))))))))
def pr_Arc_shuffle : List ma_E := [(0, 1, .iload_n 1, []),
  (1, 3, .ifCond .ge (5), [4]),
  (4, 1, .iconst 0, [0, 0]),
  (5, 1, .ireturn, [1]),
  (6, 1, .iload_n 1, []),
  (7, 1, .istore_n 2, []),
  (8, 1, .aload_n 0, []),
  (9, 3, .getfield 28, [6, 4, 0, 0, 226]),
  (12, 1, .iconst 1, [1, 0]),
  (13, 1, .isub, []),
  (14, 1, .istore_n 3, []),
  (15, 1, .iload_n 3, []),
  (16, 1, .iconst 1, [1, 0]),
  (17, 3, .if_icmp .lt (61), [50]),
  (20, 1, .iload_n 2, []),
  (21, 2, .ldc 119, [1103515245, 0, 432]),
  (23, 1, .imul, []),
  (24, 3, .sipush 12345, [12345, 0]),
  (27, 1, .iadd, []),
  (28, 2, .ldc 120, [2147483647, 0, 433]),
  (30, 1, .iand, []),
  (31, 1, .istore_n 2, []),
  (32, 1, .iload_n 2, []),
  (33, 2, .ldc 121, [65536, 0, 434]),
  (35, 1, .idiv, []),
  (36, 1, .iload_n 3, []),
  (37, 1, .iconst 1, [1, 0]),
  (38, 1, .iadd, []),
  (39, 1, .irem, []),
  (40, 2, .istore 4, []),
  (42, 1, .aload_n 0, []),
  (43, 3, .getfield 25, [6, 3, 2, 0, 225]),
  (46, 1, .iload_n 3, []),
  (47, 1, .aaload, []),
  (48, 2, .astore 5, []),
  (50, 1, .aload_n 0, []),
  (51, 3, .getfield 25, [6, 3, 2, 0, 225]),
  (54, 1, .iload_n 3, []),
  (55, 1, .aload_n 0, []),
  (56, 3, .getfield 25, [6, 3, 2, 0, 225]),
  (59, 2, .iload 4, []),
  (61, 1, .aaload, []),
  (62, 1, .aastore, []),
  (63, 1, .aload_n 0, []),
  (64, 3, .getfield 25, [6, 3, 2, 0, 225]),
  (67, 2, .iload 4, []),
  (69, 2, .aload 5, []),
  (71, 1, .aastore, []),
  (72, 3, .iinc 3 (-1), [1, 1]),
  (75, 3, .goto (-60), [11]),
  (78, 1, .iconst 1, [1, 0]),
  (79, 1, .ireturn, [1])]
theorem po_Arc_shuffle : ma_ok me_Arc_shuffle pr_Arc_shuffle := ma_ok_of (by decide +kernel)
theorem pa_Arc_shuffle_0 : pr_Arc_shuffle[0]? = some (0, 1, .iload_n 1, []) := rfl
theorem pa_Arc_shuffle_1 : pr_Arc_shuffle[1]? = some (1, 3, .ifCond .ge (5), [4]) := rfl
theorem pa_Arc_shuffle_2 : pr_Arc_shuffle[2]? = some (4, 1, .iconst 0, [0, 0]) := rfl
theorem pa_Arc_shuffle_3 : pr_Arc_shuffle[3]? = some (5, 1, .ireturn, [1]) := rfl
theorem pa_Arc_shuffle_4 : pr_Arc_shuffle[4]? = some (6, 1, .iload_n 1, []) := rfl
theorem pa_Arc_shuffle_5 : pr_Arc_shuffle[5]? = some (7, 1, .istore_n 2, []) := rfl
theorem pa_Arc_shuffle_6 : pr_Arc_shuffle[6]? = some (8, 1, .aload_n 0, []) := rfl
theorem pa_Arc_shuffle_7 : pr_Arc_shuffle[7]? = some (9, 3, .getfield 28, [6, 4, 0, 0, 226]) := rfl
theorem pa_Arc_shuffle_8 : pr_Arc_shuffle[8]? = some (12, 1, .iconst 1, [1, 0]) := rfl
theorem pa_Arc_shuffle_9 : pr_Arc_shuffle[9]? = some (13, 1, .isub, []) := rfl
theorem pa_Arc_shuffle_10 : pr_Arc_shuffle[10]? = some (14, 1, .istore_n 3, []) := rfl
theorem pa_Arc_shuffle_11 : pr_Arc_shuffle[11]? = some (15, 1, .iload_n 3, []) := rfl
theorem pa_Arc_shuffle_12 : pr_Arc_shuffle[12]? = some (16, 1, .iconst 1, [1, 0]) := rfl
theorem pa_Arc_shuffle_13 : pr_Arc_shuffle[13]? = some (17, 3, .if_icmp .lt (61), [50]) := rfl
theorem pa_Arc_shuffle_14 : pr_Arc_shuffle[14]? = some (20, 1, .iload_n 2, []) := rfl
theorem pa_Arc_shuffle_15 : pr_Arc_shuffle[15]? = some (21, 2, .ldc 119, [1103515245, 0, 432]) := rfl
theorem pa_Arc_shuffle_16 : pr_Arc_shuffle[16]? = some (23, 1, .imul, []) := rfl
theorem pa_Arc_shuffle_17 : pr_Arc_shuffle[17]? = some (24, 3, .sipush 12345, [12345, 0]) := rfl
theorem pa_Arc_shuffle_18 : pr_Arc_shuffle[18]? = some (27, 1, .iadd, []) := rfl
theorem pa_Arc_shuffle_19 : pr_Arc_shuffle[19]? = some (28, 2, .ldc 120, [2147483647, 0, 433]) := rfl
theorem pa_Arc_shuffle_20 : pr_Arc_shuffle[20]? = some (30, 1, .iand, []) := rfl
theorem pa_Arc_shuffle_21 : pr_Arc_shuffle[21]? = some (31, 1, .istore_n 2, []) := rfl
theorem pa_Arc_shuffle_22 : pr_Arc_shuffle[22]? = some (32, 1, .iload_n 2, []) := rfl
theorem pa_Arc_shuffle_23 : pr_Arc_shuffle[23]? = some (33, 2, .ldc 121, [65536, 0, 434]) := rfl
theorem pa_Arc_shuffle_24 : pr_Arc_shuffle[24]? = some (35, 1, .idiv, []) := rfl
theorem pa_Arc_shuffle_25 : pr_Arc_shuffle[25]? = some (36, 1, .iload_n 3, []) := rfl
theorem pa_Arc_shuffle_26 : pr_Arc_shuffle[26]? = some (37, 1, .iconst 1, [1, 0]) := rfl
theorem pa_Arc_shuffle_27 : pr_Arc_shuffle[27]? = some (38, 1, .iadd, []) := rfl
theorem pa_Arc_shuffle_28 : pr_Arc_shuffle[28]? = some (39, 1, .irem, []) := rfl
theorem pa_Arc_shuffle_29 : pr_Arc_shuffle[29]? = some (40, 2, .istore 4, []) := rfl
theorem pa_Arc_shuffle_30 : pr_Arc_shuffle[30]? = some (42, 1, .aload_n 0, []) := rfl
theorem pa_Arc_shuffle_31 : pr_Arc_shuffle[31]? = some (43, 3, .getfield 25, [6, 3, 2, 0, 225]) := rfl
theorem pa_Arc_shuffle_32 : pr_Arc_shuffle[32]? = some (46, 1, .iload_n 3, []) := rfl
theorem pa_Arc_shuffle_33 : pr_Arc_shuffle[33]? = some (47, 1, .aaload, []) := rfl
theorem pa_Arc_shuffle_34 : pr_Arc_shuffle[34]? = some (48, 2, .astore 5, []) := rfl
theorem pa_Arc_shuffle_35 : pr_Arc_shuffle[35]? = some (50, 1, .aload_n 0, []) := rfl
theorem pa_Arc_shuffle_36 : pr_Arc_shuffle[36]? = some (51, 3, .getfield 25, [6, 3, 2, 0, 225]) := rfl
theorem pa_Arc_shuffle_37 : pr_Arc_shuffle[37]? = some (54, 1, .iload_n 3, []) := rfl
theorem pa_Arc_shuffle_38 : pr_Arc_shuffle[38]? = some (55, 1, .aload_n 0, []) := rfl
theorem pa_Arc_shuffle_39 : pr_Arc_shuffle[39]? = some (56, 3, .getfield 25, [6, 3, 2, 0, 225]) := rfl
theorem pa_Arc_shuffle_40 : pr_Arc_shuffle[40]? = some (59, 2, .iload 4, []) := rfl
theorem pa_Arc_shuffle_41 : pr_Arc_shuffle[41]? = some (61, 1, .aaload, []) := rfl
theorem pa_Arc_shuffle_42 : pr_Arc_shuffle[42]? = some (62, 1, .aastore, []) := rfl
theorem pa_Arc_shuffle_43 : pr_Arc_shuffle[43]? = some (63, 1, .aload_n 0, []) := rfl
theorem pa_Arc_shuffle_44 : pr_Arc_shuffle[44]? = some (64, 3, .getfield 25, [6, 3, 2, 0, 225]) := rfl
theorem pa_Arc_shuffle_45 : pr_Arc_shuffle[45]? = some (67, 2, .iload 4, []) := rfl
theorem pa_Arc_shuffle_46 : pr_Arc_shuffle[46]? = some (69, 2, .aload 5, []) := rfl
theorem pa_Arc_shuffle_47 : pr_Arc_shuffle[47]? = some (71, 1, .aastore, []) := rfl
theorem pa_Arc_shuffle_48 : pr_Arc_shuffle[48]? = some (72, 3, .iinc 3 (-1), [1, 1]) := rfl
theorem pa_Arc_shuffle_49 : pr_Arc_shuffle[49]? = some (75, 3, .goto (-60), [11]) := rfl
theorem pa_Arc_shuffle_50 : pr_Arc_shuffle[50]? = some (78, 1, .iconst 1, [1, 0]) := rfl
theorem pa_Arc_shuffle_51 : pr_Arc_shuffle[51]? = some (79, 1, .ireturn, [1]) := rfl
def pa_Arc_shuffle := And.intro pa_Arc_shuffle_0 (And.intro pa_Arc_shuffle_1 (And.intro pa_Arc_shuffle_2 (And.intro pa_Arc_shuffle_3 (And.intro pa_Arc_shuffle_4 (And.intro pa_Arc_shuffle_5 (And.intro pa_Arc_shuffle_6 (And.intro pa_Arc_shuffle_7 (And.intro pa_Arc_shuffle_8 (And.intro pa_Arc_shuffle_9 (And.intro pa_Arc_shuffle_10 (And.intro pa_Arc_shuffle_11 (And.intro pa_Arc_shuffle_12 (And.intro pa_Arc_shuffle_13 (And.intro pa_Arc_shuffle_14 (And.intro pa_Arc_shuffle_15 (And.intro pa_Arc_shuffle_16 (And.intro pa_Arc_shuffle_17 (And.intro pa_Arc_shuffle_18 (And.intro pa_Arc_shuffle_19 (And.intro pa_Arc_shuffle_20 (And.intro pa_Arc_shuffle_21 (And.intro pa_Arc_shuffle_22 (And.intro pa_Arc_shuffle_23 (And.intro pa_Arc_shuffle_24 (And.intro pa_Arc_shuffle_25 (And.intro pa_Arc_shuffle_26 (And.intro pa_Arc_shuffle_27 (And.intro pa_Arc_shuffle_28 (And.intro pa_Arc_shuffle_29 (And.intro pa_Arc_shuffle_30 (And.intro pa_Arc_shuffle_31 (And.intro pa_Arc_shuffle_32 (And.intro pa_Arc_shuffle_33 (And.intro pa_Arc_shuffle_34 (And.intro pa_Arc_shuffle_35 (And.intro pa_Arc_shuffle_36 (And.intro pa_Arc_shuffle_37 (And.intro pa_Arc_shuffle_38 (And.intro pa_Arc_shuffle_39 (And.intro pa_Arc_shuffle_40 (And.intro pa_Arc_shuffle_41 (And.intro pa_Arc_shuffle_42 (And.intro pa_Arc_shuffle_43 (And.intro pa_Arc_shuffle_44 (And.intro pa_Arc_shuffle_45 (And.intro pa_Arc_shuffle_46 (And.intro pa_Arc_shuffle_47 (And.intro pa_Arc_shuffle_48 (And.intro pa_Arc_shuffle_49 (And.intro pa_Arc_shuffle_50 (pa_Arc_shuffle_51)))))))))))))))))))))))))))))))))))))))))))))))))))
def pr_Mod_clear : List ma_E := [(0, 1, .aload_n 0, []),
  (1, 1, .iconst 0, [0, 0]),
  (2, 3, .putfield 66, [7, 0, 0, 0, 620]),
  (5, 1, .aload_n 0, []),
  (6, 1, .iconst 0, [0, 0]),
  (7, 3, .putfield 97, [7, 4, 0, 0, 624]),
  (10, 1, .return_, [])]
theorem po_Mod_clear : ma_ok me_Mod_clear pr_Mod_clear := ma_ok_of (by decide +kernel)
theorem pa_Mod_clear_0 : pr_Mod_clear[0]? = some (0, 1, .aload_n 0, []) := rfl
theorem pa_Mod_clear_1 : pr_Mod_clear[1]? = some (1, 1, .iconst 0, [0, 0]) := rfl
theorem pa_Mod_clear_2 : pr_Mod_clear[2]? = some (2, 3, .putfield 66, [7, 0, 0, 0, 620]) := rfl
theorem pa_Mod_clear_3 : pr_Mod_clear[3]? = some (5, 1, .aload_n 0, []) := rfl
theorem pa_Mod_clear_4 : pr_Mod_clear[4]? = some (6, 1, .iconst 0, [0, 0]) := rfl
theorem pa_Mod_clear_5 : pr_Mod_clear[5]? = some (7, 3, .putfield 97, [7, 4, 0, 0, 624]) := rfl
theorem pa_Mod_clear_6 : pr_Mod_clear[6]? = some (10, 1, .return_, []) := rfl
def pa_Mod_clear := And.intro pa_Mod_clear_0 (And.intro pa_Mod_clear_1 (And.intro pa_Mod_clear_2 (And.intro pa_Mod_clear_3 (And.intro pa_Mod_clear_4 (And.intro pa_Mod_clear_5 (pa_Mod_clear_6))))))
def pr_Mod_count : List ma_E := [(0, 1, .aload_n 0, []),
  (1, 1, .iconst 0, [0, 0]),
  (2, 3, .putfield 66, [7, 0, 0, 0, 620]),
  (5, 1, .iload_n 1, []),
  (6, 3, .ifCond .ne (10), [8]),
  (9, 1, .aload_n 0, []),
  (10, 3, .getfield 121, [7, 7, 0, 0, 627]),
  (13, 3, .goto (28), [21]),
  (16, 1, .iload_n 1, []),
  (17, 1, .iconst 1, [1, 0]),
  (18, 3, .if_icmp .ne (10), [14]),
  (21, 1, .aload_n 0, []),
  (22, 3, .getfield 124, [7, 8, 0, 0, 628]),
  (25, 3, .goto (16), [21]),
  (28, 1, .iload_n 1, []),
  (29, 1, .iconst 2, [2, 0]),
  (30, 3, .if_icmp .ne (10), [20]),
  (33, 1, .aload_n 0, []),
  (34, 3, .getfield 127, [7, 9, 0, 0, 629]),
  (37, 3, .goto (4), [21]),
  (40, 1, .iconst (-1), [1, 1]),
  (41, 1, .ireturn, [0])]
theorem po_Mod_count : ma_ok me_Mod_count pr_Mod_count := ma_ok_of (by decide +kernel)
theorem pa_Mod_count_0 : pr_Mod_count[0]? = some (0, 1, .aload_n 0, []) := rfl
theorem pa_Mod_count_1 : pr_Mod_count[1]? = some (1, 1, .iconst 0, [0, 0]) := rfl
theorem pa_Mod_count_2 : pr_Mod_count[2]? = some (2, 3, .putfield 66, [7, 0, 0, 0, 620]) := rfl
theorem pa_Mod_count_3 : pr_Mod_count[3]? = some (5, 1, .iload_n 1, []) := rfl
theorem pa_Mod_count_4 : pr_Mod_count[4]? = some (6, 3, .ifCond .ne (10), [8]) := rfl
theorem pa_Mod_count_5 : pr_Mod_count[5]? = some (9, 1, .aload_n 0, []) := rfl
theorem pa_Mod_count_6 : pr_Mod_count[6]? = some (10, 3, .getfield 121, [7, 7, 0, 0, 627]) := rfl
theorem pa_Mod_count_7 : pr_Mod_count[7]? = some (13, 3, .goto (28), [21]) := rfl
theorem pa_Mod_count_8 : pr_Mod_count[8]? = some (16, 1, .iload_n 1, []) := rfl
theorem pa_Mod_count_9 : pr_Mod_count[9]? = some (17, 1, .iconst 1, [1, 0]) := rfl
theorem pa_Mod_count_10 : pr_Mod_count[10]? = some (18, 3, .if_icmp .ne (10), [14]) := rfl
theorem pa_Mod_count_11 : pr_Mod_count[11]? = some (21, 1, .aload_n 0, []) := rfl
theorem pa_Mod_count_12 : pr_Mod_count[12]? = some (22, 3, .getfield 124, [7, 8, 0, 0, 628]) := rfl
theorem pa_Mod_count_13 : pr_Mod_count[13]? = some (25, 3, .goto (16), [21]) := rfl
theorem pa_Mod_count_14 : pr_Mod_count[14]? = some (28, 1, .iload_n 1, []) := rfl
theorem pa_Mod_count_15 : pr_Mod_count[15]? = some (29, 1, .iconst 2, [2, 0]) := rfl
theorem pa_Mod_count_16 : pr_Mod_count[16]? = some (30, 3, .if_icmp .ne (10), [20]) := rfl
theorem pa_Mod_count_17 : pr_Mod_count[17]? = some (33, 1, .aload_n 0, []) := rfl
theorem pa_Mod_count_18 : pr_Mod_count[18]? = some (34, 3, .getfield 127, [7, 9, 0, 0, 629]) := rfl
theorem pa_Mod_count_19 : pr_Mod_count[19]? = some (37, 3, .goto (4), [21]) := rfl
theorem pa_Mod_count_20 : pr_Mod_count[20]? = some (40, 1, .iconst (-1), [1, 1]) := rfl
theorem pa_Mod_count_21 : pr_Mod_count[21]? = some (41, 1, .ireturn, [0]) := rfl
def pa_Mod_count := And.intro pa_Mod_count_0 (And.intro pa_Mod_count_1 (And.intro pa_Mod_count_2 (And.intro pa_Mod_count_3 (And.intro pa_Mod_count_4 (And.intro pa_Mod_count_5 (And.intro pa_Mod_count_6 (And.intro pa_Mod_count_7 (And.intro pa_Mod_count_8 (And.intro pa_Mod_count_9 (And.intro pa_Mod_count_10 (And.intro pa_Mod_count_11 (And.intro pa_Mod_count_12 (And.intro pa_Mod_count_13 (And.intro pa_Mod_count_14 (And.intro pa_Mod_count_15 (And.intro pa_Mod_count_16 (And.intro pa_Mod_count_17 (And.intro pa_Mod_count_18 (And.intro pa_Mod_count_19 (And.intro pa_Mod_count_20 (pa_Mod_count_21)))))))))))))))))))))
def pr_Mod_group : List ma_E := [(0, 1, .iconst 0, [0, 0]),
  (1, 1, .istore_n 2, []),
  (2, 2, .bipush 11, [11, 0]),
  (4, 1, .iload_n 1, []),
  (5, 1, .imul, []),
  (6, 1, .istore_n 3, []),
  (7, 1, .iload_n 3, []),
  (8, 2, .bipush 11, [11, 0]),
  (10, 1, .iload_n 1, []),
  (11, 1, .imul, []),
  (12, 2, .bipush 11, [11, 0]),
  (14, 1, .iadd, []),
  (15, 3, .if_icmp .ge (60), [48]),
  (18, 1, .iload_n 3, []),
  (19, 3, .ifCond .ne (7), [17]),
  (22, 1, .iconst 3, [3, 0]),
  (23, 3, .goto (11), [23]),
  (26, 1, .aload_n 0, []),
  (27, 3, .getfield 32, [7, 13, 2, 0, 633]),
  (30, 1, .iload_n 3, []),
  (31, 1, .iconst 1, [1, 0]),
  (32, 1, .isub, []),
  (33, 1, .iaload, []),
  (34, 2, .istore 4, []),
  (36, 1, .iconst 3, [3, 0]),
  (37, 1, .iload_n 2, []),
  (38, 1, .imul, []),
  (39, 1, .aload_n 0, []),
  (40, 3, .getfield 32, [7, 13, 2, 0, 633]),
  (43, 1, .iload_n 3, []),
  (44, 1, .iaload, []),
  (45, 2, .iload 4, []),
  (47, 3, .if_icmp .ge (12), [38]),
  (50, 1, .aload_n 0, []),
  (51, 3, .getfield 32, [7, 13, 2, 0, 633]),
  (54, 1, .iload_n 3, []),
  (55, 1, .iaload, []),
  (56, 3, .goto (11), [44]),
  (59, 1, .aload_n 0, []),
  (60, 3, .getfield 32, [7, 13, 2, 0, 633]),
  (63, 1, .iload_n 3, []),
  (64, 1, .iaload, []),
  (65, 1, .iconst 1, [1, 0]),
  (66, 1, .isub, []),
  (67, 1, .iadd, []),
  (68, 1, .istore_n 2, []),
  (69, 3, .iinc 3 (1), [1, 0]),
  (72, 3, .goto (-65), [6]),
  (75, 1, .iload_n 2, []),
  (76, 1, .ireturn, [0])]
theorem po_Mod_group : ma_ok me_Mod_group pr_Mod_group := ma_ok_of (by decide +kernel)
theorem pa_Mod_group_0 : pr_Mod_group[0]? = some (0, 1, .iconst 0, [0, 0]) := rfl
theorem pa_Mod_group_1 : pr_Mod_group[1]? = some (1, 1, .istore_n 2, []) := rfl
theorem pa_Mod_group_2 : pr_Mod_group[2]? = some (2, 2, .bipush 11, [11, 0]) := rfl
theorem pa_Mod_group_3 : pr_Mod_group[3]? = some (4, 1, .iload_n 1, []) := rfl
theorem pa_Mod_group_4 : pr_Mod_group[4]? = some (5, 1, .imul, []) := rfl
theorem pa_Mod_group_5 : pr_Mod_group[5]? = some (6, 1, .istore_n 3, []) := rfl
theorem pa_Mod_group_6 : pr_Mod_group[6]? = some (7, 1, .iload_n 3, []) := rfl
theorem pa_Mod_group_7 : pr_Mod_group[7]? = some (8, 2, .bipush 11, [11, 0]) := rfl
theorem pa_Mod_group_8 : pr_Mod_group[8]? = some (10, 1, .iload_n 1, []) := rfl
theorem pa_Mod_group_9 : pr_Mod_group[9]? = some (11, 1, .imul, []) := rfl
theorem pa_Mod_group_10 : pr_Mod_group[10]? = some (12, 2, .bipush 11, [11, 0]) := rfl
theorem pa_Mod_group_11 : pr_Mod_group[11]? = some (14, 1, .iadd, []) := rfl
theorem pa_Mod_group_12 : pr_Mod_group[12]? = some (15, 3, .if_icmp .ge (60), [48]) := rfl
theorem pa_Mod_group_13 : pr_Mod_group[13]? = some (18, 1, .iload_n 3, []) := rfl
theorem pa_Mod_group_14 : pr_Mod_group[14]? = some (19, 3, .ifCond .ne (7), [17]) := rfl
theorem pa_Mod_group_15 : pr_Mod_group[15]? = some (22, 1, .iconst 3, [3, 0]) := rfl
theorem pa_Mod_group_16 : pr_Mod_group[16]? = some (23, 3, .goto (11), [23]) := rfl
theorem pa_Mod_group_17 : pr_Mod_group[17]? = some (26, 1, .aload_n 0, []) := rfl
theorem pa_Mod_group_18 : pr_Mod_group[18]? = some (27, 3, .getfield 32, [7, 13, 2, 0, 633]) := rfl
theorem pa_Mod_group_19 : pr_Mod_group[19]? = some (30, 1, .iload_n 3, []) := rfl
theorem pa_Mod_group_20 : pr_Mod_group[20]? = some (31, 1, .iconst 1, [1, 0]) := rfl
theorem pa_Mod_group_21 : pr_Mod_group[21]? = some (32, 1, .isub, []) := rfl
theorem pa_Mod_group_22 : pr_Mod_group[22]? = some (33, 1, .iaload, []) := rfl
theorem pa_Mod_group_23 : pr_Mod_group[23]? = some (34, 2, .istore 4, []) := rfl
theorem pa_Mod_group_24 : pr_Mod_group[24]? = some (36, 1, .iconst 3, [3, 0]) := rfl
theorem pa_Mod_group_25 : pr_Mod_group[25]? = some (37, 1, .iload_n 2, []) := rfl
theorem pa_Mod_group_26 : pr_Mod_group[26]? = some (38, 1, .imul, []) := rfl
theorem pa_Mod_group_27 : pr_Mod_group[27]? = some (39, 1, .aload_n 0, []) := rfl
theorem pa_Mod_group_28 : pr_Mod_group[28]? = some (40, 3, .getfield 32, [7, 13, 2, 0, 633]) := rfl
theorem pa_Mod_group_29 : pr_Mod_group[29]? = some (43, 1, .iload_n 3, []) := rfl
theorem pa_Mod_group_30 : pr_Mod_group[30]? = some (44, 1, .iaload, []) := rfl
theorem pa_Mod_group_31 : pr_Mod_group[31]? = some (45, 2, .iload 4, []) := rfl
theorem pa_Mod_group_32 : pr_Mod_group[32]? = some (47, 3, .if_icmp .ge (12), [38]) := rfl
theorem pa_Mod_group_33 : pr_Mod_group[33]? = some (50, 1, .aload_n 0, []) := rfl
theorem pa_Mod_group_34 : pr_Mod_group[34]? = some (51, 3, .getfield 32, [7, 13, 2, 0, 633]) := rfl
theorem pa_Mod_group_35 : pr_Mod_group[35]? = some (54, 1, .iload_n 3, []) := rfl
theorem pa_Mod_group_36 : pr_Mod_group[36]? = some (55, 1, .iaload, []) := rfl
theorem pa_Mod_group_37 : pr_Mod_group[37]? = some (56, 3, .goto (11), [44]) := rfl
theorem pa_Mod_group_38 : pr_Mod_group[38]? = some (59, 1, .aload_n 0, []) := rfl
theorem pa_Mod_group_39 : pr_Mod_group[39]? = some (60, 3, .getfield 32, [7, 13, 2, 0, 633]) := rfl
theorem pa_Mod_group_40 : pr_Mod_group[40]? = some (63, 1, .iload_n 3, []) := rfl
theorem pa_Mod_group_41 : pr_Mod_group[41]? = some (64, 1, .iaload, []) := rfl
theorem pa_Mod_group_42 : pr_Mod_group[42]? = some (65, 1, .iconst 1, [1, 0]) := rfl
theorem pa_Mod_group_43 : pr_Mod_group[43]? = some (66, 1, .isub, []) := rfl
theorem pa_Mod_group_44 : pr_Mod_group[44]? = some (67, 1, .iadd, []) := rfl
theorem pa_Mod_group_45 : pr_Mod_group[45]? = some (68, 1, .istore_n 2, []) := rfl
theorem pa_Mod_group_46 : pr_Mod_group[46]? = some (69, 3, .iinc 3 (1), [1, 0]) := rfl
theorem pa_Mod_group_47 : pr_Mod_group[47]? = some (72, 3, .goto (-65), [6]) := rfl
theorem pa_Mod_group_48 : pr_Mod_group[48]? = some (75, 1, .iload_n 2, []) := rfl
theorem pa_Mod_group_49 : pr_Mod_group[49]? = some (76, 1, .ireturn, [0]) := rfl
def pa_Mod_group := And.intro pa_Mod_group_0 (And.intro pa_Mod_group_1 (And.intro pa_Mod_group_2 (And.intro pa_Mod_group_3 (And.intro pa_Mod_group_4 (And.intro pa_Mod_group_5 (And.intro pa_Mod_group_6 (And.intro pa_Mod_group_7 (And.intro pa_Mod_group_8 (And.intro pa_Mod_group_9 (And.intro pa_Mod_group_10 (And.intro pa_Mod_group_11 (And.intro pa_Mod_group_12 (And.intro pa_Mod_group_13 (And.intro pa_Mod_group_14 (And.intro pa_Mod_group_15 (And.intro pa_Mod_group_16 (And.intro pa_Mod_group_17 (And.intro pa_Mod_group_18 (And.intro pa_Mod_group_19 (And.intro pa_Mod_group_20 (And.intro pa_Mod_group_21 (And.intro pa_Mod_group_22 (And.intro pa_Mod_group_23 (And.intro pa_Mod_group_24 (And.intro pa_Mod_group_25 (And.intro pa_Mod_group_26 (And.intro pa_Mod_group_27 (And.intro pa_Mod_group_28 (And.intro pa_Mod_group_29 (And.intro pa_Mod_group_30 (And.intro pa_Mod_group_31 (And.intro pa_Mod_group_32 (And.intro pa_Mod_group_33 (And.intro pa_Mod_group_34 (And.intro pa_Mod_group_35 (And.intro pa_Mod_group_36 (And.intro pa_Mod_group_37 (And.intro pa_Mod_group_38 (And.intro pa_Mod_group_39 (And.intro pa_Mod_group_40 (And.intro pa_Mod_group_41 (And.intro pa_Mod_group_42 (And.intro pa_Mod_group_43 (And.intro pa_Mod_group_44 (And.intro pa_Mod_group_45 (And.intro pa_Mod_group_46 (And.intro pa_Mod_group_47 (And.intro pa_Mod_group_48 (pa_Mod_group_49)))))))))))))))))))))))))))))))))))))))))))))))))
