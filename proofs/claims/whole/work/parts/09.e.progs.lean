/-! the methods as tables -/
def pr_Mod_letter : List ma_E := [(0, 1, .aload_n 0, []),
  (1, 1, .iconst 0, [0, 0]),
  (2, 3, .putfield 66, [7, 0, 0, 0, 620]),
  (5, 1, .iload_n 1, []),
  (6, 1, .iconst 0, [0, 0]),
  (7, 1, .aload_n 0, []),
  (8, 3, .getfield 94, [7, 2, 0, 0, 622]),
  (11, 1, .iconst 1, [1, 0]),
  (12, 1, .isub, []),
  (13, 3, .invokestatic 74, [29, 3, 0, 700, 701, 47]),
  (16, 3, .ifCond .eq (27), [25]),
  (19, 1, .iload_n 2, []),
  (20, 1, .iconst 0, [0, 0]),
  (21, 2, .bipush 44, [44, 0]),
  (23, 3, .invokestatic 74, [29, 3, 0, 700, 701, 47]),
  (26, 3, .ifCond .eq (17), [25]),
  (29, 1, .aload_n 0, []),
  (30, 3, .getfield 13, [7, 3, 2, 0, 623]),
  (33, 2, .bipush 45, [45, 0]),
  (35, 1, .iload_n 1, []),
  (36, 1, .imul, []),
  (37, 1, .iload_n 2, []),
  (38, 1, .iadd, []),
  (39, 1, .baload, [0]),
  (40, 3, .goto (4), [26]),
  (43, 1, .iconst (-1), [1, 1]),
  (44, 1, .ireturn, [0])]
theorem po_Mod_letter : ma_ok me_Mod_letter pr_Mod_letter := ma_ok_of (by decide +kernel)
theorem pa_Mod_letter_0 : pr_Mod_letter[0]? = some (0, 1, .aload_n 0, []) := rfl
theorem pa_Mod_letter_1 : pr_Mod_letter[1]? = some (1, 1, .iconst 0, [0, 0]) := rfl
theorem pa_Mod_letter_2 : pr_Mod_letter[2]? = some (2, 3, .putfield 66, [7, 0, 0, 0, 620]) := rfl
theorem pa_Mod_letter_3 : pr_Mod_letter[3]? = some (5, 1, .iload_n 1, []) := rfl
theorem pa_Mod_letter_4 : pr_Mod_letter[4]? = some (6, 1, .iconst 0, [0, 0]) := rfl
theorem pa_Mod_letter_5 : pr_Mod_letter[5]? = some (7, 1, .aload_n 0, []) := rfl
theorem pa_Mod_letter_6 : pr_Mod_letter[6]? = some (8, 3, .getfield 94, [7, 2, 0, 0, 622]) := rfl
theorem pa_Mod_letter_7 : pr_Mod_letter[7]? = some (11, 1, .iconst 1, [1, 0]) := rfl
theorem pa_Mod_letter_8 : pr_Mod_letter[8]? = some (12, 1, .isub, []) := rfl
theorem pa_Mod_letter_9 : pr_Mod_letter[9]? = some (13, 3, .invokestatic 74, [29, 3, 0, 700, 701, 47]) := rfl
theorem pa_Mod_letter_10 : pr_Mod_letter[10]? = some (16, 3, .ifCond .eq (27), [25]) := rfl
theorem pa_Mod_letter_11 : pr_Mod_letter[11]? = some (19, 1, .iload_n 2, []) := rfl
theorem pa_Mod_letter_12 : pr_Mod_letter[12]? = some (20, 1, .iconst 0, [0, 0]) := rfl
theorem pa_Mod_letter_13 : pr_Mod_letter[13]? = some (21, 2, .bipush 44, [44, 0]) := rfl
theorem pa_Mod_letter_14 : pr_Mod_letter[14]? = some (23, 3, .invokestatic 74, [29, 3, 0, 700, 701, 47]) := rfl
theorem pa_Mod_letter_15 : pr_Mod_letter[15]? = some (26, 3, .ifCond .eq (17), [25]) := rfl
theorem pa_Mod_letter_16 : pr_Mod_letter[16]? = some (29, 1, .aload_n 0, []) := rfl
theorem pa_Mod_letter_17 : pr_Mod_letter[17]? = some (30, 3, .getfield 13, [7, 3, 2, 0, 623]) := rfl
theorem pa_Mod_letter_18 : pr_Mod_letter[18]? = some (33, 2, .bipush 45, [45, 0]) := rfl
theorem pa_Mod_letter_19 : pr_Mod_letter[19]? = some (35, 1, .iload_n 1, []) := rfl
theorem pa_Mod_letter_20 : pr_Mod_letter[20]? = some (36, 1, .imul, []) := rfl
theorem pa_Mod_letter_21 : pr_Mod_letter[21]? = some (37, 1, .iload_n 2, []) := rfl
theorem pa_Mod_letter_22 : pr_Mod_letter[22]? = some (38, 1, .iadd, []) := rfl
theorem pa_Mod_letter_23 : pr_Mod_letter[23]? = some (39, 1, .baload, [0]) := rfl
theorem pa_Mod_letter_24 : pr_Mod_letter[24]? = some (40, 3, .goto (4), [26]) := rfl
theorem pa_Mod_letter_25 : pr_Mod_letter[25]? = some (43, 1, .iconst (-1), [1, 1]) := rfl
theorem pa_Mod_letter_26 : pr_Mod_letter[26]? = some (44, 1, .ireturn, [0]) := rfl
def pa_Mod_letter := And.intro pa_Mod_letter_0 (And.intro pa_Mod_letter_1 (And.intro pa_Mod_letter_2 (And.intro pa_Mod_letter_3 (And.intro pa_Mod_letter_4 (And.intro pa_Mod_letter_5 (And.intro pa_Mod_letter_6 (And.intro pa_Mod_letter_7 (And.intro pa_Mod_letter_8 (And.intro pa_Mod_letter_9 (And.intro pa_Mod_letter_10 (And.intro pa_Mod_letter_11 (And.intro pa_Mod_letter_12 (And.intro pa_Mod_letter_13 (And.intro pa_Mod_letter_14 (And.intro pa_Mod_letter_15 (And.intro pa_Mod_letter_16 (And.intro pa_Mod_letter_17 (And.intro pa_Mod_letter_18 (And.intro pa_Mod_letter_19 (And.intro pa_Mod_letter_20 (And.intro pa_Mod_letter_21 (And.intro pa_Mod_letter_22 (And.intro pa_Mod_letter_23 (And.intro pa_Mod_letter_24 (And.intro pa_Mod_letter_25 (pa_Mod_letter_26))))))))))))))))))))))))))
def pr_Mod_load : List ma_E := [(0, 1, .aload_n 0, []),
  (1, 1, .iconst 0, [0, 0]),
  (2, 3, .putfield 66, [7, 0, 0, 0, 620]),
  (5, 1, .iload_n 1, []),
  (6, 1, .iconst 0, [0, 0]),
  (7, 3, .sipush 159, [159, 0]),
  (10, 3, .invokestatic 74, [29, 3, 0, 700, 701, 47]),
  (13, 3, .ifCond .ne (5), [10]),
  (16, 1, .iconst 0, [0, 0]),
  (17, 1, .ireturn, [1]),
  (18, 1, .aload_n 0, []),
  (19, 3, .getfield 7, [7, 1, 2, 0, 621]),
  (22, 1, .iload_n 1, []),
  (23, 1, .iload_n 2, []),
  (24, 3, .sipush 255, [255, 0]),
  (27, 1, .iand, []),
  (28, 1, .iastore, []),
  (29, 1, .iconst 1, [1, 0]),
  (30, 1, .ireturn, [1])]
theorem po_Mod_load : ma_ok me_Mod_load pr_Mod_load := ma_ok_of (by decide +kernel)
theorem pa_Mod_load_0 : pr_Mod_load[0]? = some (0, 1, .aload_n 0, []) := rfl
theorem pa_Mod_load_1 : pr_Mod_load[1]? = some (1, 1, .iconst 0, [0, 0]) := rfl
theorem pa_Mod_load_2 : pr_Mod_load[2]? = some (2, 3, .putfield 66, [7, 0, 0, 0, 620]) := rfl
theorem pa_Mod_load_3 : pr_Mod_load[3]? = some (5, 1, .iload_n 1, []) := rfl
theorem pa_Mod_load_4 : pr_Mod_load[4]? = some (6, 1, .iconst 0, [0, 0]) := rfl
theorem pa_Mod_load_5 : pr_Mod_load[5]? = some (7, 3, .sipush 159, [159, 0]) := rfl
theorem pa_Mod_load_6 : pr_Mod_load[6]? = some (10, 3, .invokestatic 74, [29, 3, 0, 700, 701, 47]) := rfl
theorem pa_Mod_load_7 : pr_Mod_load[7]? = some (13, 3, .ifCond .ne (5), [10]) := rfl
theorem pa_Mod_load_8 : pr_Mod_load[8]? = some (16, 1, .iconst 0, [0, 0]) := rfl
theorem pa_Mod_load_9 : pr_Mod_load[9]? = some (17, 1, .ireturn, [1]) := rfl
theorem pa_Mod_load_10 : pr_Mod_load[10]? = some (18, 1, .aload_n 0, []) := rfl
theorem pa_Mod_load_11 : pr_Mod_load[11]? = some (19, 3, .getfield 7, [7, 1, 2, 0, 621]) := rfl
theorem pa_Mod_load_12 : pr_Mod_load[12]? = some (22, 1, .iload_n 1, []) := rfl
theorem pa_Mod_load_13 : pr_Mod_load[13]? = some (23, 1, .iload_n 2, []) := rfl
theorem pa_Mod_load_14 : pr_Mod_load[14]? = some (24, 3, .sipush 255, [255, 0]) := rfl
theorem pa_Mod_load_15 : pr_Mod_load[15]? = some (27, 1, .iand, []) := rfl
theorem pa_Mod_load_16 : pr_Mod_load[16]? = some (28, 1, .iastore, []) := rfl
theorem pa_Mod_load_17 : pr_Mod_load[17]? = some (29, 1, .iconst 1, [1, 0]) := rfl
theorem pa_Mod_load_18 : pr_Mod_load[18]? = some (30, 1, .ireturn, [1]) := rfl
def pa_Mod_load := And.intro pa_Mod_load_0 (And.intro pa_Mod_load_1 (And.intro pa_Mod_load_2 (And.intro pa_Mod_load_3 (And.intro pa_Mod_load_4 (And.intro pa_Mod_load_5 (And.intro pa_Mod_load_6 (And.intro pa_Mod_load_7 (And.intro pa_Mod_load_8 (And.intro pa_Mod_load_9 (And.intro pa_Mod_load_10 (And.intro pa_Mod_load_11 (And.intro pa_Mod_load_12 (And.intro pa_Mod_load_13 (And.intro pa_Mod_load_14 (And.intro pa_Mod_load_15 (And.intro pa_Mod_load_16 (And.intro pa_Mod_load_17 (pa_Mod_load_18))))))))))))))))))
def pr_Mod_out : List ma_E := [(0, 1, .aload_n 0, []),
  (1, 1, .iload_n 1, []),
  (2, 1, .iconst 0, [0, 0]),
  (3, 1, .aload_n 0, []),
  (4, 3, .getfield 121, [7, 7, 0, 0, 627]),
  (7, 1, .iconst 1, [1, 0]),
  (8, 1, .isub, []),
  (9, 3, .invokestatic 74, [29, 3, 0, 700, 701, 47]),
  (12, 3, .ifCond .eq (7), [11]),
  (15, 1, .iconst 0, [0, 0]),
  (16, 3, .goto (4), [12]),
  (19, 1, .iconst 1, [1, 0]),
  (20, 3, .putfield 66, [7, 0, 0, 0, 620]),
  (23, 1, .aload_n 0, []),
  (24, 3, .getfield 66, [7, 0, 0, 0, 620]),
  (27, 1, .iconst 1, [1, 0]),
  (28, 3, .if_icmp .ne (7), [19]),
  (31, 1, .iconst 0, [0, 0]),
  (32, 3, .goto (9), [23]),
  (35, 1, .aload_n 0, []),
  (36, 3, .getfield 23, [7, 10, 2, 0, 630]),
  (39, 1, .iload_n 1, []),
  (40, 1, .iaload, []),
  (41, 1, .ireturn, [0])]
theorem po_Mod_out : ma_ok me_Mod_out pr_Mod_out := ma_ok_of (by decide +kernel)
theorem pa_Mod_out_0 : pr_Mod_out[0]? = some (0, 1, .aload_n 0, []) := rfl
theorem pa_Mod_out_1 : pr_Mod_out[1]? = some (1, 1, .iload_n 1, []) := rfl
theorem pa_Mod_out_2 : pr_Mod_out[2]? = some (2, 1, .iconst 0, [0, 0]) := rfl
theorem pa_Mod_out_3 : pr_Mod_out[3]? = some (3, 1, .aload_n 0, []) := rfl
theorem pa_Mod_out_4 : pr_Mod_out[4]? = some (4, 3, .getfield 121, [7, 7, 0, 0, 627]) := rfl
theorem pa_Mod_out_5 : pr_Mod_out[5]? = some (7, 1, .iconst 1, [1, 0]) := rfl
theorem pa_Mod_out_6 : pr_Mod_out[6]? = some (8, 1, .isub, []) := rfl
theorem pa_Mod_out_7 : pr_Mod_out[7]? = some (9, 3, .invokestatic 74, [29, 3, 0, 700, 701, 47]) := rfl
theorem pa_Mod_out_8 : pr_Mod_out[8]? = some (12, 3, .ifCond .eq (7), [11]) := rfl
theorem pa_Mod_out_9 : pr_Mod_out[9]? = some (15, 1, .iconst 0, [0, 0]) := rfl
theorem pa_Mod_out_10 : pr_Mod_out[10]? = some (16, 3, .goto (4), [12]) := rfl
theorem pa_Mod_out_11 : pr_Mod_out[11]? = some (19, 1, .iconst 1, [1, 0]) := rfl
theorem pa_Mod_out_12 : pr_Mod_out[12]? = some (20, 3, .putfield 66, [7, 0, 0, 0, 620]) := rfl
theorem pa_Mod_out_13 : pr_Mod_out[13]? = some (23, 1, .aload_n 0, []) := rfl
theorem pa_Mod_out_14 : pr_Mod_out[14]? = some (24, 3, .getfield 66, [7, 0, 0, 0, 620]) := rfl
theorem pa_Mod_out_15 : pr_Mod_out[15]? = some (27, 1, .iconst 1, [1, 0]) := rfl
theorem pa_Mod_out_16 : pr_Mod_out[16]? = some (28, 3, .if_icmp .ne (7), [19]) := rfl
theorem pa_Mod_out_17 : pr_Mod_out[17]? = some (31, 1, .iconst 0, [0, 0]) := rfl
theorem pa_Mod_out_18 : pr_Mod_out[18]? = some (32, 3, .goto (9), [23]) := rfl
theorem pa_Mod_out_19 : pr_Mod_out[19]? = some (35, 1, .aload_n 0, []) := rfl
theorem pa_Mod_out_20 : pr_Mod_out[20]? = some (36, 3, .getfield 23, [7, 10, 2, 0, 630]) := rfl
theorem pa_Mod_out_21 : pr_Mod_out[21]? = some (39, 1, .iload_n 1, []) := rfl
theorem pa_Mod_out_22 : pr_Mod_out[22]? = some (40, 1, .iaload, []) := rfl
theorem pa_Mod_out_23 : pr_Mod_out[23]? = some (41, 1, .ireturn, [0]) := rfl
def pa_Mod_out := And.intro pa_Mod_out_0 (And.intro pa_Mod_out_1 (And.intro pa_Mod_out_2 (And.intro pa_Mod_out_3 (And.intro pa_Mod_out_4 (And.intro pa_Mod_out_5 (And.intro pa_Mod_out_6 (And.intro pa_Mod_out_7 (And.intro pa_Mod_out_8 (And.intro pa_Mod_out_9 (And.intro pa_Mod_out_10 (And.intro pa_Mod_out_11 (And.intro pa_Mod_out_12 (And.intro pa_Mod_out_13 (And.intro pa_Mod_out_14 (And.intro pa_Mod_out_15 (And.intro pa_Mod_out_16 (And.intro pa_Mod_out_17 (And.intro pa_Mod_out_18 (And.intro pa_Mod_out_19 (And.intro pa_Mod_out_20 (And.intro pa_Mod_out_21 (And.intro pa_Mod_out_22 (pa_Mod_out_23)))))))))))))))))))))))
def pr_Mod_power : List ma_E := [(0, 1, .iconst 1, [1, 0]),
  (1, 1, .istore_n 1, []),
  (2, 1, .iconst 0, [0, 0]),
  (3, 1, .istore_n 2, []),
  (4, 1, .iload_n 2, []),
  (5, 1, .iload_n 0, []),
  (6, 3, .if_icmp .ge (15), [13]),
  (9, 1, .iload_n 1, []),
  (10, 1, .iconst 2, [2, 0]),
  (11, 3, .invokestatic 70, [36, 2, 0, 614, 615, 47]),
  (14, 1, .istore_n 1, []),
  (15, 3, .iinc 2 (1), [1, 0]),
  (18, 3, .goto (-14), [4]),
  (21, 1, .iload_n 1, []),
  (22, 1, .ireturn, [0])]
theorem po_Mod_power : ma_ok me_Mod_power pr_Mod_power := ma_ok_of (by decide +kernel)
theorem pa_Mod_power_0 : pr_Mod_power[0]? = some (0, 1, .iconst 1, [1, 0]) := rfl
theorem pa_Mod_power_1 : pr_Mod_power[1]? = some (1, 1, .istore_n 1, []) := rfl
theorem pa_Mod_power_2 : pr_Mod_power[2]? = some (2, 1, .iconst 0, [0, 0]) := rfl
theorem pa_Mod_power_3 : pr_Mod_power[3]? = some (3, 1, .istore_n 2, []) := rfl
theorem pa_Mod_power_4 : pr_Mod_power[4]? = some (4, 1, .iload_n 2, []) := rfl
theorem pa_Mod_power_5 : pr_Mod_power[5]? = some (5, 1, .iload_n 0, []) := rfl
theorem pa_Mod_power_6 : pr_Mod_power[6]? = some (6, 3, .if_icmp .ge (15), [13]) := rfl
theorem pa_Mod_power_7 : pr_Mod_power[7]? = some (9, 1, .iload_n 1, []) := rfl
theorem pa_Mod_power_8 : pr_Mod_power[8]? = some (10, 1, .iconst 2, [2, 0]) := rfl
theorem pa_Mod_power_9 : pr_Mod_power[9]? = some (11, 3, .invokestatic 70, [36, 2, 0, 614, 615, 47]) := rfl
theorem pa_Mod_power_10 : pr_Mod_power[10]? = some (14, 1, .istore_n 1, []) := rfl
theorem pa_Mod_power_11 : pr_Mod_power[11]? = some (15, 3, .iinc 2 (1), [1, 0]) := rfl
theorem pa_Mod_power_12 : pr_Mod_power[12]? = some (18, 3, .goto (-14), [4]) := rfl
theorem pa_Mod_power_13 : pr_Mod_power[13]? = some (21, 1, .iload_n 1, []) := rfl
theorem pa_Mod_power_14 : pr_Mod_power[14]? = some (22, 1, .ireturn, [0]) := rfl
def pa_Mod_power := And.intro pa_Mod_power_0 (And.intro pa_Mod_power_1 (And.intro pa_Mod_power_2 (And.intro pa_Mod_power_3 (And.intro pa_Mod_power_4 (And.intro pa_Mod_power_5 (And.intro pa_Mod_power_6 (And.intro pa_Mod_power_7 (And.intro pa_Mod_power_8 (And.intro pa_Mod_power_9 (And.intro pa_Mod_power_10 (And.intro pa_Mod_power_11 (And.intro pa_Mod_power_12 (And.intro pa_Mod_power_13 (pa_Mod_power_14))))))))))))))
def pr_Mod_product : List ma_E := [(0, 1, .aload_n 0, []),
  (1, 1, .iconst 0, [0, 0]),
  (2, 3, .putfield 66, [7, 0, 0, 0, 620]),
  (5, 1, .iload_n 1, []),
  (6, 3, .sipush 255, [255, 0]),
  (9, 1, .iand, []),
  (10, 1, .iload_n 2, []),
  (11, 3, .sipush 255, [255, 0]),
  (14, 1, .iand, []),
  (15, 3, .invokestatic 70, [36, 2, 0, 614, 615, 47]),
  (18, 1, .ireturn, [0])]
theorem po_Mod_product : ma_ok me_Mod_product pr_Mod_product := ma_ok_of (by decide +kernel)
theorem pa_Mod_product_0 : pr_Mod_product[0]? = some (0, 1, .aload_n 0, []) := rfl
theorem pa_Mod_product_1 : pr_Mod_product[1]? = some (1, 1, .iconst 0, [0, 0]) := rfl
theorem pa_Mod_product_2 : pr_Mod_product[2]? = some (2, 3, .putfield 66, [7, 0, 0, 0, 620]) := rfl
theorem pa_Mod_product_3 : pr_Mod_product[3]? = some (5, 1, .iload_n 1, []) := rfl
theorem pa_Mod_product_4 : pr_Mod_product[4]? = some (6, 3, .sipush 255, [255, 0]) := rfl
theorem pa_Mod_product_5 : pr_Mod_product[5]? = some (9, 1, .iand, []) := rfl
theorem pa_Mod_product_6 : pr_Mod_product[6]? = some (10, 1, .iload_n 2, []) := rfl
theorem pa_Mod_product_7 : pr_Mod_product[7]? = some (11, 3, .sipush 255, [255, 0]) := rfl
theorem pa_Mod_product_8 : pr_Mod_product[8]? = some (14, 1, .iand, []) := rfl
theorem pa_Mod_product_9 : pr_Mod_product[9]? = some (15, 3, .invokestatic 70, [36, 2, 0, 614, 615, 47]) := rfl
theorem pa_Mod_product_10 : pr_Mod_product[10]? = some (18, 1, .ireturn, [0]) := rfl
def pa_Mod_product := And.intro pa_Mod_product_0 (And.intro pa_Mod_product_1 (And.intro pa_Mod_product_2 (And.intro pa_Mod_product_3 (And.intro pa_Mod_product_4 (And.intro pa_Mod_product_5 (And.intro pa_Mod_product_6 (And.intro pa_Mod_product_7 (And.intro pa_Mod_product_8 (And.intro pa_Mod_product_9 (pa_Mod_product_10))))))))))
def pr_Mod_slot : List ma_E := [(0, 1, .iconst 0, [0, 0]),
  (1, 1, .istore_n 2, []),
  (2, 1, .iload_n 2, []),
  (3, 2, .bipush 33, [33, 0]),
  (5, 3, .if_icmp .ge (36), [24]),
  (8, 1, .aload_n 0, []),
  (9, 3, .getfield 32, [7, 13, 2, 0, 633]),
  (12, 1, .iload_n 2, []),
  (13, 1, .iaload, []),
  (14, 1, .iload_n 2, []),
  (15, 3, .ifCond .ne (7), [13]),
  (18, 1, .iconst 3, [3, 0]),
  (19, 3, .goto (11), [19]),
  (22, 1, .aload_n 0, []),
  (23, 3, .getfield 32, [7, 13, 2, 0, 633]),
  (26, 1, .iload_n 2, []),
  (27, 1, .iconst 1, [1, 0]),
  (28, 1, .isub, []),
  (29, 1, .iaload, []),
  (30, 3, .if_icmp .ne (5), [22]),
  (33, 1, .iconst (-1), [1, 1]),
  (34, 1, .ireturn, [0]),
  (35, 3, .iinc 2 (1), [1, 0]),
  (38, 3, .goto (-36), [2]),
  (41, 1, .iconst 0, [0, 0]),
  (42, 1, .istore_n 2, []),
  (43, 1, .iload_n 2, []),
  (44, 1, .iconst 3, [3, 0]),
  (45, 3, .if_icmp .ge (21), [38]),
  (48, 1, .aload_n 0, []),
  (49, 1, .iload_n 2, []),
  (50, 3, .invokevirtual 117, [27, 1, 7, 0, 781, 783, 36, 47]),
  (53, 2, .ldc 120, [65535, 0, 785]),
  (55, 3, .if_icmp .le (5), [36]),
  (58, 1, .iconst (-1), [1, 1]),
  (59, 1, .ireturn, [0]),
  (60, 3, .iinc 2 (1), [1, 0]),
  (63, 3, .goto (-20), [26]),
  (66, 1, .aload_n 0, []),
  (67, 1, .iconst 0, [0, 0]),
  (68, 3, .invokevirtual 117, [27, 1, 7, 0, 781, 783, 36, 47]),
  (71, 1, .istore_n 2, []),
  (72, 1, .iload_n 2, []),
  (73, 3, .sipush 256, [256, 0]),
  (76, 1, .idiv, []),
  (77, 1, .iload_n 1, []),
  (78, 3, .if_icmp .ge (30), [62]),
  (81, 1, .iload_n 2, []),
  (82, 3, .sipush 256, [256, 0]),
  (85, 1, .irem, []),
  (86, 2, .bipush 16, [16, 0]),
  (88, 3, .if_icmp .ge (20), [62]),
  (91, 2, .bipush 16, [16, 0]),
  (93, 1, .iload_n 2, []),
  (94, 3, .sipush 256, [256, 0]),
  (97, 1, .idiv, []),
  (98, 1, .imul, []),
  (99, 1, .iload_n 2, []),
  (100, 3, .sipush 256, [256, 0]),
  (103, 1, .irem, []),
  (104, 1, .iadd, []),
  (105, 3, .goto (4), [63]),
  (108, 1, .iconst (-1), [1, 1]),
  (109, 1, .ireturn, [0])]
theorem po_Mod_slot : ma_ok me_Mod_slot pr_Mod_slot := ma_ok_of (by decide +kernel)
theorem pa_Mod_slot_0 : pr_Mod_slot[0]? = some (0, 1, .iconst 0, [0, 0]) := rfl
theorem pa_Mod_slot_1 : pr_Mod_slot[1]? = some (1, 1, .istore_n 2, []) := rfl
theorem pa_Mod_slot_2 : pr_Mod_slot[2]? = some (2, 1, .iload_n 2, []) := rfl
theorem pa_Mod_slot_3 : pr_Mod_slot[3]? = some (3, 2, .bipush 33, [33, 0]) := rfl
theorem pa_Mod_slot_4 : pr_Mod_slot[4]? = some (5, 3, .if_icmp .ge (36), [24]) := rfl
theorem pa_Mod_slot_5 : pr_Mod_slot[5]? = some (8, 1, .aload_n 0, []) := rfl
theorem pa_Mod_slot_6 : pr_Mod_slot[6]? = some (9, 3, .getfield 32, [7, 13, 2, 0, 633]) := rfl
theorem pa_Mod_slot_7 : pr_Mod_slot[7]? = some (12, 1, .iload_n 2, []) := rfl
theorem pa_Mod_slot_8 : pr_Mod_slot[8]? = some (13, 1, .iaload, []) := rfl
theorem pa_Mod_slot_9 : pr_Mod_slot[9]? = some (14, 1, .iload_n 2, []) := rfl
theorem pa_Mod_slot_10 : pr_Mod_slot[10]? = some (15, 3, .ifCond .ne (7), [13]) := rfl
theorem pa_Mod_slot_11 : pr_Mod_slot[11]? = some (18, 1, .iconst 3, [3, 0]) := rfl
theorem pa_Mod_slot_12 : pr_Mod_slot[12]? = some (19, 3, .goto (11), [19]) := rfl
theorem pa_Mod_slot_13 : pr_Mod_slot[13]? = some (22, 1, .aload_n 0, []) := rfl
theorem pa_Mod_slot_14 : pr_Mod_slot[14]? = some (23, 3, .getfield 32, [7, 13, 2, 0, 633]) := rfl
theorem pa_Mod_slot_15 : pr_Mod_slot[15]? = some (26, 1, .iload_n 2, []) := rfl
theorem pa_Mod_slot_16 : pr_Mod_slot[16]? = some (27, 1, .iconst 1, [1, 0]) := rfl
theorem pa_Mod_slot_17 : pr_Mod_slot[17]? = some (28, 1, .isub, []) := rfl
theorem pa_Mod_slot_18 : pr_Mod_slot[18]? = some (29, 1, .iaload, []) := rfl
theorem pa_Mod_slot_19 : pr_Mod_slot[19]? = some (30, 3, .if_icmp .ne (5), [22]) := rfl
theorem pa_Mod_slot_20 : pr_Mod_slot[20]? = some (33, 1, .iconst (-1), [1, 1]) := rfl
theorem pa_Mod_slot_21 : pr_Mod_slot[21]? = some (34, 1, .ireturn, [0]) := rfl
theorem pa_Mod_slot_22 : pr_Mod_slot[22]? = some (35, 3, .iinc 2 (1), [1, 0]) := rfl
theorem pa_Mod_slot_23 : pr_Mod_slot[23]? = some (38, 3, .goto (-36), [2]) := rfl
theorem pa_Mod_slot_24 : pr_Mod_slot[24]? = some (41, 1, .iconst 0, [0, 0]) := rfl
theorem pa_Mod_slot_25 : pr_Mod_slot[25]? = some (42, 1, .istore_n 2, []) := rfl
theorem pa_Mod_slot_26 : pr_Mod_slot[26]? = some (43, 1, .iload_n 2, []) := rfl
theorem pa_Mod_slot_27 : pr_Mod_slot[27]? = some (44, 1, .iconst 3, [3, 0]) := rfl
theorem pa_Mod_slot_28 : pr_Mod_slot[28]? = some (45, 3, .if_icmp .ge (21), [38]) := rfl
theorem pa_Mod_slot_29 : pr_Mod_slot[29]? = some (48, 1, .aload_n 0, []) := rfl
theorem pa_Mod_slot_30 : pr_Mod_slot[30]? = some (49, 1, .iload_n 2, []) := rfl
theorem pa_Mod_slot_31 : pr_Mod_slot[31]? = some (50, 3, .invokevirtual 117, [27, 1, 7, 0, 781, 783, 36, 47]) := rfl
theorem pa_Mod_slot_32 : pr_Mod_slot[32]? = some (53, 2, .ldc 120, [65535, 0, 785]) := rfl
theorem pa_Mod_slot_33 : pr_Mod_slot[33]? = some (55, 3, .if_icmp .le (5), [36]) := rfl
theorem pa_Mod_slot_34 : pr_Mod_slot[34]? = some (58, 1, .iconst (-1), [1, 1]) := rfl
theorem pa_Mod_slot_35 : pr_Mod_slot[35]? = some (59, 1, .ireturn, [0]) := rfl
theorem pa_Mod_slot_36 : pr_Mod_slot[36]? = some (60, 3, .iinc 2 (1), [1, 0]) := rfl
theorem pa_Mod_slot_37 : pr_Mod_slot[37]? = some (63, 3, .goto (-20), [26]) := rfl
theorem pa_Mod_slot_38 : pr_Mod_slot[38]? = some (66, 1, .aload_n 0, []) := rfl
theorem pa_Mod_slot_39 : pr_Mod_slot[39]? = some (67, 1, .iconst 0, [0, 0]) := rfl
theorem pa_Mod_slot_40 : pr_Mod_slot[40]? = some (68, 3, .invokevirtual 117, [27, 1, 7, 0, 781, 783, 36, 47]) := rfl
theorem pa_Mod_slot_41 : pr_Mod_slot[41]? = some (71, 1, .istore_n 2, []) := rfl
theorem pa_Mod_slot_42 : pr_Mod_slot[42]? = some (72, 1, .iload_n 2, []) := rfl
theorem pa_Mod_slot_43 : pr_Mod_slot[43]? = some (73, 3, .sipush 256, [256, 0]) := rfl
theorem pa_Mod_slot_44 : pr_Mod_slot[44]? = some (76, 1, .idiv, []) := rfl
theorem pa_Mod_slot_45 : pr_Mod_slot[45]? = some (77, 1, .iload_n 1, []) := rfl
theorem pa_Mod_slot_46 : pr_Mod_slot[46]? = some (78, 3, .if_icmp .ge (30), [62]) := rfl
theorem pa_Mod_slot_47 : pr_Mod_slot[47]? = some (81, 1, .iload_n 2, []) := rfl
theorem pa_Mod_slot_48 : pr_Mod_slot[48]? = some (82, 3, .sipush 256, [256, 0]) := rfl
theorem pa_Mod_slot_49 : pr_Mod_slot[49]? = some (85, 1, .irem, []) := rfl
theorem pa_Mod_slot_50 : pr_Mod_slot[50]? = some (86, 2, .bipush 16, [16, 0]) := rfl
theorem pa_Mod_slot_51 : pr_Mod_slot[51]? = some (88, 3, .if_icmp .ge (20), [62]) := rfl
theorem pa_Mod_slot_52 : pr_Mod_slot[52]? = some (91, 2, .bipush 16, [16, 0]) := rfl
theorem pa_Mod_slot_53 : pr_Mod_slot[53]? = some (93, 1, .iload_n 2, []) := rfl
theorem pa_Mod_slot_54 : pr_Mod_slot[54]? = some (94, 3, .sipush 256, [256, 0]) := rfl
theorem pa_Mod_slot_55 : pr_Mod_slot[55]? = some (97, 1, .idiv, []) := rfl
theorem pa_Mod_slot_56 : pr_Mod_slot[56]? = some (98, 1, .imul, []) := rfl
theorem pa_Mod_slot_57 : pr_Mod_slot[57]? = some (99, 1, .iload_n 2, []) := rfl
theorem pa_Mod_slot_58 : pr_Mod_slot[58]? = some (100, 3, .sipush 256, [256, 0]) := rfl
theorem pa_Mod_slot_59 : pr_Mod_slot[59]? = some (103, 1, .irem, []) := rfl
theorem pa_Mod_slot_60 : pr_Mod_slot[60]? = some (104, 1, .iadd, []) := rfl
theorem pa_Mod_slot_61 : pr_Mod_slot[61]? = some (105, 3, .goto (4), [63]) := rfl
theorem pa_Mod_slot_62 : pr_Mod_slot[62]? = some (108, 1, .iconst (-1), [1, 1]) := rfl
theorem pa_Mod_slot_63 : pr_Mod_slot[63]? = some (109, 1, .ireturn, [0]) := rfl
def pa_Mod_slot := And.intro pa_Mod_slot_0 (And.intro pa_Mod_slot_1 (And.intro pa_Mod_slot_2 (And.intro pa_Mod_slot_3 (And.intro pa_Mod_slot_4 (And.intro pa_Mod_slot_5 (And.intro pa_Mod_slot_6 (And.intro pa_Mod_slot_7 (And.intro pa_Mod_slot_8 (And.intro pa_Mod_slot_9 (And.intro pa_Mod_slot_10 (And.intro pa_Mod_slot_11 (And.intro pa_Mod_slot_12 (And.intro pa_Mod_slot_13 (And.intro pa_Mod_slot_14 (And.intro pa_Mod_slot_15 (And.intro pa_Mod_slot_16 (And.intro pa_Mod_slot_17 (And.intro pa_Mod_slot_18 (And.intro pa_Mod_slot_19 (And.intro pa_Mod_slot_20 (And.intro pa_Mod_slot_21 (And.intro pa_Mod_slot_22 (And.intro pa_Mod_slot_23 (And.intro pa_Mod_slot_24 (And.intro pa_Mod_slot_25 (And.intro pa_Mod_slot_26 (And.intro pa_Mod_slot_27 (And.intro pa_Mod_slot_28 (And.intro pa_Mod_slot_29 (And.intro pa_Mod_slot_30 (And.intro pa_Mod_slot_31 (And.intro pa_Mod_slot_32 (And.intro pa_Mod_slot_33 (And.intro pa_Mod_slot_34 (And.intro pa_Mod_slot_35 (And.intro pa_Mod_slot_36 (And.intro pa_Mod_slot_37 (And.intro pa_Mod_slot_38 (And.intro pa_Mod_slot_39 (And.intro pa_Mod_slot_40 (And.intro pa_Mod_slot_41 (And.intro pa_Mod_slot_42 (And.intro pa_Mod_slot_43 (And.intro pa_Mod_slot_44 (And.intro pa_Mod_slot_45 (And.intro pa_Mod_slot_46 (And.intro pa_Mod_slot_47 (And.intro pa_Mod_slot_48 (And.intro pa_Mod_slot_49 (And.intro pa_Mod_slot_50 (And.intro pa_Mod_slot_51 (And.intro pa_Mod_slot_52 (And.intro pa_Mod_slot_53 (And.intro pa_Mod_slot_54 (And.intro pa_Mod_slot_55 (And.intro pa_Mod_slot_56 (And.intro pa_Mod_slot_57 (And.intro pa_Mod_slot_58 (And.intro pa_Mod_slot_59 (And.intro pa_Mod_slot_60 (And.intro pa_Mod_slot_61 (And.intro pa_Mod_slot_62 (pa_Mod_slot_63)))))))))))))))))))))))))))))))))))))))))))))))))))))))))))))))
def pr_Mod_solved : List ma_E := [(0, 1, .iconst 0, [0, 0]),
  (1, 1, .istore_n 2, []),
  (2, 1, .iload_n 2, []),
  (3, 2, .bipush 6, [6, 0]),
  (5, 3, .if_icmp .ge (132), [79]),
  (8, 1, .iconst 0, [0, 0]),
  (9, 1, .istore_n 3, []),
  (10, 1, .iconst 0, [0, 0]),
  (11, 2, .istore 4, []),
  (13, 2, .iload 4, []),
  (15, 2, .bipush 16, [16, 0]),
  (17, 3, .if_icmp .ge (31), [28]),
  (20, 1, .iload_n 3, []),
  (21, 1, .aload_n 0, []),
  (22, 3, .getfield 44, [7, 17, 2, 0, 637]),
  (25, 2, .iload 4, []),
  (27, 1, .iaload, []),
  (28, 1, .aload_n 0, []),
  (29, 3, .getfield 53, [7, 20, 2, 0, 640]),
  (32, 1, .iload_n 2, []),
  (33, 2, .iload 4, []),
  (35, 1, .imul, []),
  (36, 1, .iaload, []),
  (37, 3, .invokestatic 70, [36, 2, 0, 614, 615, 47]),
  (40, 1, .ixor, []),
  (41, 1, .istore_n 3, []),
  (42, 3, .iinc 4 (1), [1, 0]),
  (45, 3, .goto (-32), [9]),
  (48, 1, .iconst 0, [0, 0]),
  (49, 2, .istore 4, []),
  (51, 2, .iload 4, []),
  (53, 1, .iload_n 1, []),
  (54, 3, .if_icmp .ge (35), [52]),
  (57, 1, .aload_n 0, []),
  (58, 3, .getfield 47, [7, 18, 2, 0, 638]),
  (61, 2, .bipush 7, [7, 0]),
  (63, 1, .iload_n 2, []),
  (64, 1, .imul, []),
  (65, 2, .iload 4, []),
  (67, 1, .iadd, []),
  (68, 1, .aload_n 0, []),
  (69, 3, .getfield 53, [7, 20, 2, 0, 640]),
  (72, 1, .iload_n 2, []),
  (73, 1, .aload_n 0, []),
  (74, 3, .getfield 50, [7, 19, 2, 0, 639]),
  (77, 2, .iload 4, []),
  (79, 1, .iaload, []),
  (80, 1, .imul, []),
  (81, 1, .iaload, []),
  (82, 1, .iastore, []),
  (83, 3, .iinc 4 (1), [1, 0]),
  (86, 3, .goto (-35), [30]),
  (89, 1, .iload_n 1, []),
  (90, 2, .istore 4, []),
  (92, 2, .iload 4, []),
  (94, 2, .bipush 6, [6, 0]),
  (96, 3, .if_icmp .ge (22), [68]),
  (99, 1, .aload_n 0, []),
  (100, 3, .getfield 47, [7, 18, 2, 0, 638]),
  (103, 2, .bipush 7, [7, 0]),
  (105, 1, .iload_n 2, []),
  (106, 1, .imul, []),
  (107, 2, .iload 4, []),
  (109, 1, .iadd, []),
  (110, 1, .iconst 0, [0, 0]),
  (111, 1, .iastore, []),
  (112, 3, .iinc 4 (1), [1, 0]),
  (115, 3, .goto (-23), [54]),
  (118, 1, .aload_n 0, []),
  (119, 3, .getfield 47, [7, 18, 2, 0, 638]),
  (122, 2, .bipush 7, [7, 0]),
  (124, 1, .iload_n 2, []),
  (125, 1, .imul, []),
  (126, 2, .bipush 6, [6, 0]),
  (128, 1, .iadd, []),
  (129, 1, .iload_n 3, []),
  (130, 1, .iastore, []),
  (131, 3, .iinc 2 (1), [1, 0]),
  (134, 3, .goto (-132), [2]),
  (137, 1, .iconst 0, [0, 0]),
  (138, 1, .istore_n 2, []),
  (139, 1, .iload_n 2, []),
  (140, 1, .iload_n 1, []),
  (141, 3, .if_icmp .ge (261), [232]),
  (144, 1, .iload_n 2, []),
  (145, 1, .istore_n 3, []),
  (146, 1, .iload_n 3, []),
  (147, 2, .bipush 6, [6, 0]),
  (149, 3, .if_icmp .ge (23), [100]),
  (152, 1, .aload_n 0, []),
  (153, 3, .getfield 47, [7, 18, 2, 0, 638]),
  (156, 2, .bipush 7, [7, 0]),
  (158, 1, .iload_n 3, []),
  (159, 1, .imul, []),
  (160, 1, .iload_n 2, []),
  (161, 1, .iadd, []),
  (162, 1, .iaload, []),
  (163, 3, .ifCond .ne (9), [100]),
  (166, 3, .iinc 3 (1), [1, 0]),
  (169, 3, .goto (-23), [86]),
  (172, 1, .iload_n 3, []),
  (173, 2, .bipush 6, [6, 0]),
  (175, 3, .if_icmp .ne (5), [105]),
  (178, 1, .iconst 0, [0, 0]),
  (179, 1, .ireturn, [1]),
  (180, 1, .iconst 0, [0, 0]),
  (181, 2, .istore 4, []),
  (183, 2, .iload 4, []),
  (185, 2, .bipush 7, [7, 0]),
  (187, 3, .if_icmp .ge (61), [146]),
  (190, 1, .aload_n 0, []),
  (191, 3, .getfield 47, [7, 18, 2, 0, 638]),
  (194, 2, .bipush 7, [7, 0]),
  (196, 1, .iload_n 3, []),
  (197, 1, .imul, []),
  (198, 2, .iload 4, []),
  (200, 1, .iadd, []),
  (201, 1, .iaload, []),
  (202, 2, .istore 5, []),
  (204, 1, .aload_n 0, []),
  (205, 3, .getfield 47, [7, 18, 2, 0, 638]),
  (208, 2, .bipush 7, [7, 0]),
  (210, 1, .iload_n 3, []),
  (211, 1, .imul, []),
  (212, 2, .iload 4, []),
  (214, 1, .iadd, []),
  (215, 1, .aload_n 0, []),
  (216, 3, .getfield 47, [7, 18, 2, 0, 638]),
  (219, 2, .bipush 7, [7, 0]),
  (221, 1, .iload_n 2, []),
  (222, 1, .imul, []),
  (223, 2, .iload 4, []),
  (225, 1, .iadd, []),
  (226, 1, .iaload, []),
  (227, 1, .iastore, []),
  (228, 1, .aload_n 0, []),
  (229, 3, .getfield 47, [7, 18, 2, 0, 638]),
  (232, 2, .bipush 7, [7, 0]),
  (234, 1, .iload_n 2, []),
  (235, 1, .imul, []),
  (236, 2, .iload 4, []),
  (238, 1, .iadd, []),
  (239, 2, .iload 5, []),
  (241, 1, .iastore, []),
  (242, 3, .iinc 4 (1), [1, 0]),
  (245, 3, .goto (-62), [107]),
  (248, 1, .aload_n 0, []),
  (249, 3, .getfield 56, [7, 21, 2, 0, 641]),
  (252, 1, .aload_n 0, []),
  (253, 3, .getfield 47, [7, 18, 2, 0, 638]),
  (256, 2, .bipush 7, [7, 0]),
  (258, 1, .iload_n 2, []),
  (259, 1, .imul, []),
  (260, 1, .iload_n 2, []),
  (261, 1, .iadd, []),
  (262, 1, .iaload, []),
  (263, 1, .iaload, []),
  (264, 2, .istore 4, []),
  (266, 1, .iconst 0, [0, 0]),
  (267, 2, .istore 5, []),
  (269, 2, .iload 5, []),
  (271, 2, .bipush 7, [7, 0]),
  (273, 3, .if_icmp .ge (38), [183]),
  (276, 1, .aload_n 0, []),
  (277, 3, .getfield 47, [7, 18, 2, 0, 638]),
  (280, 2, .bipush 7, [7, 0]),
  (282, 1, .iload_n 2, []),
  (283, 1, .imul, []),
  (284, 2, .iload 5, []),
  (286, 1, .iadd, []),
  (287, 1, .aload_n 0, []),
  (288, 3, .getfield 47, [7, 18, 2, 0, 638]),
  (291, 2, .bipush 7, [7, 0]),
  (293, 1, .iload_n 2, []),
  (294, 1, .imul, []),
  (295, 2, .iload 5, []),
  (297, 1, .iadd, []),
  (298, 1, .iaload, []),
  (299, 2, .iload 4, []),
  (301, 3, .invokestatic 70, [36, 2, 0, 614, 615, 47]),
  (304, 1, .iastore, []),
  (305, 3, .iinc 5 (1), [1, 0]),
  (308, 3, .goto (-39), [160]),
  (311, 1, .iconst 0, [0, 0]),
  (312, 2, .istore 5, []),
  (314, 2, .iload 5, []),
  (316, 2, .bipush 6, [6, 0]),
  (318, 3, .if_icmp .ge (78), [230]),
  (321, 1, .aload_n 0, []),
  (322, 3, .getfield 47, [7, 18, 2, 0, 638]),
  (325, 2, .bipush 7, [7, 0]),
  (327, 2, .iload 5, []),
  (329, 1, .imul, []),
  (330, 1, .iload_n 2, []),
  (331, 1, .iadd, []),
  (332, 1, .iaload, []),
  (333, 2, .istore 6, []),
  (335, 1, .iconst 0, [0, 0]),
  (336, 2, .istore 7, []),
  (338, 2, .iload 7, []),
  (340, 2, .bipush 7, [7, 0]),
  (342, 3, .if_icmp .ge (48), [228]),
  (345, 2, .iload 5, []),
  (347, 1, .iload_n 2, []),
  (348, 3, .if_icmp .eq (42), [228]),
  (351, 1, .aload_n 0, []),
  (352, 3, .getfield 47, [7, 18, 2, 0, 638]),
  (355, 2, .bipush 7, [7, 0]),
  (357, 2, .iload 5, []),
  (359, 1, .imul, []),
  (360, 2, .iload 7, []),
  (362, 1, .iadd, []),
  (363, 1, .dup2, []),
  (364, 1, .iaload, []),
  (365, 2, .iload 6, []),
  (367, 1, .aload_n 0, []),
  (368, 3, .getfield 47, [7, 18, 2, 0, 638]),
  (371, 2, .bipush 7, [7, 0]),
  (373, 1, .iload_n 2, []),
  (374, 1, .imul, []),
  (375, 2, .iload 7, []),
  (377, 1, .iadd, []),
  (378, 1, .iaload, []),
  (379, 3, .invokestatic 70, [36, 2, 0, 614, 615, 47]),
  (382, 1, .ixor, []),
  (383, 1, .iastore, []),
  (384, 3, .iinc 7 (1), [1, 0]),
  (387, 3, .goto (-49), [199]),
  (390, 3, .iinc 5 (1), [1, 0]),
  (393, 3, .goto (-79), [185]),
  (396, 3, .iinc 2 (1), [1, 0]),
  (399, 3, .goto (-260), [81]),
  (402, 1, .iload_n 1, []),
  (403, 1, .istore_n 2, []),
  (404, 1, .iload_n 2, []),
  (405, 2, .bipush 6, [6, 0]),
  (407, 3, .if_icmp .ge (26), [250]),
  (410, 1, .aload_n 0, []),
  (411, 3, .getfield 47, [7, 18, 2, 0, 638]),
  (414, 2, .bipush 7, [7, 0]),
  (416, 1, .iload_n 2, []),
  (417, 1, .imul, []),
  (418, 2, .bipush 6, [6, 0]),
  (420, 1, .iadd, []),
  (421, 1, .iaload, []),
  (422, 3, .ifCond .eq (5), [248]),
  (425, 1, .iconst 0, [0, 0]),
  (426, 1, .ireturn, [1]),
  (427, 3, .iinc 2 (1), [1, 0]),
  (430, 3, .goto (-26), [234]),
  (433, 1, .iconst 0, [0, 0]),
  (434, 1, .istore_n 2, []),
  (435, 1, .iload_n 2, []),
  (436, 1, .iload_n 1, []),
  (437, 3, .if_icmp .ge (35), [275]),
  (440, 1, .aload_n 0, []),
  (441, 3, .getfield 44, [7, 17, 2, 0, 637]),
  (444, 1, .aload_n 0, []),
  (445, 3, .getfield 50, [7, 19, 2, 0, 639]),
  (448, 1, .iload_n 2, []),
  (449, 1, .iaload, []),
  (450, 1, .dup2, []),
  (451, 1, .iaload, []),
  (452, 1, .aload_n 0, []),
  (453, 3, .getfield 47, [7, 18, 2, 0, 638]),
  (456, 2, .bipush 7, [7, 0]),
  (458, 1, .iload_n 2, []),
  (459, 1, .imul, []),
  (460, 2, .bipush 6, [6, 0]),
  (462, 1, .iadd, []),
  (463, 1, .iaload, []),
  (464, 1, .ixor, []),
  (465, 1, .iastore, []),
  (466, 3, .iinc 2 (1), [1, 0]),
  (469, 3, .goto (-34), [252]),
  (472, 1, .iconst 1, [1, 0]),
  (473, 1, .ireturn, [1])]
theorem po_Mod_solved : ma_ok me_Mod_solved pr_Mod_solved := ma_ok_of (by decide +kernel)
theorem pa_Mod_solved_0 : pr_Mod_solved[0]? = some (0, 1, .iconst 0, [0, 0]) := rfl
theorem pa_Mod_solved_1 : pr_Mod_solved[1]? = some (1, 1, .istore_n 2, []) := rfl
theorem pa_Mod_solved_2 : pr_Mod_solved[2]? = some (2, 1, .iload_n 2, []) := rfl
theorem pa_Mod_solved_3 : pr_Mod_solved[3]? = some (3, 2, .bipush 6, [6, 0]) := rfl
theorem pa_Mod_solved_4 : pr_Mod_solved[4]? = some (5, 3, .if_icmp .ge (132), [79]) := rfl
theorem pa_Mod_solved_5 : pr_Mod_solved[5]? = some (8, 1, .iconst 0, [0, 0]) := rfl
theorem pa_Mod_solved_6 : pr_Mod_solved[6]? = some (9, 1, .istore_n 3, []) := rfl
theorem pa_Mod_solved_7 : pr_Mod_solved[7]? = some (10, 1, .iconst 0, [0, 0]) := rfl
theorem pa_Mod_solved_8 : pr_Mod_solved[8]? = some (11, 2, .istore 4, []) := rfl
theorem pa_Mod_solved_9 : pr_Mod_solved[9]? = some (13, 2, .iload 4, []) := rfl
theorem pa_Mod_solved_10 : pr_Mod_solved[10]? = some (15, 2, .bipush 16, [16, 0]) := rfl
theorem pa_Mod_solved_11 : pr_Mod_solved[11]? = some (17, 3, .if_icmp .ge (31), [28]) := rfl
theorem pa_Mod_solved_12 : pr_Mod_solved[12]? = some (20, 1, .iload_n 3, []) := rfl
theorem pa_Mod_solved_13 : pr_Mod_solved[13]? = some (21, 1, .aload_n 0, []) := rfl
theorem pa_Mod_solved_14 : pr_Mod_solved[14]? = some (22, 3, .getfield 44, [7, 17, 2, 0, 637]) := rfl
theorem pa_Mod_solved_15 : pr_Mod_solved[15]? = some (25, 2, .iload 4, []) := rfl
theorem pa_Mod_solved_16 : pr_Mod_solved[16]? = some (27, 1, .iaload, []) := rfl
theorem pa_Mod_solved_17 : pr_Mod_solved[17]? = some (28, 1, .aload_n 0, []) := rfl
theorem pa_Mod_solved_18 : pr_Mod_solved[18]? = some (29, 3, .getfield 53, [7, 20, 2, 0, 640]) := rfl
theorem pa_Mod_solved_19 : pr_Mod_solved[19]? = some (32, 1, .iload_n 2, []) := rfl
theorem pa_Mod_solved_20 : pr_Mod_solved[20]? = some (33, 2, .iload 4, []) := rfl
theorem pa_Mod_solved_21 : pr_Mod_solved[21]? = some (35, 1, .imul, []) := rfl
theorem pa_Mod_solved_22 : pr_Mod_solved[22]? = some (36, 1, .iaload, []) := rfl
theorem pa_Mod_solved_23 : pr_Mod_solved[23]? = some (37, 3, .invokestatic 70, [36, 2, 0, 614, 615, 47]) := rfl
theorem pa_Mod_solved_24 : pr_Mod_solved[24]? = some (40, 1, .ixor, []) := rfl
theorem pa_Mod_solved_25 : pr_Mod_solved[25]? = some (41, 1, .istore_n 3, []) := rfl
theorem pa_Mod_solved_26 : pr_Mod_solved[26]? = some (42, 3, .iinc 4 (1), [1, 0]) := rfl
theorem pa_Mod_solved_27 : pr_Mod_solved[27]? = some (45, 3, .goto (-32), [9]) := rfl
theorem pa_Mod_solved_28 : pr_Mod_solved[28]? = some (48, 1, .iconst 0, [0, 0]) := rfl
theorem pa_Mod_solved_29 : pr_Mod_solved[29]? = some (49, 2, .istore 4, []) := rfl
theorem pa_Mod_solved_30 : pr_Mod_solved[30]? = some (51, 2, .iload 4, []) := rfl
theorem pa_Mod_solved_31 : pr_Mod_solved[31]? = some (53, 1, .iload_n 1, []) := rfl
theorem pa_Mod_solved_32 : pr_Mod_solved[32]? = some (54, 3, .if_icmp .ge (35), [52]) := rfl
theorem pa_Mod_solved_33 : pr_Mod_solved[33]? = some (57, 1, .aload_n 0, []) := rfl
theorem pa_Mod_solved_34 : pr_Mod_solved[34]? = some (58, 3, .getfield 47, [7, 18, 2, 0, 638]) := rfl
theorem pa_Mod_solved_35 : pr_Mod_solved[35]? = some (61, 2, .bipush 7, [7, 0]) := rfl
theorem pa_Mod_solved_36 : pr_Mod_solved[36]? = some (63, 1, .iload_n 2, []) := rfl
theorem pa_Mod_solved_37 : pr_Mod_solved[37]? = some (64, 1, .imul, []) := rfl
theorem pa_Mod_solved_38 : pr_Mod_solved[38]? = some (65, 2, .iload 4, []) := rfl
theorem pa_Mod_solved_39 : pr_Mod_solved[39]? = some (67, 1, .iadd, []) := rfl
theorem pa_Mod_solved_40 : pr_Mod_solved[40]? = some (68, 1, .aload_n 0, []) := rfl
theorem pa_Mod_solved_41 : pr_Mod_solved[41]? = some (69, 3, .getfield 53, [7, 20, 2, 0, 640]) := rfl
theorem pa_Mod_solved_42 : pr_Mod_solved[42]? = some (72, 1, .iload_n 2, []) := rfl
theorem pa_Mod_solved_43 : pr_Mod_solved[43]? = some (73, 1, .aload_n 0, []) := rfl
theorem pa_Mod_solved_44 : pr_Mod_solved[44]? = some (74, 3, .getfield 50, [7, 19, 2, 0, 639]) := rfl
theorem pa_Mod_solved_45 : pr_Mod_solved[45]? = some (77, 2, .iload 4, []) := rfl
theorem pa_Mod_solved_46 : pr_Mod_solved[46]? = some (79, 1, .iaload, []) := rfl
theorem pa_Mod_solved_47 : pr_Mod_solved[47]? = some (80, 1, .imul, []) := rfl
theorem pa_Mod_solved_48 : pr_Mod_solved[48]? = some (81, 1, .iaload, []) := rfl
theorem pa_Mod_solved_49 : pr_Mod_solved[49]? = some (82, 1, .iastore, []) := rfl
theorem pa_Mod_solved_50 : pr_Mod_solved[50]? = some (83, 3, .iinc 4 (1), [1, 0]) := rfl
theorem pa_Mod_solved_51 : pr_Mod_solved[51]? = some (86, 3, .goto (-35), [30]) := rfl
theorem pa_Mod_solved_52 : pr_Mod_solved[52]? = some (89, 1, .iload_n 1, []) := rfl
theorem pa_Mod_solved_53 : pr_Mod_solved[53]? = some (90, 2, .istore 4, []) := rfl
theorem pa_Mod_solved_54 : pr_Mod_solved[54]? = some (92, 2, .iload 4, []) := rfl
theorem pa_Mod_solved_55 : pr_Mod_solved[55]? = some (94, 2, .bipush 6, [6, 0]) := rfl
theorem pa_Mod_solved_56 : pr_Mod_solved[56]? = some (96, 3, .if_icmp .ge (22), [68]) := rfl
theorem pa_Mod_solved_57 : pr_Mod_solved[57]? = some (99, 1, .aload_n 0, []) := rfl
theorem pa_Mod_solved_58 : pr_Mod_solved[58]? = some (100, 3, .getfield 47, [7, 18, 2, 0, 638]) := rfl
theorem pa_Mod_solved_59 : pr_Mod_solved[59]? = some (103, 2, .bipush 7, [7, 0]) := rfl
theorem pa_Mod_solved_60 : pr_Mod_solved[60]? = some (105, 1, .iload_n 2, []) := rfl
theorem pa_Mod_solved_61 : pr_Mod_solved[61]? = some (106, 1, .imul, []) := rfl
theorem pa_Mod_solved_62 : pr_Mod_solved[62]? = some (107, 2, .iload 4, []) := rfl
theorem pa_Mod_solved_63 : pr_Mod_solved[63]? = some (109, 1, .iadd, []) := rfl
theorem pa_Mod_solved_64 : pr_Mod_solved[64]? = some (110, 1, .iconst 0, [0, 0]) := rfl
theorem pa_Mod_solved_65 : pr_Mod_solved[65]? = some (111, 1, .iastore, []) := rfl
theorem pa_Mod_solved_66 : pr_Mod_solved[66]? = some (112, 3, .iinc 4 (1), [1, 0]) := rfl
theorem pa_Mod_solved_67 : pr_Mod_solved[67]? = some (115, 3, .goto (-23), [54]) := rfl
theorem pa_Mod_solved_68 : pr_Mod_solved[68]? = some (118, 1, .aload_n 0, []) := rfl
theorem pa_Mod_solved_69 : pr_Mod_solved[69]? = some (119, 3, .getfield 47, [7, 18, 2, 0, 638]) := rfl
theorem pa_Mod_solved_70 : pr_Mod_solved[70]? = some (122, 2, .bipush 7, [7, 0]) := rfl
theorem pa_Mod_solved_71 : pr_Mod_solved[71]? = some (124, 1, .iload_n 2, []) := rfl
theorem pa_Mod_solved_72 : pr_Mod_solved[72]? = some (125, 1, .imul, []) := rfl
theorem pa_Mod_solved_73 : pr_Mod_solved[73]? = some (126, 2, .bipush 6, [6, 0]) := rfl
theorem pa_Mod_solved_74 : pr_Mod_solved[74]? = some (128, 1, .iadd, []) := rfl
theorem pa_Mod_solved_75 : pr_Mod_solved[75]? = some (129, 1, .iload_n 3, []) := rfl
theorem pa_Mod_solved_76 : pr_Mod_solved[76]? = some (130, 1, .iastore, []) := rfl
theorem pa_Mod_solved_77 : pr_Mod_solved[77]? = some (131, 3, .iinc 2 (1), [1, 0]) := rfl
theorem pa_Mod_solved_78 : pr_Mod_solved[78]? = some (134, 3, .goto (-132), [2]) := rfl
theorem pa_Mod_solved_79 : pr_Mod_solved[79]? = some (137, 1, .iconst 0, [0, 0]) := rfl
theorem pa_Mod_solved_80 : pr_Mod_solved[80]? = some (138, 1, .istore_n 2, []) := rfl
theorem pa_Mod_solved_81 : pr_Mod_solved[81]? = some (139, 1, .iload_n 2, []) := rfl
theorem pa_Mod_solved_82 : pr_Mod_solved[82]? = some (140, 1, .iload_n 1, []) := rfl
theorem pa_Mod_solved_83 : pr_Mod_solved[83]? = some (141, 3, .if_icmp .ge (261), [232]) := rfl
theorem pa_Mod_solved_84 : pr_Mod_solved[84]? = some (144, 1, .iload_n 2, []) := rfl
theorem pa_Mod_solved_85 : pr_Mod_solved[85]? = some (145, 1, .istore_n 3, []) := rfl
theorem pa_Mod_solved_86 : pr_Mod_solved[86]? = some (146, 1, .iload_n 3, []) := rfl
theorem pa_Mod_solved_87 : pr_Mod_solved[87]? = some (147, 2, .bipush 6, [6, 0]) := rfl
theorem pa_Mod_solved_88 : pr_Mod_solved[88]? = some (149, 3, .if_icmp .ge (23), [100]) := rfl
theorem pa_Mod_solved_89 : pr_Mod_solved[89]? = some (152, 1, .aload_n 0, []) := rfl
theorem pa_Mod_solved_90 : pr_Mod_solved[90]? = some (153, 3, .getfield 47, [7, 18, 2, 0, 638]) := rfl
theorem pa_Mod_solved_91 : pr_Mod_solved[91]? = some (156, 2, .bipush 7, [7, 0]) := rfl
theorem pa_Mod_solved_92 : pr_Mod_solved[92]? = some (158, 1, .iload_n 3, []) := rfl
theorem pa_Mod_solved_93 : pr_Mod_solved[93]? = some (159, 1, .imul, []) := rfl
theorem pa_Mod_solved_94 : pr_Mod_solved[94]? = some (160, 1, .iload_n 2, []) := rfl
theorem pa_Mod_solved_95 : pr_Mod_solved[95]? = some (161, 1, .iadd, []) := rfl
theorem pa_Mod_solved_96 : pr_Mod_solved[96]? = some (162, 1, .iaload, []) := rfl
theorem pa_Mod_solved_97 : pr_Mod_solved[97]? = some (163, 3, .ifCond .ne (9), [100]) := rfl
theorem pa_Mod_solved_98 : pr_Mod_solved[98]? = some (166, 3, .iinc 3 (1), [1, 0]) := rfl
theorem pa_Mod_solved_99 : pr_Mod_solved[99]? = some (169, 3, .goto (-23), [86]) := rfl
theorem pa_Mod_solved_100 : pr_Mod_solved[100]? = some (172, 1, .iload_n 3, []) := rfl
theorem pa_Mod_solved_101 : pr_Mod_solved[101]? = some (173, 2, .bipush 6, [6, 0]) := rfl
theorem pa_Mod_solved_102 : pr_Mod_solved[102]? = some (175, 3, .if_icmp .ne (5), [105]) := rfl
theorem pa_Mod_solved_103 : pr_Mod_solved[103]? = some (178, 1, .iconst 0, [0, 0]) := rfl
theorem pa_Mod_solved_104 : pr_Mod_solved[104]? = some (179, 1, .ireturn, [1]) := rfl
theorem pa_Mod_solved_105 : pr_Mod_solved[105]? = some (180, 1, .iconst 0, [0, 0]) := rfl
theorem pa_Mod_solved_106 : pr_Mod_solved[106]? = some (181, 2, .istore 4, []) := rfl
theorem pa_Mod_solved_107 : pr_Mod_solved[107]? = some (183, 2, .iload 4, []) := rfl
theorem pa_Mod_solved_108 : pr_Mod_solved[108]? = some (185, 2, .bipush 7, [7, 0]) := rfl
theorem pa_Mod_solved_109 : pr_Mod_solved[109]? = some (187, 3, .if_icmp .ge (61), [146]) := rfl
theorem pa_Mod_solved_110 : pr_Mod_solved[110]? = some (190, 1, .aload_n 0, []) := rfl
theorem pa_Mod_solved_111 : pr_Mod_solved[111]? = some (191, 3, .getfield 47, [7, 18, 2, 0, 638]) := rfl
theorem pa_Mod_solved_112 : pr_Mod_solved[112]? = some (194, 2, .bipush 7, [7, 0]) := rfl
theorem pa_Mod_solved_113 : pr_Mod_solved[113]? = some (196, 1, .iload_n 3, []) := rfl
theorem pa_Mod_solved_114 : pr_Mod_solved[114]? = some (197, 1, .imul, []) := rfl
theorem pa_Mod_solved_115 : pr_Mod_solved[115]? = some (198, 2, .iload 4, []) := rfl
theorem pa_Mod_solved_116 : pr_Mod_solved[116]? = some (200, 1, .iadd, []) := rfl
theorem pa_Mod_solved_117 : pr_Mod_solved[117]? = some (201, 1, .iaload, []) := rfl
theorem pa_Mod_solved_118 : pr_Mod_solved[118]? = some (202, 2, .istore 5, []) := rfl
theorem pa_Mod_solved_119 : pr_Mod_solved[119]? = some (204, 1, .aload_n 0, []) := rfl
theorem pa_Mod_solved_120 : pr_Mod_solved[120]? = some (205, 3, .getfield 47, [7, 18, 2, 0, 638]) := rfl
theorem pa_Mod_solved_121 : pr_Mod_solved[121]? = some (208, 2, .bipush 7, [7, 0]) := rfl
theorem pa_Mod_solved_122 : pr_Mod_solved[122]? = some (210, 1, .iload_n 3, []) := rfl
theorem pa_Mod_solved_123 : pr_Mod_solved[123]? = some (211, 1, .imul, []) := rfl
theorem pa_Mod_solved_124 : pr_Mod_solved[124]? = some (212, 2, .iload 4, []) := rfl
theorem pa_Mod_solved_125 : pr_Mod_solved[125]? = some (214, 1, .iadd, []) := rfl
theorem pa_Mod_solved_126 : pr_Mod_solved[126]? = some (215, 1, .aload_n 0, []) := rfl
theorem pa_Mod_solved_127 : pr_Mod_solved[127]? = some (216, 3, .getfield 47, [7, 18, 2, 0, 638]) := rfl
theorem pa_Mod_solved_128 : pr_Mod_solved[128]? = some (219, 2, .bipush 7, [7, 0]) := rfl
theorem pa_Mod_solved_129 : pr_Mod_solved[129]? = some (221, 1, .iload_n 2, []) := rfl
theorem pa_Mod_solved_130 : pr_Mod_solved[130]? = some (222, 1, .imul, []) := rfl
theorem pa_Mod_solved_131 : pr_Mod_solved[131]? = some (223, 2, .iload 4, []) := rfl
theorem pa_Mod_solved_132 : pr_Mod_solved[132]? = some (225, 1, .iadd, []) := rfl
theorem pa_Mod_solved_133 : pr_Mod_solved[133]? = some (226, 1, .iaload, []) := rfl
theorem pa_Mod_solved_134 : pr_Mod_solved[134]? = some (227, 1, .iastore, []) := rfl
theorem pa_Mod_solved_135 : pr_Mod_solved[135]? = some (228, 1, .aload_n 0, []) := rfl
theorem pa_Mod_solved_136 : pr_Mod_solved[136]? = some (229, 3, .getfield 47, [7, 18, 2, 0, 638]) := rfl
theorem pa_Mod_solved_137 : pr_Mod_solved[137]? = some (232, 2, .bipush 7, [7, 0]) := rfl
theorem pa_Mod_solved_138 : pr_Mod_solved[138]? = some (234, 1, .iload_n 2, []) := rfl
theorem pa_Mod_solved_139 : pr_Mod_solved[139]? = some (235, 1, .imul, []) := rfl
theorem pa_Mod_solved_140 : pr_Mod_solved[140]? = some (236, 2, .iload 4, []) := rfl
theorem pa_Mod_solved_141 : pr_Mod_solved[141]? = some (238, 1, .iadd, []) := rfl
theorem pa_Mod_solved_142 : pr_Mod_solved[142]? = some (239, 2, .iload 5, []) := rfl
theorem pa_Mod_solved_143 : pr_Mod_solved[143]? = some (241, 1, .iastore, []) := rfl
theorem pa_Mod_solved_144 : pr_Mod_solved[144]? = some (242, 3, .iinc 4 (1), [1, 0]) := rfl
theorem pa_Mod_solved_145 : pr_Mod_solved[145]? = some (245, 3, .goto (-62), [107]) := rfl
theorem pa_Mod_solved_146 : pr_Mod_solved[146]? = some (248, 1, .aload_n 0, []) := rfl
theorem pa_Mod_solved_147 : pr_Mod_solved[147]? = some (249, 3, .getfield 56, [7, 21, 2, 0, 641]) := rfl
theorem pa_Mod_solved_148 : pr_Mod_solved[148]? = some (252, 1, .aload_n 0, []) := rfl
theorem pa_Mod_solved_149 : pr_Mod_solved[149]? = some (253, 3, .getfield 47, [7, 18, 2, 0, 638]) := rfl
theorem pa_Mod_solved_150 : pr_Mod_solved[150]? = some (256, 2, .bipush 7, [7, 0]) := rfl
theorem pa_Mod_solved_151 : pr_Mod_solved[151]? = some (258, 1, .iload_n 2, []) := rfl
theorem pa_Mod_solved_152 : pr_Mod_solved[152]? = some (259, 1, .imul, []) := rfl
theorem pa_Mod_solved_153 : pr_Mod_solved[153]? = some (260, 1, .iload_n 2, []) := rfl
theorem pa_Mod_solved_154 : pr_Mod_solved[154]? = some (261, 1, .iadd, []) := rfl
theorem pa_Mod_solved_155 : pr_Mod_solved[155]? = some (262, 1, .iaload, []) := rfl
theorem pa_Mod_solved_156 : pr_Mod_solved[156]? = some (263, 1, .iaload, []) := rfl
theorem pa_Mod_solved_157 : pr_Mod_solved[157]? = some (264, 2, .istore 4, []) := rfl
theorem pa_Mod_solved_158 : pr_Mod_solved[158]? = some (266, 1, .iconst 0, [0, 0]) := rfl
theorem pa_Mod_solved_159 : pr_Mod_solved[159]? = some (267, 2, .istore 5, []) := rfl
theorem pa_Mod_solved_160 : pr_Mod_solved[160]? = some (269, 2, .iload 5, []) := rfl
theorem pa_Mod_solved_161 : pr_Mod_solved[161]? = some (271, 2, .bipush 7, [7, 0]) := rfl
theorem pa_Mod_solved_162 : pr_Mod_solved[162]? = some (273, 3, .if_icmp .ge (38), [183]) := rfl
theorem pa_Mod_solved_163 : pr_Mod_solved[163]? = some (276, 1, .aload_n 0, []) := rfl
theorem pa_Mod_solved_164 : pr_Mod_solved[164]? = some (277, 3, .getfield 47, [7, 18, 2, 0, 638]) := rfl
theorem pa_Mod_solved_165 : pr_Mod_solved[165]? = some (280, 2, .bipush 7, [7, 0]) := rfl
theorem pa_Mod_solved_166 : pr_Mod_solved[166]? = some (282, 1, .iload_n 2, []) := rfl
theorem pa_Mod_solved_167 : pr_Mod_solved[167]? = some (283, 1, .imul, []) := rfl
theorem pa_Mod_solved_168 : pr_Mod_solved[168]? = some (284, 2, .iload 5, []) := rfl
theorem pa_Mod_solved_169 : pr_Mod_solved[169]? = some (286, 1, .iadd, []) := rfl
theorem pa_Mod_solved_170 : pr_Mod_solved[170]? = some (287, 1, .aload_n 0, []) := rfl
theorem pa_Mod_solved_171 : pr_Mod_solved[171]? = some (288, 3, .getfield 47, [7, 18, 2, 0, 638]) := rfl
theorem pa_Mod_solved_172 : pr_Mod_solved[172]? = some (291, 2, .bipush 7, [7, 0]) := rfl
theorem pa_Mod_solved_173 : pr_Mod_solved[173]? = some (293, 1, .iload_n 2, []) := rfl
theorem pa_Mod_solved_174 : pr_Mod_solved[174]? = some (294, 1, .imul, []) := rfl
theorem pa_Mod_solved_175 : pr_Mod_solved[175]? = some (295, 2, .iload 5, []) := rfl
theorem pa_Mod_solved_176 : pr_Mod_solved[176]? = some (297, 1, .iadd, []) := rfl
theorem pa_Mod_solved_177 : pr_Mod_solved[177]? = some (298, 1, .iaload, []) := rfl
theorem pa_Mod_solved_178 : pr_Mod_solved[178]? = some (299, 2, .iload 4, []) := rfl
theorem pa_Mod_solved_179 : pr_Mod_solved[179]? = some (301, 3, .invokestatic 70, [36, 2, 0, 614, 615, 47]) := rfl
theorem pa_Mod_solved_180 : pr_Mod_solved[180]? = some (304, 1, .iastore, []) := rfl
theorem pa_Mod_solved_181 : pr_Mod_solved[181]? = some (305, 3, .iinc 5 (1), [1, 0]) := rfl
theorem pa_Mod_solved_182 : pr_Mod_solved[182]? = some (308, 3, .goto (-39), [160]) := rfl
theorem pa_Mod_solved_183 : pr_Mod_solved[183]? = some (311, 1, .iconst 0, [0, 0]) := rfl
theorem pa_Mod_solved_184 : pr_Mod_solved[184]? = some (312, 2, .istore 5, []) := rfl
theorem pa_Mod_solved_185 : pr_Mod_solved[185]? = some (314, 2, .iload 5, []) := rfl
theorem pa_Mod_solved_186 : pr_Mod_solved[186]? = some (316, 2, .bipush 6, [6, 0]) := rfl
theorem pa_Mod_solved_187 : pr_Mod_solved[187]? = some (318, 3, .if_icmp .ge (78), [230]) := rfl
theorem pa_Mod_solved_188 : pr_Mod_solved[188]? = some (321, 1, .aload_n 0, []) := rfl
theorem pa_Mod_solved_189 : pr_Mod_solved[189]? = some (322, 3, .getfield 47, [7, 18, 2, 0, 638]) := rfl
theorem pa_Mod_solved_190 : pr_Mod_solved[190]? = some (325, 2, .bipush 7, [7, 0]) := rfl
theorem pa_Mod_solved_191 : pr_Mod_solved[191]? = some (327, 2, .iload 5, []) := rfl
theorem pa_Mod_solved_192 : pr_Mod_solved[192]? = some (329, 1, .imul, []) := rfl
theorem pa_Mod_solved_193 : pr_Mod_solved[193]? = some (330, 1, .iload_n 2, []) := rfl
theorem pa_Mod_solved_194 : pr_Mod_solved[194]? = some (331, 1, .iadd, []) := rfl
theorem pa_Mod_solved_195 : pr_Mod_solved[195]? = some (332, 1, .iaload, []) := rfl
theorem pa_Mod_solved_196 : pr_Mod_solved[196]? = some (333, 2, .istore 6, []) := rfl
theorem pa_Mod_solved_197 : pr_Mod_solved[197]? = some (335, 1, .iconst 0, [0, 0]) := rfl
theorem pa_Mod_solved_198 : pr_Mod_solved[198]? = some (336, 2, .istore 7, []) := rfl
theorem pa_Mod_solved_199 : pr_Mod_solved[199]? = some (338, 2, .iload 7, []) := rfl
theorem pa_Mod_solved_200 : pr_Mod_solved[200]? = some (340, 2, .bipush 7, [7, 0]) := rfl
set_option maxRecDepth 5000 in
theorem pa_Mod_solved_201 : pr_Mod_solved[201]? = some (342, 3, .if_icmp .ge (48), [228]) := rfl
set_option maxRecDepth 5000 in
theorem pa_Mod_solved_202 : pr_Mod_solved[202]? = some (345, 2, .iload 5, []) := rfl
set_option maxRecDepth 5000 in
theorem pa_Mod_solved_203 : pr_Mod_solved[203]? = some (347, 1, .iload_n 2, []) := rfl
set_option maxRecDepth 5000 in
theorem pa_Mod_solved_204 : pr_Mod_solved[204]? = some (348, 3, .if_icmp .eq (42), [228]) := rfl
set_option maxRecDepth 5000 in
theorem pa_Mod_solved_205 : pr_Mod_solved[205]? = some (351, 1, .aload_n 0, []) := rfl
set_option maxRecDepth 5000 in
theorem pa_Mod_solved_206 : pr_Mod_solved[206]? = some (352, 3, .getfield 47, [7, 18, 2, 0, 638]) := rfl
set_option maxRecDepth 5000 in
theorem pa_Mod_solved_207 : pr_Mod_solved[207]? = some (355, 2, .bipush 7, [7, 0]) := rfl
set_option maxRecDepth 5000 in
theorem pa_Mod_solved_208 : pr_Mod_solved[208]? = some (357, 2, .iload 5, []) := rfl
set_option maxRecDepth 5000 in
theorem pa_Mod_solved_209 : pr_Mod_solved[209]? = some (359, 1, .imul, []) := rfl
set_option maxRecDepth 5000 in
theorem pa_Mod_solved_210 : pr_Mod_solved[210]? = some (360, 2, .iload 7, []) := rfl
set_option maxRecDepth 5000 in
theorem pa_Mod_solved_211 : pr_Mod_solved[211]? = some (362, 1, .iadd, []) := rfl
set_option maxRecDepth 5000 in
theorem pa_Mod_solved_212 : pr_Mod_solved[212]? = some (363, 1, .dup2, []) := rfl
set_option maxRecDepth 5000 in
theorem pa_Mod_solved_213 : pr_Mod_solved[213]? = some (364, 1, .iaload, []) := rfl
set_option maxRecDepth 5000 in
theorem pa_Mod_solved_214 : pr_Mod_solved[214]? = some (365, 2, .iload 6, []) := rfl
set_option maxRecDepth 5000 in
theorem pa_Mod_solved_215 : pr_Mod_solved[215]? = some (367, 1, .aload_n 0, []) := rfl
set_option maxRecDepth 5000 in
theorem pa_Mod_solved_216 : pr_Mod_solved[216]? = some (368, 3, .getfield 47, [7, 18, 2, 0, 638]) := rfl
set_option maxRecDepth 5000 in
theorem pa_Mod_solved_217 : pr_Mod_solved[217]? = some (371, 2, .bipush 7, [7, 0]) := rfl
set_option maxRecDepth 5000 in
theorem pa_Mod_solved_218 : pr_Mod_solved[218]? = some (373, 1, .iload_n 2, []) := rfl
set_option maxRecDepth 5000 in
theorem pa_Mod_solved_219 : pr_Mod_solved[219]? = some (374, 1, .imul, []) := rfl
set_option maxRecDepth 5000 in
theorem pa_Mod_solved_220 : pr_Mod_solved[220]? = some (375, 2, .iload 7, []) := rfl
set_option maxRecDepth 5000 in
theorem pa_Mod_solved_221 : pr_Mod_solved[221]? = some (377, 1, .iadd, []) := rfl
set_option maxRecDepth 5000 in
theorem pa_Mod_solved_222 : pr_Mod_solved[222]? = some (378, 1, .iaload, []) := rfl
set_option maxRecDepth 5000 in
theorem pa_Mod_solved_223 : pr_Mod_solved[223]? = some (379, 3, .invokestatic 70, [36, 2, 0, 614, 615, 47]) := rfl
set_option maxRecDepth 5000 in
theorem pa_Mod_solved_224 : pr_Mod_solved[224]? = some (382, 1, .ixor, []) := rfl
set_option maxRecDepth 5000 in
theorem pa_Mod_solved_225 : pr_Mod_solved[225]? = some (383, 1, .iastore, []) := rfl
set_option maxRecDepth 5000 in
theorem pa_Mod_solved_226 : pr_Mod_solved[226]? = some (384, 3, .iinc 7 (1), [1, 0]) := rfl
set_option maxRecDepth 5000 in
theorem pa_Mod_solved_227 : pr_Mod_solved[227]? = some (387, 3, .goto (-49), [199]) := rfl
set_option maxRecDepth 5000 in
theorem pa_Mod_solved_228 : pr_Mod_solved[228]? = some (390, 3, .iinc 5 (1), [1, 0]) := rfl
set_option maxRecDepth 5000 in
theorem pa_Mod_solved_229 : pr_Mod_solved[229]? = some (393, 3, .goto (-79), [185]) := rfl
set_option maxRecDepth 5000 in
theorem pa_Mod_solved_230 : pr_Mod_solved[230]? = some (396, 3, .iinc 2 (1), [1, 0]) := rfl
set_option maxRecDepth 5000 in
theorem pa_Mod_solved_231 : pr_Mod_solved[231]? = some (399, 3, .goto (-260), [81]) := rfl
set_option maxRecDepth 5000 in
theorem pa_Mod_solved_232 : pr_Mod_solved[232]? = some (402, 1, .iload_n 1, []) := rfl
set_option maxRecDepth 5000 in
theorem pa_Mod_solved_233 : pr_Mod_solved[233]? = some (403, 1, .istore_n 2, []) := rfl
set_option maxRecDepth 5000 in
theorem pa_Mod_solved_234 : pr_Mod_solved[234]? = some (404, 1, .iload_n 2, []) := rfl
set_option maxRecDepth 5000 in
theorem pa_Mod_solved_235 : pr_Mod_solved[235]? = some (405, 2, .bipush 6, [6, 0]) := rfl
set_option maxRecDepth 5000 in
theorem pa_Mod_solved_236 : pr_Mod_solved[236]? = some (407, 3, .if_icmp .ge (26), [250]) := rfl
set_option maxRecDepth 5000 in
theorem pa_Mod_solved_237 : pr_Mod_solved[237]? = some (410, 1, .aload_n 0, []) := rfl
set_option maxRecDepth 5000 in
theorem pa_Mod_solved_238 : pr_Mod_solved[238]? = some (411, 3, .getfield 47, [7, 18, 2, 0, 638]) := rfl
set_option maxRecDepth 5000 in
theorem pa_Mod_solved_239 : pr_Mod_solved[239]? = some (414, 2, .bipush 7, [7, 0]) := rfl
set_option maxRecDepth 5000 in
theorem pa_Mod_solved_240 : pr_Mod_solved[240]? = some (416, 1, .iload_n 2, []) := rfl
set_option maxRecDepth 5000 in
theorem pa_Mod_solved_241 : pr_Mod_solved[241]? = some (417, 1, .imul, []) := rfl
set_option maxRecDepth 5000 in
theorem pa_Mod_solved_242 : pr_Mod_solved[242]? = some (418, 2, .bipush 6, [6, 0]) := rfl
set_option maxRecDepth 5000 in
theorem pa_Mod_solved_243 : pr_Mod_solved[243]? = some (420, 1, .iadd, []) := rfl
set_option maxRecDepth 5000 in
theorem pa_Mod_solved_244 : pr_Mod_solved[244]? = some (421, 1, .iaload, []) := rfl
set_option maxRecDepth 5000 in
theorem pa_Mod_solved_245 : pr_Mod_solved[245]? = some (422, 3, .ifCond .eq (5), [248]) := rfl
set_option maxRecDepth 5000 in
theorem pa_Mod_solved_246 : pr_Mod_solved[246]? = some (425, 1, .iconst 0, [0, 0]) := rfl
set_option maxRecDepth 5000 in
theorem pa_Mod_solved_247 : pr_Mod_solved[247]? = some (426, 1, .ireturn, [1]) := rfl
set_option maxRecDepth 5000 in
theorem pa_Mod_solved_248 : pr_Mod_solved[248]? = some (427, 3, .iinc 2 (1), [1, 0]) := rfl
set_option maxRecDepth 5000 in
theorem pa_Mod_solved_249 : pr_Mod_solved[249]? = some (430, 3, .goto (-26), [234]) := rfl
set_option maxRecDepth 5000 in
theorem pa_Mod_solved_250 : pr_Mod_solved[250]? = some (433, 1, .iconst 0, [0, 0]) := rfl
set_option maxRecDepth 5000 in
theorem pa_Mod_solved_251 : pr_Mod_solved[251]? = some (434, 1, .istore_n 2, []) := rfl
set_option maxRecDepth 5000 in
theorem pa_Mod_solved_252 : pr_Mod_solved[252]? = some (435, 1, .iload_n 2, []) := rfl
set_option maxRecDepth 5000 in
theorem pa_Mod_solved_253 : pr_Mod_solved[253]? = some (436, 1, .iload_n 1, []) := rfl
set_option maxRecDepth 5000 in
theorem pa_Mod_solved_254 : pr_Mod_solved[254]? = some (437, 3, .if_icmp .ge (35), [275]) := rfl
set_option maxRecDepth 5000 in
theorem pa_Mod_solved_255 : pr_Mod_solved[255]? = some (440, 1, .aload_n 0, []) := rfl
set_option maxRecDepth 5000 in
theorem pa_Mod_solved_256 : pr_Mod_solved[256]? = some (441, 3, .getfield 44, [7, 17, 2, 0, 637]) := rfl
set_option maxRecDepth 5000 in
theorem pa_Mod_solved_257 : pr_Mod_solved[257]? = some (444, 1, .aload_n 0, []) := rfl
set_option maxRecDepth 5000 in
theorem pa_Mod_solved_258 : pr_Mod_solved[258]? = some (445, 3, .getfield 50, [7, 19, 2, 0, 639]) := rfl
set_option maxRecDepth 5000 in
theorem pa_Mod_solved_259 : pr_Mod_solved[259]? = some (448, 1, .iload_n 2, []) := rfl
set_option maxRecDepth 5000 in
theorem pa_Mod_solved_260 : pr_Mod_solved[260]? = some (449, 1, .iaload, []) := rfl
set_option maxRecDepth 5000 in
theorem pa_Mod_solved_261 : pr_Mod_solved[261]? = some (450, 1, .dup2, []) := rfl
set_option maxRecDepth 5000 in
theorem pa_Mod_solved_262 : pr_Mod_solved[262]? = some (451, 1, .iaload, []) := rfl
set_option maxRecDepth 5000 in
theorem pa_Mod_solved_263 : pr_Mod_solved[263]? = some (452, 1, .aload_n 0, []) := rfl
set_option maxRecDepth 5000 in
theorem pa_Mod_solved_264 : pr_Mod_solved[264]? = some (453, 3, .getfield 47, [7, 18, 2, 0, 638]) := rfl
set_option maxRecDepth 5000 in
theorem pa_Mod_solved_265 : pr_Mod_solved[265]? = some (456, 2, .bipush 7, [7, 0]) := rfl
set_option maxRecDepth 5000 in
theorem pa_Mod_solved_266 : pr_Mod_solved[266]? = some (458, 1, .iload_n 2, []) := rfl
set_option maxRecDepth 5000 in
theorem pa_Mod_solved_267 : pr_Mod_solved[267]? = some (459, 1, .imul, []) := rfl
set_option maxRecDepth 5000 in
theorem pa_Mod_solved_268 : pr_Mod_solved[268]? = some (460, 2, .bipush 6, [6, 0]) := rfl
set_option maxRecDepth 5000 in
theorem pa_Mod_solved_269 : pr_Mod_solved[269]? = some (462, 1, .iadd, []) := rfl
set_option maxRecDepth 5000 in
theorem pa_Mod_solved_270 : pr_Mod_solved[270]? = some (463, 1, .iaload, []) := rfl
set_option maxRecDepth 5000 in
theorem pa_Mod_solved_271 : pr_Mod_solved[271]? = some (464, 1, .ixor, []) := rfl
set_option maxRecDepth 5000 in
theorem pa_Mod_solved_272 : pr_Mod_solved[272]? = some (465, 1, .iastore, []) := rfl
set_option maxRecDepth 5000 in
theorem pa_Mod_solved_273 : pr_Mod_solved[273]? = some (466, 3, .iinc 2 (1), [1, 0]) := rfl
set_option maxRecDepth 5000 in
theorem pa_Mod_solved_274 : pr_Mod_solved[274]? = some (469, 3, .goto (-34), [252]) := rfl
set_option maxRecDepth 5000 in
theorem pa_Mod_solved_275 : pr_Mod_solved[275]? = some (472, 1, .iconst 1, [1, 0]) := rfl
set_option maxRecDepth 5000 in
theorem pa_Mod_solved_276 : pr_Mod_solved[276]? = some (473, 1, .ireturn, [1]) := rfl
set_option maxRecDepth 30000 in
def pa_Mod_solved := And.intro pa_Mod_solved_0 (And.intro pa_Mod_solved_1 (And.intro pa_Mod_solved_2 (And.intro pa_Mod_solved_3 (And.intro pa_Mod_solved_4 (And.intro pa_Mod_solved_5 (And.intro pa_Mod_solved_6 (And.intro pa_Mod_solved_7 (And.intro pa_Mod_solved_8 (And.intro pa_Mod_solved_9 (And.intro pa_Mod_solved_10 (And.intro pa_Mod_solved_11 (And.intro pa_Mod_solved_12 (And.intro pa_Mod_solved_13 (And.intro pa_Mod_solved_14 (And.intro pa_Mod_solved_15 (And.intro pa_Mod_solved_16 (And.intro pa_Mod_solved_17 (And.intro pa_Mod_solved_18 (And.intro pa_Mod_solved_19 (And.intro pa_Mod_solved_20 (And.intro pa_Mod_solved_21 (And.intro pa_Mod_solved_22 (And.intro pa_Mod_solved_23 (And.intro pa_Mod_solved_24 (And.intro pa_Mod_solved_25 (And.intro pa_Mod_solved_26 (And.intro pa_Mod_solved_27 (And.intro pa_Mod_solved_28 (And.intro pa_Mod_solved_29 (And.intro pa_Mod_solved_30 (And.intro pa_Mod_solved_31 (And.intro pa_Mod_solved_32 (And.intro pa_Mod_solved_33 (And.intro pa_Mod_solved_34 (And.intro pa_Mod_solved_35 (And.intro pa_Mod_solved_36 (And.intro pa_Mod_solved_37 (And.intro pa_Mod_solved_38 (And.intro pa_Mod_solved_39 (And.intro pa_Mod_solved_40 (And.intro pa_Mod_solved_41 (And.intro pa_Mod_solved_42 (And.intro pa_Mod_solved_43 (And.intro pa_Mod_solved_44 (And.intro pa_Mod_solved_45 (And.intro pa_Mod_solved_46 (And.intro pa_Mod_solved_47 (And.intro pa_Mod_solved_48 (And.intro pa_Mod_solved_49 (And.intro pa_Mod_solved_50 (And.intro pa_Mod_solved_51 (And.intro pa_Mod_solved_52 (And.intro pa_Mod_solved_53 (And.intro pa_Mod_solved_54 (And.intro pa_Mod_solved_55 (And.intro pa_Mod_solved_56 (And.intro pa_Mod_solved_57 (And.intro pa_Mod_solved_58 (And.intro pa_Mod_solved_59 (And.intro pa_Mod_solved_60 (And.intro pa_Mod_solved_61 (And.intro pa_Mod_solved_62 (And.intro pa_Mod_solved_63 (And.intro pa_Mod_solved_64 (And.intro pa_Mod_solved_65 (And.intro pa_Mod_solved_66 (And.intro pa_Mod_solved_67 (And.intro pa_Mod_solved_68 (And.intro pa_Mod_solved_69 (And.intro pa_Mod_solved_70 (And.intro pa_Mod_solved_71 (And.intro pa_Mod_solved_72 (And.intro pa_Mod_solved_73 (And.intro pa_Mod_solved_74 (And.intro pa_Mod_solved_75 (And.intro pa_Mod_solved_76 (And.intro pa_Mod_solved_77 (And.intro pa_Mod_solved_78 (And.intro pa_Mod_solved_79 (And.intro pa_Mod_solved_80 (And.intro pa_Mod_solved_81 (And.intro pa_Mod_solved_82 (And.intro pa_Mod_solved_83 (And.intro pa_Mod_solved_84 (And.intro pa_Mod_solved_85 (And.intro pa_Mod_solved_86 (And.intro pa_Mod_solved_87 (And.intro pa_Mod_solved_88 (And.intro pa_Mod_solved_89 (And.intro pa_Mod_solved_90 (And.intro pa_Mod_solved_91 (And.intro pa_Mod_solved_92 (And.intro pa_Mod_solved_93 (And.intro pa_Mod_solved_94 (And.intro pa_Mod_solved_95 (And.intro pa_Mod_solved_96 (And.intro pa_Mod_solved_97 (And.intro pa_Mod_solved_98 (And.intro pa_Mod_solved_99 (And.intro pa_Mod_solved_100 (And.intro pa_Mod_solved_101 (And.intro pa_Mod_solved_102 (And.intro pa_Mod_solved_103 (And.intro pa_Mod_solved_104 (And.intro pa_Mod_solved_105 (And.intro pa_Mod_solved_106 (And.intro pa_Mod_solved_107 (And.intro pa_Mod_solved_108 (And.intro pa_Mod_solved_109 (And.intro pa_Mod_solved_110 (And.intro pa_Mod_solved_111 (And.intro pa_Mod_solved_112 (And.intro pa_Mod_solved_113 (And.intro pa_Mod_solved_114 (And.intro pa_Mod_solved_115 (And.intro pa_Mod_solved_116 (And.intro pa_Mod_solved_117 (And.intro pa_Mod_solved_118 (And.intro pa_Mod_solved_119 (And.intro pa_Mod_solved_120 (And.intro pa_Mod_solved_121 (And.intro pa_Mod_solved_122 (And.intro pa_Mod_solved_123 (And.intro pa_Mod_solved_124 (And.intro pa_Mod_solved_125 (And.intro pa_Mod_solved_126 (And.intro pa_Mod_solved_127 (And.intro pa_Mod_solved_128 (And.intro pa_Mod_solved_129 (And.intro pa_Mod_solved_130 (And.intro pa_Mod_solved_131 (And.intro pa_Mod_solved_132 (And.intro pa_Mod_solved_133 (And.intro pa_Mod_solved_134 (And.intro pa_Mod_solved_135 (And.intro pa_Mod_solved_136 (And.intro pa_Mod_solved_137 (And.intro pa_Mod_solved_138 (And.intro pa_Mod_solved_139 (And.intro pa_Mod_solved_140 (And.intro pa_Mod_solved_141 (And.intro pa_Mod_solved_142 (And.intro pa_Mod_solved_143 (And.intro pa_Mod_solved_144 (And.intro pa_Mod_solved_145 (And.intro pa_Mod_solved_146 (And.intro pa_Mod_solved_147 (And.intro pa_Mod_solved_148 (And.intro pa_Mod_solved_149 (And.intro pa_Mod_solved_150 (And.intro pa_Mod_solved_151 (And.intro pa_Mod_solved_152 (And.intro pa_Mod_solved_153 (And.intro pa_Mod_solved_154 (And.intro pa_Mod_solved_155 (And.intro pa_Mod_solved_156 (And.intro pa_Mod_solved_157 (And.intro pa_Mod_solved_158 (And.intro pa_Mod_solved_159 (And.intro pa_Mod_solved_160 (And.intro pa_Mod_solved_161 (And.intro pa_Mod_solved_162 (And.intro pa_Mod_solved_163 (And.intro pa_Mod_solved_164 (And.intro pa_Mod_solved_165 (And.intro pa_Mod_solved_166 (And.intro pa_Mod_solved_167 (And.intro pa_Mod_solved_168 (And.intro pa_Mod_solved_169 (And.intro pa_Mod_solved_170 (And.intro pa_Mod_solved_171 (And.intro pa_Mod_solved_172 (And.intro pa_Mod_solved_173 (And.intro pa_Mod_solved_174 (And.intro pa_Mod_solved_175 (And.intro pa_Mod_solved_176 (And.intro pa_Mod_solved_177 (And.intro pa_Mod_solved_178 (And.intro pa_Mod_solved_179 (And.intro pa_Mod_solved_180 (And.intro pa_Mod_solved_181 (And.intro pa_Mod_solved_182 (And.intro pa_Mod_solved_183 (And.intro pa_Mod_solved_184 (And.intro pa_Mod_solved_185 (And.intro pa_Mod_solved_186 (And.intro pa_Mod_solved_187 (And.intro pa_Mod_solved_188 (And.intro pa_Mod_solved_189 (And.intro pa_Mod_solved_190 (And.intro pa_Mod_solved_191 (And.intro pa_Mod_solved_192 (And.intro pa_Mod_solved_193 (And.intro pa_Mod_solved_194 (And.intro pa_Mod_solved_195 (And.intro pa_Mod_solved_196 (And.intro pa_Mod_solved_197 (And.intro pa_Mod_solved_198 (And.intro pa_Mod_solved_199 (And.intro pa_Mod_solved_200 (And.intro pa_Mod_solved_201 (And.intro pa_Mod_solved_202 (And.intro pa_Mod_solved_203 (And.intro pa_Mod_solved_204 (And.intro pa_Mod_solved_205 (And.intro pa_Mod_solved_206 (And.intro pa_Mod_solved_207 (And.intro pa_Mod_solved_208 (And.intro pa_Mod_solved_209 (And.intro pa_Mod_solved_210 (And.intro pa_Mod_solved_211 (And.intro pa_Mod_solved_212 (And.intro pa_Mod_solved_213 (And.intro pa_Mod_solved_214 (And.intro pa_Mod_solved_215 (And.intro pa_Mod_solved_216 (And.intro pa_Mod_solved_217 (And.intro pa_Mod_solved_218 (And.intro pa_Mod_solved_219 (And.intro pa_Mod_solved_220 (And.intro pa_Mod_solved_221 (And.intro pa_Mod_solved_222 (And.intro pa_Mod_solved_223 (And.intro pa_Mod_solved_224 (And.intro pa_Mod_solved_225 (And.intro pa_Mod_solved_226 (And.intro pa_Mod_solved_227 (And.intro pa_Mod_solved_228 (And.intro pa_Mod_solved_229 (And.intro pa_Mod_solved_230 (And.intro pa_Mod_solved_231 (And.intro pa_Mod_solved_232 (And.intro pa_Mod_solved_233 (And.intro pa_Mod_solved_234 (And.intro pa_Mod_solved_235 (And.intro pa_Mod_solved_236 (And.intro pa_Mod_solved_237 (And.intro pa_Mod_solved_238 (And.intro pa_Mod_solved_239 (And.intro pa_Mod_solved_240 (And.intro pa_Mod_solved_241 (And.intro pa_Mod_solved_242 (And.intro pa_Mod_solved_243 (And.intro pa_Mod_solved_244 (And.intro pa_Mod_solved_245 (And.intro pa_Mod_solved_246 (And.intro pa_Mod_solved_247 (And.intro pa_Mod_solved_248 (And.intro pa_Mod_solved_249 (And.intro pa_Mod_solved_250 (And.intro pa_Mod_solved_251 (And.intro pa_Mod_solved_252 (And.intro pa_Mod_solved_253 (And.intro pa_Mod_solved_254 (And.intro pa_Mod_solved_255 (And.intro pa_Mod_solved_256 (And.intro pa_Mod_solved_257 (And.intro pa_Mod_solved_258 (And.intro pa_Mod_solved_259 (And.intro pa_Mod_solved_260 (And.intro pa_Mod_solved_261 (And.intro pa_Mod_solved_262 (And.intro pa_Mod_solved_263 (And.intro pa_Mod_solved_264 (And.intro pa_Mod_solved_265 (And.intro pa_Mod_solved_266 (And.intro pa_Mod_solved_267 (And.intro pa_Mod_solved_268 (And.intro pa_Mod_solved_269 (And.intro pa_Mod_solved_270 (And.intro pa_Mod_solved_271 (And.intro pa_Mod_solved_272 (And.intro pa_Mod_solved_273 (And.intro pa_Mod_solved_274 (And.intro pa_Mod_solved_275 (pa_Mod_solved_276))))))))))))))))))))))))))))))))))))))))))))))))))))))))))))))))))))))))))))))))))))))))))))))))))))))))))))))))))))))))))))))))))))))))))))))))))))))))))))))))))))))))))))))))))))))))))))))))))))))))))))))))))))))))))))))))))))))))))))))))))))))))))))))))))))))))))))))))))))
def pr_Bod_spell : List ma_E := [(0, 2, .ldc 26, [59049, 0, 349]),
  (2, 1, .istore_n 3, []),
  (3, 1, .iload_n 1, []),
  (4, 2, .bipush 11, [11, 0]),
  (6, 1, .imul, []),
  (7, 2, .istore 4, []),
  (9, 2, .iload 4, []),
  (11, 2, .istore 5, []),
  (13, 2, .iload 5, []),
  (15, 2, .iload 4, []),
  (17, 2, .bipush 11, [11, 0]),
  (19, 1, .iadd, []),
  (20, 3, .if_icmp .ge (46), [38]),
  (23, 1, .iload_n 2, []),
  (24, 1, .iload_n 3, []),
  (25, 1, .idiv, []),
  (26, 1, .iconst 3, [3, 0]),
  (27, 1, .irem, []),
  (28, 2, .istore 6, []),
  (30, 1, .aload_n 0, []),
  (31, 2, .iload 5, []),
  (33, 2, .iload 6, []),
  (35, 1, .aload_n 0, []),
  (36, 2, .iload 5, []),
  (38, 3, .invokevirtual 27, [7, 1, 2, 0, 350, 352, 13, 44]),
  (41, 3, .if_icmp .ge (8), [28]),
  (44, 2, .iload 6, []),
  (46, 3, .goto (7), [31]),
  (49, 2, .iload 6, []),
  (51, 1, .iconst 1, [1, 0]),
  (52, 1, .iadd, []),
  (53, 3, .invokevirtual 30, [44, 2, 2, 0, 354, 355, 356, 44]),
  (56, 1, .iload_n 3, []),
  (57, 1, .iconst 3, [3, 0]),
  (58, 1, .idiv, []),
  (59, 1, .istore_n 3, []),
  (60, 3, .iinc 5 (1), [1, 0]),
  (63, 3, .goto (-50), [8]),
  (66, 1, .return_, [])]
theorem po_Bod_spell : ma_ok me_Bod_spell pr_Bod_spell := ma_ok_of (by decide +kernel)
theorem pa_Bod_spell_0 : pr_Bod_spell[0]? = some (0, 2, .ldc 26, [59049, 0, 349]) := rfl
theorem pa_Bod_spell_1 : pr_Bod_spell[1]? = some (2, 1, .istore_n 3, []) := rfl
theorem pa_Bod_spell_2 : pr_Bod_spell[2]? = some (3, 1, .iload_n 1, []) := rfl
theorem pa_Bod_spell_3 : pr_Bod_spell[3]? = some (4, 2, .bipush 11, [11, 0]) := rfl
theorem pa_Bod_spell_4 : pr_Bod_spell[4]? = some (6, 1, .imul, []) := rfl
theorem pa_Bod_spell_5 : pr_Bod_spell[5]? = some (7, 2, .istore 4, []) := rfl
theorem pa_Bod_spell_6 : pr_Bod_spell[6]? = some (9, 2, .iload 4, []) := rfl
theorem pa_Bod_spell_7 : pr_Bod_spell[7]? = some (11, 2, .istore 5, []) := rfl
theorem pa_Bod_spell_8 : pr_Bod_spell[8]? = some (13, 2, .iload 5, []) := rfl
theorem pa_Bod_spell_9 : pr_Bod_spell[9]? = some (15, 2, .iload 4, []) := rfl
theorem pa_Bod_spell_10 : pr_Bod_spell[10]? = some (17, 2, .bipush 11, [11, 0]) := rfl
theorem pa_Bod_spell_11 : pr_Bod_spell[11]? = some (19, 1, .iadd, []) := rfl
theorem pa_Bod_spell_12 : pr_Bod_spell[12]? = some (20, 3, .if_icmp .ge (46), [38]) := rfl
theorem pa_Bod_spell_13 : pr_Bod_spell[13]? = some (23, 1, .iload_n 2, []) := rfl
theorem pa_Bod_spell_14 : pr_Bod_spell[14]? = some (24, 1, .iload_n 3, []) := rfl
theorem pa_Bod_spell_15 : pr_Bod_spell[15]? = some (25, 1, .idiv, []) := rfl
theorem pa_Bod_spell_16 : pr_Bod_spell[16]? = some (26, 1, .iconst 3, [3, 0]) := rfl
theorem pa_Bod_spell_17 : pr_Bod_spell[17]? = some (27, 1, .irem, []) := rfl
theorem pa_Bod_spell_18 : pr_Bod_spell[18]? = some (28, 2, .istore 6, []) := rfl
theorem pa_Bod_spell_19 : pr_Bod_spell[19]? = some (30, 1, .aload_n 0, []) := rfl
theorem pa_Bod_spell_20 : pr_Bod_spell[20]? = some (31, 2, .iload 5, []) := rfl
theorem pa_Bod_spell_21 : pr_Bod_spell[21]? = some (33, 2, .iload 6, []) := rfl
theorem pa_Bod_spell_22 : pr_Bod_spell[22]? = some (35, 1, .aload_n 0, []) := rfl
theorem pa_Bod_spell_23 : pr_Bod_spell[23]? = some (36, 2, .iload 5, []) := rfl
theorem pa_Bod_spell_24 : pr_Bod_spell[24]? = some (38, 3, .invokevirtual 27, [7, 1, 2, 0, 350, 352, 13, 44]) := rfl
theorem pa_Bod_spell_25 : pr_Bod_spell[25]? = some (41, 3, .if_icmp .ge (8), [28]) := rfl
theorem pa_Bod_spell_26 : pr_Bod_spell[26]? = some (44, 2, .iload 6, []) := rfl
theorem pa_Bod_spell_27 : pr_Bod_spell[27]? = some (46, 3, .goto (7), [31]) := rfl
theorem pa_Bod_spell_28 : pr_Bod_spell[28]? = some (49, 2, .iload 6, []) := rfl
theorem pa_Bod_spell_29 : pr_Bod_spell[29]? = some (51, 1, .iconst 1, [1, 0]) := rfl
theorem pa_Bod_spell_30 : pr_Bod_spell[30]? = some (52, 1, .iadd, []) := rfl
theorem pa_Bod_spell_31 : pr_Bod_spell[31]? = some (53, 3, .invokevirtual 30, [44, 2, 2, 0, 354, 355, 356, 44]) := rfl
theorem pa_Bod_spell_32 : pr_Bod_spell[32]? = some (56, 1, .iload_n 3, []) := rfl
theorem pa_Bod_spell_33 : pr_Bod_spell[33]? = some (57, 1, .iconst 3, [3, 0]) := rfl
theorem pa_Bod_spell_34 : pr_Bod_spell[34]? = some (58, 1, .idiv, []) := rfl
theorem pa_Bod_spell_35 : pr_Bod_spell[35]? = some (59, 1, .istore_n 3, []) := rfl
theorem pa_Bod_spell_36 : pr_Bod_spell[36]? = some (60, 3, .iinc 5 (1), [1, 0]) := rfl
theorem pa_Bod_spell_37 : pr_Bod_spell[37]? = some (63, 3, .goto (-50), [8]) := rfl
theorem pa_Bod_spell_38 : pr_Bod_spell[38]? = some (66, 1, .return_, []) := rfl
def pa_Bod_spell := And.intro pa_Bod_spell_0 (And.intro pa_Bod_spell_1 (And.intro pa_Bod_spell_2 (And.intro pa_Bod_spell_3 (And.intro pa_Bod_spell_4 (And.intro pa_Bod_spell_5 (And.intro pa_Bod_spell_6 (And.intro pa_Bod_spell_7 (And.intro pa_Bod_spell_8 (And.intro pa_Bod_spell_9 (And.intro pa_Bod_spell_10 (And.intro pa_Bod_spell_11 (And.intro pa_Bod_spell_12 (And.intro pa_Bod_spell_13 (And.intro pa_Bod_spell_14 (And.intro pa_Bod_spell_15 (And.intro pa_Bod_spell_16 (And.intro pa_Bod_spell_17 (And.intro pa_Bod_spell_18 (And.intro pa_Bod_spell_19 (And.intro pa_Bod_spell_20 (And.intro pa_Bod_spell_21 (And.intro pa_Bod_spell_22 (And.intro pa_Bod_spell_23 (And.intro pa_Bod_spell_24 (And.intro pa_Bod_spell_25 (And.intro pa_Bod_spell_26 (And.intro pa_Bod_spell_27 (And.intro pa_Bod_spell_28 (And.intro pa_Bod_spell_29 (And.intro pa_Bod_spell_30 (And.intro pa_Bod_spell_31 (And.intro pa_Bod_spell_32 (And.intro pa_Bod_spell_33 (And.intro pa_Bod_spell_34 (And.intro pa_Bod_spell_35 (And.intro pa_Bod_spell_36 (And.intro pa_Bod_spell_37 (pa_Bod_spell_38))))))))))))))))))))))))))))))))))))))
