/-! the four methods of the throws as tables -/
def me_Arc_out : ma_M := (⟨"StrandArchive", "out", "(I)I"⟩, prog_1_method_13_code, 2, some (.int), 3, 1, 6)
def pr_Arc_out : List ma_E := [(0, 1, .iload_n 1, []),
  (1, 3, .ifCond .lt (14), [7]),
  (4, 1, .iload_n 1, []),
  (5, 1, .aload_n 0, []),
  (6, 3, .getfield 62, [6, 9, 2, 0, 231]),
  (9, 3, .getfield 132, [5, 5, 0, 1, 9]),
  (12, 3, .if_icmp .lt (11), [11]),
  (15, 3, .new 135, []),
  (18, 1, .dup, []),
  (19, 3, .invokespecial 137, []),
  (22, 1, .athrow, []),
  (23, 1, .aload_n 0, []),
  (24, 3, .getfield 62, [6, 9, 2, 0, 231]),
  (27, 3, .getfield 138, [5, 8, 2, 1, 12]),
  (30, 1, .iload_n 1, []),
  (31, 1, .iaload, []),
  (32, 1, .ireturn, [0])]
def hs_Arc_out : List Nat := [7, 9, 10]
theorem po_Arc_out : ma_okH me_Arc_out pr_Arc_out hs_Arc_out := ma_okH_of (by decide +kernel)
theorem pa_Arc_out_0 : pr_Arc_out[0]? = some (0, 1, .iload_n 1, []) := rfl
theorem pa_Arc_out_1 : pr_Arc_out[1]? = some (1, 3, .ifCond .lt (14), [7]) := rfl
theorem pa_Arc_out_2 : pr_Arc_out[2]? = some (4, 1, .iload_n 1, []) := rfl
theorem pa_Arc_out_3 : pr_Arc_out[3]? = some (5, 1, .aload_n 0, []) := rfl
theorem pa_Arc_out_4 : pr_Arc_out[4]? = some (6, 3, .getfield 62, [6, 9, 2, 0, 231]) := rfl
theorem pa_Arc_out_5 : pr_Arc_out[5]? = some (9, 3, .getfield 132, [5, 5, 0, 1, 9]) := rfl
theorem pa_Arc_out_6 : pr_Arc_out[6]? = some (12, 3, .if_icmp .lt (11), [11]) := rfl
theorem pa_Arc_out_7 : pr_Arc_out[7]? = some (15, 3, .new 135, []) := rfl
theorem pa_Arc_out_8 : pr_Arc_out[8]? = some (18, 1, .dup, []) := rfl
theorem pa_Arc_out_9 : pr_Arc_out[9]? = some (19, 3, .invokespecial 137, []) := rfl
theorem pa_Arc_out_10 : pr_Arc_out[10]? = some (22, 1, .athrow, []) := rfl
theorem pa_Arc_out_11 : pr_Arc_out[11]? = some (23, 1, .aload_n 0, []) := rfl
theorem pa_Arc_out_12 : pr_Arc_out[12]? = some (24, 3, .getfield 62, [6, 9, 2, 0, 231]) := rfl
theorem pa_Arc_out_13 : pr_Arc_out[13]? = some (27, 3, .getfield 138, [5, 8, 2, 1, 12]) := rfl
theorem pa_Arc_out_14 : pr_Arc_out[14]? = some (30, 1, .iload_n 1, []) := rfl
theorem pa_Arc_out_15 : pr_Arc_out[15]? = some (31, 1, .iaload, []) := rfl
theorem pa_Arc_out_16 : pr_Arc_out[16]? = some (32, 1, .ireturn, [0]) := rfl
def me_Arc_block : ma_M := (⟨"StrandArchive", "block", "(II)I"⟩, prog_1_method_15_code, 3, some (.int), 3, 1, 6)
def pr_Arc_block : List ma_E := [(0, 1, .iload_n 1, []),
  (1, 3, .ifCond .lt (26), [13]),
  (4, 1, .iload_n 1, []),
  (5, 1, .aload_n 0, []),
  (6, 3, .getfield 62, [6, 9, 2, 0, 231]),
  (9, 3, .getfield 132, [5, 5, 0, 1, 9]),
  (12, 3, .invokestatic 70, [15, 1, 0, 264, 265, 40]),
  (15, 3, .if_icmp .ge (12), [13]),
  (18, 1, .iload_n 2, []),
  (19, 3, .ifCond .lt (8), [13]),
  (22, 1, .iload_n 2, []),
  (23, 1, .iconst 1, [1, 0]),
  (24, 3, .if_icmp .le (11), [17]),
  (27, 3, .new 135, []),
  (30, 1, .dup, []),
  (31, 3, .invokespecial 137, []),
  (34, 1, .athrow, []),
  (35, 1, .iload_n 2, []),
  (36, 3, .ifCond .ne (15), [25]),
  (39, 1, .aload_n 0, []),
  (40, 3, .getfield 62, [6, 9, 2, 0, 231]),
  (43, 3, .getfield 145, [5, 9, 2, 1, 13]),
  (46, 1, .iload_n 1, []),
  (47, 1, .iaload, []),
  (48, 3, .goto (12), [30]),
  (51, 1, .aload_n 0, []),
  (52, 3, .getfield 62, [6, 9, 2, 0, 231]),
  (55, 3, .getfield 148, [5, 10, 2, 1, 14]),
  (58, 1, .iload_n 1, []),
  (59, 1, .iaload, []),
  (60, 1, .ireturn, [0])]
def hs_Arc_block : List Nat := [13, 15, 16]
theorem po_Arc_block : ma_okH me_Arc_block pr_Arc_block hs_Arc_block := ma_okH_of (by decide +kernel)
theorem pa_Arc_block_0 : pr_Arc_block[0]? = some (0, 1, .iload_n 1, []) := rfl
theorem pa_Arc_block_1 : pr_Arc_block[1]? = some (1, 3, .ifCond .lt (26), [13]) := rfl
theorem pa_Arc_block_2 : pr_Arc_block[2]? = some (4, 1, .iload_n 1, []) := rfl
theorem pa_Arc_block_3 : pr_Arc_block[3]? = some (5, 1, .aload_n 0, []) := rfl
theorem pa_Arc_block_4 : pr_Arc_block[4]? = some (6, 3, .getfield 62, [6, 9, 2, 0, 231]) := rfl
theorem pa_Arc_block_5 : pr_Arc_block[5]? = some (9, 3, .getfield 132, [5, 5, 0, 1, 9]) := rfl
theorem pa_Arc_block_6 : pr_Arc_block[6]? = some (12, 3, .invokestatic 70, [15, 1, 0, 264, 265, 40]) := rfl
theorem pa_Arc_block_7 : pr_Arc_block[7]? = some (15, 3, .if_icmp .ge (12), [13]) := rfl
theorem pa_Arc_block_8 : pr_Arc_block[8]? = some (18, 1, .iload_n 2, []) := rfl
theorem pa_Arc_block_9 : pr_Arc_block[9]? = some (19, 3, .ifCond .lt (8), [13]) := rfl
theorem pa_Arc_block_10 : pr_Arc_block[10]? = some (22, 1, .iload_n 2, []) := rfl
theorem pa_Arc_block_11 : pr_Arc_block[11]? = some (23, 1, .iconst 1, [1, 0]) := rfl
theorem pa_Arc_block_12 : pr_Arc_block[12]? = some (24, 3, .if_icmp .le (11), [17]) := rfl
theorem pa_Arc_block_13 : pr_Arc_block[13]? = some (27, 3, .new 135, []) := rfl
theorem pa_Arc_block_14 : pr_Arc_block[14]? = some (30, 1, .dup, []) := rfl
theorem pa_Arc_block_15 : pr_Arc_block[15]? = some (31, 3, .invokespecial 137, []) := rfl
theorem pa_Arc_block_16 : pr_Arc_block[16]? = some (34, 1, .athrow, []) := rfl
theorem pa_Arc_block_17 : pr_Arc_block[17]? = some (35, 1, .iload_n 2, []) := rfl
theorem pa_Arc_block_18 : pr_Arc_block[18]? = some (36, 3, .ifCond .ne (15), [25]) := rfl
theorem pa_Arc_block_19 : pr_Arc_block[19]? = some (39, 1, .aload_n 0, []) := rfl
theorem pa_Arc_block_20 : pr_Arc_block[20]? = some (40, 3, .getfield 62, [6, 9, 2, 0, 231]) := rfl
theorem pa_Arc_block_21 : pr_Arc_block[21]? = some (43, 3, .getfield 145, [5, 9, 2, 1, 13]) := rfl
theorem pa_Arc_block_22 : pr_Arc_block[22]? = some (46, 1, .iload_n 1, []) := rfl
theorem pa_Arc_block_23 : pr_Arc_block[23]? = some (47, 1, .iaload, []) := rfl
theorem pa_Arc_block_24 : pr_Arc_block[24]? = some (48, 3, .goto (12), [30]) := rfl
theorem pa_Arc_block_25 : pr_Arc_block[25]? = some (51, 1, .aload_n 0, []) := rfl
theorem pa_Arc_block_26 : pr_Arc_block[26]? = some (52, 3, .getfield 62, [6, 9, 2, 0, 231]) := rfl
theorem pa_Arc_block_27 : pr_Arc_block[27]? = some (55, 3, .getfield 148, [5, 10, 2, 1, 14]) := rfl
theorem pa_Arc_block_28 : pr_Arc_block[28]? = some (58, 1, .iload_n 1, []) := rfl
theorem pa_Arc_block_29 : pr_Arc_block[29]? = some (59, 1, .iaload, []) := rfl
theorem pa_Arc_block_30 : pr_Arc_block[30]? = some (60, 1, .ireturn, [0]) := rfl
def me_Law_out : ma_M := (⟨"StrandArchiveLaw", "out", "(LStrandArchive;I[J)I"⟩, method_3_code, 4, some (.int), 4, 1, 6)
def pr_Law_out : List ma_E := [(0, 1, .aload_n 2, []),
  (1, 1, .iconst 0, [0, 0]),
  (2, 1, .aload_n 0, []),
  (3, 1, .iload_n 1, []),
  (4, 3, .invokevirtual 7, []),
  (7, 1, .i2l, []),
  (8, 1, .lastore, []),
  (9, 3, .goto (6), [11]),
  (12, 1, .astore_n 3, []),
  (13, 1, .iconst 1, [1, 0]),
  (14, 1, .ireturn, [0]),
  (15, 1, .iconst 0, [0, 0]),
  (16, 1, .ireturn, [0])]
def hs_Law_out : List Nat := [4]
theorem po_Law_out : ma_okH me_Law_out pr_Law_out hs_Law_out := ma_okH_of (by decide +kernel)
theorem pa_Law_out_0 : pr_Law_out[0]? = some (0, 1, .aload_n 2, []) := rfl
theorem pa_Law_out_1 : pr_Law_out[1]? = some (1, 1, .iconst 0, [0, 0]) := rfl
theorem pa_Law_out_2 : pr_Law_out[2]? = some (2, 1, .aload_n 0, []) := rfl
theorem pa_Law_out_3 : pr_Law_out[3]? = some (3, 1, .iload_n 1, []) := rfl
theorem pa_Law_out_4 : pr_Law_out[4]? = some (4, 3, .invokevirtual 7, []) := rfl
theorem pa_Law_out_5 : pr_Law_out[5]? = some (7, 1, .i2l, []) := rfl
theorem pa_Law_out_6 : pr_Law_out[6]? = some (8, 1, .lastore, []) := rfl
theorem pa_Law_out_7 : pr_Law_out[7]? = some (9, 3, .goto (6), [11]) := rfl
theorem pa_Law_out_8 : pr_Law_out[8]? = some (12, 1, .astore_n 3, []) := rfl
theorem pa_Law_out_9 : pr_Law_out[9]? = some (13, 1, .iconst 1, [1, 0]) := rfl
theorem pa_Law_out_10 : pr_Law_out[10]? = some (14, 1, .ireturn, [0]) := rfl
theorem pa_Law_out_11 : pr_Law_out[11]? = some (15, 1, .iconst 0, [0, 0]) := rfl
theorem pa_Law_out_12 : pr_Law_out[12]? = some (16, 1, .ireturn, [0]) := rfl
def me_Law_block : ma_M := (⟨"StrandArchiveLaw", "block", "(LStrandArchive;II[J)I"⟩, method_4_code, 5, some (.int), 4, 1, 6)
def pr_Law_block : List ma_E := [(0, 1, .aload_n 3, []),
  (1, 1, .iconst 0, [0, 0]),
  (2, 1, .aload_n 0, []),
  (3, 1, .iload_n 1, []),
  (4, 1, .iload_n 2, []),
  (5, 3, .invokevirtual 15, []),
  (8, 1, .i2l, []),
  (9, 1, .lastore, []),
  (10, 3, .goto (7), [12]),
  (13, 2, .astore 4, []),
  (15, 1, .iconst 1, [1, 0]),
  (16, 1, .ireturn, [0]),
  (17, 1, .iconst 0, [0, 0]),
  (18, 1, .ireturn, [0])]
def hs_Law_block : List Nat := [5]
theorem po_Law_block : ma_okH me_Law_block pr_Law_block hs_Law_block := ma_okH_of (by decide +kernel)
theorem pa_Law_block_0 : pr_Law_block[0]? = some (0, 1, .aload_n 3, []) := rfl
theorem pa_Law_block_1 : pr_Law_block[1]? = some (1, 1, .iconst 0, [0, 0]) := rfl
theorem pa_Law_block_2 : pr_Law_block[2]? = some (2, 1, .aload_n 0, []) := rfl
theorem pa_Law_block_3 : pr_Law_block[3]? = some (3, 1, .iload_n 1, []) := rfl
theorem pa_Law_block_4 : pr_Law_block[4]? = some (4, 1, .iload_n 2, []) := rfl
theorem pa_Law_block_5 : pr_Law_block[5]? = some (5, 3, .invokevirtual 15, []) := rfl
theorem pa_Law_block_6 : pr_Law_block[6]? = some (8, 1, .i2l, []) := rfl
theorem pa_Law_block_7 : pr_Law_block[7]? = some (9, 1, .lastore, []) := rfl
theorem pa_Law_block_8 : pr_Law_block[8]? = some (10, 3, .goto (7), [12]) := rfl
theorem pa_Law_block_9 : pr_Law_block[9]? = some (13, 2, .astore 4, []) := rfl
theorem pa_Law_block_10 : pr_Law_block[10]? = some (15, 1, .iconst 1, [1, 0]) := rfl
theorem pa_Law_block_11 : pr_Law_block[11]? = some (16, 1, .ireturn, [0]) := rfl
theorem pa_Law_block_12 : pr_Law_block[12]? = some (17, 1, .iconst 0, [0, 0]) := rfl
theorem pa_Law_block_13 : pr_Law_block[13]? = some (18, 1, .ireturn, [0]) := rfl
def pa_Arc_out := And.intro pa_Arc_out_0 (And.intro pa_Arc_out_1 (And.intro pa_Arc_out_2 (And.intro pa_Arc_out_3 (And.intro pa_Arc_out_4 (And.intro pa_Arc_out_5 (And.intro pa_Arc_out_6 (And.intro pa_Arc_out_7 (And.intro pa_Arc_out_8 (And.intro pa_Arc_out_9 (And.intro pa_Arc_out_10 (And.intro pa_Arc_out_11 (And.intro pa_Arc_out_12 (And.intro pa_Arc_out_13 (And.intro pa_Arc_out_14 (And.intro pa_Arc_out_15 (pa_Arc_out_16))))))))))))))))
def pa_Arc_block := And.intro pa_Arc_block_0 (And.intro pa_Arc_block_1 (And.intro pa_Arc_block_2 (And.intro pa_Arc_block_3 (And.intro pa_Arc_block_4 (And.intro pa_Arc_block_5 (And.intro pa_Arc_block_6 (And.intro pa_Arc_block_7 (And.intro pa_Arc_block_8 (And.intro pa_Arc_block_9 (And.intro pa_Arc_block_10 (And.intro pa_Arc_block_11 (And.intro pa_Arc_block_12 (And.intro pa_Arc_block_13 (And.intro pa_Arc_block_14 (And.intro pa_Arc_block_15 (And.intro pa_Arc_block_16 (And.intro pa_Arc_block_17 (And.intro pa_Arc_block_18 (And.intro pa_Arc_block_19 (And.intro pa_Arc_block_20 (And.intro pa_Arc_block_21 (And.intro pa_Arc_block_22 (And.intro pa_Arc_block_23 (And.intro pa_Arc_block_24 (And.intro pa_Arc_block_25 (And.intro pa_Arc_block_26 (And.intro pa_Arc_block_27 (And.intro pa_Arc_block_28 (And.intro pa_Arc_block_29 (pa_Arc_block_30))))))))))))))))))))))))))))))
def pa_Law_out := And.intro pa_Law_out_0 (And.intro pa_Law_out_1 (And.intro pa_Law_out_2 (And.intro pa_Law_out_3 (And.intro pa_Law_out_4 (And.intro pa_Law_out_5 (And.intro pa_Law_out_6 (And.intro pa_Law_out_7 (And.intro pa_Law_out_8 (And.intro pa_Law_out_9 (And.intro pa_Law_out_10 (And.intro pa_Law_out_11 (pa_Law_out_12))))))))))))
def pa_Law_block := And.intro pa_Law_block_0 (And.intro pa_Law_block_1 (And.intro pa_Law_block_2 (And.intro pa_Law_block_3 (And.intro pa_Law_block_4 (And.intro pa_Law_block_5 (And.intro pa_Law_block_6 (And.intro pa_Law_block_7 (And.intro pa_Law_block_8 (And.intro pa_Law_block_9 (And.intro pa_Law_block_10 (And.intro pa_Law_block_11 (And.intro pa_Law_block_12 (pa_Law_block_13)))))))))))))
set_option maxRecDepth 30000 in
theorem mc_Arc_out : Cond.code me_Arc_out.1 me_Arc_out.2.1 me_Arc_out.2.2.1 me_Arc_out.2.2.2.1 ∈ ma_wd := List.mem_filter.mpr ⟨List.mem_of_getElem? (i := 536) rfl, rfl⟩
set_option maxRecDepth 30000 in
theorem mc_Arc_block : Cond.code me_Arc_block.1 me_Arc_block.2.1 me_Arc_block.2.2.1 me_Arc_block.2.2.2.1 ∈ ma_wd := List.mem_filter.mpr ⟨List.mem_of_getElem? (i := 604) rfl, rfl⟩
abbrev cw_Law_out : Cond := Cond.codeWith me_Law_out.1 me_Law_out.2.1 me_Law_out.2.2.1 me_Law_out.2.2.2.1 [(0, 9, 12, 13)]
set_option maxRecDepth 30000 in
theorem mc_Law_out : cw_Law_out ∈ ma_wd := List.mem_filter.mpr ⟨List.mem_of_getElem? (i := 531) rfl, rfl⟩
abbrev cw_Law_block : Cond := Cond.codeWith me_Law_block.1 me_Law_block.2.1 me_Law_block.2.2.1 me_Law_block.2.2.2.1 [(0, 10, 13, 13)]
set_option maxRecDepth 30000 in
theorem mc_Law_block : cw_Law_block ∈ ma_wd := List.mem_filter.mpr ⟨List.mem_of_getElem? (i := 600) rfl, rfl⟩
