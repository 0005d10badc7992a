-- ===== PART A: goes FIRST, ahead of the names: the tables' words, and 'selects' of the private methods out of them =====
/-- a private method of a class that the tables say can be made, by its rows of tables_1 -/
def lw_okq (q : MethodName × Nat) : Prop := (q.1.cls ≠ "java/lang/invoke/MethodHandle" ∧ q.1.cls ≠ "java/lang/invoke/VarHandle") ∧ Cond.instantiable q.1.cls q.2 ∈ tables_1 ∧ Cond.privateMethod q.1 ∈ tables_1 ∧ Cond.instanceMethod q.1 ∈ tables_1
theorem lw_p0 : lw_okq (⟨"StrandArchive", "fillBlock", "(II)V"⟩, 10) := ⟨⟨by decide +kernel, by decide +kernel⟩, List.mem_of_getElem? (i := 18) (by decide +kernel), List.mem_of_getElem? (i := 229) (by decide +kernel), List.mem_of_getElem? (i := 230) (by decide +kernel)⟩
theorem lw_p1 : lw_okq (⟨"StrandArchive$Column", "countUnknown", "()I"⟩, 9) := ⟨⟨by decide +kernel, by decide +kernel⟩, List.mem_of_getElem? (i := 65) (by decide +kernel), List.mem_of_getElem? (i := 241) (by decide +kernel), List.mem_of_getElem? (i := 242) (by decide +kernel)⟩
theorem lw_p2 : lw_okq (⟨"StrandArchive$Column", "addUp", "()V"⟩, 9) := ⟨⟨by decide +kernel, by decide +kernel⟩, List.mem_of_getElem? (i := 65) (by decide +kernel), List.mem_of_getElem? (i := 245) (by decide +kernel), List.mem_of_getElem? (i := 246) (by decide +kernel)⟩
theorem lw_p3 : lw_okq (⟨"StrandArchive$Column", "siftOutUnknown", "(I)V"⟩, 9) := ⟨⟨by decide +kernel, by decide +kernel⟩, List.mem_of_getElem? (i := 65) (by decide +kernel), List.mem_of_getElem? (i := 257) (by decide +kernel), List.mem_of_getElem? (i := 258) (by decide +kernel)⟩
theorem lw_p4 : lw_okq (⟨"StrandArchive$Column", "spanUnknown", "(I)I"⟩, 9) := ⟨⟨by decide +kernel, by decide +kernel⟩, List.mem_of_getElem? (i := 65) (by decide +kernel), List.mem_of_getElem? (i := 261) (by decide +kernel), List.mem_of_getElem? (i := 262) (by decide +kernel)⟩
theorem lw_p5 : lw_okq (⟨"StrandArchive$Column", "weigh", "(II)I"⟩, 9) := ⟨⟨by decide +kernel, by decide +kernel⟩, List.mem_of_getElem? (i := 65) (by decide +kernel), List.mem_of_getElem? (i := 268) (by decide +kernel), List.mem_of_getElem? (i := 269) (by decide +kernel)⟩
theorem lw_p6 : lw_okq (⟨"StrandArchive$Column", "findRecurrence", "(I)I"⟩, 9) := ⟨⟨by decide +kernel, by decide +kernel⟩, List.mem_of_getElem? (i := 65) (by decide +kernel), List.mem_of_getElem? (i := 272) (by decide +kernel), List.mem_of_getElem? (i := 273) (by decide +kernel)⟩
theorem lw_p7 : lw_okq (⟨"StrandArchive$Column", "missAt", "(II)I"⟩, 9) := ⟨⟨by decide +kernel, by decide +kernel⟩, List.mem_of_getElem? (i := 65) (by decide +kernel), List.mem_of_getElem? (i := 276) (by decide +kernel), List.mem_of_getElem? (i := 277) (by decide +kernel)⟩
theorem lw_p8 : lw_okq (⟨"StrandArchive$Column", "markWrong", "(I)I"⟩, 9) := ⟨⟨by decide +kernel, by decide +kernel⟩, List.mem_of_getElem? (i := 65) (by decide +kernel), List.mem_of_getElem? (i := 287) (by decide +kernel), List.mem_of_getElem? (i := 288) (by decide +kernel)⟩
theorem lw_p9 : lw_okq (⟨"StrandArchive$Column", "recurrenceAt", "(II)I"⟩, 9) := ⟨⟨by decide +kernel, by decide +kernel⟩, List.mem_of_getElem? (i := 65) (by decide +kernel), List.mem_of_getElem? (i := 291) (by decide +kernel), List.mem_of_getElem? (i := 292) (by decide +kernel)⟩
theorem lw_p10 : lw_okq (⟨"StrandArchive$Column", "fillUnknown", "()V"⟩, 9) := ⟨⟨by decide +kernel, by decide +kernel⟩, List.mem_of_getElem? (i := 65) (by decide +kernel), List.mem_of_getElem? (i := 295) (by decide +kernel), List.mem_of_getElem? (i := 296) (by decide +kernel)⟩
theorem lw_p11 : lw_okq (⟨"StrandArchive$Column", "polynomialAt", "(II)I"⟩, 9) := ⟨⟨by decide +kernel, by decide +kernel⟩, List.mem_of_getElem? (i := 65) (by decide +kernel), List.mem_of_getElem? (i := 299) (by decide +kernel), List.mem_of_getElem? (i := 300) (by decide +kernel)⟩
theorem lw_p12 : lw_okq (⟨"StrandArchive", "spellStrand", "(II)V"⟩, 10) := ⟨⟨by decide +kernel, by decide +kernel⟩, List.mem_of_getElem? (i := 18) (by decide +kernel), List.mem_of_getElem? (i := 303) (by decide +kernel), List.mem_of_getElem? (i := 304) (by decide +kernel)⟩
theorem lw_p13 : lw_okq (⟨"StrandArchive$Body", "ahead", "(I)I"⟩, 3) := ⟨⟨by decide +kernel, by decide +kernel⟩, List.mem_of_getElem? (i := 102) (by decide +kernel), List.mem_of_getElem? (i := 312) (by decide +kernel), List.mem_of_getElem? (i := 313) (by decide +kernel)⟩
theorem lw_p14 : lw_okq (⟨"StrandArchive$Body", "rise", "(I)I"⟩, 3) := ⟨⟨by decide +kernel, by decide +kernel⟩, List.mem_of_getElem? (i := 102) (by decide +kernel), List.mem_of_getElem? (i := 320) (by decide +kernel), List.mem_of_getElem? (i := 321) (by decide +kernel)⟩
theorem lw_p15 : lw_okq (⟨"StrandArchive", "isWritten", "(I)Z"⟩, 10) := ⟨⟨by decide +kernel, by decide +kernel⟩, List.mem_of_getElem? (i := 18) (by decide +kernel), List.mem_of_getElem? (i := 347) (by decide +kernel), List.mem_of_getElem? (i := 348) (by decide +kernel)⟩
def lw_privs_1 : List (MethodName × Nat) := [(⟨"StrandArchive", "fillBlock", "(II)V"⟩, 10), (⟨"StrandArchive$Column", "countUnknown", "()I"⟩, 9), (⟨"StrandArchive$Column", "addUp", "()V"⟩, 9), (⟨"StrandArchive$Column", "siftOutUnknown", "(I)V"⟩, 9), (⟨"StrandArchive$Column", "spanUnknown", "(I)I"⟩, 9), (⟨"StrandArchive$Column", "weigh", "(II)I"⟩, 9), (⟨"StrandArchive$Column", "findRecurrence", "(I)I"⟩, 9), (⟨"StrandArchive$Column", "missAt", "(II)I"⟩, 9), (⟨"StrandArchive$Column", "markWrong", "(I)I"⟩, 9), (⟨"StrandArchive$Column", "recurrenceAt", "(II)I"⟩, 9), (⟨"StrandArchive$Column", "fillUnknown", "()V"⟩, 9), (⟨"StrandArchive$Column", "polynomialAt", "(II)I"⟩, 9), (⟨"StrandArchive", "spellStrand", "(II)V"⟩, 10), (⟨"StrandArchive$Body", "ahead", "(I)I"⟩, 3), (⟨"StrandArchive$Body", "rise", "(I)I"⟩, 3), (⟨"StrandArchive", "isWritten", "(I)Z"⟩, 10)]
theorem lw_r1 : ∀ q ∈ lw_privs_1, lw_okq q := List.forall_mem_cons.mpr ⟨lw_p0, List.forall_mem_cons.mpr ⟨lw_p1, List.forall_mem_cons.mpr ⟨lw_p2, List.forall_mem_cons.mpr ⟨lw_p3, List.forall_mem_cons.mpr ⟨lw_p4, List.forall_mem_cons.mpr ⟨lw_p5, List.forall_mem_cons.mpr ⟨lw_p6, List.forall_mem_cons.mpr ⟨lw_p7, List.forall_mem_cons.mpr ⟨lw_p8, List.forall_mem_cons.mpr ⟨lw_p9, List.forall_mem_cons.mpr ⟨lw_p10, List.forall_mem_cons.mpr ⟨lw_p11, List.forall_mem_cons.mpr ⟨lw_p12, List.forall_mem_cons.mpr ⟨lw_p13, List.forall_mem_cons.mpr ⟨lw_p14, List.forall_mem_cons.mpr ⟨lw_p15, fun _ h => absurd h List.not_mem_nil⟩⟩⟩⟩⟩⟩⟩⟩⟩⟩⟩⟩⟩⟩⟩⟩
theorem lw_p16 : lw_okq (⟨"StrandArchive", "isFull", "()Z"⟩, 10) := ⟨⟨by decide +kernel, by decide +kernel⟩, List.mem_of_getElem? (i := 18) (by decide +kernel), List.mem_of_getElem? (i := 364) (by decide +kernel), List.mem_of_getElem? (i := 365) (by decide +kernel)⟩
theorem lw_p17 : lw_okq (⟨"StrandArchive", "nextRead", "()LStrandArchive$Row;"⟩, 10) := ⟨⟨by decide +kernel, by decide +kernel⟩, List.mem_of_getElem? (i := 18) (by decide +kernel), List.mem_of_getElem? (i := 368) (by decide +kernel), List.mem_of_getElem? (i := 369) (by decide +kernel)⟩
theorem lw_p18 : lw_okq (⟨"StrandArchive$Reader", "takeTail", "(LStrandArchive$Row;)Z"⟩, 3) := ⟨⟨by decide +kernel, by decide +kernel⟩, List.mem_of_getElem? (i := 125) (by decide +kernel), List.mem_of_getElem? (i := 418) (by decide +kernel), List.mem_of_getElem? (i := 419) (by decide +kernel)⟩
theorem lw_p19 : lw_okq (⟨"StrandArchive$Reader", "restoreCut", "(LStrandArchive$Row;)Z"⟩, 3) := ⟨⟨by decide +kernel, by decide +kernel⟩, List.mem_of_getElem? (i := 125) (by decide +kernel), List.mem_of_getElem? (i := 426) (by decide +kernel), List.mem_of_getElem? (i := 427) (by decide +kernel)⟩
theorem lw_p20 : lw_okq (⟨"StrandArchive$Reader", "isDue", "()Z"⟩, 3) := ⟨⟨by decide +kernel, by decide +kernel⟩, List.mem_of_getElem? (i := 125) (by decide +kernel), List.mem_of_getElem? (i := 434) (by decide +kernel), List.mem_of_getElem? (i := 435) (by decide +kernel)⟩
theorem lw_p21 : lw_okq (⟨"StrandArchive$Reader", "restoreWhole", "(LStrandArchive$Row;)Z"⟩, 3) := ⟨⟨by decide +kernel, by decide +kernel⟩, List.mem_of_getElem? (i := 125) (by decide +kernel), List.mem_of_getElem? (i := 440) (by decide +kernel), List.mem_of_getElem? (i := 441) (by decide +kernel)⟩
theorem lw_p22 : lw_okq (⟨"StrandArchive$Reader", "restoreGrown", "(LStrandArchive$Row;)Z"⟩, 3) := ⟨⟨by decide +kernel, by decide +kernel⟩, List.mem_of_getElem? (i := 125) (by decide +kernel), List.mem_of_getElem? (i := 444) (by decide +kernel), List.mem_of_getElem? (i := 445) (by decide +kernel)⟩
theorem lw_p23 : lw_okq (⟨"StrandArchive$Decoding", "slotOf", "(I)I"⟩, 11) := ⟨⟨by decide +kernel, by decide +kernel⟩, List.mem_of_getElem? (i := 119) (by decide +kernel), List.mem_of_getElem? (i := 453) (by decide +kernel), List.mem_of_getElem? (i := 454) (by decide +kernel)⟩
theorem lw_p24 : lw_okq (⟨"StrandArchive$Decoding", "settleSlots", "(I)V"⟩, 11) := ⟨⟨by decide +kernel, by decide +kernel⟩, List.mem_of_getElem? (i := 119) (by decide +kernel), List.mem_of_getElem? (i := 462) (by decide +kernel), List.mem_of_getElem? (i := 463) (by decide +kernel)⟩
theorem lw_p25 : lw_okq (⟨"StrandArchive$Decoding", "mendColumn", "(II)Z"⟩, 11) := ⟨⟨by decide +kernel, by decide +kernel⟩, List.mem_of_getElem? (i := 119) (by decide +kernel), List.mem_of_getElem? (i := 466) (by decide +kernel), List.mem_of_getElem? (i := 467) (by decide +kernel)⟩
theorem lw_p26 : lw_okq (⟨"StrandArchive$Decoding", "loseBlock", "(I)V"⟩, 11) := ⟨⟨by decide +kernel, by decide +kernel⟩, List.mem_of_getElem? (i := 119) (by decide +kernel), List.mem_of_getElem? (i := 472) (by decide +kernel), List.mem_of_getElem? (i := 473) (by decide +kernel)⟩
theorem lw_p27 : lw_okq (⟨"java/lang/Throwable", "fillInStackTrace", "(I)Ljava/lang/Throwable;"⟩, 6) := ⟨⟨by decide +kernel, by decide +kernel⟩, List.mem_of_getElem? (i := 535) (by decide +kernel), List.mem_of_getElem? (i := 533) (by decide +kernel), List.mem_of_getElem? (i := 534) (by decide +kernel)⟩
theorem lw_p28 : lw_okq (⟨"StrandArchiveModel", "solved", "(I)Z"⟩, 22) := ⟨⟨by decide +kernel, by decide +kernel⟩, List.mem_of_getElem? (i := 567) (by decide +kernel), List.mem_of_getElem? (i := 669) (by decide +kernel), List.mem_of_getElem? (i := 670) (by decide +kernel)⟩
theorem lw_p29 : lw_okq (⟨"StrandArchiveModel", "lay", "(III)V"⟩, 22) := ⟨⟨by decide +kernel, by decide +kernel⟩, List.mem_of_getElem? (i := 567) (by decide +kernel), List.mem_of_getElem? (i := 673) (by decide +kernel), List.mem_of_getElem? (i := 674) (by decide +kernel)⟩
theorem lw_p30 : lw_okq (⟨"StrandArchiveModel", "signature", "()I"⟩, 22) := ⟨⟨by decide +kernel, by decide +kernel⟩, List.mem_of_getElem? (i := 567) (by decide +kernel), List.mem_of_getElem? (i := 678) (by decide +kernel), List.mem_of_getElem? (i := 679) (by decide +kernel)⟩
theorem lw_p31 : lw_okq (⟨"StrandArchiveModel", "sum", "()I"⟩, 22) := ⟨⟨by decide +kernel, by decide +kernel⟩, List.mem_of_getElem? (i := 567) (by decide +kernel), List.mem_of_getElem? (i := 682) (by decide +kernel), List.mem_of_getElem? (i := 683) (by decide +kernel)⟩
def lw_privs_2 : List (MethodName × Nat) := [(⟨"StrandArchive", "isFull", "()Z"⟩, 10), (⟨"StrandArchive", "nextRead", "()LStrandArchive$Row;"⟩, 10), (⟨"StrandArchive$Reader", "takeTail", "(LStrandArchive$Row;)Z"⟩, 3), (⟨"StrandArchive$Reader", "restoreCut", "(LStrandArchive$Row;)Z"⟩, 3), (⟨"StrandArchive$Reader", "isDue", "()Z"⟩, 3), (⟨"StrandArchive$Reader", "restoreWhole", "(LStrandArchive$Row;)Z"⟩, 3), (⟨"StrandArchive$Reader", "restoreGrown", "(LStrandArchive$Row;)Z"⟩, 3), (⟨"StrandArchive$Decoding", "slotOf", "(I)I"⟩, 11), (⟨"StrandArchive$Decoding", "settleSlots", "(I)V"⟩, 11), (⟨"StrandArchive$Decoding", "mendColumn", "(II)Z"⟩, 11), (⟨"StrandArchive$Decoding", "loseBlock", "(I)V"⟩, 11), (⟨"java/lang/Throwable", "fillInStackTrace", "(I)Ljava/lang/Throwable;"⟩, 6), (⟨"StrandArchiveModel", "solved", "(I)Z"⟩, 22), (⟨"StrandArchiveModel", "lay", "(III)V"⟩, 22), (⟨"StrandArchiveModel", "signature", "()I"⟩, 22), (⟨"StrandArchiveModel", "sum", "()I"⟩, 22)]
theorem lw_r2 : ∀ q ∈ lw_privs_2, lw_okq q := List.forall_mem_cons.mpr ⟨lw_p16, List.forall_mem_cons.mpr ⟨lw_p17, List.forall_mem_cons.mpr ⟨lw_p18, List.forall_mem_cons.mpr ⟨lw_p19, List.forall_mem_cons.mpr ⟨lw_p20, List.forall_mem_cons.mpr ⟨lw_p21, List.forall_mem_cons.mpr ⟨lw_p22, List.forall_mem_cons.mpr ⟨lw_p23, List.forall_mem_cons.mpr ⟨lw_p24, List.forall_mem_cons.mpr ⟨lw_p25, List.forall_mem_cons.mpr ⟨lw_p26, List.forall_mem_cons.mpr ⟨lw_p27, List.forall_mem_cons.mpr ⟨lw_p28, List.forall_mem_cons.mpr ⟨lw_p29, List.forall_mem_cons.mpr ⟨lw_p30, List.forall_mem_cons.mpr ⟨lw_p31, fun _ h => absurd h List.not_mem_nil⟩⟩⟩⟩⟩⟩⟩⟩⟩⟩⟩⟩⟩⟩⟩⟩
theorem lw_p32 : lw_okq (⟨"StrandArchiveModel", "come", "(IIII)Z"⟩, 22) := ⟨⟨by decide +kernel, by decide +kernel⟩, List.mem_of_getElem? (i := 567) (by decide +kernel), List.mem_of_getElem? (i := 698) (by decide +kernel), List.mem_of_getElem? (i := 699) (by decide +kernel)⟩
theorem lw_p33 : lw_okq (⟨"StrandArchiveModel", "isFound", "(I)Z"⟩, 22) := ⟨⟨by decide +kernel, by decide +kernel⟩, List.mem_of_getElem? (i := 567) (by decide +kernel), List.mem_of_getElem? (i := 731) (by decide +kernel), List.mem_of_getElem? (i := 732) (by decide +kernel)⟩
theorem lw_p34 : lw_okq (⟨"StrandArchiveModel", "most", "(I)I"⟩, 22) := ⟨⟨by decide +kernel, by decide +kernel⟩, List.mem_of_getElem? (i := 567) (by decide +kernel), List.mem_of_getElem? (i := 735) (by decide +kernel), List.mem_of_getElem? (i := 736) (by decide +kernel)⟩
theorem lw_p35 : lw_okq (⟨"StrandArchiveModel", "slot", "(I)I"⟩, 22) := ⟨⟨by decide +kernel, by decide +kernel⟩, List.mem_of_getElem? (i := 567) (by decide +kernel), List.mem_of_getElem? (i := 739) (by decide +kernel), List.mem_of_getElem? (i := 740) (by decide +kernel)⟩
theorem lw_p36 : lw_okq (⟨"StrandArchiveModel", "group", "(I)I"⟩, 22) := ⟨⟨by decide +kernel, by decide +kernel⟩, List.mem_of_getElem? (i := 567) (by decide +kernel), List.mem_of_getElem? (i := 743) (by decide +kernel), List.mem_of_getElem? (i := 744) (by decide +kernel)⟩
theorem lw_p37 : lw_okq (⟨"StrandArchiveModel", "isMended", "(I)Z"⟩, 22) := ⟨⟨by decide +kernel, by decide +kernel⟩, List.mem_of_getElem? (i := 567) (by decide +kernel), List.mem_of_getElem? (i := 748) (by decide +kernel), List.mem_of_getElem? (i := 749) (by decide +kernel)⟩
theorem lw_p38 : lw_okq (⟨"StrandArchiveModel", "isColumn", "(II)Z"⟩, 22) := ⟨⟨by decide +kernel, by decide +kernel⟩, List.mem_of_getElem? (i := 567) (by decide +kernel), List.mem_of_getElem? (i := 752) (by decide +kernel), List.mem_of_getElem? (i := 753) (by decide +kernel)⟩
def lw_privs_3 : List (MethodName × Nat) := [(⟨"StrandArchiveModel", "come", "(IIII)Z"⟩, 22), (⟨"StrandArchiveModel", "isFound", "(I)Z"⟩, 22), (⟨"StrandArchiveModel", "most", "(I)I"⟩, 22), (⟨"StrandArchiveModel", "slot", "(I)I"⟩, 22), (⟨"StrandArchiveModel", "group", "(I)I"⟩, 22), (⟨"StrandArchiveModel", "isMended", "(I)Z"⟩, 22), (⟨"StrandArchiveModel", "isColumn", "(II)Z"⟩, 22)]
theorem lw_r3 : ∀ q ∈ lw_privs_3, lw_okq q := List.forall_mem_cons.mpr ⟨lw_p32, List.forall_mem_cons.mpr ⟨lw_p33, List.forall_mem_cons.mpr ⟨lw_p34, List.forall_mem_cons.mpr ⟨lw_p35, List.forall_mem_cons.mpr ⟨lw_p36, List.forall_mem_cons.mpr ⟨lw_p37, List.forall_mem_cons.mpr ⟨lw_p38, fun _ h => absurd h List.not_mem_nil⟩⟩⟩⟩⟩⟩⟩
def lw_privs : List (MethodName × Nat) := lw_privs_1 ++ (lw_privs_2 ++ (lw_privs_3))
def lw_tbl : List Cond := k2_sels lw_privs ++ tables_1
theorem lw_privs_ok : ∀ q ∈ lw_privs, lw_okq q := by
  show ∀ q ∈ lw_privs_1 ++ (lw_privs_2 ++ (lw_privs_3)), lw_okq q
  exact List.forall_mem_append.mpr ⟨lw_r1, List.forall_mem_append.mpr ⟨lw_r2, lw_r3⟩⟩

/-! the words that the methods rest on: those of the tables that stay; the classes; the methods -/
def ma_wd : List Cond := lw_tbl.filter goodWord
theorem ma_wdin : ∀ w ∈ ma_wd, w ∈ lw_tbl := fun _ h => (List.mem_filter.mp h).1
theorem ma_wdok : ma_wd.all goodWord = true := List.all_eq_true.mpr (fun _ h => (List.mem_filter.mp h).2)
/-- the word i of the tables is w, and it stays -/
def ma_has (i : Nat) (w : Cond) : Bool := goodWord w && decide (lw_tbl[i]? = some w)
theorem ma_has_in {i : Nat} {w : Cond} (h : ma_has i w = true) : w ∈ ma_wd := by
  simp only [ma_has, Bool.and_eq_true, decide_eq_true_eq] at h
  exact List.mem_filter.mpr ⟨List.mem_of_getElem? h.2, h.1⟩
abbrev ma_row : String := "StrandArchive$Row"
abbrev ma_rowi : Nat := 0
def ma_T0 : u_T := fun k => match k with
  | 0 => ("StrandArchive$Row", "low", "J", false)
  | 1 => ("StrandArchive$Row", "high", "J", false)
  | _ => ("StrandArchive$Row", "length", "I", false)
def ma_T1 : u_T := fun k => match k with
  | 0 => ("StrandArchive$Field", "powers", "[I", true)
  | _ => ("StrandArchive$Field", "logs", "[I", true)
def ma_T2 : u_T := fun k => match k with
  | 0 => ("StrandArchive$Body", "letters", "[I", true)
  | 1 => ("StrandArchive$Body", "letterSum", "I", false)
  | _ => ("StrandArchive$Body", "riseSum", "I", false)
def ma_T3 : u_T := fun k => match k with
  | 0 => ("StrandArchive$Reader", "body", "LStrandArchive$Body;", true)
  | 1 => ("StrandArchive$Reader", "sumDue", "I", false)
  | _ => ("StrandArchive$Reader", "signatureDue", "I", false)
def ma_T4 : u_T := fun k => match k with
  | 0 => ("StrandArchive$Column", "field", "LStrandArchive$Field;", true)
  | 1 => ("StrandArchive$Column", "values", "[I", true)
  | 2 => ("StrandArchive$Column", "unknown", "[Z", true)
  | 3 => ("StrandArchive$Column", "sums", "[I", true)
  | 4 => ("StrandArchive$Column", "sifted", "[I", true)
  | 5 => ("StrandArchive$Column", "polynomial", "[I", true)
  | 6 => ("StrandArchive$Column", "recurrence", "[I", true)
  | 7 => ("StrandArchive$Column", "earlier", "[I", true)
  | _ => ("StrandArchive$Column", "kept", "[I", true)
def ma_T5 : u_T := fun k => match k with
  | 0 => ("StrandArchive$Decoding", "column", "LStrandArchive$Column;", true)
  | 1 => ("StrandArchive$Decoding", "reader", "LStrandArchive$Reader;", true)
  | 2 => ("StrandArchive$Decoding", "claims", "[I", true)
  | 3 => ("StrandArchive$Decoding", "said", "[I", true)
  | 4 => ("StrandArchive$Decoding", "touched", "I", false)
  | 5 => ("StrandArchive$Decoding", "size", "I", false)
  | 6 => ("StrandArchive$Decoding", "fixed", "I", false)
  | 7 => ("StrandArchive$Decoding", "dropped", "I", false)
  | 8 => ("StrandArchive$Decoding", "bytes", "[I", true)
  | 9 => ("StrandArchive$Decoding", "erased", "[I", true)
  | _ => ("StrandArchive$Decoding", "changed", "[I", true)
def ma_T6 : u_T := fun k => match k with
  | 0 => ("StrandArchive", "bytes", "[I", true)
  | 1 => ("StrandArchive", "strands", "[LStrandArchive$Row;", true)
  | 2 => ("StrandArchive", "strandsWritten", "I", false)
  | 3 => ("StrandArchive", "reads", "[LStrandArchive$Row;", true)
  | 4 => ("StrandArchive", "readsHeld", "I", false)
  | 5 => ("StrandArchive", "field", "LStrandArchive$Field;", true)
  | 6 => ("StrandArchive", "column", "LStrandArchive$Column;", true)
  | 7 => ("StrandArchive", "blockBytes", "[I", true)
  | 8 => ("StrandArchive", "body", "LStrandArchive$Body;", true)
  | _ => ("StrandArchive", "latest", "LStrandArchive$Decoding;", true)
def ma_T7 : u_T := fun k => match k with
  | 0 => ("StrandArchiveModel", "thrown", "I", false)
  | 1 => ("StrandArchiveModel", "data", "[I", true)
  | 2 => ("StrandArchiveModel", "written", "I", false)
  | 3 => ("StrandArchiveModel", "strands", "[B", true)
  | 4 => ("StrandArchiveModel", "reads", "I", false)
  | 5 => ("StrandArchiveModel", "heap", "[B", true)
  | 6 => ("StrandArchiveModel", "size", "[I", true)
  | 7 => ("StrandArchiveModel", "decoded", "I", false)
  | 8 => ("StrandArchiveModel", "fixed", "I", false)
  | 9 => ("StrandArchiveModel", "dropped", "I", false)
  | 10 => ("StrandArchiveModel", "result", "[I", true)
  | 11 => ("StrandArchiveModel", "erased", "[I", true)
  | 12 => ("StrandArchiveModel", "changed", "[I", true)
  | 13 => ("StrandArchiveModel", "word", "[I", true)
  | 14 => ("StrandArchiveModel", "row", "[I", true)
  | 15 => ("StrandArchiveModel", "says", "[I", true)
  | 16 => ("StrandArchiveModel", "cells", "[I", true)
  | 17 => ("StrandArchiveModel", "column", "[I", true)
  | 18 => ("StrandArchiveModel", "system", "[I", true)
  | 19 => ("StrandArchiveModel", "places", "[I", true)
  | 20 => ("StrandArchiveModel", "powers", "[I", true)
  | _ => ("StrandArchiveModel", "inverses", "[I", true)
def ma_cl : List vw_C := [("StrandArchive$Row", ma_T0, 3), ("StrandArchive$Field", ma_T1, 2), ("StrandArchive$Body", ma_T2, 3), ("StrandArchive$Reader", ma_T3, 3), ("StrandArchive$Column", ma_T4, 9), ("StrandArchive$Decoding", ma_T5, 11), ("StrandArchive", ma_T6, 10), ("StrandArchiveModel", ma_T7, 22)]
def ma_ty : Nat → List FieldType
  | 0 => [.long, .long, .int]
  | 1 => [.array (.int), .array (.int)]
  | 2 => [.array (.int), .int, .int]
  | 3 => [.object "StrandArchive$Body", .int, .int]
  | 4 => [.object "StrandArchive$Field", .array (.int), .array (.boolean), .array (.int), .array (.int), .array (.int), .array (.int), .array (.int), .array (.int)]
  | 5 => [.object "StrandArchive$Column", .object "StrandArchive$Reader", .array (.int), .array (.int), .int, .int, .int, .int, .array (.int), .array (.int), .array (.int)]
  | 6 => [.array (.int), .array (.object "StrandArchive$Row"), .int, .array (.object "StrandArchive$Row"), .int, .object "StrandArchive$Field", .object "StrandArchive$Column", .array (.int), .object "StrandArchive$Body", .object "StrandArchive$Decoding"]
  | 7 => [.int, .array (.int), .int, .array (.byte), .int, .array (.byte), .array (.int), .int, .int, .int, .array (.int), .array (.int), .array (.int), .array (.int), .array (.int), .array (.int), .array (.int), .array (.int), .array (.int), .array (.int), .array (.int), .array (.int)]
  | _ => []
abbrev ma_rowc : vw_C := (ma_row, ma_T0, 3)
theorem ma_rowok : ma_cl[ma_rowi]? = some ma_rowc := rfl
def ma_nf : List (String × Nat × String × String × String × String) := [("StrandArchive", 97, "StrandArchive$Row", "low", "J", "StrandArchive"), ("StrandArchive", 101, "StrandArchive$Row", "high", "J", "StrandArchive"), ("StrandArchive$Reader", 25, "StrandArchive$Row", "length", "I", "StrandArchive"), ("StrandArchive$Decoding", 74, "StrandArchive$Row", "length", "I", "StrandArchive"), ("StrandArchive", 104, "StrandArchive$Row", "length", "I", "StrandArchive"), ("StrandArchive$Decoding", 108, "StrandArchive$Column", "values", "[I", "StrandArchive"), ("StrandArchive", 163, "StrandArchive$Column", "values", "[I", "StrandArchive"), ("StrandArchive", 169, "StrandArchive$Body", "letters", "[I", "StrandArchive"), ("StrandArchive$Decoding", 61, "StrandArchive$Reader", "body", "LStrandArchive$Body;", "StrandArchive"), ("StrandArchive", 132, "StrandArchive$Decoding", "size", "I", "StrandArchive"), ("StrandArchive", 139, "StrandArchive$Decoding", "fixed", "I", "StrandArchive"), ("StrandArchive", 142, "StrandArchive$Decoding", "dropped", "I", "StrandArchive"), ("StrandArchive", 138, "StrandArchive$Decoding", "bytes", "[I", "StrandArchive"), ("StrandArchive", 145, "StrandArchive$Decoding", "erased", "[I", "StrandArchive"), ("StrandArchive", 148, "StrandArchive$Decoding", "changed", "[I", "StrandArchive")]
def ma_nfi : List Nat := [75, 77, 79, 80, 81, 111, 112, 147, 172, 188, 190, 192, 194, 196, 198]
def ma_nmi : List Nat := [70, 165, 495]
def ma_nm : List (String × Nat × MethodName × String) := [("StrandArchive", 155, ⟨"StrandArchive$Row", "<init>", "()V"⟩, "StrandArchive"), ("StrandArchive$Decoding", 11, ⟨"StrandArchive$Reader", "<init>", "()V"⟩, "StrandArchive"), ("StrandArchive$Decoding", 95, ⟨"StrandArchive", "blocksOf", "(I)I"⟩, "StrandArchive")]
/-! the methods: (name, code, locals, return type, depth, cells, slots) -/
def me_Row_append : MethodName × ByteArray × Nat × Option FieldType × Nat × Nat × Nat := (⟨"StrandArchive$Row", "append", "(I)V"⟩, prog_7_method_4_code, 2, none, 0, 0, 0)
def me_Row_at : MethodName × ByteArray × Nat × Option FieldType × Nat × Nat × Nat := (⟨"StrandArchive$Row", "at", "(I)I"⟩, prog_7_method_3_code, 4, some (.int), 0, 0, 0)
def me_Row_become : MethodName × ByteArray × Nat × Option FieldType × Nat × Nat × Nat := (⟨"StrandArchive$Row", "become", "(JJI)V"⟩, prog_7_method_2_code, 6, none, 0, 0, 0)
def me_Fld_over : MethodName × ByteArray × Nat × Option FieldType × Nat × Nat × Nat := (⟨"StrandArchive$Field", "over", "(II)I"⟩, prog_5_method_4_code, 3, some (.int), 0, 0, 0)
def me_Fld_powerOfTwo : MethodName × ByteArray × Nat × Option FieldType × Nat × Nat × Nat := (⟨"StrandArchive$Field", "powerOfTwo", "(I)I"⟩, prog_5_method_2_code, 2, some (.int), 0, 0, 0)
def me_Fld_times : MethodName × ByteArray × Nat × Option FieldType × Nat × Nat × Nat := (⟨"StrandArchive$Field", "times", "(II)I"⟩, prog_5_method_3_code, 3, some (.int), 0, 0, 0)
def me_Bod_ahead : MethodName × ByteArray × Nat × Option FieldType × Nat × Nat × Nat := (⟨"StrandArchive$Body", "ahead", "(I)I"⟩, prog_2_method_7_code, 2, some (.int), 0, 0, 0)
def me_Bod_rise : MethodName × ByteArray × Nat × Option FieldType × Nat × Nat × Nat := (⟨"StrandArchive$Body", "rise", "(I)I"⟩, prog_2_method_8_code, 2, some (.int), 0, 0, 0)
def me_Bod_signature : MethodName × ByteArray × Nat × Option FieldType × Nat × Nat × Nat := (⟨"StrandArchive$Body", "signature", "()I"⟩, prog_2_method_4_code, 1, some (.int), 0, 0, 0)
def me_Bod_sum : MethodName × ByteArray × Nat × Option FieldType × Nat × Nat × Nat := (⟨"StrandArchive$Body", "sum", "()I"⟩, prog_2_method_3_code, 1, some (.int), 0, 0, 0)
def me_Col_countUnknown : MethodName × ByteArray × Nat × Option FieldType × Nat × Nat × Nat := (⟨"StrandArchive$Column", "countUnknown", "()I"⟩, prog_3_method_4_code, 3, some (.int), 0, 0, 0)
def me_Col_set : MethodName × ByteArray × Nat × Option FieldType × Nat × Nat × Nat := (⟨"StrandArchive$Column", "set", "(IIZ)V"⟩, prog_3_method_2_code, 4, none, 0, 0, 0)
def me_Dec_loseBlock : MethodName × ByteArray × Nat × Option FieldType × Nat × Nat × Nat := (⟨"StrandArchive$Decoding", "loseBlock", "(I)V"⟩, prog_4_method_8_code, 3, none, 0, 0, 0)
def me_Dec_settleSlots : MethodName × ByteArray × Nat × Option FieldType × Nat × Nat × Nat := (⟨"StrandArchive$Decoding", "settleSlots", "(I)V"⟩, prog_4_method_6_code, 4, none, 0, 0, 0)
def me_Arc_blocksOf : MethodName × ByteArray × Nat × Option FieldType × Nat × Nat × Nat := (⟨"StrandArchive", "blocksOf", "(I)I"⟩, prog_1_method_19_code, 1, some (.int), 0, 0, 0)
def me_Arc_clear : MethodName × ByteArray × Nat × Option FieldType × Nat × Nat × Nat := (⟨"StrandArchive", "clear", "()V"⟩, prog_1_method_5_code, 1, none, 0, 0, 0)
def me_Arc_count : MethodName × ByteArray × Nat × Option FieldType × Nat × Nat × Nat := (⟨"StrandArchive", "count", "(I)I"⟩, prog_1_method_14_code, 2, some (.int), 0, 0, 0)
def me_Arc_heap : MethodName × ByteArray × Nat × Option FieldType × Nat × Nat × Nat := (⟨"StrandArchive", "heap", "()I"⟩, prog_1_method_11_code, 1, some (.int), 0, 0, 0)
def me_Arc_isFull : MethodName × ByteArray × Nat × Option FieldType × Nat × Nat × Nat := (⟨"StrandArchive", "isFull", "()Z"⟩, prog_1_method_21_code, 1, some (.boolean), 0, 0, 0)
def me_Arc_isSize : MethodName × ByteArray × Nat × Option FieldType × Nat × Nat × Nat := (⟨"StrandArchive", "isSize", "(I)Z"⟩, prog_1_method_18_code, 1, some (.boolean), 0, 0, 0)
def me_Arc_isWritten : MethodName × ByteArray × Nat × Option FieldType × Nat × Nat × Nat := (⟨"StrandArchive", "isWritten", "(I)Z"⟩, prog_1_method_20_code, 2, some (.boolean), 0, 0, 0)
def me_Arc_load : MethodName × ByteArray × Nat × Option FieldType × Nat × Nat × Nat := (⟨"StrandArchive", "load", "(II)Z"⟩, prog_1_method_2_code, 3, some (.boolean), 0, 0, 0)
def me_Arc_nextRead : MethodName × ByteArray × Nat × Option FieldType × Nat × Nat × Nat := (⟨"StrandArchive", "nextRead", "()LStrandArchive$Row;"⟩, prog_1_method_22_code, 1, some ((.object "StrandArchive$Row")), 0, 0, 0)
def me_Arc_shuffle : MethodName × ByteArray × Nat × Option FieldType × Nat × Nat × Nat := (⟨"StrandArchive", "shuffle", "(I)Z"⟩, prog_1_method_10_code, 6, some (.boolean), 0, 0, 0)
def me_Mod_clear : MethodName × ByteArray × Nat × Option FieldType × Nat × Nat × Nat := (⟨"StrandArchiveModel", "clear", "()V"⟩, prog_9_method_15_code, 1, none, 0, 0, 0)
def me_Mod_count : MethodName × ByteArray × Nat × Option FieldType × Nat × Nat × Nat := (⟨"StrandArchiveModel", "count", "(I)I"⟩, prog_9_method_32_code, 2, some (.int), 0, 0, 0)
def me_Mod_group : MethodName × ByteArray × Nat × Option FieldType × Nat × Nat × Nat := (⟨"StrandArchiveModel", "group", "(I)I"⟩, prog_9_method_25_code, 5, some (.int), 0, 0, 0)
def me_Mod_heap : MethodName × ByteArray × Nat × Option FieldType × Nat × Nat × Nat := (⟨"StrandArchiveModel", "heap", "()I"⟩, prog_9_method_22_code, 1, some (.int), 0, 0, 0)
def me_Mod_in : MethodName × ByteArray × Nat × Option FieldType × Nat × Nat × Nat := (⟨"StrandArchiveModel", "in", "(III)Z"⟩, prog_9_method_3_code, 3, some (.boolean), 0, 0, 0)
def me_Mod_most : MethodName × ByteArray × Nat × Option FieldType × Nat × Nat × Nat := (⟨"StrandArchiveModel", "most", "(I)I"⟩, prog_9_method_23_code, 5, some (.int), 0, 0, 0)
def me_Mod_ones : MethodName × ByteArray × Nat × Option FieldType × Nat × Nat × Nat := (⟨"StrandArchiveModel", "ones", "(I)I"⟩, prog_9_method_29_code, 3, some (.int), 0, 0, 0)
def me_Mod_shuffle : MethodName × ByteArray × Nat × Option FieldType × Nat × Nat × Nat := (⟨"StrandArchiveModel", "shuffle", "(I)Z"⟩, prog_9_method_21_code, 8, some (.boolean), 0, 0, 0)
def me_Mod_signature : MethodName × ByteArray × Nat × Option FieldType × Nat × Nat × Nat := (⟨"StrandArchiveModel", "signature", "()I"⟩, prog_9_method_12_code, 3, some (.int), 0, 0, 0)
def me_Mod_sum : MethodName × ByteArray × Nat × Option FieldType × Nat × Nat × Nat := (⟨"StrandArchiveModel", "sum", "()I"⟩, prog_9_method_11_code, 3, some (.int), 0, 0, 0)
def me_Mod_thrown : MethodName × ByteArray × Nat × Option FieldType × Nat × Nat × Nat := (⟨"StrandArchiveModel", "thrown", "()I"⟩, prog_9_method_2_code, 1, some (.int), 0, 0, 0)
def me_Mod_times : MethodName × ByteArray × Nat × Option FieldType × Nat × Nat × Nat := (⟨"StrandArchiveModel", "times", "(II)I"⟩, prog_9_method_4_code, 5, some (.int), 0, 0, 0)
def me_Itg_bitCount : MethodName × ByteArray × Nat × Option FieldType × Nat × Nat × Nat := (⟨"java/lang/Integer", "bitCount", "(I)I"⟩, prog_11_method_49_code, 1, some (.int), 0, 0, 0)
def me_Arr_fill : MethodName × ByteArray × Nat × Option FieldType × Nat × Nat × Nat := (⟨"java/util/Arrays", "fill", "([II)V"⟩, prog_16_method_103_code, 4, none, 0, 0, 0)
def me_Mth_floorMod : MethodName × ByteArray × Nat × Option FieldType × Nat × Nat × Nat := (⟨"java/lang/Math", "floorMod", "(II)I"⟩, prog_12_method_50_code, 3, some (.int), 0, 0, 0)
def me_Row_init : MethodName × ByteArray × Nat × Option FieldType × Nat × Nat × Nat := (⟨"StrandArchive$Row", "<init>", "()V"⟩, prog_7_method_1_code, 1, none, 1, 0, 0)
def me_Row_appendPart : MethodName × ByteArray × Nat × Option FieldType × Nat × Nat × Nat := (⟨"StrandArchive$Row", "appendPart", "(LStrandArchive$Row;II)V"⟩, prog_7_method_5_code, 5, none, 1, 0, 0)
def me_Fld_init : MethodName × ByteArray × Nat × Option FieldType × Nat × Nat × Nat := (⟨"StrandArchive$Field", "<init>", "()V"⟩, prog_5_method_1_code, 3, none, 1, 2, 511)
def me_Bod_init : MethodName × ByteArray × Nat × Option FieldType × Nat × Nat × Nat := (⟨"StrandArchive$Body", "<init>", "()V"⟩, prog_2_method_1_code, 2, none, 1, 1, 33)
def me_Bod_put : MethodName × ByteArray × Nat × Option FieldType × Nat × Nat × Nat := (⟨"StrandArchive$Body", "put", "(II)V"⟩, prog_2_method_2_code, 3, none, 1, 0, 0)
def me_Bod_spelled : MethodName × ByteArray × Nat × Option FieldType × Nat × Nat × Nat := (⟨"StrandArchive$Body", "spelled", "(I)I"⟩, prog_2_method_6_code, 6, some (.int), 1, 0, 0)
def me_Rdr_isDue : MethodName × ByteArray × Nat × Option FieldType × Nat × Nat × Nat := (⟨"StrandArchive$Reader", "isDue", "()Z"⟩, prog_6_method_5_code, 1, some (.boolean), 1, 0, 0)
def me_Rdr_majority : MethodName × ByteArray × Nat × Option FieldType × Nat × Nat × Nat := (⟨"StrandArchive$Reader", "majority", "(LStrandArchive$Row;I)I"⟩, prog_6_method_4_code, 5, some (.int), 1, 0, 0)
def me_Col_init : MethodName × ByteArray × Nat × Option FieldType × Nat × Nat × Nat := (⟨"StrandArchive$Column", "<init>", "(LStrandArchive$Field;)V"⟩, prog_3_method_1_code, 2, none, 1, 8, 72)
def me_Col_addUp : MethodName × ByteArray × Nat × Option FieldType × Nat × Nat × Nat := (⟨"StrandArchive$Column", "addUp", "()V"⟩, prog_3_method_5_code, 4, none, 1, 0, 0)
def me_Col_missAt : MethodName × ByteArray × Nat × Option FieldType × Nat × Nat × Nat := (⟨"StrandArchive$Column", "missAt", "(II)I"⟩, prog_3_method_10_code, 5, some (.int), 1, 0, 0)
def me_Col_polynomialAt : MethodName × ByteArray × Nat × Option FieldType × Nat × Nat × Nat := (⟨"StrandArchive$Column", "polynomialAt", "(II)I"⟩, prog_3_method_14_code, 5, some (.int), 1, 0, 0)
def me_Col_recurrenceAt : MethodName × ByteArray × Nat × Option FieldType × Nat × Nat × Nat := (⟨"StrandArchive$Column", "recurrenceAt", "(II)I"⟩, prog_3_method_12_code, 5, some (.int), 1, 0, 0)
def me_Col_spanUnknown : MethodName × ByteArray × Nat × Option FieldType × Nat × Nat × Nat := (⟨"StrandArchive$Column", "spanUnknown", "(I)I"⟩, prog_3_method_7_code, 6, some (.int), 1, 0, 0)
def me_Col_weigh : MethodName × ByteArray × Nat × Option FieldType × Nat × Nat × Nat := (⟨"StrandArchive$Column", "weigh", "(II)I"⟩, prog_3_method_8_code, 5, some (.int), 1, 0, 0)
def me_Dec_begin : MethodName × ByteArray × Nat × Option FieldType × Nat × Nat × Nat := (⟨"StrandArchive$Decoding", "begin", "(I)V"⟩, prog_4_method_2_code, 2, none, 1, 0, 0)
def me_Dec_slotOf : MethodName × ByteArray × Nat × Option FieldType × Nat × Nat × Nat := (⟨"StrandArchive$Decoding", "slotOf", "(I)I"⟩, prog_4_method_5_code, 5, some (.int), 1, 0, 0)
def me_Arc_appendCopies : MethodName × ByteArray × Nat × Option FieldType × Nat × Nat × Nat := (⟨"StrandArchive", "appendCopies", "(LStrandArchive$Row;I)V"⟩, prog_1_method_25_code, 3, none, 1, 0, 0)
def me_Arc_forge : MethodName × ByteArray × Nat × Option FieldType × Nat × Nat × Nat := (⟨"StrandArchive", "forge", "(JJI)Z"⟩, prog_1_method_9_code, 6, some (.boolean), 1, 0, 0)
def me_Arc_letter : MethodName × ByteArray × Nat × Option FieldType × Nat × Nat × Nat := (⟨"StrandArchive", "letter", "(II)I"⟩, prog_1_method_4_code, 3, some (.int), 1, 0, 0)
def me_Arc_product : MethodName × ByteArray × Nat × Option FieldType × Nat × Nat × Nat := (⟨"StrandArchive", "product", "(II)I"⟩, prog_1_method_16_code, 3, some (.int), 1, 0, 0)
def me_Arc_read : MethodName × ByteArray × Nat × Option FieldType × Nat × Nat × Nat := (⟨"StrandArchive", "read", "(I)Z"⟩, prog_1_method_6_code, 3, some (.boolean), 1, 0, 0)
def me_Mod_block : MethodName × ByteArray × Nat × Option FieldType × Nat × Nat × Nat := (⟨"StrandArchiveModel", "block", "(II)I"⟩, prog_9_method_33_code, 3, some (.int), 1, 0, 0)
def me_Mod_come : MethodName × ByteArray × Nat × Option FieldType × Nat × Nat × Nat := (⟨"StrandArchiveModel", "come", "(IIII)Z"⟩, prog_9_method_16_code, 7, some (.boolean), 1, 0, 0)
def me_Mod_forge : MethodName × ByteArray × Nat × Option FieldType × Nat × Nat × Nat := (⟨"StrandArchiveModel", "forge", "(JJI)Z"⟩, prog_9_method_20_code, 7, some (.boolean), 1, 0, 0)
def me_Mod_inverse : MethodName × ByteArray × Nat × Option FieldType × Nat × Nat × Nat := (⟨"StrandArchiveModel", "inverse", "(I)I"⟩, prog_9_method_6_code, 2, some (.int), 1, 0, 0)
def me_Mod_isFound : MethodName × ByteArray × Nat × Option FieldType × Nat × Nat × Nat := (⟨"StrandArchiveModel", "isFound", "(I)Z"⟩, prog_9_method_24_code, 11, some (.boolean), 1, 0, 0)
def me_Mod_lay : MethodName × ByteArray × Nat × Option FieldType × Nat × Nat × Nat := (⟨"StrandArchiveModel", "lay", "(III)V"⟩, prog_9_method_10_code, 12, none, 1, 0, 0)
def me_Mod_letter : MethodName × ByteArray × Nat × Option FieldType × Nat × Nat × Nat := (⟨"StrandArchiveModel", "letter", "(II)I"⟩, prog_9_method_14_code, 3, some (.int), 1, 0, 0)
def me_Mod_load : MethodName × ByteArray × Nat × Option FieldType × Nat × Nat × Nat := (⟨"StrandArchiveModel", "load", "(II)Z"⟩, prog_9_method_8_code, 3, some (.boolean), 1, 0, 0)
def me_Mod_out : MethodName × ByteArray × Nat × Option FieldType × Nat × Nat × Nat := (⟨"StrandArchiveModel", "out", "(I)I"⟩, prog_9_method_31_code, 2, some (.int), 1, 0, 0)
def me_Mod_power : MethodName × ByteArray × Nat × Option FieldType × Nat × Nat × Nat := (⟨"StrandArchiveModel", "power", "(I)I"⟩, prog_9_method_5_code, 3, some (.int), 1, 0, 0)
def me_Mod_product : MethodName × ByteArray × Nat × Option FieldType × Nat × Nat × Nat := (⟨"StrandArchiveModel", "product", "(II)I"⟩, prog_9_method_7_code, 3, some (.int), 1, 0, 0)
def me_Mod_slot : MethodName × ByteArray × Nat × Option FieldType × Nat × Nat × Nat := (⟨"StrandArchiveModel", "slot", "(I)I"⟩, prog_9_method_26_code, 3, some (.int), 1, 0, 0)
def me_Mod_solved : MethodName × ByteArray × Nat × Option FieldType × Nat × Nat × Nat := (⟨"StrandArchiveModel", "solved", "(I)Z"⟩, prog_9_method_9_code, 8, some (.boolean), 1, 0, 0)
def me_Bod_spell : MethodName × ByteArray × Nat × Option FieldType × Nat × Nat × Nat := (⟨"StrandArchive$Body", "spell", "(II)V"⟩, prog_2_method_5_code, 7, none, 2, 0, 0)
def me_Rdr_init : MethodName × ByteArray × Nat × Option FieldType × Nat × Nat × Nat := (⟨"StrandArchive$Reader", "<init>", "()V"⟩, prog_6_method_1_code, 1, none, 2, 2, 36)
def me_Rdr_restoreCut : MethodName × ByteArray × Nat × Option FieldType × Nat × Nat × Nat := (⟨"StrandArchive$Reader", "restoreCut", "(LStrandArchive$Row;)Z"⟩, prog_6_method_7_code, 5, some (.boolean), 2, 0, 0)
def me_Rdr_restoreGrown : MethodName × ByteArray × Nat × Option FieldType × Nat × Nat × Nat := (⟨"StrandArchive$Reader", "restoreGrown", "(LStrandArchive$Row;)Z"⟩, prog_6_method_8_code, 3, some (.boolean), 2, 0, 0)
def me_Rdr_restoreWhole : MethodName × ByteArray × Nat × Option FieldType × Nat × Nat × Nat := (⟨"StrandArchive$Reader", "restoreWhole", "(LStrandArchive$Row;)Z"⟩, prog_6_method_6_code, 3, some (.boolean), 2, 0, 0)
def me_Rdr_takeTail : MethodName × ByteArray × Nat × Option FieldType × Nat × Nat × Nat := (⟨"StrandArchive$Reader", "takeTail", "(LStrandArchive$Row;)Z"⟩, prog_6_method_3_code, 6, some (.boolean), 2, 0, 0)
def me_Col_fillUnknown : MethodName × ByteArray × Nat × Option FieldType × Nat × Nat × Nat := (⟨"StrandArchive$Column", "fillUnknown", "()V"⟩, prog_3_method_13_code, 3, none, 2, 0, 0)
def me_Col_findRecurrence : MethodName × ByteArray × Nat × Option FieldType × Nat × Nat × Nat := (⟨"StrandArchive$Column", "findRecurrence", "(I)I"⟩, prog_3_method_9_code, 9, some (.int), 2, 0, 0)
def me_Col_markWrong : MethodName × ByteArray × Nat × Option FieldType × Nat × Nat × Nat := (⟨"StrandArchive$Column", "markWrong", "(I)I"⟩, prog_3_method_11_code, 4, some (.int), 2, 0, 0)
def me_Col_siftOutUnknown : MethodName × ByteArray × Nat × Option FieldType × Nat × Nat × Nat := (⟨"StrandArchive$Column", "siftOutUnknown", "(I)V"⟩, prog_3_method_6_code, 4, none, 2, 0, 0)
def me_Arc_newRows : MethodName × ByteArray × Nat × Option FieldType × Nat × Nat × Nat := (⟨"StrandArchive", "newRows", "(I)[LStrandArchive$Row;"⟩, prog_1_method_17_code, 3, some ((.array (.object "StrandArchive$Row"))), 2, 65, 256)
def me_Arc_newRows90 : MethodName × ByteArray × Nat × Option FieldType × Nat × Nat × Nat := (⟨"StrandArchive", "newRows", "(I)[LStrandArchive$Row;"⟩, prog_1_method_17_code, 3, some ((.array (.object "StrandArchive$Row"))), 2, 91, 360)
def me_Arc_readCut : MethodName × ByteArray × Nat × Option FieldType × Nat × Nat × Nat := (⟨"StrandArchive", "readCut", "(II)Z"⟩, prog_1_method_7_code, 4, some (.boolean), 2, 0, 0)
def me_Arc_readGrown : MethodName × ByteArray × Nat × Option FieldType × Nat × Nat × Nat := (⟨"StrandArchive", "readGrown", "(III)Z"⟩, prog_1_method_8_code, 5, some (.boolean), 2, 0, 0)
def me_Mod_init : MethodName × ByteArray × Nat × Option FieldType × Nat × Nat × Nat := (⟨"StrandArchiveModel", "<init>", "()V"⟩, prog_9_method_1_code, 2, none, 2, 16, 9527)
def me_Mod_isColumn : MethodName × ByteArray × Nat × Option FieldType × Nat × Nat × Nat := (⟨"StrandArchiveModel", "isColumn", "(II)Z"⟩, prog_9_method_30_code, 10, some (.boolean), 2, 0, 0)
def me_Mod_read : MethodName × ByteArray × Nat × Option FieldType × Nat × Nat × Nat := (⟨"StrandArchiveModel", "read", "(I)Z"⟩, prog_9_method_17_code, 2, some (.boolean), 2, 0, 0)
def me_Mod_readCut : MethodName × ByteArray × Nat × Option FieldType × Nat × Nat × Nat := (⟨"StrandArchiveModel", "readCut", "(II)Z"⟩, prog_9_method_18_code, 3, some (.boolean), 2, 0, 0)
def me_Mod_readGrown : MethodName × ByteArray × Nat × Option FieldType × Nat × Nat × Nat := (⟨"StrandArchiveModel", "readGrown", "(III)Z"⟩, prog_9_method_19_code, 4, some (.boolean), 2, 0, 0)
def me_Mod_write : MethodName × ByteArray × Nat × Option FieldType × Nat × Nat × Nat := (⟨"StrandArchiveModel", "write", "(I)I"⟩, prog_9_method_13_code, 7, some (.int), 2, 0, 0)
def me_Rdr_restore : MethodName × ByteArray × Nat × Option FieldType × Nat × Nat × Nat := (⟨"StrandArchive$Reader", "restore", "(LStrandArchive$Row;)Z"⟩, prog_6_method_2_code, 2, some (.boolean), 3, 0, 0)
def me_Col_mend : MethodName × ByteArray × Nat × Option FieldType × Nat × Nat × Nat := (⟨"StrandArchive$Column", "mend", "()Z"⟩, prog_3_method_3_code, 4, some (.boolean), 3, 0, 0)
def me_Dec_init : MethodName × ByteArray × Nat × Option FieldType × Nat × Nat × Nat := (⟨"StrandArchive$Decoding", "<init>", "(LStrandArchive$Column;)V"⟩, prog_4_method_1_code, 2, none, 3, 8, 527)
def me_Arc_spellStrand : MethodName × ByteArray × Nat × Option FieldType × Nat × Nat × Nat := (⟨"StrandArchive", "spellStrand", "(II)V"⟩, prog_1_method_24_code, 6, none, 3, 0, 0)
def me_Mod_isMended : MethodName × ByteArray × Nat × Option FieldType × Nat × Nat × Nat := (⟨"StrandArchiveModel", "isMended", "(I)Z"⟩, prog_9_method_28_code, 8, some (.boolean), 3, 0, 0)
def me_Dec_mendColumn : MethodName × ByteArray × Nat × Option FieldType × Nat × Nat × Nat := (⟨"StrandArchive$Decoding", "mendColumn", "(II)Z"⟩, prog_4_method_7_code, 5, some (.boolean), 4, 0, 0)
def me_Dec_take : MethodName × ByteArray × Nat × Option FieldType × Nat × Nat × Nat := (⟨"StrandArchive$Decoding", "take", "(LStrandArchive$Row;)V"⟩, prog_4_method_3_code, 6, none, 4, 0, 0)
def me_Arc_init : MethodName × ByteArray × Nat × Option FieldType × Nat × Nat × Nat := (⟨"StrandArchive", "<init>", "()V"⟩, prog_1_method_1_code, 1, none, 4, 181, 2008)
def me_Arc_fillBlock : MethodName × ByteArray × Nat × Option FieldType × Nat × Nat × Nat := (⟨"StrandArchive", "fillBlock", "(II)V"⟩, prog_1_method_23_code, 7, none, 4, 0, 0)
def me_Mod_decode : MethodName × ByteArray × Nat × Option FieldType × Nat × Nat × Nat := (⟨"StrandArchiveModel", "decode", "(I)I"⟩, prog_9_method_27_code, 6, some (.int), 4, 0, 0)
def me_Dec_finishBlock : MethodName × ByteArray × Nat × Option FieldType × Nat × Nat × Nat := (⟨"StrandArchive$Decoding", "finishBlock", "(I)Z"⟩, prog_4_method_4_code, 3, some (.boolean), 5, 0, 0)
def me_Arc_write : MethodName × ByteArray × Nat × Option FieldType × Nat × Nat × Nat := (⟨"StrandArchive", "write", "(I)I"⟩, prog_1_method_3_code, 5, some (.int), 5, 0, 0)
def me_Arc_decode : MethodName × ByteArray × Nat × Option FieldType × Nat × Nat × Nat := (⟨"StrandArchive", "decode", "(I)I"⟩, prog_1_method_12_code, 4, some (.int), 6, 0, 0)
def ma_mt : List (MethodName × ByteArray × Nat × Option FieldType × Nat × Nat × Nat) := [me_Row_append, me_Row_append, me_Row_at, me_Row_become, me_Fld_over, me_Fld_powerOfTwo, me_Fld_times, me_Bod_ahead, me_Bod_rise, me_Bod_signature, me_Bod_sum, me_Col_countUnknown, me_Col_set, me_Dec_loseBlock, me_Dec_settleSlots, me_Arc_blocksOf, me_Arc_clear, me_Arc_count, me_Arc_heap, me_Arc_isFull, me_Arc_isSize, me_Arc_isWritten, me_Arc_load, me_Arc_nextRead, me_Arc_shuffle, me_Mod_clear, me_Mod_count, me_Mod_group, me_Mod_heap, me_Mod_in, me_Mod_most, me_Mod_ones, me_Mod_shuffle, me_Mod_signature, me_Mod_sum, me_Mod_thrown, me_Mod_times, me_Itg_bitCount, me_Arr_fill, me_Mth_floorMod, me_Row_init, me_Row_appendPart, me_Fld_init, me_Bod_init, me_Bod_put, me_Bod_spelled, me_Rdr_isDue, me_Rdr_majority, me_Col_init, me_Col_addUp, me_Col_missAt, me_Col_polynomialAt, me_Col_recurrenceAt, me_Col_spanUnknown, me_Col_weigh, me_Dec_begin, me_Dec_slotOf, me_Arc_appendCopies, me_Arc_forge, me_Arc_letter, me_Arc_product, me_Arc_read, me_Mod_block, me_Mod_come, me_Mod_forge, me_Mod_inverse, me_Mod_isFound, me_Mod_lay, me_Mod_letter, me_Mod_load, me_Mod_out, me_Mod_power, me_Mod_product, me_Mod_slot, me_Mod_solved, me_Bod_spell, me_Rdr_init, me_Rdr_restoreCut, me_Rdr_restoreGrown, me_Rdr_restoreWhole, me_Rdr_takeTail, me_Col_fillUnknown, me_Col_findRecurrence, me_Col_markWrong, me_Col_siftOutUnknown, me_Arc_newRows, me_Arc_readCut, me_Arc_readGrown, me_Mod_init, me_Mod_isColumn, me_Mod_read, me_Mod_readCut, me_Mod_readGrown, me_Mod_write, me_Rdr_restore, me_Col_mend, me_Dec_init, me_Arc_spellStrand, me_Mod_isMended, me_Dec_mendColumn, me_Dec_take, me_Arc_init, me_Arc_fillBlock, me_Mod_decode, me_Dec_finishBlock, me_Arc_write, me_Arc_decode, me_Arc_newRows90]
def ma_li0 : Nat → List Nat
  | 0 => [82, 84, 86]
  | 1 => [98, 100]
  | 2 => [150, 152, 154]
  | 3 => [175, 177, 179]
  | 4 => [120, 122, 124, 126, 128, 130, 132, 134, 136]
  | 5 => [199, 201, 203, 205, 207, 209, 211, 213, 215, 217, 219]
  | 6 => [232, 234, 236, 238, 240, 242, 244, 246, 248, 250]
  | 7 => [642, 644, 646, 648, 650, 652, 654, 656, 658, 660, 662, 664, 666, 668, 670, 672, 674, 676, 678, 680, 682, 684]
  | _ => []
def ma_clck (ci : Nat) (q : vw_C) : Bool := decide ((ma_ty ci).length = q.2.2) && (List.range q.2.2).all (fun k => decide (parseFieldDescriptor (q.2.1 k).2.2.1 = (ma_ty ci)[k]?)) && (List.range q.2.2).all (fun a => (List.range q.2.2).all (fun b => decide (a = b) || decide ((q.2.1 a).2.1 ≠ (q.2.1 b).2.1))) && (List.range q.2.2).all (fun k => ma_has ((ma_li0 ci).getD k 0) (u_lay q.1 q.2.1 k))
set_option maxRecDepth 20000 in
theorem ma_clc0 : ma_clck 0 ("StrandArchive$Row", ma_T0, 3) = true := by decide +kernel
set_option maxRecDepth 20000 in
theorem ma_clc1 : ma_clck 1 ("StrandArchive$Field", ma_T1, 2) = true := by decide +kernel
set_option maxRecDepth 20000 in
theorem ma_clc2 : ma_clck 2 ("StrandArchive$Body", ma_T2, 3) = true := by decide +kernel
set_option maxRecDepth 20000 in
theorem ma_clc3 : ma_clck 3 ("StrandArchive$Reader", ma_T3, 3) = true := by decide +kernel
set_option maxRecDepth 20000 in
theorem ma_clc4 : ma_clck 4 ("StrandArchive$Column", ma_T4, 9) = true := by decide +kernel
set_option maxRecDepth 20000 in
theorem ma_clc5 : ma_clck 5 ("StrandArchive$Decoding", ma_T5, 11) = true := by decide +kernel
set_option maxRecDepth 20000 in
theorem ma_clc6 : ma_clck 6 ("StrandArchive", ma_T6, 10) = true := by decide +kernel
set_option maxRecDepth 20000 in
theorem ma_clc7 : ma_clck 7 ("StrandArchiveModel", ma_T7, 22) = true := by decide +kernel
theorem ma_clcs : ∀ {ci : Nat} {q : vw_C}, ma_cl[ci]? = some q → ma_clck ci q = true
  | 0, _, h => by cases h; exact ma_clc0
  | 1, _, h => by cases h; exact ma_clc1
  | 2, _, h => by cases h; exact ma_clc2
  | 3, _, h => by cases h; exact ma_clc3
  | 4, _, h => by cases h; exact ma_clc4
  | 5, _, h => by cases h; exact ma_clc5
  | 6, _, h => by cases h; exact ma_clc6
  | 7, _, h => by cases h; exact ma_clc7
  | n + 8, _, h => by cases h
theorem ma_clok {ci : Nat} {C : String} {T : u_T} {N : Nat} (h : ma_cl[ci]? = some (C, T, N)) : (ma_ty ci).length = N ∧ (∀ k, k < N → parseFieldDescriptor (T k).2.2.1 = (ma_ty ci)[k]?) ∧ (∀ a, a < N → ∀ b, b < N → a ≠ b → (T a).2.1 ≠ (T b).2.1) ∧ (∀ w ∈ u_ws C T N, w ∈ ma_wd) := by
  have h1 := ma_clcs h
  unfold ma_clck at h1
  simp only [Bool.and_eq_true, List.all_eq_true, List.mem_range, Bool.or_eq_true, decide_eq_true_eq] at h1
  obtain ⟨⟨⟨h1, h2⟩, h3⟩, h4⟩ := h1
  refine ⟨h1, h2, fun a ha b hb hab => (h3 a ha b hb).resolve_left hab, fun w hw => ?_⟩
  obtain ⟨k, hk, rfl⟩ := List.mem_map.mp hw
  exact ma_has_in (h4 k (List.mem_range.mp hk))
