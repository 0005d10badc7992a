section
-- ===== PART A: goes FIRST, ahead of the names: the tables' words, and 'selects' of the private methods out of them =====
/-- a private method of a class that the tables say can be made, by its rows of tables_1 -/
def lw_okq (q : MethodName × Nat) : Prop := (q.1.cls ≠ "java/lang/invoke/MethodHandle" ∧ q.1.cls ≠ "java/lang/invoke/VarHandle") ∧ Cond.instantiable q.1.cls q.2 ∈ tables_1 ∧ Cond.privateMethod q.1 ∈ tables_1 ∧ Cond.instanceMethod q.1 ∈ tables_1
theorem lw_p0 : lw_okq (⟨"StrandArchive", "fillBlock", "(II)V"⟩, 10) := ⟨⟨by decide +kernel, by decide +kernel⟩, List.mem_of_getElem? (i := 18) (by decide +kernel), List.mem_of_getElem? (i := 229) (by decide +kernel), List.mem_of_getElem? (i := 230) (by decide +kernel)⟩
theorem lw_p1 : lw_okq (⟨"StrandArchive$Column", "countUnknown", "()I"⟩, 9) := ⟨⟨by decide +kernel, by decide +kernel⟩, List.mem_of_getElem? (i := 65) (by decide +kernel), List.mem_of_getElem? (i := 241) (by decide +kernel), List.mem_of_getElem? (i := 242) (by decide +kernel)⟩
theorem lw_p2 : lw_okq (⟨"StrandArchive$Column", "addUp", "()V"⟩, 9) := ⟨⟨by decide +kernel, by decide +kernel⟩, List.mem_of_getElem? (i := 65) (by decide +kernel), List.mem_of_getElem? (i := 245) (by decide +kernel), List.mem_of_getElem? (i := 246) (by decide +kernel)⟩
theorem lw_p3 : lw_okq (⟨"StrandArchive$Column", "siftOutUnknown", "(I)V"⟩, 9) := ⟨⟨by decide +kernel, by decide +kernel⟩, List.mem_of_getElem? (i := 65) (by decide +kernel), List.mem_of_getElem? (i := 257) (by decide +kernel), List.mem_of_getElem? (i := 258) (by decide +kernel)⟩
theorem lw_p4 : lw_okq (⟨"StrandArchive$Column", "spanUnknown", "(I)I"⟩, 9) := ⟨⟨by decide +kernel, by decide +kernel⟩, List.mem_of_getElem? (i := 65) (by decide +kernel), List.mem_of_getElem? (i := 261) (by decide +kernel), List.mem_of_getElem? (i := 262) (by decide +kernel)⟩
theorem lw_p5 : lw_okq (⟨"StrandArchive$Column", "weigh", "(II)I"⟩, 9) := ⟨⟨by decide +kernel, by decide +kernel⟩, List.mem_of_getElem? (i := 65) (by decide +kernel), List.mem_of_getElem? (i := 268) (by decide +kernel), List.mem_of_getElem? (i := 269) (by decide +kernel)⟩
theorem lw_p6 : lw_okq (⟨"StrandArchive$Column", "findRecurrence", "(I)I"⟩, 9) := ⟨⟨by decide +kernel, by decide +kernel⟩, List.mem_of_getElem? (i := 65) (by decide +kernel), List.mem_of_getElem? (i := 272) (by decide +kernel), List.mem_of_getElem? (i := 273) (by decide +kernel)⟩
theorem lw_p7 : lw_okq (⟨"StrandArchive$Column", "missAt", "(II)I"⟩, 9) := ⟨⟨by decide +kernel, by decide +kernel⟩, List.mem_of_getElem? (i := 65) (by decide +kernel), List.mem_of_getElem? (i := 276) (by decide +kernel), List.mem_of_getElem? (i := 277) (by decide +kernel)⟩
theorem lw_p8 : lw_okq (⟨"StrandArchive$Column", "markWrong", "(I)I"⟩, 9) := ⟨⟨by decide +kernel, by decide +kernel⟩, List.mem_of_getElem? (i := 65) (by decide +kernel), List.mem_of_getElem? (i := 287) (by decide +kernel), List.mem_of_getElem? (i := 288) (by decide +kernel)⟩
theorem lw_p9 : lw_okq (⟨"StrandArchive$Column", "recurrenceAt", "(II)I"⟩, 9) := ⟨⟨by decide +kernel, by decide +kernel⟩, List.mem_of_getElem? (i := 65) (by decide +kernel), List.mem_of_getElem? (i := 291) (by decide +kernel), List.mem_of_getElem? (i := 292) (by decide +kernel)⟩
theorem lw_p10 : lw_okq (⟨"StrandArchive$Column", "fillUnknown", "()V"⟩, 9) := ⟨⟨by decide +kernel, by decide +kernel⟩, List.mem_of_getElem? (i := 65) (by decide +kernel), List.mem_of_getElem? (i := 295) (by decide +kernel), List.mem_of_getElem? (i := 296) (by decide +kernel)⟩
theorem lw_p11 : lw_okq (⟨"StrandArchive$Column", "polynomialAt", "(II)I"⟩, 9) := ⟨⟨by decide +kernel, by decide +kernel⟩, List.mem_of_getElem? (i := 65) (by decide +kernel), List.mem_of_getElem? (i := 299) (by decide +kernel), List.mem_of_getElem? (i := 300) (by decide +kernel)⟩
theorem lw_p12 : lw_okq (⟨"StrandArchive", "spellStrand", "(II)V"⟩, 10) := ⟨⟨by decide +kernel, by decide +kernel⟩, List.mem_of_getElem? (i := 18) (by decide +kernel), List.mem_of_getElem? (i := 303) (by decide +kernel), List.mem_of_getElem? (i := 304) (by decide +kernel)⟩
theorem lw_p13 : lw_okq (⟨"StrandArchive$Body", "ahead", "(I)I"⟩, 3) := ⟨⟨by decide +kernel, by decide +kernel⟩, List.mem_of_getElem? (i := 102) (by decide +kernel), List.mem_of_getElem? (i := 312) (by decide +kernel), List.mem_of_getElem? (i := 313) (by decide +kernel)⟩
theorem lw_p14 : lw_okq (⟨"StrandArchive$Body", "rise", "(I)I"⟩, 3) := ⟨⟨by decide +kernel, by decide +kernel⟩, List.mem_of_getElem? (i := 102) (by decide +kernel), List.mem_of_getElem? (i := 320) (by decide +kernel), List.mem_of_getElem? (i := 321) (by decide +kernel)⟩
theorem lw_p15 : lw_okq (⟨"StrandArchive", "isWritten", "(I)Z"⟩, 10) := ⟨⟨by decide +kernel, by decide +kernel⟩, List.mem_of_getElem? (i := 18) (by decide +kernel), List.mem_of_getElem? (i := 347) (by decide +kernel), List.mem_of_getElem? (i := 348) (by decide +kernel)⟩
def lw_privs_1 : List (MethodName × Nat) := [(⟨"StrandArchive", "fillBlock", "(II)V"⟩, 10), (⟨"StrandArchive$Column", "countUnknown", "()I"⟩, 9), (⟨"StrandArchive$Column", "addUp", "()V"⟩, 9), (⟨"StrandArchive$Column", "siftOutUnknown", "(I)V"⟩, 9), (⟨"StrandArchive$Column", "spanUnknown", "(I)I"⟩, 9), (⟨"StrandArchive$Column", "weigh", "(II)I"⟩, 9), (⟨"StrandArchive$Column", "findRecurrence", "(I)I"⟩, 9), (⟨"StrandArchive$Column", "missAt", "(II)I"⟩, 9), (⟨"StrandArchive$Column", "markWrong", "(I)I"⟩, 9), (⟨"StrandArchive$Column", "recurrenceAt", "(II)I"⟩, 9), (⟨"StrandArchive$Column", "fillUnknown", "()V"⟩, 9), (⟨"StrandArchive$Column", "polynomialAt", "(II)I"⟩, 9), (⟨"StrandArchive", "spellStrand", "(II)V"⟩, 10), (⟨"StrandArchive$Body", "ahead", "(I)I"⟩, 3), (⟨"StrandArchive$Body", "rise", "(I)I"⟩, 3), (⟨"StrandArchive", "isWritten", "(I)Z"⟩, 10)]
theorem lw_r1 : ∀ q ∈ lw_privs_1, lw_okq q := List.forall_mem_cons.mpr ⟨lw_p0, List.forall_mem_cons.mpr ⟨lw_p1, List.forall_mem_cons.mpr ⟨lw_p2, List.forall_mem_cons.mpr ⟨lw_p3, List.forall_mem_cons.mpr ⟨lw_p4, List.forall_mem_cons.mpr ⟨lw_p5, List.forall_mem_cons.mpr ⟨lw_p6, List.forall_mem_cons.mpr ⟨lw_p7, List.forall_mem_cons.mpr ⟨lw_p8, List.forall_mem_cons.mpr ⟨lw_p9, List.forall_mem_cons.mpr ⟨lw_p10, List.forall_mem_cons.mpr ⟨lw_p11, List.forall_mem_cons.mpr ⟨lw_p12, List.forall_mem_cons.mpr ⟨lw_p13, List.forall_mem_cons.mpr ⟨lw_p14, List.forall_mem_cons.mpr ⟨lw_p15, fun _ h => absurd h List.not_mem_nil⟩⟩⟩⟩⟩⟩⟩⟩⟩⟩⟩⟩⟩⟩⟩⟩
theorem lw_p16 : lw_okq (⟨"StrandArchive", "isFull", "()Z"⟩, 10) := ⟨⟨by decide +kernel, by decide +kernel⟩, List.mem_of_getElem? (i := 18) (by decide +kernel), List.mem_of_getElem? (i := 364) (by decide +kernel), List.mem_of_getElem? (i := 365) (by decide +kernel)⟩
theorem lw_p17 : lw_okq (⟨"StrandArchive", "nextRead", "()LStrandArchive$Row;"⟩, 10) := ⟨⟨by decide +kernel, by decide +kernel⟩, List.mem_of_getElem? (i := 18) (by decide +kernel), List.mem_of_getElem? (i := 368) (by decide +kernel), List.mem_of_getElem? (i := 369) (by decide +kernel)⟩
theorem lw_p18 : lw_okq (⟨"StrandArchive$Reader", "takeTail", "(LStrandArchive$Row;)Z"⟩, 3) := ⟨⟨by decide +kernel, by decide +kernel⟩, List.mem_of_getElem? (i := 125) (by decide +kernel), List.mem_of_getElem? (i := 418) (by decide +kernel), List.mem_of_getElem? (i := 419) (by decide +kernel)⟩
theorem lw_p19 : lw_okq (⟨"StrandArchive$Reader", "restoreCut", "(LStrandArchive$Row;)Z"⟩, 3) := ⟨⟨by decide +kernel, by decide +kernel⟩, List.mem_of_getElem? (i := 125) (by decide +kernel), List.mem_of_getElem? (i := 426) (by decide +kernel), List.mem_of_getElem? (i := 427) (by decide +kernel)⟩
theorem lw_p20 : lw_okq (⟨"StrandArchive$Reader", "isDue", "()Z"⟩, 3) := ⟨⟨by decide +kernel, by decide +kernel⟩, List.mem_of_getElem? (i := 125) (by decide +kernel), List.mem_of_getElem? (i := 434) (by decide +kernel), List.mem_of_getElem? (i := 435) (by decide +kernel)⟩
theorem lw_p21 : lw_okq (⟨"StrandArchive$Reader", "restoreWhole", "(LStrandArchive$Row;)Z"⟩, 3) := ⟨⟨by decide +kernel, by decide +kernel⟩, List.mem_of_getElem? (i := 125) (by decide +kernel), List.mem_of_getElem? (i := 440) (by decide +kernel), List.mem_of_getElem? (i := 441) (by decide +kernel)⟩
theorem lw_p22 : lw_okq (⟨"StrandArchive$Reader", "restoreGrown", "(LStrandArchive$Row;)Z"⟩, 3) := ⟨⟨by decide +kernel, by decide +kernel⟩, List.mem_of_getElem? (i := 125) (by decide +kernel), List.mem_of_getElem? (i := 444) (by decide +kernel), List.mem_of_getElem? (i := 445) (by decide +kernel)⟩
theorem lw_p23 : lw_okq (⟨"StrandArchive$Decoding", "slotOf", "(I)I"⟩, 11) := ⟨⟨by decide +kernel, by decide +kernel⟩, List.mem_of_getElem? (i := 119) (by decide +kernel), List.mem_of_getElem? (i := 453) (by decide +kernel), List.mem_of_getElem? (i := 454) (by decide +kernel)⟩
theorem lw_p24 : lw_okq (⟨"StrandArchive$Decoding", "settleSlots", "(I)V"⟩, 11) := ⟨⟨by decide +kernel, by decide +kernel⟩, List.mem_of_getElem? (i := 119) (by decide +kernel), List.mem_of_getElem? (i := 462) (by decide +kernel), List.mem_of_getElem? (i := 463) (by decide +kernel)⟩
theorem lw_p25 : lw_okq (⟨"StrandArchive$Decoding", "mendColumn", "(II)Z"⟩, 11) := ⟨⟨by decide +kernel, by decide +kernel⟩, List.mem_of_getElem? (i := 119) (by decide +kernel), List.mem_of_getElem? (i := 466) (by decide +kernel), List.mem_of_getElem? (i := 467) (by decide +kernel)⟩
theorem lw_p26 : lw_okq (⟨"StrandArchive$Decoding", "loseBlock", "(I)V"⟩, 11) := ⟨⟨by decide +kernel, by decide +kernel⟩, List.mem_of_getElem? (i := 119) (by decide +kernel), List.mem_of_getElem? (i := 472) (by decide +kernel), List.mem_of_getElem? (i := 473) (by decide +kernel)⟩
theorem lw_p27 : lw_okq (⟨"java/lang/Throwable", "fillInStackTrace", "(I)Ljava/lang/Throwable;"⟩, 6) := ⟨⟨by decide +kernel, by decide +kernel⟩, List.mem_of_getElem? (i := 535) (by decide +kernel), List.mem_of_getElem? (i := 533) (by decide +kernel), List.mem_of_getElem? (i := 534) (by decide +kernel)⟩
theorem lw_p28 : lw_okq (⟨"StrandArchiveModel", "solved", "(I)Z"⟩, 22) := ⟨⟨by decide +kernel, by decide +kernel⟩, List.mem_of_getElem? (i := 567) (by decide +kernel), List.mem_of_getElem? (i := 669) (by decide +kernel), List.mem_of_getElem? (i := 670) (by decide +kernel)⟩
theorem lw_p29 : lw_okq (⟨"StrandArchiveModel", "lay", "(III)V"⟩, 22) := ⟨⟨by decide +kernel, by decide +kernel⟩, List.mem_of_getElem? (i := 567) (by decide +kernel), List.mem_of_getElem? (i := 673) (by decide +kernel), List.mem_of_getElem? (i := 674) (by decide +kernel)⟩
theorem lw_p30 : lw_okq (⟨"StrandArchiveModel", "signature", "()I"⟩, 22) := ⟨⟨by decide +kernel, by decide +kernel⟩, List.mem_of_getElem? (i := 567) (by decide +kernel), List.mem_of_getElem? (i := 678) (by decide +kernel), List.mem_of_getElem? (i := 679) (by decide +kernel)⟩
theorem lw_p31 : lw_okq (⟨"StrandArchiveModel", "sum", "()I"⟩, 22) := ⟨⟨by decide +kernel, by decide +kernel⟩, List.mem_of_getElem? (i := 567) (by decide +kernel), List.mem_of_getElem? (i := 682) (by decide +kernel), List.mem_of_getElem? (i := 683) (by decide +kernel)⟩
def lw_privs_2 : List (MethodName × Nat) := [(⟨"StrandArchive", "isFull", "()Z"⟩, 10), (⟨"StrandArchive", "nextRead", "()LStrandArchive$Row;"⟩, 10), (⟨"StrandArchive$Reader", "takeTail", "(LStrandArchive$Row;)Z"⟩, 3), (⟨"StrandArchive$Reader", "restoreCut", "(LStrandArchive$Row;)Z"⟩, 3), (⟨"StrandArchive$Reader", "isDue", "()Z"⟩, 3), (⟨"StrandArchive$Reader", "restoreWhole", "(LStrandArchive$Row;)Z"⟩, 3), (⟨"StrandArchive$Reader", "restoreGrown", "(LStrandArchive$Row;)Z"⟩, 3), (⟨"StrandArchive$Decoding", "slotOf", "(I)I"⟩, 11), (⟨"StrandArchive$Decoding", "settleSlots", "(I)V"⟩, 11), (⟨"StrandArchive$Decoding", "mendColumn", "(II)Z"⟩, 11), (⟨"StrandArchive$Decoding", "loseBlock", "(I)V"⟩, 11), (⟨"java/lang/Throwable", "fillInStackTrace", "(I)Ljava/lang/Throwable;"⟩, 6), (⟨"StrandArchiveModel", "solved", "(I)Z"⟩, 22), (⟨"StrandArchiveModel", "lay", "(III)V"⟩, 22), (⟨"StrandArchiveModel", "signature", "()I"⟩, 22), (⟨"StrandArchiveModel", "sum", "()I"⟩, 22)]
theorem lw_r2 : ∀ q ∈ lw_privs_2, lw_okq q := List.forall_mem_cons.mpr ⟨lw_p16, List.forall_mem_cons.mpr ⟨lw_p17, List.forall_mem_cons.mpr ⟨lw_p18, List.forall_mem_cons.mpr ⟨lw_p19, List.forall_mem_cons.mpr ⟨lw_p20, List.forall_mem_cons.mpr ⟨lw_p21, List.forall_mem_cons.mpr ⟨lw_p22, List.forall_mem_cons.mpr ⟨lw_p23, List.forall_mem_cons.mpr ⟨lw_p24, List.forall_mem_cons.mpr ⟨lw_p25, List.forall_mem_cons.mpr ⟨lw_p26, List.forall_mem_cons.mpr ⟨lw_p27, List.forall_mem_cons.mpr ⟨lw_p28, List.forall_mem_cons.mpr ⟨lw_p29, List.forall_mem_cons.mpr ⟨lw_p30, List.forall_mem_cons.mpr ⟨lw_p31, fun _ h => absurd h List.not_mem_nil⟩⟩⟩⟩⟩⟩⟩⟩⟩⟩⟩⟩⟩⟩⟩⟩
theorem lw_p32 : lw_okq (⟨"StrandArchiveModel", "come", "(IIII)Z"⟩, 22) := ⟨⟨by decide +kernel, by decide +kernel⟩, List.mem_of_getElem? (i := 567) (by decide +kernel), List.mem_of_getElem? (i := 698) (by decide +kernel), List.mem_of_getElem? (i := 699) (by decide +kernel)⟩
theorem lw_p33 : lw_okq (⟨"StrandArchiveModel", "isFound", "(I)Z"⟩, 22) := ⟨⟨by decide +kernel, by decide +kernel⟩, List.mem_of_getElem? (i := 567) (by decide +kernel), List.mem_of_getElem? (i := 731) (by decide +kernel), List.mem_of_getElem? (i := 732) (by decide +kernel)⟩
theorem lw_p34 : lw_okq (⟨"StrandArchiveModel", "most", "(I)I"⟩, 22) := ⟨⟨by decide +kernel, by decide +kernel⟩, List.mem_of_getElem? (i := 567) (by decide +kernel), List.mem_of_getElem? (i := 735) (by decide +kernel), List.mem_of_getElem? (i := 736) (by decide +kernel)⟩
theorem lw_p35 : lw_okq (⟨"StrandArchiveModel", "slot", "(I)I"⟩, 22) := ⟨⟨by decide +kernel, by decide +kernel⟩, List.mem_of_getElem? (i := 567) (by decide +kernel), List.mem_of_getElem? (i := 739) (by decide +kernel), List.mem_of_getElem? (i := 740) (by decide +kernel)⟩
theorem lw_p36 : lw_okq (⟨"StrandArchiveModel", "group", "(I)I"⟩, 22) := ⟨⟨by decide +kernel, by decide +kernel⟩, List.mem_of_getElem? (i := 567) (by decide +kernel), List.mem_of_getElem? (i := 743) (by decide +kernel), List.mem_of_getElem? (i := 744) (by decide +kernel)⟩
theorem lw_p37 : lw_okq (⟨"StrandArchiveModel", "isMended", "(I)Z"⟩, 22) := ⟨⟨by decide +kernel, by decide +kernel⟩, List.mem_of_getElem? (i := 567) (by decide +kernel), List.mem_of_getElem? (i := 748) (by decide +kernel), List.mem_of_getElem? (i := 749) (by decide +kernel)⟩
theorem lw_p38 : lw_okq (⟨"StrandArchiveModel", "isColumn", "(II)Z"⟩, 22) := ⟨⟨by decide +kernel, by decide +kernel⟩, List.mem_of_getElem? (i := 567) (by decide +kernel), List.mem_of_getElem? (i := 752) (by decide +kernel), List.mem_of_getElem? (i := 753) (by decide +kernel)⟩
def lw_privs_3 : List (MethodName × Nat) := [(⟨"StrandArchiveModel", "come", "(IIII)Z"⟩, 22), (⟨"StrandArchiveModel", "isFound", "(I)Z"⟩, 22), (⟨"StrandArchiveModel", "most", "(I)I"⟩, 22), (⟨"StrandArchiveModel", "slot", "(I)I"⟩, 22), (⟨"StrandArchiveModel", "group", "(I)I"⟩, 22), (⟨"StrandArchiveModel", "isMended", "(I)Z"⟩, 22), (⟨"StrandArchiveModel", "isColumn", "(II)Z"⟩, 22)]
theorem lw_r3 : ∀ q ∈ lw_privs_3, lw_okq q := List.forall_mem_cons.mpr ⟨lw_p32, List.forall_mem_cons.mpr ⟨lw_p33, List.forall_mem_cons.mpr ⟨lw_p34, List.forall_mem_cons.mpr ⟨lw_p35, List.forall_mem_cons.mpr ⟨lw_p36, List.forall_mem_cons.mpr ⟨lw_p37, List.forall_mem_cons.mpr ⟨lw_p38, fun _ h => absurd h List.not_mem_nil⟩⟩⟩⟩⟩⟩⟩
def lw_privs : List (MethodName × Nat) := lw_privs_1 ++ (lw_privs_2 ++ (lw_privs_3))
def lw_tbl : List Cond := k2_sels lw_privs ++ tables_1
theorem lw_privs_ok : ∀ q ∈ lw_privs, lw_okq q := by
  show ∀ q ∈ lw_privs_1 ++ (lw_privs_2 ++ (lw_privs_3)), lw_okq q
  exact List.forall_mem_append.mpr ⟨lw_r1, List.forall_mem_append.mpr ⟨lw_r2, lw_r3⟩⟩

/-! the words that the methods rest on: those of the tables that stay; the classes; the methods -/
def ma_wd : List Cond := lw_tbl.filter goodWord
theorem ma_wdin : ∀ w ∈ ma_wd, w ∈ lw_tbl := fun _ h => (List.mem_filter.mp h).1
theorem ma_wdok : ma_wd.all goodWord = true := List.all_eq_true.mpr (fun _ h => (List.mem_filter.mp h).2)
/-- the word i of the tables is w, and it stays -/
def ma_has (i : Nat) (w : Cond) : Bool := goodWord w && decide (lw_tbl[i]? = some w)
theorem ma_has_in {i : Nat} {w : Cond} (h : ma_has i w = true) : w ∈ ma_wd := by
  simp only [ma_has, Bool.and_eq_true, decide_eq_true_eq] at h
  exact List.mem_filter.mpr ⟨List.mem_of_getElem? h.2, h.1⟩
abbrev ma_row : String := "StrandArchive$Row"
abbrev ma_rowi : Nat := 0
def ma_T0 : u_T := fun k => match k with
  | 0 => ("StrandArchive$Row", "low", "J", false)
  | 1 => ("StrandArchive$Row", "high", "J", false)
  | _ => ("StrandArchive$Row", "length", "I", false)
def ma_T1 : u_T := fun k => match k with
  | 0 => ("StrandArchive$Field", "powers", "[I", true)
  | _ => ("StrandArchive$Field", "logs", "[I", true)
def ma_T2 : u_T := fun k => match k with
  | 0 => ("StrandArchive$Body", "letters", "[I", true)
  | 1 => ("StrandArchive$Body", "letterSum", "I", false)
  | _ => ("StrandArchive$Body", "riseSum", "I", false)
def ma_T3 : u_T := fun k => match k with
  | 0 => ("StrandArchive$Reader", "body", "LStrandArchive$Body;", true)
  | 1 => ("StrandArchive$Reader", "sumDue", "I", false)
  | _ => ("StrandArchive$Reader", "signatureDue", "I", false)
def ma_T4 : u_T := fun k => match k with
  | 0 => ("StrandArchive$Column", "field", "LStrandArchive$Field;", true)
  | 1 => ("StrandArchive$Column", "values", "[I", true)
  | 2 => ("StrandArchive$Column", "unknown", "[Z", true)
  | 3 => ("StrandArchive$Column", "sums", "[I", true)
  | 4 => ("StrandArchive$Column", "sifted", "[I", true)
  | 5 => ("StrandArchive$Column", "polynomial", "[I", true)
  | 6 => ("StrandArchive$Column", "recurrence", "[I", true)
  | 7 => ("StrandArchive$Column", "earlier", "[I", true)
  | _ => ("StrandArchive$Column", "kept", "[I", true)
def ma_T5 : u_T := fun k => match k with
  | 0 => ("StrandArchive$Decoding", "column", "LStrandArchive$Column;", true)
  | 1 => ("StrandArchive$Decoding", "reader", "LStrandArchive$Reader;", true)
  | 2 => ("StrandArchive$Decoding", "claims", "[I", true)
  | 3 => ("StrandArchive$Decoding", "said", "[I", true)
  | 4 => ("StrandArchive$Decoding", "touched", "I", false)
  | 5 => ("StrandArchive$Decoding", "size", "I", false)
  | 6 => ("StrandArchive$Decoding", "fixed", "I", false)
  | 7 => ("StrandArchive$Decoding", "dropped", "I", false)
  | 8 => ("StrandArchive$Decoding", "bytes", "[I", true)
  | 9 => ("StrandArchive$Decoding", "erased", "[I", true)
  | _ => ("StrandArchive$Decoding", "changed", "[I", true)
def ma_T6 : u_T := fun k => match k with
  | 0 => ("StrandArchive", "bytes", "[I", true)
  | 1 => ("StrandArchive", "strands", "[LStrandArchive$Row;", true)
  | 2 => ("StrandArchive", "strandsWritten", "I", false)
  | 3 => ("StrandArchive", "reads", "[LStrandArchive$Row;", true)
  | 4 => ("StrandArchive", "readsHeld", "I", false)
  | 5 => ("StrandArchive", "field", "LStrandArchive$Field;", true)
  | 6 => ("StrandArchive", "column", "LStrandArchive$Column;", true)
  | 7 => ("StrandArchive", "blockBytes", "[I", true)
  | 8 => ("StrandArchive", "body", "LStrandArchive$Body;", true)
  | _ => ("StrandArchive", "latest", "LStrandArchive$Decoding;", true)
def ma_T7 : u_T := fun k => match k with
  | 0 => ("StrandArchiveModel", "thrown", "I", false)
  | 1 => ("StrandArchiveModel", "data", "[I", true)
  | 2 => ("StrandArchiveModel", "written", "I", false)
  | 3 => ("StrandArchiveModel", "strands", "[B", true)
  | 4 => ("StrandArchiveModel", "reads", "I", false)
  | 5 => ("StrandArchiveModel", "heap", "[B", true)
  | 6 => ("StrandArchiveModel", "size", "[I", true)
  | 7 => ("StrandArchiveModel", "decoded", "I", false)
  | 8 => ("StrandArchiveModel", "fixed", "I", false)
  | 9 => ("StrandArchiveModel", "dropped", "I", false)
  | 10 => ("StrandArchiveModel", "result", "[I", true)
  | 11 => ("StrandArchiveModel", "erased", "[I", true)
  | 12 => ("StrandArchiveModel", "changed", "[I", true)
  | 13 => ("StrandArchiveModel", "word", "[I", true)
  | 14 => ("StrandArchiveModel", "row", "[I", true)
  | 15 => ("StrandArchiveModel", "says", "[I", true)
  | 16 => ("StrandArchiveModel", "cells", "[I", true)
  | 17 => ("StrandArchiveModel", "column", "[I", true)
  | 18 => ("StrandArchiveModel", "system", "[I", true)
  | 19 => ("StrandArchiveModel", "places", "[I", true)
  | 20 => ("StrandArchiveModel", "powers", "[I", true)
  | _ => ("StrandArchiveModel", "inverses", "[I", true)
def ma_cl : List vw_C := [("StrandArchive$Row", ma_T0, 3), ("StrandArchive$Field", ma_T1, 2), ("StrandArchive$Body", ma_T2, 3), ("StrandArchive$Reader", ma_T3, 3), ("StrandArchive$Column", ma_T4, 9), ("StrandArchive$Decoding", ma_T5, 11), ("StrandArchive", ma_T6, 10), ("StrandArchiveModel", ma_T7, 22)]
def ma_ty : Nat → List FieldType
  | 0 => [.long, .long, .int]
  | 1 => [.array (.int), .array (.int)]
  | 2 => [.array (.int), .int, .int]
  | 3 => [.object "StrandArchive$Body", .int, .int]
  | 4 => [.object "StrandArchive$Field", .array (.int), .array (.boolean), .array (.int), .array (.int), .array (.int), .array (.int), .array (.int), .array (.int)]
  | 5 => [.object "StrandArchive$Column", .object "StrandArchive$Reader", .array (.int), .array (.int), .int, .int, .int, .int, .array (.int), .array (.int), .array (.int)]
  | 6 => [.array (.int), .array (.object "StrandArchive$Row"), .int, .array (.object "StrandArchive$Row"), .int, .object "StrandArchive$Field", .object "StrandArchive$Column", .array (.int), .object "StrandArchive$Body", .object "StrandArchive$Decoding"]
  | 7 => [.int, .array (.int), .int, .array (.byte), .int, .array (.byte), .array (.int), .int, .int, .int, .array (.int), .array (.int), .array (.int), .array (.int), .array (.int), .array (.int), .array (.int), .array (.int), .array (.int), .array (.int), .array (.int), .array (.int)]
  | _ => []
abbrev ma_rowc : vw_C := (ma_row, ma_T0, 3)
theorem ma_rowok : ma_cl[ma_rowi]? = some ma_rowc := rfl
def ma_nf : List (String × Nat × String × String × String × String) := [("StrandArchive", 97, "StrandArchive$Row", "low", "J", "StrandArchive"), ("StrandArchive", 101, "StrandArchive$Row", "high", "J", "StrandArchive"), ("StrandArchive$Reader", 25, "StrandArchive$Row", "length", "I", "StrandArchive"), ("StrandArchive$Decoding", 74, "StrandArchive$Row", "length", "I", "StrandArchive"), ("StrandArchive", 104, "StrandArchive$Row", "length", "I", "StrandArchive"), ("StrandArchive$Decoding", 108, "StrandArchive$Column", "values", "[I", "StrandArchive"), ("StrandArchive", 163, "StrandArchive$Column", "values", "[I", "StrandArchive"), ("StrandArchive", 169, "StrandArchive$Body", "letters", "[I", "StrandArchive"), ("StrandArchive$Decoding", 61, "StrandArchive$Reader", "body", "LStrandArchive$Body;", "StrandArchive"), ("StrandArchive", 132, "StrandArchive$Decoding", "size", "I", "StrandArchive"), ("StrandArchive", 139, "StrandArchive$Decoding", "fixed", "I", "StrandArchive"), ("StrandArchive", 142, "StrandArchive$Decoding", "dropped", "I", "StrandArchive"), ("StrandArchive", 138, "StrandArchive$Decoding", "bytes", "[I", "StrandArchive"), ("StrandArchive", 145, "StrandArchive$Decoding", "erased", "[I", "StrandArchive"), ("StrandArchive", 148, "StrandArchive$Decoding", "changed", "[I", "StrandArchive")]
def ma_nfi : List Nat := [75, 77, 79, 80, 81, 111, 112, 147, 172, 188, 190, 192, 194, 196, 198]
def ma_nmi : List Nat := [70, 165, 495]
def ma_nm : List (String × Nat × MethodName × String) := [("StrandArchive", 155, ⟨"StrandArchive$Row", "<init>", "()V"⟩, "StrandArchive"), ("StrandArchive$Decoding", 11, ⟨"StrandArchive$Reader", "<init>", "()V"⟩, "StrandArchive"), ("StrandArchive$Decoding", 95, ⟨"StrandArchive", "blocksOf", "(I)I"⟩, "StrandArchive")]
/-! the methods: (name, code, locals, return type, depth, cells, slots) -/
def me_Row_append : MethodName × ByteArray × Nat × Option FieldType × Nat × Nat × Nat := (⟨"StrandArchive$Row", "append", "(I)V"⟩, prog_7_method_4_code, 2, none, 0, 0, 0)
def me_Row_at : MethodName × ByteArray × Nat × Option FieldType × Nat × Nat × Nat := (⟨"StrandArchive$Row", "at", "(I)I"⟩, prog_7_method_3_code, 4, some (.int), 0, 0, 0)
def me_Row_become : MethodName × ByteArray × Nat × Option FieldType × Nat × Nat × Nat := (⟨"StrandArchive$Row", "become", "(JJI)V"⟩, prog_7_method_2_code, 6, none, 0, 0, 0)
def me_Fld_over : MethodName × ByteArray × Nat × Option FieldType × Nat × Nat × Nat := (⟨"StrandArchive$Field", "over", "(II)I"⟩, prog_5_method_4_code, 3, some (.int), 0, 0, 0)
def me_Fld_powerOfTwo : MethodName × ByteArray × Nat × Option FieldType × Nat × Nat × Nat := (⟨"StrandArchive$Field", "powerOfTwo", "(I)I"⟩, prog_5_method_2_code, 2, some (.int), 0, 0, 0)
def me_Fld_times : MethodName × ByteArray × Nat × Option FieldType × Nat × Nat × Nat := (⟨"StrandArchive$Field", "times", "(II)I"⟩, prog_5_method_3_code, 3, some (.int), 0, 0, 0)
def me_Bod_ahead : MethodName × ByteArray × Nat × Option FieldType × Nat × Nat × Nat := (⟨"StrandArchive$Body", "ahead", "(I)I"⟩, prog_2_method_7_code, 2, some (.int), 0, 0, 0)
def me_Bod_rise : MethodName × ByteArray × Nat × Option FieldType × Nat × Nat × Nat := (⟨"StrandArchive$Body", "rise", "(I)I"⟩, prog_2_method_8_code, 2, some (.int), 0, 0, 0)
def me_Bod_signature : MethodName × ByteArray × Nat × Option FieldType × Nat × Nat × Nat := (⟨"StrandArchive$Body", "signature", "()I"⟩, prog_2_method_4_code, 1, some (.int), 0, 0, 0)
def me_Bod_sum : MethodName × ByteArray × Nat × Option FieldType × Nat × Nat × Nat := (⟨"StrandArchive$Body", "sum", "()I"⟩, prog_2_method_3_code, 1, some (.int), 0, 0, 0)
def me_Col_countUnknown : MethodName × ByteArray × Nat × Option FieldType × Nat × Nat × Nat := (⟨"StrandArchive$Column", "countUnknown", "()I"⟩, prog_3_method_4_code, 3, some (.int), 0, 0, 0)
def me_Col_set : MethodName × ByteArray × Nat × Option FieldType × Nat × Nat × Nat := (⟨"StrandArchive$Column", "set", "(IIZ)V"⟩, prog_3_method_2_code, 4, none, 0, 0, 0)
def me_Dec_loseBlock : MethodName × ByteArray × Nat × Option FieldType × Nat × Nat × Nat := (⟨"StrandArchive$Decoding", "loseBlock", "(I)V"⟩, prog_4_method_8_code, 3, none, 0, 0, 0)
def me_Dec_settleSlots : MethodName × ByteArray × Nat × Option FieldType × Nat × Nat × Nat := (⟨"StrandArchive$Decoding", "settleSlots", "(I)V"⟩, prog_4_method_6_code, 4, none, 0, 0, 0)
def me_Arc_blocksOf : MethodName × ByteArray × Nat × Option FieldType × Nat × Nat × Nat := (⟨"StrandArchive", "blocksOf", "(I)I"⟩, prog_1_method_19_code, 1, some (.int), 0, 0, 0)
def me_Arc_clear : MethodName × ByteArray × Nat × Option FieldType × Nat × Nat × Nat := (⟨"StrandArchive", "clear", "()V"⟩, prog_1_method_5_code, 1, none, 0, 0, 0)
def me_Arc_count : MethodName × ByteArray × Nat × Option FieldType × Nat × Nat × Nat := (⟨"StrandArchive", "count", "(I)I"⟩, prog_1_method_14_code, 2, some (.int), 0, 0, 0)
def me_Arc_heap : MethodName × ByteArray × Nat × Option FieldType × Nat × Nat × Nat := (⟨"StrandArchive", "heap", "()I"⟩, prog_1_method_11_code, 1, some (.int), 0, 0, 0)
def me_Arc_isFull : MethodName × ByteArray × Nat × Option FieldType × Nat × Nat × Nat := (⟨"StrandArchive", "isFull", "()Z"⟩, prog_1_method_21_code, 1, some (.boolean), 0, 0, 0)
def me_Arc_isSize : MethodName × ByteArray × Nat × Option FieldType × Nat × Nat × Nat := (⟨"StrandArchive", "isSize", "(I)Z"⟩, prog_1_method_18_code, 1, some (.boolean), 0, 0, 0)
def me_Arc_isWritten : MethodName × ByteArray × Nat × Option FieldType × Nat × Nat × Nat := (⟨"StrandArchive", "isWritten", "(I)Z"⟩, prog_1_method_20_code, 2, some (.boolean), 0, 0, 0)
def me_Arc_load : MethodName × ByteArray × Nat × Option FieldType × Nat × Nat × Nat := (⟨"StrandArchive", "load", "(II)Z"⟩, prog_1_method_2_code, 3, some (.boolean), 0, 0, 0)
def me_Arc_nextRead : MethodName × ByteArray × Nat × Option FieldType × Nat × Nat × Nat := (⟨"StrandArchive", "nextRead", "()LStrandArchive$Row;"⟩, prog_1_method_22_code, 1, some ((.object "StrandArchive$Row")), 0, 0, 0)
def me_Arc_shuffle : MethodName × ByteArray × Nat × Option FieldType × Nat × Nat × Nat := (⟨"StrandArchive", "shuffle", "(I)Z"⟩, prog_1_method_10_code, 6, some (.boolean), 0, 0, 0)
def me_Mod_clear : MethodName × ByteArray × Nat × Option FieldType × Nat × Nat × Nat := (⟨"StrandArchiveModel", "clear", "()V"⟩, prog_9_method_15_code, 1, none, 0, 0, 0)
def me_Mod_count : MethodName × ByteArray × Nat × Option FieldType × Nat × Nat × Nat := (⟨"StrandArchiveModel", "count", "(I)I"⟩, prog_9_method_32_code, 2, some (.int), 0, 0, 0)
def me_Mod_group : MethodName × ByteArray × Nat × Option FieldType × Nat × Nat × Nat := (⟨"StrandArchiveModel", "group", "(I)I"⟩, prog_9_method_25_code, 5, some (.int), 0, 0, 0)
def me_Mod_heap : MethodName × ByteArray × Nat × Option FieldType × Nat × Nat × Nat := (⟨"StrandArchiveModel", "heap", "()I"⟩, prog_9_method_22_code, 1, some (.int), 0, 0, 0)
def me_Mod_in : MethodName × ByteArray × Nat × Option FieldType × Nat × Nat × Nat := (⟨"StrandArchiveModel", "in", "(III)Z"⟩, prog_9_method_3_code, 3, some (.boolean), 0, 0, 0)
def me_Mod_most : MethodName × ByteArray × Nat × Option FieldType × Nat × Nat × Nat := (⟨"StrandArchiveModel", "most", "(I)I"⟩, prog_9_method_23_code, 5, some (.int), 0, 0, 0)
def me_Mod_ones : MethodName × ByteArray × Nat × Option FieldType × Nat × Nat × Nat := (⟨"StrandArchiveModel", "ones", "(I)I"⟩, prog_9_method_29_code, 3, some (.int), 0, 0, 0)
def me_Mod_shuffle : MethodName × ByteArray × Nat × Option FieldType × Nat × Nat × Nat := (⟨"StrandArchiveModel", "shuffle", "(I)Z"⟩, prog_9_method_21_code, 8, some (.boolean), 0, 0, 0)
def me_Mod_signature : MethodName × ByteArray × Nat × Option FieldType × Nat × Nat × Nat := (⟨"StrandArchiveModel", "signature", "()I"⟩, prog_9_method_12_code, 3, some (.int), 0, 0, 0)
def me_Mod_sum : MethodName × ByteArray × Nat × Option FieldType × Nat × Nat × Nat := (⟨"StrandArchiveModel", "sum", "()I"⟩, prog_9_method_11_code, 3, some (.int), 0, 0, 0)
def me_Mod_thrown : MethodName × ByteArray × Nat × Option FieldType × Nat × Nat × Nat := (⟨"StrandArchiveModel", "thrown", "()I"⟩, prog_9_method_2_code, 1, some (.int), 0, 0, 0)
def me_Mod_times : MethodName × ByteArray × Nat × Option FieldType × Nat × Nat × Nat := (⟨"StrandArchiveModel", "times", "(II)I"⟩, prog_9_method_4_code, 5, some (.int), 0, 0, 0)
def me_Itg_bitCount : MethodName × ByteArray × Nat × Option FieldType × Nat × Nat × Nat := (⟨"java/lang/Integer", "bitCount", "(I)I"⟩, prog_11_method_49_code, 1, some (.int), 0, 0, 0)
def me_Arr_fill : MethodName × ByteArray × Nat × Option FieldType × Nat × Nat × Nat := (⟨"java/util/Arrays", "fill", "([II)V"⟩, prog_16_method_103_code, 4, none, 0, 0, 0)
def me_Mth_floorMod : MethodName × ByteArray × Nat × Option FieldType × Nat × Nat × Nat := (⟨"java/lang/Math", "floorMod", "(II)I"⟩, prog_12_method_50_code, 3, some (.int), 0, 0, 0)
def me_Row_init : MethodName × ByteArray × Nat × Option FieldType × Nat × Nat × Nat := (⟨"StrandArchive$Row", "<init>", "()V"⟩, prog_7_method_1_code, 1, none, 1, 0, 0)
def me_Row_appendPart : MethodName × ByteArray × Nat × Option FieldType × Nat × Nat × Nat := (⟨"StrandArchive$Row", "appendPart", "(LStrandArchive$Row;II)V"⟩, prog_7_method_5_code, 5, none, 1, 0, 0)
def me_Fld_init : MethodName × ByteArray × Nat × Option FieldType × Nat × Nat × Nat := (⟨"StrandArchive$Field", "<init>", "()V"⟩, prog_5_method_1_code, 3, none, 1, 2, 511)
def me_Bod_init : MethodName × ByteArray × Nat × Option FieldType × Nat × Nat × Nat := (⟨"StrandArchive$Body", "<init>", "()V"⟩, prog_2_method_1_code, 2, none, 1, 1, 33)
def me_Bod_put : MethodName × ByteArray × Nat × Option FieldType × Nat × Nat × Nat := (⟨"StrandArchive$Body", "put", "(II)V"⟩, prog_2_method_2_code, 3, none, 1, 0, 0)
def me_Bod_spelled : MethodName × ByteArray × Nat × Option FieldType × Nat × Nat × Nat := (⟨"StrandArchive$Body", "spelled", "(I)I"⟩, prog_2_method_6_code, 6, some (.int), 1, 0, 0)
def me_Rdr_isDue : MethodName × ByteArray × Nat × Option FieldType × Nat × Nat × Nat := (⟨"StrandArchive$Reader", "isDue", "()Z"⟩, prog_6_method_5_code, 1, some (.boolean), 1, 0, 0)
def me_Rdr_majority : MethodName × ByteArray × Nat × Option FieldType × Nat × Nat × Nat := (⟨"StrandArchive$Reader", "majority", "(LStrandArchive$Row;I)I"⟩, prog_6_method_4_code, 5, some (.int), 1, 0, 0)
def me_Col_init : MethodName × ByteArray × Nat × Option FieldType × Nat × Nat × Nat := (⟨"StrandArchive$Column", "<init>", "(LStrandArchive$Field;)V"⟩, prog_3_method_1_code, 2, none, 1, 8, 72)
def me_Col_addUp : MethodName × ByteArray × Nat × Option FieldType × Nat × Nat × Nat := (⟨"StrandArchive$Column", "addUp", "()V"⟩, prog_3_method_5_code, 4, none, 1, 0, 0)
def me_Col_missAt : MethodName × ByteArray × Nat × Option FieldType × Nat × Nat × Nat := (⟨"StrandArchive$Column", "missAt", "(II)I"⟩, prog_3_method_10_code, 5, some (.int), 1, 0, 0)
def me_Col_polynomialAt : MethodName × ByteArray × Nat × Option FieldType × Nat × Nat × Nat := (⟨"StrandArchive$Column", "polynomialAt", "(II)I"⟩, prog_3_method_14_code, 5, some (.int), 1, 0, 0)
def me_Col_recurrenceAt : MethodName × ByteArray × Nat × Option FieldType × Nat × Nat × Nat := (⟨"StrandArchive$Column", "recurrenceAt", "(II)I"⟩, prog_3_method_12_code, 5, some (.int), 1, 0, 0)
def me_Col_spanUnknown : MethodName × ByteArray × Nat × Option FieldType × Nat × Nat × Nat := (⟨"StrandArchive$Column", "spanUnknown", "(I)I"⟩, prog_3_method_7_code, 6, some (.int), 1, 0, 0)
def me_Col_weigh : MethodName × ByteArray × Nat × Option FieldType × Nat × Nat × Nat := (⟨"StrandArchive$Column", "weigh", "(II)I"⟩, prog_3_method_8_code, 5, some (.int), 1, 0, 0)
def me_Dec_begin : MethodName × ByteArray × Nat × Option FieldType × Nat × Nat × Nat := (⟨"StrandArchive$Decoding", "begin", "(I)V"⟩, prog_4_method_2_code, 2, none, 1, 0, 0)
def me_Dec_slotOf : MethodName × ByteArray × Nat × Option FieldType × Nat × Nat × Nat := (⟨"StrandArchive$Decoding", "slotOf", "(I)I"⟩, prog_4_method_5_code, 5, some (.int), 1, 0, 0)
def me_Arc_appendCopies : MethodName × ByteArray × Nat × Option FieldType × Nat × Nat × Nat := (⟨"StrandArchive", "appendCopies", "(LStrandArchive$Row;I)V"⟩, prog_1_method_25_code, 3, none, 1, 0, 0)
def me_Arc_forge : MethodName × ByteArray × Nat × Option FieldType × Nat × Nat × Nat := (⟨"StrandArchive", "forge", "(JJI)Z"⟩, prog_1_method_9_code, 6, some (.boolean), 1, 0, 0)
def me_Arc_letter : MethodName × ByteArray × Nat × Option FieldType × Nat × Nat × Nat := (⟨"StrandArchive", "letter", "(II)I"⟩, prog_1_method_4_code, 3, some (.int), 1, 0, 0)
def me_Arc_product : MethodName × ByteArray × Nat × Option FieldType × Nat × Nat × Nat := (⟨"StrandArchive", "product", "(II)I"⟩, prog_1_method_16_code, 3, some (.int), 1, 0, 0)
def me_Arc_read : MethodName × ByteArray × Nat × Option FieldType × Nat × Nat × Nat := (⟨"StrandArchive", "read", "(I)Z"⟩, prog_1_method_6_code, 3, some (.boolean), 1, 0, 0)
def me_Mod_block : MethodName × ByteArray × Nat × Option FieldType × Nat × Nat × Nat := (⟨"StrandArchiveModel", "block", "(II)I"⟩, prog_9_method_33_code, 3, some (.int), 1, 0, 0)
def me_Mod_come : MethodName × ByteArray × Nat × Option FieldType × Nat × Nat × Nat := (⟨"StrandArchiveModel", "come", "(IIII)Z"⟩, prog_9_method_16_code, 7, some (.boolean), 1, 0, 0)
def me_Mod_forge : MethodName × ByteArray × Nat × Option FieldType × Nat × Nat × Nat := (⟨"StrandArchiveModel", "forge", "(JJI)Z"⟩, prog_9_method_20_code, 7, some (.boolean), 1, 0, 0)
def me_Mod_inverse : MethodName × ByteArray × Nat × Option FieldType × Nat × Nat × Nat := (⟨"StrandArchiveModel", "inverse", "(I)I"⟩, prog_9_method_6_code, 2, some (.int), 1, 0, 0)
def me_Mod_isFound : MethodName × ByteArray × Nat × Option FieldType × Nat × Nat × Nat := (⟨"StrandArchiveModel", "isFound", "(I)Z"⟩, prog_9_method_24_code, 11, some (.boolean), 1, 0, 0)
def me_Mod_lay : MethodName × ByteArray × Nat × Option FieldType × Nat × Nat × Nat := (⟨"StrandArchiveModel", "lay", "(III)V"⟩, prog_9_method_10_code, 12, none, 1, 0, 0)
def me_Mod_letter : MethodName × ByteArray × Nat × Option FieldType × Nat × Nat × Nat := (⟨"StrandArchiveModel", "letter", "(II)I"⟩, prog_9_method_14_code, 3, some (.int), 1, 0, 0)
def me_Mod_load : MethodName × ByteArray × Nat × Option FieldType × Nat × Nat × Nat := (⟨"StrandArchiveModel", "load", "(II)Z"⟩, prog_9_method_8_code, 3, some (.boolean), 1, 0, 0)
def me_Mod_out : MethodName × ByteArray × Nat × Option FieldType × Nat × Nat × Nat := (⟨"StrandArchiveModel", "out", "(I)I"⟩, prog_9_method_31_code, 2, some (.int), 1, 0, 0)
def me_Mod_power : MethodName × ByteArray × Nat × Option FieldType × Nat × Nat × Nat := (⟨"StrandArchiveModel", "power", "(I)I"⟩, prog_9_method_5_code, 3, some (.int), 1, 0, 0)
def me_Mod_product : MethodName × ByteArray × Nat × Option FieldType × Nat × Nat × Nat := (⟨"StrandArchiveModel", "product", "(II)I"⟩, prog_9_method_7_code, 3, some (.int), 1, 0, 0)
def me_Mod_slot : MethodName × ByteArray × Nat × Option FieldType × Nat × Nat × Nat := (⟨"StrandArchiveModel", "slot", "(I)I"⟩, prog_9_method_26_code, 3, some (.int), 1, 0, 0)
def me_Mod_solved : MethodName × ByteArray × Nat × Option FieldType × Nat × Nat × Nat := (⟨"StrandArchiveModel", "solved", "(I)Z"⟩, prog_9_method_9_code, 8, some (.boolean), 1, 0, 0)
def me_Bod_spell : MethodName × ByteArray × Nat × Option FieldType × Nat × Nat × Nat := (⟨"StrandArchive$Body", "spell", "(II)V"⟩, prog_2_method_5_code, 7, none, 2, 0, 0)
def me_Rdr_init : MethodName × ByteArray × Nat × Option FieldType × Nat × Nat × Nat := (⟨"StrandArchive$Reader", "<init>", "()V"⟩, prog_6_method_1_code, 1, none, 2, 2, 36)
def me_Rdr_restoreCut : MethodName × ByteArray × Nat × Option FieldType × Nat × Nat × Nat := (⟨"StrandArchive$Reader", "restoreCut", "(LStrandArchive$Row;)Z"⟩, prog_6_method_7_code, 5, some (.boolean), 2, 0, 0)
def me_Rdr_restoreGrown : MethodName × ByteArray × Nat × Option FieldType × Nat × Nat × Nat := (⟨"StrandArchive$Reader", "restoreGrown", "(LStrandArchive$Row;)Z"⟩, prog_6_method_8_code, 3, some (.boolean), 2, 0, 0)
def me_Rdr_restoreWhole : MethodName × ByteArray × Nat × Option FieldType × Nat × Nat × Nat := (⟨"StrandArchive$Reader", "restoreWhole", "(LStrandArchive$Row;)Z"⟩, prog_6_method_6_code, 3, some (.boolean), 2, 0, 0)
def me_Rdr_takeTail : MethodName × ByteArray × Nat × Option FieldType × Nat × Nat × Nat := (⟨"StrandArchive$Reader", "takeTail", "(LStrandArchive$Row;)Z"⟩, prog_6_method_3_code, 6, some (.boolean), 2, 0, 0)
def me_Col_fillUnknown : MethodName × ByteArray × Nat × Option FieldType × Nat × Nat × Nat := (⟨"StrandArchive$Column", "fillUnknown", "()V"⟩, prog_3_method_13_code, 3, none, 2, 0, 0)
def me_Col_findRecurrence : MethodName × ByteArray × Nat × Option FieldType × Nat × Nat × Nat := (⟨"StrandArchive$Column", "findRecurrence", "(I)I"⟩, prog_3_method_9_code, 9, some (.int), 2, 0, 0)
def me_Col_markWrong : MethodName × ByteArray × Nat × Option FieldType × Nat × Nat × Nat := (⟨"StrandArchive$Column", "markWrong", "(I)I"⟩, prog_3_method_11_code, 4, some (.int), 2, 0, 0)
def me_Col_siftOutUnknown : MethodName × ByteArray × Nat × Option FieldType × Nat × Nat × Nat := (⟨"StrandArchive$Column", "siftOutUnknown", "(I)V"⟩, prog_3_method_6_code, 4, none, 2, 0, 0)
def me_Arc_newRows : MethodName × ByteArray × Nat × Option FieldType × Nat × Nat × Nat := (⟨"StrandArchive", "newRows", "(I)[LStrandArchive$Row;"⟩, prog_1_method_17_code, 3, some ((.array (.object "StrandArchive$Row"))), 2, 65, 256)
def me_Arc_newRows90 : MethodName × ByteArray × Nat × Option FieldType × Nat × Nat × Nat := (⟨"StrandArchive", "newRows", "(I)[LStrandArchive$Row;"⟩, prog_1_method_17_code, 3, some ((.array (.object "StrandArchive$Row"))), 2, 91, 360)
def me_Arc_readCut : MethodName × ByteArray × Nat × Option FieldType × Nat × Nat × Nat := (⟨"StrandArchive", "readCut", "(II)Z"⟩, prog_1_method_7_code, 4, some (.boolean), 2, 0, 0)
def me_Arc_readGrown : MethodName × ByteArray × Nat × Option FieldType × Nat × Nat × Nat := (⟨"StrandArchive", "readGrown", "(III)Z"⟩, prog_1_method_8_code, 5, some (.boolean), 2, 0, 0)
def me_Mod_init : MethodName × ByteArray × Nat × Option FieldType × Nat × Nat × Nat := (⟨"StrandArchiveModel", "<init>", "()V"⟩, prog_9_method_1_code, 2, none, 2, 16, 9527)
def me_Mod_isColumn : MethodName × ByteArray × Nat × Option FieldType × Nat × Nat × Nat := (⟨"StrandArchiveModel", "isColumn", "(II)Z"⟩, prog_9_method_30_code, 10, some (.boolean), 2, 0, 0)
def me_Mod_read : MethodName × ByteArray × Nat × Option FieldType × Nat × Nat × Nat := (⟨"StrandArchiveModel", "read", "(I)Z"⟩, prog_9_method_17_code, 2, some (.boolean), 2, 0, 0)
def me_Mod_readCut : MethodName × ByteArray × Nat × Option FieldType × Nat × Nat × Nat := (⟨"StrandArchiveModel", "readCut", "(II)Z"⟩, prog_9_method_18_code, 3, some (.boolean), 2, 0, 0)
def me_Mod_readGrown : MethodName × ByteArray × Nat × Option FieldType × Nat × Nat × Nat := (⟨"StrandArchiveModel", "readGrown", "(III)Z"⟩, prog_9_method_19_code, 4, some (.boolean), 2, 0, 0)
def me_Mod_write : MethodName × ByteArray × Nat × Option FieldType × Nat × Nat × Nat := (⟨"StrandArchiveModel", "write", "(I)I"⟩, prog_9_method_13_code, 7, some (.int), 2, 0, 0)
def me_Rdr_restore : MethodName × ByteArray × Nat × Option FieldType × Nat × Nat × Nat := (⟨"StrandArchive$Reader", "restore", "(LStrandArchive$Row;)Z"⟩, prog_6_method_2_code, 2, some (.boolean), 3, 0, 0)
def me_Col_mend : MethodName × ByteArray × Nat × Option FieldType × Nat × Nat × Nat := (⟨"StrandArchive$Column", "mend", "()Z"⟩, prog_3_method_3_code, 4, some (.boolean), 3, 0, 0)
def me_Dec_init : MethodName × ByteArray × Nat × Option FieldType × Nat × Nat × Nat := (⟨"StrandArchive$Decoding", "<init>", "(LStrandArchive$Column;)V"⟩, prog_4_method_1_code, 2, none, 3, 8, 527)
def me_Arc_spellStrand : MethodName × ByteArray × Nat × Option FieldType × Nat × Nat × Nat := (⟨"StrandArchive", "spellStrand", "(II)V"⟩, prog_1_method_24_code, 6, none, 3, 0, 0)
def me_Mod_isMended : MethodName × ByteArray × Nat × Option FieldType × Nat × Nat × Nat := (⟨"StrandArchiveModel", "isMended", "(I)Z"⟩, prog_9_method_28_code, 8, some (.boolean), 3, 0, 0)
def me_Dec_mendColumn : MethodName × ByteArray × Nat × Option FieldType × Nat × Nat × Nat := (⟨"StrandArchive$Decoding", "mendColumn", "(II)Z"⟩, prog_4_method_7_code, 5, some (.boolean), 4, 0, 0)
def me_Dec_take : MethodName × ByteArray × Nat × Option FieldType × Nat × Nat × Nat := (⟨"StrandArchive$Decoding", "take", "(LStrandArchive$Row;)V"⟩, prog_4_method_3_code, 6, none, 4, 0, 0)
def me_Arc_init : MethodName × ByteArray × Nat × Option FieldType × Nat × Nat × Nat := (⟨"StrandArchive", "<init>", "()V"⟩, prog_1_method_1_code, 1, none, 4, 181, 2008)
def me_Arc_fillBlock : MethodName × ByteArray × Nat × Option FieldType × Nat × Nat × Nat := (⟨"StrandArchive", "fillBlock", "(II)V"⟩, prog_1_method_23_code, 7, none, 4, 0, 0)
def me_Mod_decode : MethodName × ByteArray × Nat × Option FieldType × Nat × Nat × Nat := (⟨"StrandArchiveModel", "decode", "(I)I"⟩, prog_9_method_27_code, 6, some (.int), 4, 0, 0)
def me_Dec_finishBlock : MethodName × ByteArray × Nat × Option FieldType × Nat × Nat × Nat := (⟨"StrandArchive$Decoding", "finishBlock", "(I)Z"⟩, prog_4_method_4_code, 3, some (.boolean), 5, 0, 0)
def me_Arc_write : MethodName × ByteArray × Nat × Option FieldType × Nat × Nat × Nat := (⟨"StrandArchive", "write", "(I)I"⟩, prog_1_method_3_code, 5, some (.int), 5, 0, 0)
def me_Arc_decode : MethodName × ByteArray × Nat × Option FieldType × Nat × Nat × Nat := (⟨"StrandArchive", "decode", "(I)I"⟩, prog_1_method_12_code, 4, some (.int), 6, 0, 0)
def ma_mt : List (MethodName × ByteArray × Nat × Option FieldType × Nat × Nat × Nat) := [me_Row_append, me_Row_append, me_Row_at, me_Row_become, me_Fld_over, me_Fld_powerOfTwo, me_Fld_times, me_Bod_ahead, me_Bod_rise, me_Bod_signature, me_Bod_sum, me_Col_countUnknown, me_Col_set, me_Dec_loseBlock, me_Dec_settleSlots, me_Arc_blocksOf, me_Arc_clear, me_Arc_count, me_Arc_heap, me_Arc_isFull, me_Arc_isSize, me_Arc_isWritten, me_Arc_load, me_Arc_nextRead, me_Arc_shuffle, me_Mod_clear, me_Mod_count, me_Mod_group, me_Mod_heap, me_Mod_in, me_Mod_most, me_Mod_ones, me_Mod_shuffle, me_Mod_signature, me_Mod_sum, me_Mod_thrown, me_Mod_times, me_Itg_bitCount, me_Arr_fill, me_Mth_floorMod, me_Row_init, me_Row_appendPart, me_Fld_init, me_Bod_init, me_Bod_put, me_Bod_spelled, me_Rdr_isDue, me_Rdr_majority, me_Col_init, me_Col_addUp, me_Col_missAt, me_Col_polynomialAt, me_Col_recurrenceAt, me_Col_spanUnknown, me_Col_weigh, me_Dec_begin, me_Dec_slotOf, me_Arc_appendCopies, me_Arc_forge, me_Arc_letter, me_Arc_product, me_Arc_read, me_Mod_block, me_Mod_come, me_Mod_forge, me_Mod_inverse, me_Mod_isFound, me_Mod_lay, me_Mod_letter, me_Mod_load, me_Mod_out, me_Mod_power, me_Mod_product, me_Mod_slot, me_Mod_solved, me_Bod_spell, me_Rdr_init, me_Rdr_restoreCut, me_Rdr_restoreGrown, me_Rdr_restoreWhole, me_Rdr_takeTail, me_Col_fillUnknown, me_Col_findRecurrence, me_Col_markWrong, me_Col_siftOutUnknown, me_Arc_newRows, me_Arc_readCut, me_Arc_readGrown, me_Mod_init, me_Mod_isColumn, me_Mod_read, me_Mod_readCut, me_Mod_readGrown, me_Mod_write, me_Rdr_restore, me_Col_mend, me_Dec_init, me_Arc_spellStrand, me_Mod_isMended, me_Dec_mendColumn, me_Dec_take, me_Arc_init, me_Arc_fillBlock, me_Mod_decode, me_Dec_finishBlock, me_Arc_write, me_Arc_decode, me_Arc_newRows90]
def ma_li0 : Nat → List Nat
  | 0 => [82, 84, 86]
  | 1 => [98, 100]
  | 2 => [150, 152, 154]
  | 3 => [175, 177, 179]
  | 4 => [120, 122, 124, 126, 128, 130, 132, 134, 136]
  | 5 => [199, 201, 203, 205, 207, 209, 211, 213, 215, 217, 219]
  | 6 => [232, 234, 236, 238, 240, 242, 244, 246, 248, 250]
  | 7 => [642, 644, 646, 648, 650, 652, 654, 656, 658, 660, 662, 664, 666, 668, 670, 672, 674, 676, 678, 680, 682, 684]
  | _ => []
def ma_clck (ci : Nat) (q : vw_C) : Bool := decide ((ma_ty ci).length = q.2.2) && (List.range q.2.2).all (fun k => decide (parseFieldDescriptor (q.2.1 k).2.2.1 = (ma_ty ci)[k]?)) && (List.range q.2.2).all (fun a => (List.range q.2.2).all (fun b => decide (a = b) || decide ((q.2.1 a).2.1 ≠ (q.2.1 b).2.1))) && (List.range q.2.2).all (fun k => ma_has ((ma_li0 ci).getD k 0) (u_lay q.1 q.2.1 k))
set_option maxRecDepth 20000 in
theorem ma_clc0 : ma_clck 0 ("StrandArchive$Row", ma_T0, 3) = true := by decide +kernel
set_option maxRecDepth 20000 in
theorem ma_clc1 : ma_clck 1 ("StrandArchive$Field", ma_T1, 2) = true := by decide +kernel
set_option maxRecDepth 20000 in
theorem ma_clc2 : ma_clck 2 ("StrandArchive$Body", ma_T2, 3) = true := by decide +kernel
set_option maxRecDepth 20000 in
theorem ma_clc3 : ma_clck 3 ("StrandArchive$Reader", ma_T3, 3) = true := by decide +kernel
set_option maxRecDepth 20000 in
theorem ma_clc4 : ma_clck 4 ("StrandArchive$Column", ma_T4, 9) = true := by decide +kernel
set_option maxRecDepth 20000 in
theorem ma_clc5 : ma_clck 5 ("StrandArchive$Decoding", ma_T5, 11) = true := by decide +kernel
set_option maxRecDepth 20000 in
theorem ma_clc6 : ma_clck 6 ("StrandArchive", ma_T6, 10) = true := by decide +kernel
set_option maxRecDepth 20000 in
theorem ma_clc7 : ma_clck 7 ("StrandArchiveModel", ma_T7, 22) = true := by decide +kernel
theorem ma_clcs : ∀ {ci : Nat} {q : vw_C}, ma_cl[ci]? = some q → ma_clck ci q = true
  | 0, _, h => by cases h; exact ma_clc0
  | 1, _, h => by cases h; exact ma_clc1
  | 2, _, h => by cases h; exact ma_clc2
  | 3, _, h => by cases h; exact ma_clc3
  | 4, _, h => by cases h; exact ma_clc4
  | 5, _, h => by cases h; exact ma_clc5
  | 6, _, h => by cases h; exact ma_clc6
  | 7, _, h => by cases h; exact ma_clc7
  | n + 8, _, h => by cases h
theorem ma_clok {ci : Nat} {C : String} {T : u_T} {N : Nat} (h : ma_cl[ci]? = some (C, T, N)) : (ma_ty ci).length = N ∧ (∀ k, k < N → parseFieldDescriptor (T k).2.2.1 = (ma_ty ci)[k]?) ∧ (∀ a, a < N → ∀ b, b < N → a ≠ b → (T a).2.1 ≠ (T b).2.1) ∧ (∀ w ∈ u_ws C T N, w ∈ ma_wd) := by
  have h1 := ma_clcs h
  unfold ma_clck at h1
  simp only [Bool.and_eq_true, List.all_eq_true, List.mem_range, Bool.or_eq_true, decide_eq_true_eq] at h1
  obtain ⟨⟨⟨h1, h2⟩, h3⟩, h4⟩ := h1
  refine ⟨h1, h2, fun a ha b hb hab => (h3 a ha b hb).resolve_left hab, fun w hw => ?_⟩
  obtain ⟨k, hk, rfl⟩ := List.mem_map.mp hw
  exact ma_has_in (h4 k (List.mem_range.mp hk))
end
section
/-! the code of each method is among the words -/
set_option maxRecDepth 30000 in
theorem mc_Row_append : Cond.code me_Row_append.1 me_Row_append.2.1 me_Row_append.2.2.1 me_Row_append.2.2.2.1 ∈ ma_wd := List.mem_filter.mpr ⟨List.mem_of_getElem? (i := 369) rfl, rfl⟩
set_option maxRecDepth 30000 in
theorem mc_Row_at : Cond.code me_Row_at.1 me_Row_at.2.1 me_Row_at.2.2.1 me_Row_at.2.2.2.1 ∈ ma_wd := List.mem_filter.mpr ⟨List.mem_of_getElem? (i := 392) rfl, rfl⟩
set_option maxRecDepth 30000 in
theorem mc_Row_become : Cond.code me_Row_become.1 me_Row_become.2.1 me_Row_become.2.2.1 me_Row_become.2.2.2.1 ∈ ma_wd := List.mem_filter.mpr ⟨List.mem_of_getElem? (i := 365) rfl, rfl⟩
set_option maxRecDepth 30000 in
theorem mc_Fld_over : Cond.code me_Fld_over.1 me_Fld_over.2.1 me_Fld_over.2.2.1 me_Fld_over.2.2.2.1 ∈ ma_wd := List.mem_filter.mpr ⟨List.mem_of_getElem? (i := 324) rfl, rfl⟩
set_option maxRecDepth 30000 in
theorem mc_Fld_powerOfTwo : Cond.code me_Fld_powerOfTwo.1 me_Fld_powerOfTwo.2.1 me_Fld_powerOfTwo.2.2.1 me_Fld_powerOfTwo.2.2.2.1 ∈ ma_wd := List.mem_filter.mpr ⟨List.mem_of_getElem? (i := 290) rfl, rfl⟩
set_option maxRecDepth 30000 in
theorem mc_Fld_times : Cond.code me_Fld_times.1 me_Fld_times.2.1 me_Fld_times.2.2.1 me_Fld_times.2.2.2.1 ∈ ma_wd := List.mem_filter.mpr ⟨List.mem_of_getElem? (i := 294) rfl, rfl⟩
set_option maxRecDepth 30000 in
theorem mc_Bod_ahead : Cond.code me_Bod_ahead.1 me_Bod_ahead.2.1 me_Bod_ahead.2.2.1 me_Bod_ahead.2.2.2.1 ∈ ma_wd := List.mem_filter.mpr ⟨List.mem_of_getElem? (i := 353) rfl, rfl⟩
set_option maxRecDepth 30000 in
theorem mc_Bod_rise : Cond.code me_Bod_rise.1 me_Bod_rise.2.1 me_Bod_rise.2.2.1 me_Bod_rise.2.2.2.1 ∈ ma_wd := List.mem_filter.mpr ⟨List.mem_of_getElem? (i := 361) rfl, rfl⟩
set_option maxRecDepth 30000 in
theorem mc_Bod_signature : Cond.code me_Bod_signature.1 me_Bod_signature.2.1 me_Bod_signature.2.2.1 me_Bod_signature.2.2.2.1 ∈ ma_wd := List.mem_filter.mpr ⟨List.mem_of_getElem? (i := 373) rfl, rfl⟩
set_option maxRecDepth 30000 in
theorem mc_Bod_sum : Cond.code me_Bod_sum.1 me_Bod_sum.2.1 me_Bod_sum.2.2.1 me_Bod_sum.2.2.2.1 ∈ ma_wd := List.mem_filter.mpr ⟨List.mem_of_getElem? (i := 377) rfl, rfl⟩
set_option maxRecDepth 30000 in
theorem mc_Col_countUnknown : Cond.code me_Col_countUnknown.1 me_Col_countUnknown.2.1 me_Col_countUnknown.2.2.1 me_Col_countUnknown.2.2.2.1 ∈ ma_wd := List.mem_filter.mpr ⟨List.mem_of_getElem? (i := 282) rfl, rfl⟩
set_option maxRecDepth 30000 in
theorem mc_Col_set : Cond.code me_Col_set.1 me_Col_set.2.1 me_Col_set.2.2.1 me_Col_set.2.2.2.1 ∈ ma_wd := List.mem_filter.mpr ⟨List.mem_of_getElem? (i := 274) rfl, rfl⟩
set_option maxRecDepth 30000 in
theorem mc_Dec_loseBlock : Cond.code me_Dec_loseBlock.1 me_Dec_loseBlock.2.1 me_Dec_loseBlock.2.2.1 me_Dec_loseBlock.2.2.2.1 ∈ ma_wd := List.mem_filter.mpr ⟨List.mem_of_getElem? (i := 513) rfl, rfl⟩
set_option maxRecDepth 30000 in
theorem mc_Dec_settleSlots : Cond.code me_Dec_settleSlots.1 me_Dec_settleSlots.2.1 me_Dec_settleSlots.2.2.1 me_Dec_settleSlots.2.2.2.1 ∈ ma_wd := List.mem_filter.mpr ⟨List.mem_of_getElem? (i := 503) rfl, rfl⟩
set_option maxRecDepth 30000 in
theorem mc_Arc_blocksOf : Cond.code me_Arc_blocksOf.1 me_Arc_blocksOf.2.1 me_Arc_blocksOf.2.2.1 me_Arc_blocksOf.2.2.2.1 ∈ ma_wd := List.mem_filter.mpr ⟨List.mem_of_getElem? (i := 266) rfl, rfl⟩
set_option maxRecDepth 30000 in
theorem mc_Arc_clear : Cond.code me_Arc_clear.1 me_Arc_clear.2.1 me_Arc_clear.2.2.1 me_Arc_clear.2.2.2.1 ∈ ma_wd := List.mem_filter.mpr ⟨List.mem_of_getElem? (i := 397) rfl, rfl⟩
set_option maxRecDepth 30000 in
theorem mc_Arc_count : Cond.code me_Arc_count.1 me_Arc_count.2.1 me_Arc_count.2.2.1 me_Arc_count.2.2.2.1 ∈ ma_wd := List.mem_filter.mpr ⟨List.mem_of_getElem? (i := 523) rfl, rfl⟩
set_option maxRecDepth 30000 in
theorem mc_Arc_heap : Cond.code me_Arc_heap.1 me_Arc_heap.2.1 me_Arc_heap.2.2.1 me_Arc_heap.2.2.2.1 ∈ ma_wd := List.mem_filter.mpr ⟨List.mem_of_getElem? (i := 438) rfl, rfl⟩
set_option maxRecDepth 30000 in
theorem mc_Arc_isFull : Cond.code me_Arc_isFull.1 me_Arc_isFull.2.1 me_Arc_isFull.2.2.1 me_Arc_isFull.2.2.2.1 ∈ ma_wd := List.mem_filter.mpr ⟨List.mem_of_getElem? (i := 405) rfl, rfl⟩
set_option maxRecDepth 30000 in
theorem mc_Arc_isSize : Cond.code me_Arc_isSize.1 me_Arc_isSize.2.1 me_Arc_isSize.2.2.1 me_Arc_isSize.2.2.2.1 ∈ ma_wd := List.mem_filter.mpr ⟨List.mem_of_getElem? (i := 263) rfl, rfl⟩
set_option maxRecDepth 30000 in
theorem mc_Arc_isWritten : Cond.code me_Arc_isWritten.1 me_Arc_isWritten.2.1 me_Arc_isWritten.2.2.1 me_Arc_isWritten.2.2.2.1 ∈ ma_wd := List.mem_filter.mpr ⟨List.mem_of_getElem? (i := 388) rfl, rfl⟩
set_option maxRecDepth 30000 in
theorem mc_Arc_load : Cond.code me_Arc_load.1 me_Arc_load.2.1 me_Arc_load.2.2.1 me_Arc_load.2.2.2.1 ∈ ma_wd := List.mem_filter.mpr ⟨List.mem_of_getElem? (i := 256) rfl, rfl⟩
set_option maxRecDepth 30000 in
theorem mc_Arc_nextRead : Cond.code me_Arc_nextRead.1 me_Arc_nextRead.2.1 me_Arc_nextRead.2.2.1 me_Arc_nextRead.2.2.2.1 ∈ ma_wd := List.mem_filter.mpr ⟨List.mem_of_getElem? (i := 409) rfl, rfl⟩
set_option maxRecDepth 30000 in
theorem mc_Arc_shuffle : Cond.code me_Arc_shuffle.1 me_Arc_shuffle.2.1 me_Arc_shuffle.2.2.1 me_Arc_shuffle.2.2.2.1 ∈ ma_wd := List.mem_filter.mpr ⟨List.mem_of_getElem? (i := 431) rfl, rfl⟩
set_option maxRecDepth 30000 in
theorem mc_Mod_clear : Cond.code me_Mod_clear.1 me_Mod_clear.2.1 me_Mod_clear.2.2.1 me_Mod_clear.2.2.2.1 ∈ ma_wd := List.mem_filter.mpr ⟨List.mem_of_getElem? (i := 731) rfl, rfl⟩
set_option maxRecDepth 30000 in
theorem mc_Mod_count : Cond.code me_Mod_count.1 me_Mod_count.2.1 me_Mod_count.2.2.1 me_Mod_count.2.2.2.1 ∈ ma_wd := List.mem_filter.mpr ⟨List.mem_of_getElem? (i := 805) rfl, rfl⟩
set_option maxRecDepth 30000 in
theorem mc_Mod_group : Cond.code me_Mod_group.1 me_Mod_group.2.1 me_Mod_group.2.2.1 me_Mod_group.2.2.2.1 ∈ ma_wd := List.mem_filter.mpr ⟨List.mem_of_getElem? (i := 784) rfl, rfl⟩
set_option maxRecDepth 30000 in
theorem mc_Mod_heap : Cond.code me_Mod_heap.1 me_Mod_heap.2.1 me_Mod_heap.2.2.1 me_Mod_heap.2.2.2.1 ∈ ma_wd := List.mem_filter.mpr ⟨List.mem_of_getElem? (i := 764) rfl, rfl⟩
set_option maxRecDepth 30000 in
theorem mc_Mod_in : Cond.code me_Mod_in.1 me_Mod_in.2.1 me_Mod_in.2.2.1 me_Mod_in.2.2.2.1 ∈ ma_wd := List.mem_filter.mpr ⟨List.mem_of_getElem? (i := 702) rfl, rfl⟩
set_option maxRecDepth 30000 in
theorem mc_Mod_most : Cond.code me_Mod_most.1 me_Mod_most.2.1 me_Mod_most.2.2.1 me_Mod_most.2.2.2.1 ∈ ma_wd := List.mem_filter.mpr ⟨List.mem_of_getElem? (i := 776) rfl, rfl⟩
set_option maxRecDepth 30000 in
theorem mc_Mod_ones : Cond.code me_Mod_ones.1 me_Mod_ones.2.1 me_Mod_ones.2.2.1 me_Mod_ones.2.2.2.1 ∈ ma_wd := List.mem_filter.mpr ⟨List.mem_of_getElem? (i := 797) rfl, rfl⟩
set_option maxRecDepth 30000 in
theorem mc_Mod_shuffle : Cond.code me_Mod_shuffle.1 me_Mod_shuffle.2.1 me_Mod_shuffle.2.2.1 me_Mod_shuffle.2.2.2.1 ∈ ma_wd := List.mem_filter.mpr ⟨List.mem_of_getElem? (i := 756) rfl, rfl⟩
set_option maxRecDepth 30000 in
theorem mc_Mod_signature : Cond.code me_Mod_signature.1 me_Mod_signature.2.1 me_Mod_signature.2.2.1 me_Mod_signature.2.2.2.1 ∈ ma_wd := List.mem_filter.mpr ⟨List.mem_of_getElem? (i := 719) rfl, rfl⟩
set_option maxRecDepth 30000 in
theorem mc_Mod_sum : Cond.code me_Mod_sum.1 me_Mod_sum.2.1 me_Mod_sum.2.2.1 me_Mod_sum.2.2.2.1 ∈ ma_wd := List.mem_filter.mpr ⟨List.mem_of_getElem? (i := 723) rfl, rfl⟩
set_option maxRecDepth 30000 in
theorem mc_Mod_thrown : Cond.code me_Mod_thrown.1 me_Mod_thrown.2.1 me_Mod_thrown.2.2.1 me_Mod_thrown.2.2.2.1 ∈ ma_wd := List.mem_filter.mpr ⟨List.mem_of_getElem? (i := 691) rfl, rfl⟩
set_option maxRecDepth 30000 in
theorem mc_Mod_times : Cond.code me_Mod_times.1 me_Mod_times.2.1 me_Mod_times.2.2.1 me_Mod_times.2.2.2.1 ∈ ma_wd := List.mem_filter.mpr ⟨List.mem_of_getElem? (i := 616) rfl, rfl⟩
set_option maxRecDepth 30000 in
theorem mc_Itg_bitCount : Cond.code me_Itg_bitCount.1 me_Itg_bitCount.2.1 me_Itg_bitCount.2.2.1 me_Itg_bitCount.2.2.2.1 ∈ ma_wd := List.mem_filter.mpr ⟨List.mem_of_getElem? (i := 516) rfl, rfl⟩
set_option maxRecDepth 30000 in
theorem mc_Arr_fill : Cond.code me_Arr_fill.1 me_Arr_fill.2.1 me_Arr_fill.2.2.1 me_Arr_fill.2.2.2.1 ∈ ma_wd := List.mem_filter.mpr ⟨List.mem_of_getElem? (i := 305) rfl, rfl⟩
set_option maxRecDepth 30000 in
theorem mc_Mth_floorMod : Cond.code me_Mth_floorMod.1 me_Mth_floorMod.2.1 me_Mth_floorMod.2.2.1 me_Mth_floorMod.2.2.2.1 ∈ ma_wd := List.mem_filter.mpr ⟨List.mem_of_getElem? (i := 471) rfl, rfl⟩
set_option maxRecDepth 30000 in
theorem mc_Row_init : Cond.code me_Row_init.1 me_Row_init.2.1 me_Row_init.2.2.1 me_Row_init.2.2.2.1 ∈ ma_wd := List.mem_filter.mpr ⟨List.mem_of_getElem? (i := 72) rfl, rfl⟩
set_option maxRecDepth 30000 in
theorem mc_Row_appendPart : Cond.code me_Row_appendPart.1 me_Row_appendPart.2.1 me_Row_appendPart.2.2.1 me_Row_appendPart.2.2.2.1 ∈ ma_wd := List.mem_filter.mpr ⟨List.mem_of_getElem? (i := 417) rfl, rfl⟩
set_option maxRecDepth 30000 in
theorem mc_Fld_init : Cond.code me_Fld_init.1 me_Fld_init.2.1 me_Fld_init.2.2.1 me_Fld_init.2.2.2.1 ∈ ma_wd := List.mem_filter.mpr ⟨List.mem_of_getElem? (i := 94) rfl, rfl⟩
set_option maxRecDepth 30000 in
theorem mc_Bod_init : Cond.code me_Bod_init.1 me_Bod_init.2.1 me_Bod_init.2.2.1 me_Bod_init.2.2.2.1 ∈ ma_wd := List.mem_filter.mpr ⟨List.mem_of_getElem? (i := 144) rfl, rfl⟩
set_option maxRecDepth 30000 in
theorem mc_Bod_put : Cond.code me_Bod_put.1 me_Bod_put.2.1 me_Bod_put.2.2.1 me_Bod_put.2.2.2.1 ∈ ma_wd := List.mem_filter.mpr ⟨List.mem_of_getElem? (i := 357) rfl, rfl⟩
set_option maxRecDepth 30000 in
theorem mc_Bod_spelled : Cond.code me_Bod_spelled.1 me_Bod_spelled.2.1 me_Bod_spelled.2.2.1 me_Bod_spelled.2.2.2.1 ∈ ma_wd := List.mem_filter.mpr ⟨List.mem_of_getElem? (i := 489) rfl, rfl⟩
set_option maxRecDepth 30000 in
theorem mc_Rdr_isDue : Cond.code me_Rdr_isDue.1 me_Rdr_isDue.2.1 me_Rdr_isDue.2.2.1 me_Rdr_isDue.2.2.2.1 ∈ ma_wd := List.mem_filter.mpr ⟨List.mem_of_getElem? (i := 475) rfl, rfl⟩
set_option maxRecDepth 30000 in
theorem mc_Rdr_majority : Cond.code me_Rdr_majority.1 me_Rdr_majority.2.1 me_Rdr_majority.2.2.1 me_Rdr_majority.2.2.2.1 ∈ ma_wd := List.mem_filter.mpr ⟨List.mem_of_getElem? (i := 462) rfl, rfl⟩
set_option maxRecDepth 30000 in
theorem mc_Col_init : Cond.code me_Col_init.1 me_Col_init.2.1 me_Col_init.2.2.1 me_Col_init.2.2.2.1 ∈ ma_wd := List.mem_filter.mpr ⟨List.mem_of_getElem? (i := 107) rfl, rfl⟩
set_option maxRecDepth 30000 in
theorem mc_Col_addUp : Cond.code me_Col_addUp.1 me_Col_addUp.2.1 me_Col_addUp.2.2.1 me_Col_addUp.2.2.2.1 ∈ ma_wd := List.mem_filter.mpr ⟨List.mem_of_getElem? (i := 286) rfl, rfl⟩
set_option maxRecDepth 30000 in
theorem mc_Col_missAt : Cond.code me_Col_missAt.1 me_Col_missAt.2.1 me_Col_missAt.2.2.1 me_Col_missAt.2.2.2.1 ∈ ma_wd := List.mem_filter.mpr ⟨List.mem_of_getElem? (i := 317) rfl, rfl⟩
set_option maxRecDepth 30000 in
theorem mc_Col_polynomialAt : Cond.code me_Col_polynomialAt.1 me_Col_polynomialAt.2.1 me_Col_polynomialAt.2.2.1 me_Col_polynomialAt.2.2.2.1 ∈ ma_wd := List.mem_filter.mpr ⟨List.mem_of_getElem? (i := 340) rfl, rfl⟩
set_option maxRecDepth 30000 in
theorem mc_Col_recurrenceAt : Cond.code me_Col_recurrenceAt.1 me_Col_recurrenceAt.2.1 me_Col_recurrenceAt.2.2.1 me_Col_recurrenceAt.2.2.2.1 ∈ ma_wd := List.mem_filter.mpr ⟨List.mem_of_getElem? (i := 332) rfl, rfl⟩
set_option maxRecDepth 30000 in
theorem mc_Col_spanUnknown : Cond.code me_Col_spanUnknown.1 me_Col_spanUnknown.2.1 me_Col_spanUnknown.2.2.1 me_Col_spanUnknown.2.2.2.1 ∈ ma_wd := List.mem_filter.mpr ⟨List.mem_of_getElem? (i := 302) rfl, rfl⟩
set_option maxRecDepth 30000 in
theorem mc_Col_weigh : Cond.code me_Col_weigh.1 me_Col_weigh.2.1 me_Col_weigh.2.2.1 me_Col_weigh.2.2.2.1 ∈ ma_wd := List.mem_filter.mpr ⟨List.mem_of_getElem? (i := 309) rfl, rfl⟩
set_option maxRecDepth 30000 in
theorem mc_Dec_begin : Cond.code me_Dec_begin.1 me_Dec_begin.2.1 me_Dec_begin.2.2.1 me_Dec_begin.2.2.2.1 ∈ ma_wd := List.mem_filter.mpr ⟨List.mem_of_getElem? (i := 446) rfl, rfl⟩
set_option maxRecDepth 30000 in
theorem mc_Dec_slotOf : Cond.code me_Dec_slotOf.1 me_Dec_slotOf.2.1 me_Dec_slotOf.2.2.1 me_Dec_slotOf.2.2.2.1 ∈ ma_wd := List.mem_filter.mpr ⟨List.mem_of_getElem? (i := 494) rfl, rfl⟩
set_option maxRecDepth 30000 in
theorem mc_Arc_appendCopies : Cond.code me_Arc_appendCopies.1 me_Arc_appendCopies.2.1 me_Arc_appendCopies.2.2.1 me_Arc_appendCopies.2.2.2.1 ∈ ma_wd := List.mem_filter.mpr ⟨List.mem_of_getElem? (i := 380) rfl, rfl⟩
set_option maxRecDepth 30000 in
theorem mc_Arc_forge : Cond.code me_Arc_forge.1 me_Arc_forge.2.1 me_Arc_forge.2.2.1 me_Arc_forge.2.2.2.1 ∈ ma_wd := List.mem_filter.mpr ⟨List.mem_of_getElem? (i := 427) rfl, rfl⟩
set_option maxRecDepth 30000 in
theorem mc_Arc_letter : Cond.code me_Arc_letter.1 me_Arc_letter.2.1 me_Arc_letter.2.2.1 me_Arc_letter.2.2.2.1 ∈ ma_wd := List.mem_filter.mpr ⟨List.mem_of_getElem? (i := 384) rfl, rfl⟩
set_option maxRecDepth 30000 in
theorem mc_Arc_product : Cond.code me_Arc_product.1 me_Arc_product.2.1 me_Arc_product.2.2.1 me_Arc_product.2.2.2.1 ∈ ma_wd := List.mem_filter.mpr ⟨List.mem_of_getElem? (i := 527) rfl, rfl⟩
set_option maxRecDepth 30000 in
theorem mc_Arc_read : Cond.code me_Arc_read.1 me_Arc_read.2.1 me_Arc_read.2.2.1 me_Arc_read.2.2.2.1 ∈ ma_wd := List.mem_filter.mpr ⟨List.mem_of_getElem? (i := 401) rfl, rfl⟩
set_option maxRecDepth 30000 in
theorem mc_Mod_block : Cond.code me_Mod_block.1 me_Mod_block.2.1 me_Mod_block.2.2.1 me_Mod_block.2.2.2.1 ∈ ma_wd := List.mem_filter.mpr ⟨List.mem_of_getElem? (i := 809) rfl, rfl⟩
set_option maxRecDepth 30000 in
theorem mc_Mod_come : Cond.code me_Mod_come.1 me_Mod_come.2.1 me_Mod_come.2.2.1 me_Mod_come.2.2.2.1 ∈ ma_wd := List.mem_filter.mpr ⟨List.mem_of_getElem? (i := 739) rfl, rfl⟩
set_option maxRecDepth 30000 in
theorem mc_Mod_forge : Cond.code me_Mod_forge.1 me_Mod_forge.2.1 me_Mod_forge.2.2.1 me_Mod_forge.2.2.2.1 ∈ ma_wd := List.mem_filter.mpr ⟨List.mem_of_getElem? (i := 751) rfl, rfl⟩
set_option maxRecDepth 30000 in
theorem mc_Mod_inverse : Cond.code me_Mod_inverse.1 me_Mod_inverse.2.1 me_Mod_inverse.2.2.1 me_Mod_inverse.2.2.2.1 ∈ ma_wd := List.mem_filter.mpr ⟨List.mem_of_getElem? (i := 619) rfl, rfl⟩
set_option maxRecDepth 30000 in
theorem mc_Mod_isFound : Cond.code me_Mod_isFound.1 me_Mod_isFound.2.1 me_Mod_isFound.2.2.1 me_Mod_isFound.2.2.2.1 ∈ ma_wd := List.mem_filter.mpr ⟨List.mem_of_getElem? (i := 772) rfl, rfl⟩
set_option maxRecDepth 30000 in
theorem mc_Mod_lay : Cond.code me_Mod_lay.1 me_Mod_lay.2.1 me_Mod_lay.2.2.1 me_Mod_lay.2.2.2.1 ∈ ma_wd := List.mem_filter.mpr ⟨List.mem_of_getElem? (i := 714) rfl, rfl⟩
set_option maxRecDepth 30000 in
theorem mc_Mod_letter : Cond.code me_Mod_letter.1 me_Mod_letter.2.1 me_Mod_letter.2.2.1 me_Mod_letter.2.2.2.1 ∈ ma_wd := List.mem_filter.mpr ⟨List.mem_of_getElem? (i := 727) rfl, rfl⟩
set_option maxRecDepth 30000 in
theorem mc_Mod_load : Cond.code me_Mod_load.1 me_Mod_load.2.1 me_Mod_load.2.2.1 me_Mod_load.2.2.2.1 ∈ ma_wd := List.mem_filter.mpr ⟨List.mem_of_getElem? (i := 699) rfl, rfl⟩
set_option maxRecDepth 30000 in
theorem mc_Mod_out : Cond.code me_Mod_out.1 me_Mod_out.2.1 me_Mod_out.2.2.1 me_Mod_out.2.2.2.1 ∈ ma_wd := List.mem_filter.mpr ⟨List.mem_of_getElem? (i := 801) rfl, rfl⟩
set_option maxRecDepth 30000 in
theorem mc_Mod_power : Cond.code me_Mod_power.1 me_Mod_power.2.1 me_Mod_power.2.2.1 me_Mod_power.2.2.2.1 ∈ ma_wd := List.mem_filter.mpr ⟨List.mem_of_getElem? (i := 613) rfl, rfl⟩
set_option maxRecDepth 30000 in
theorem mc_Mod_product : Cond.code me_Mod_product.1 me_Mod_product.2.1 me_Mod_product.2.2.1 me_Mod_product.2.2.2.1 ∈ ma_wd := List.mem_filter.mpr ⟨List.mem_of_getElem? (i := 695) rfl, rfl⟩
set_option maxRecDepth 30000 in
theorem mc_Mod_slot : Cond.code me_Mod_slot.1 me_Mod_slot.2.1 me_Mod_slot.2.2.1 me_Mod_slot.2.2.2.1 ∈ ma_wd := List.mem_filter.mpr ⟨List.mem_of_getElem? (i := 780) rfl, rfl⟩
set_option maxRecDepth 30000 in
theorem mc_Mod_solved : Cond.code me_Mod_solved.1 me_Mod_solved.2.1 me_Mod_solved.2.2.1 me_Mod_solved.2.2.2.1 ∈ ma_wd := List.mem_filter.mpr ⟨List.mem_of_getElem? (i := 710) rfl, rfl⟩
set_option maxRecDepth 30000 in
theorem mc_Bod_spell : Cond.code me_Bod_spell.1 me_Bod_spell.2.1 me_Bod_spell.2.2.1 me_Bod_spell.2.2.2.1 ∈ ma_wd := List.mem_filter.mpr ⟨List.mem_of_getElem? (i := 348) rfl, rfl⟩
set_option maxRecDepth 30000 in
theorem mc_Rdr_init : Cond.code me_Rdr_init.1 me_Rdr_init.2.1 me_Rdr_init.2.2.1 me_Rdr_init.2.2.2.1 ∈ ma_wd := List.mem_filter.mpr ⟨List.mem_of_getElem? (i := 167) rfl, rfl⟩
set_option maxRecDepth 30000 in
theorem mc_Rdr_restoreCut : Cond.code me_Rdr_restoreCut.1 me_Rdr_restoreCut.2.1 me_Rdr_restoreCut.2.2.1 me_Rdr_restoreCut.2.2.2.1 ∈ ma_wd := List.mem_filter.mpr ⟨List.mem_of_getElem? (i := 467) rfl, rfl⟩
set_option maxRecDepth 30000 in
theorem mc_Rdr_restoreGrown : Cond.code me_Rdr_restoreGrown.1 me_Rdr_restoreGrown.2.1 me_Rdr_restoreGrown.2.2.1 me_Rdr_restoreGrown.2.2.2.1 ∈ ma_wd := List.mem_filter.mpr ⟨List.mem_of_getElem? (i := 485) rfl, rfl⟩
set_option maxRecDepth 30000 in
theorem mc_Rdr_restoreWhole : Cond.code me_Rdr_restoreWhole.1 me_Rdr_restoreWhole.2.1 me_Rdr_restoreWhole.2.2.1 me_Rdr_restoreWhole.2.2.2.1 ∈ ma_wd := List.mem_filter.mpr ⟨List.mem_of_getElem? (i := 481) rfl, rfl⟩
set_option maxRecDepth 30000 in
theorem mc_Rdr_takeTail : Cond.code me_Rdr_takeTail.1 me_Rdr_takeTail.2.1 me_Rdr_takeTail.2.2.1 me_Rdr_takeTail.2.2.2.1 ∈ ma_wd := List.mem_filter.mpr ⟨List.mem_of_getElem? (i := 459) rfl, rfl⟩
set_option maxRecDepth 30000 in
theorem mc_Col_fillUnknown : Cond.code me_Col_fillUnknown.1 me_Col_fillUnknown.2.1 me_Col_fillUnknown.2.2.1 me_Col_fillUnknown.2.2.2.1 ∈ ma_wd := List.mem_filter.mpr ⟨List.mem_of_getElem? (i := 336) rfl, rfl⟩
set_option maxRecDepth 30000 in
theorem mc_Col_findRecurrence : Cond.code me_Col_findRecurrence.1 me_Col_findRecurrence.2.1 me_Col_findRecurrence.2.2.1 me_Col_findRecurrence.2.2.2.1 ∈ ma_wd := List.mem_filter.mpr ⟨List.mem_of_getElem? (i := 313) rfl, rfl⟩
set_option maxRecDepth 30000 in
theorem mc_Col_markWrong : Cond.code me_Col_markWrong.1 me_Col_markWrong.2.1 me_Col_markWrong.2.2.1 me_Col_markWrong.2.2.2.1 ∈ ma_wd := List.mem_filter.mpr ⟨List.mem_of_getElem? (i := 328) rfl, rfl⟩
set_option maxRecDepth 30000 in
theorem mc_Col_siftOutUnknown : Cond.code me_Col_siftOutUnknown.1 me_Col_siftOutUnknown.2.1 me_Col_siftOutUnknown.2.2.1 me_Col_siftOutUnknown.2.2.2.1 ∈ ma_wd := List.mem_filter.mpr ⟨List.mem_of_getElem? (i := 298) rfl, rfl⟩
set_option maxRecDepth 30000 in
theorem mc_Arc_newRows : Cond.code me_Arc_newRows.1 me_Arc_newRows.2.1 me_Arc_newRows.2.2.1 me_Arc_newRows.2.2.2.1 ∈ ma_wd := List.mem_filter.mpr ⟨List.mem_of_getElem? (i := 66) rfl, rfl⟩
set_option maxRecDepth 30000 in
theorem mc_Arc_newRows90 : Cond.code me_Arc_newRows90.1 me_Arc_newRows90.2.1 me_Arc_newRows90.2.2.1 me_Arc_newRows90.2.2.2.1 ∈ ma_wd := List.mem_filter.mpr ⟨List.mem_of_getElem? (i := 66) rfl, rfl⟩
set_option maxRecDepth 30000 in
theorem mc_Arc_readCut : Cond.code me_Arc_readCut.1 me_Arc_readCut.2.1 me_Arc_readCut.2.2.1 me_Arc_readCut.2.2.2.1 ∈ ma_wd := List.mem_filter.mpr ⟨List.mem_of_getElem? (i := 413) rfl, rfl⟩
set_option maxRecDepth 30000 in
theorem mc_Arc_readGrown : Cond.code me_Arc_readGrown.1 me_Arc_readGrown.2.1 me_Arc_readGrown.2.2.1 me_Arc_readGrown.2.2.2.1 ∈ ma_wd := List.mem_filter.mpr ⟨List.mem_of_getElem? (i := 423) rfl, rfl⟩
set_option maxRecDepth 30000 in
theorem mc_Mod_init : Cond.code me_Mod_init.1 me_Mod_init.2.1 me_Mod_init.2.2.1 me_Mod_init.2.2.2.1 ∈ ma_wd := List.mem_filter.mpr ⟨List.mem_of_getElem? (i := 609) rfl, rfl⟩
set_option maxRecDepth 30000 in
theorem mc_Mod_isColumn : Cond.code me_Mod_isColumn.1 me_Mod_isColumn.2.1 me_Mod_isColumn.2.2.1 me_Mod_isColumn.2.2.2.1 ∈ ma_wd := List.mem_filter.mpr ⟨List.mem_of_getElem? (i := 793) rfl, rfl⟩
set_option maxRecDepth 30000 in
theorem mc_Mod_read : Cond.code me_Mod_read.1 me_Mod_read.2.1 me_Mod_read.2.2.1 me_Mod_read.2.2.2.1 ∈ ma_wd := List.mem_filter.mpr ⟨List.mem_of_getElem? (i := 735) rfl, rfl⟩
set_option maxRecDepth 30000 in
theorem mc_Mod_readCut : Cond.code me_Mod_readCut.1 me_Mod_readCut.2.1 me_Mod_readCut.2.2.1 me_Mod_readCut.2.2.2.1 ∈ ma_wd := List.mem_filter.mpr ⟨List.mem_of_getElem? (i := 743) rfl, rfl⟩
set_option maxRecDepth 30000 in
theorem mc_Mod_readGrown : Cond.code me_Mod_readGrown.1 me_Mod_readGrown.2.1 me_Mod_readGrown.2.2.1 me_Mod_readGrown.2.2.2.1 ∈ ma_wd := List.mem_filter.mpr ⟨List.mem_of_getElem? (i := 747) rfl, rfl⟩
set_option maxRecDepth 30000 in
theorem mc_Mod_write : Cond.code me_Mod_write.1 me_Mod_write.2.1 me_Mod_write.2.2.1 me_Mod_write.2.2.2.1 ∈ ma_wd := List.mem_filter.mpr ⟨List.mem_of_getElem? (i := 706) rfl, rfl⟩
set_option maxRecDepth 30000 in
theorem mc_Rdr_restore : Cond.code me_Rdr_restore.1 me_Rdr_restore.2.1 me_Rdr_restore.2.2.1 me_Rdr_restore.2.2.2.1 ∈ ma_wd := List.mem_filter.mpr ⟨List.mem_of_getElem? (i := 455) rfl, rfl⟩
set_option maxRecDepth 30000 in
theorem mc_Col_mend : Cond.code me_Col_mend.1 me_Col_mend.2.1 me_Col_mend.2.2.1 me_Col_mend.2.2.2.1 ∈ ma_wd := List.mem_filter.mpr ⟨List.mem_of_getElem? (i := 278) rfl, rfl⟩
set_option maxRecDepth 30000 in
theorem mc_Dec_init : Cond.code me_Dec_init.1 me_Dec_init.2.1 me_Dec_init.2.2.1 me_Dec_init.2.2.2.1 ∈ ma_wd := List.mem_filter.mpr ⟨List.mem_of_getElem? (i := 161) rfl, rfl⟩
set_option maxRecDepth 30000 in
theorem mc_Arc_spellStrand : Cond.code me_Arc_spellStrand.1 me_Arc_spellStrand.2.1 me_Arc_spellStrand.2.2.1 me_Arc_spellStrand.2.2.2.1 ∈ ma_wd := List.mem_filter.mpr ⟨List.mem_of_getElem? (i := 344) rfl, rfl⟩
set_option maxRecDepth 30000 in
theorem mc_Mod_isMended : Cond.code me_Mod_isMended.1 me_Mod_isMended.2.1 me_Mod_isMended.2.2.1 me_Mod_isMended.2.2.2.1 ∈ ma_wd := List.mem_filter.mpr ⟨List.mem_of_getElem? (i := 789) rfl, rfl⟩
set_option maxRecDepth 30000 in
theorem mc_Dec_mendColumn : Cond.code me_Dec_mendColumn.1 me_Dec_mendColumn.2.1 me_Dec_mendColumn.2.2.1 me_Dec_mendColumn.2.2.2.1 ∈ ma_wd := List.mem_filter.mpr ⟨List.mem_of_getElem? (i := 507) rfl, rfl⟩
set_option maxRecDepth 30000 in
theorem mc_Dec_take : Cond.code me_Dec_take.1 me_Dec_take.2.1 me_Dec_take.2.2.1 me_Dec_take.2.2.2.1 ∈ ma_wd := List.mem_filter.mpr ⟨List.mem_of_getElem? (i := 451) rfl, rfl⟩
set_option maxRecDepth 30000 in
theorem mc_Arc_init : Cond.code me_Arc_init.1 me_Arc_init.2.1 me_Arc_init.2.2.1 me_Arc_init.2.2.2.1 ∈ ma_wd := List.mem_filter.mpr ⟨List.mem_of_getElem? (i := 60) rfl, rfl⟩
set_option maxRecDepth 30000 in
theorem mc_Arc_fillBlock : Cond.code me_Arc_fillBlock.1 me_Arc_fillBlock.2.1 me_Arc_fillBlock.2.2.1 me_Arc_fillBlock.2.2.2.1 ∈ ma_wd := List.mem_filter.mpr ⟨List.mem_of_getElem? (i := 270) rfl, rfl⟩
set_option maxRecDepth 30000 in
theorem mc_Mod_decode : Cond.code me_Mod_decode.1 me_Mod_decode.2.1 me_Mod_decode.2.2.1 me_Mod_decode.2.2.2.1 ∈ ma_wd := List.mem_filter.mpr ⟨List.mem_of_getElem? (i := 768) rfl, rfl⟩
set_option maxRecDepth 30000 in
theorem mc_Dec_finishBlock : Cond.code me_Dec_finishBlock.1 me_Dec_finishBlock.2.1 me_Dec_finishBlock.2.2.1 me_Dec_finishBlock.2.2.2.1 ∈ ma_wd := List.mem_filter.mpr ⟨List.mem_of_getElem? (i := 499) rfl, rfl⟩
set_option maxRecDepth 30000 in
theorem mc_Arc_write : Cond.code me_Arc_write.1 me_Arc_write.2.1 me_Arc_write.2.2.1 me_Arc_write.2.2.2.1 ∈ ma_wd := List.mem_filter.mpr ⟨List.mem_of_getElem? (i := 260) rfl, rfl⟩
set_option maxRecDepth 30000 in
theorem mc_Arc_decode : Cond.code me_Arc_decode.1 me_Arc_decode.2.1 me_Arc_decode.2.2.1 me_Arc_decode.2.2.2.1 ∈ ma_wd := List.mem_filter.mpr ⟨List.mem_of_getElem? (i := 442) rfl, rfl⟩
set_option maxRecDepth 30000 in
theorem ma_mtok : ∀ mj ∈ ma_mt, Cond.code mj.1 mj.2.1 mj.2.2.1 mj.2.2.2.1 ∈ ma_wd := List.forall_mem_cons.mpr ⟨mc_Row_append, List.forall_mem_cons.mpr ⟨mc_Row_append, List.forall_mem_cons.mpr ⟨mc_Row_at, List.forall_mem_cons.mpr ⟨mc_Row_become, List.forall_mem_cons.mpr ⟨mc_Fld_over, List.forall_mem_cons.mpr ⟨mc_Fld_powerOfTwo, List.forall_mem_cons.mpr ⟨mc_Fld_times, List.forall_mem_cons.mpr ⟨mc_Bod_ahead, List.forall_mem_cons.mpr ⟨mc_Bod_rise, List.forall_mem_cons.mpr ⟨mc_Bod_signature, List.forall_mem_cons.mpr ⟨mc_Bod_sum, List.forall_mem_cons.mpr ⟨mc_Col_countUnknown, List.forall_mem_cons.mpr ⟨mc_Col_set, List.forall_mem_cons.mpr ⟨mc_Dec_loseBlock, List.forall_mem_cons.mpr ⟨mc_Dec_settleSlots, List.forall_mem_cons.mpr ⟨mc_Arc_blocksOf, List.forall_mem_cons.mpr ⟨mc_Arc_clear, List.forall_mem_cons.mpr ⟨mc_Arc_count, List.forall_mem_cons.mpr ⟨mc_Arc_heap, List.forall_mem_cons.mpr ⟨mc_Arc_isFull, List.forall_mem_cons.mpr ⟨mc_Arc_isSize, List.forall_mem_cons.mpr ⟨mc_Arc_isWritten, List.forall_mem_cons.mpr ⟨mc_Arc_load, List.forall_mem_cons.mpr ⟨mc_Arc_nextRead, List.forall_mem_cons.mpr ⟨mc_Arc_shuffle, List.forall_mem_cons.mpr ⟨mc_Mod_clear, List.forall_mem_cons.mpr ⟨mc_Mod_count, List.forall_mem_cons.mpr ⟨mc_Mod_group, List.forall_mem_cons.mpr ⟨mc_Mod_heap, List.forall_mem_cons.mpr ⟨mc_Mod_in, List.forall_mem_cons.mpr ⟨mc_Mod_most, List.forall_mem_cons.mpr ⟨mc_Mod_ones, List.forall_mem_cons.mpr ⟨mc_Mod_shuffle, List.forall_mem_cons.mpr ⟨mc_Mod_signature, List.forall_mem_cons.mpr ⟨mc_Mod_sum, List.forall_mem_cons.mpr ⟨mc_Mod_thrown, List.forall_mem_cons.mpr ⟨mc_Mod_times, List.forall_mem_cons.mpr ⟨mc_Itg_bitCount, List.forall_mem_cons.mpr ⟨mc_Arr_fill, List.forall_mem_cons.mpr ⟨mc_Mth_floorMod, List.forall_mem_cons.mpr ⟨mc_Row_init, List.forall_mem_cons.mpr ⟨mc_Row_appendPart, List.forall_mem_cons.mpr ⟨mc_Fld_init, List.forall_mem_cons.mpr ⟨mc_Bod_init, List.forall_mem_cons.mpr ⟨mc_Bod_put, List.forall_mem_cons.mpr ⟨mc_Bod_spelled, List.forall_mem_cons.mpr ⟨mc_Rdr_isDue, List.forall_mem_cons.mpr ⟨mc_Rdr_majority, List.forall_mem_cons.mpr ⟨mc_Col_init, List.forall_mem_cons.mpr ⟨mc_Col_addUp, List.forall_mem_cons.mpr ⟨mc_Col_missAt, List.forall_mem_cons.mpr ⟨mc_Col_polynomialAt, List.forall_mem_cons.mpr ⟨mc_Col_recurrenceAt, List.forall_mem_cons.mpr ⟨mc_Col_spanUnknown, List.forall_mem_cons.mpr ⟨mc_Col_weigh, List.forall_mem_cons.mpr ⟨mc_Dec_begin, List.forall_mem_cons.mpr ⟨mc_Dec_slotOf, List.forall_mem_cons.mpr ⟨mc_Arc_appendCopies, List.forall_mem_cons.mpr ⟨mc_Arc_forge, List.forall_mem_cons.mpr ⟨mc_Arc_letter, List.forall_mem_cons.mpr ⟨mc_Arc_product, List.forall_mem_cons.mpr ⟨mc_Arc_read, List.forall_mem_cons.mpr ⟨mc_Mod_block, List.forall_mem_cons.mpr ⟨mc_Mod_come, List.forall_mem_cons.mpr ⟨mc_Mod_forge, List.forall_mem_cons.mpr ⟨mc_Mod_inverse, List.forall_mem_cons.mpr ⟨mc_Mod_isFound, List.forall_mem_cons.mpr ⟨mc_Mod_lay, List.forall_mem_cons.mpr ⟨mc_Mod_letter, List.forall_mem_cons.mpr ⟨mc_Mod_load, List.forall_mem_cons.mpr ⟨mc_Mod_out, List.forall_mem_cons.mpr ⟨mc_Mod_power, List.forall_mem_cons.mpr ⟨mc_Mod_product, List.forall_mem_cons.mpr ⟨mc_Mod_slot, List.forall_mem_cons.mpr ⟨mc_Mod_solved, List.forall_mem_cons.mpr ⟨mc_Bod_spell, List.forall_mem_cons.mpr ⟨mc_Rdr_init, List.forall_mem_cons.mpr ⟨mc_Rdr_restoreCut, List.forall_mem_cons.mpr ⟨mc_Rdr_restoreGrown, List.forall_mem_cons.mpr ⟨mc_Rdr_restoreWhole, List.forall_mem_cons.mpr ⟨mc_Rdr_takeTail, List.forall_mem_cons.mpr ⟨mc_Col_fillUnknown, List.forall_mem_cons.mpr ⟨mc_Col_findRecurrence, List.forall_mem_cons.mpr ⟨mc_Col_markWrong, List.forall_mem_cons.mpr ⟨mc_Col_siftOutUnknown, List.forall_mem_cons.mpr ⟨mc_Arc_newRows, List.forall_mem_cons.mpr ⟨mc_Arc_readCut, List.forall_mem_cons.mpr ⟨mc_Arc_readGrown, List.forall_mem_cons.mpr ⟨mc_Mod_init, List.forall_mem_cons.mpr ⟨mc_Mod_isColumn, List.forall_mem_cons.mpr ⟨mc_Mod_read, List.forall_mem_cons.mpr ⟨mc_Mod_readCut, List.forall_mem_cons.mpr ⟨mc_Mod_readGrown, List.forall_mem_cons.mpr ⟨mc_Mod_write, List.forall_mem_cons.mpr ⟨mc_Rdr_restore, List.forall_mem_cons.mpr ⟨mc_Col_mend, List.forall_mem_cons.mpr ⟨mc_Dec_init, List.forall_mem_cons.mpr ⟨mc_Arc_spellStrand, List.forall_mem_cons.mpr ⟨mc_Mod_isMended, List.forall_mem_cons.mpr ⟨mc_Dec_mendColumn, List.forall_mem_cons.mpr ⟨mc_Dec_take, List.forall_mem_cons.mpr ⟨mc_Arc_init, List.forall_mem_cons.mpr ⟨mc_Arc_fillBlock, List.forall_mem_cons.mpr ⟨mc_Mod_decode, List.forall_mem_cons.mpr ⟨mc_Dec_finishBlock, List.forall_mem_cons.mpr ⟨mc_Arc_write, List.forall_mem_cons.mpr ⟨mc_Arc_decode, List.forall_mem_cons.mpr ⟨mc_Arc_newRows90, fun _ h => absurd h List.not_mem_nil⟩⟩⟩⟩⟩⟩⟩⟩⟩⟩⟩⟩⟩⟩⟩⟩⟩⟩⟩⟩⟩⟩⟩⟩⟩⟩⟩⟩⟩⟩⟩⟩⟩⟩⟩⟩⟩⟩⟩⟩⟩⟩⟩⟩⟩⟩⟩⟩⟩⟩⟩⟩⟩⟩⟩⟩⟩⟩⟩⟩⟩⟩⟩⟩⟩⟩⟩⟩⟩⟩⟩⟩⟩⟩⟩⟩⟩⟩⟩⟩⟩⟩⟩⟩⟩⟩⟩⟩⟩⟩⟩⟩⟩⟩⟩⟩⟩⟩⟩⟩⟩⟩⟩⟩⟩⟩⟩⟩
end
section
/-! The pure machine: values whose references are logical (0: null, 1: the script, p + 2: the cell p of the world), a heap of three total functions, a step as a predicate transformer. Sound over the kit's rows. -/
abbrev ma_H : Type := (Nat → Nat → Int32) × (Nat → Nat → Int64) × (Nat → Nat → Nat)
abbrev ma_S : Type := List (Nat ⊕ (FieldType × Nat))
/-- (D, address of the script, base, array classes) -/
abbrev ma_G : Type := va_G × Nat × Nat × (FieldType → ClassId)
/-- (name, code, locals, return type, depth, cells, slots) -/
abbrev ma_M : Type := MethodName × ByteArray × Nat × Option FieldType × Nat × Nat × Nat
/-- (pc, length, instruction, what it resolves to) -/
abbrev ma_E : Type := Nat × Nat × Instr × List Nat
abbrev ma_P : Type := Option Value → ma_S → ma_H → Prop
abbrev ma_K : Type := Nat → List (Option Value) → List Value → Nat → Nat → ma_S → ma_H → Prop
abbrev ma_O : Type := Nat → Nat → Nat → List Value → ma_S → ma_H → ma_P → Prop
def ma_ro (g : ma_G) : Nat → Option Nat
  | 0 => none
  | 1 => some g.2.1
  | p + 2 => some (g.2.2.1 + p)
def ma_tv (g : ma_G) : Value → Value
  | .ref p => va_rf (ma_ro g p)
  | v => v
theorem ma_tv_cat (g : ma_G) (v : Value) : (ma_tv g v).category = v.category := by
  cases v with
  | ref p =>
    show (va_rf (ma_ro g p)).category = 1
    cases ma_ro g p <;> rfl
  | _ => rfl
def ma_uI (h : ma_H) (a k : Nat) (v : Int32) : ma_H := (fun a' k' => if a' = a ∧ k' = k then v else h.1 a' k', h.2)
def ma_uL (h : ma_H) (a k : Nat) (v : Int64) : ma_H := (h.1, fun a' k' => if a' = a ∧ k' = k then v else h.2.1 a' k', h.2.2)
def ma_uR (h : ma_H) (a k : Nat) (v : Nat) : ma_H := (h.1, h.2.1, fun a' k' => if a' = a ∧ k' = k then v else h.2.2 a' k')
def ma_z (h : ma_H) (a : Nat) : ma_H := (fun a' k' => if a' = a then 0 else h.1 a' k', fun a' k' => if a' = a then 0 else h.2.1 a' k', fun a' k' => if a' = a then 0 else h.2.2 a' k')
/-- n ints of the array a0 from the place sp on to the array a from dp on -/
def ma_cp (h : ma_H) (a0 sp a dp n : Nat) : ma_H := (fun a' k' => if a' = a ∧ dp ≤ k' ∧ k' < dp + n then h.1 a0 (sp + (k' - dp)) else h.1 a' k', h.2)
def ma_fv (g : ma_G) (h : ma_H) (a k : Nat) : FieldType → Value
  | .long => .long (h.2.1 a k)
  | .object _ => va_rf (ma_ro g (h.2.2 a k))
  | .array _ => va_rf (ma_ro g (h.2.2 a k))
  | _ => .int (h.1 a k)
def ma_cont (g : ma_G) (h : ma_H) (a : Nat) : FieldType → (Nat → Int32) ⊕ (Nat → Int64) ⊕ (Nat → UInt32) ⊕ (Nat → UInt64) ⊕ (Nat → Option Nat)
  | .long => .inr (.inl (h.2.1 a))
  | .object _ => .inr (.inr (.inr (.inr (fun i => ma_ro g (h.2.2 a i)))))
  | _ => .inl (h.1 a)
def ma_cell (g : ma_G) (h : ma_H) (a : Nat) : (Nat ⊕ (FieldType × Nat)) → va_E
  | .inl ci => .inr (ci, (ma_ty ci).mapIdx (fun k ty => ma_fv g h a k ty))
  | .inr (ty, n) => .inl (g.2.2.2 ty, n, ma_cont g h a ty)
def ma_ws (g : ma_G) (S : ma_S) (h : ma_H) : va_W := S.mapIdx (fun i sh => (g.2.2.1 + i, ma_cell g h (i + 2) sh))
theorem ma_ws_at (g : ma_G) (S : ma_S) (h : ma_H) (i : Nat) : (ma_ws g S h)[i]? = (S[i]?).map (fun sh => (g.2.2.1 + i, ma_cell g h (i + 2) sh)) := by
  simp [ma_ws]
theorem ma_D (g : ma_G) (S : ma_S) (h : ma_H) : va_D (fun q => g.2.2.1 ≤ q) (ma_ws g S h) := by
  refine ⟨fun i j p q hp hq he => ?_, fun k q hk => ?_⟩
  · rw [ma_ws_at] at hp hq
    obtain ⟨a, -, rfl⟩ := Option.map_eq_some_iff.mp hp
    obtain ⟨b, -, rfl⟩ := Option.map_eq_some_iff.mp hq
    simpa using he
  · rw [ma_ws_at] at hk
    obtain ⟨a, -, rfl⟩ := Option.map_eq_some_iff.mp hk
    simp
def ma_sh (S : ma_S) : Nat → Option (Nat ⊕ (FieldType × Nat))
  | a + 2 => S[a]?
  | _ => none
theorem ma_sh_some {S : ma_S} {a : Nat} {sh : Nat ⊕ (FieldType × Nat)} (h : ma_sh S a = some sh) : ∃ i, a = i + 2 ∧ S[i]? = some sh := by
  match a, h with
  | i + 2, h => exact ⟨i, rfl, h⟩
/-- a cell is set: the list of the cells is set -/
theorem ma_ws_set (g : ma_G) (S : ma_S) (h h' : ma_H) (i : Nat) {sh : Nat ⊕ (FieldType × Nat)} (hs : S[i]? = some sh) {e : va_E} (he : ma_cell g h' (i + 2) sh = e) (ho : ∀ j sh', j ≠ i → S[j]? = some sh' → ma_cell g h' (j + 2) sh' = ma_cell g h (j + 2) sh') : (ma_ws g S h).set i (g.2.2.1 + i, e) = ma_ws g S h' := by
  apply List.ext_getElem?
  intro j
  rw [ma_ws_at, List.getElem?_set, ma_ws_at]
  have hl : i < S.length := (List.getElem?_eq_some_iff.mp hs).1
  by_cases hj : i = j
  · subst hj
    rw [if_pos rfl, if_pos (by simp [ma_ws]; exact hl), hs]
    simp [he]
  · rw [if_neg hj]
    cases hsj : S[j]? with
    | none => rfl
    | some sh' => simp [ho j sh' (fun q => hj q.symm) hsj]
theorem ma_cell_other {g : ma_G} {h h' : ma_H} {a : Nat} (h1 : ∀ k, h'.1 a k = h.1 a k) (h2 : ∀ k, h'.2.1 a k = h.2.1 a k) (h3 : ∀ k, h'.2.2 a k = h.2.2 a k) (sh : Nat ⊕ (FieldType × Nat)) : ma_cell g h' a sh = ma_cell g h a sh := by
  have e1 : h'.1 a = h.1 a := funext h1
  have e2 : h'.2.1 a = h.2.1 a := funext h2
  have e3 : h'.2.2 a = h.2.2 a := funext h3
  have ef : ∀ k ty, ma_fv g h' a k ty = ma_fv g h a k ty := by
    intro k ty
    cases ty <;> simp [ma_fv, e1, e2, e3]
  have ec : ∀ ty, ma_cont g h' a ty = ma_cont g h a ty := by
    intro ty
    cases ty <;> simp [ma_cont, e1, e2, e3]
  match sh with
  | .inl ci => simp [ma_cell, ef]
  | .inr (ty, n) => simp [ma_cell, ec]
/-! the locals -/
def ma_L (g : ma_G) (n : Nat) (la : Array Slot) (ls : List (Option Value)) : Prop := la.size = n ∧ lv_wf la ∧ ls.length = n ∧ ∀ (i : Nat) (v : Value), ls[i]? = some (some v) → la[i]? = some (.val (ma_tv g v))
def ma_kn (g : ma_G) : Nat → List (Option Value) → List (Nat × Value)
  | _, [] => []
  | i, none :: t => ma_kn g (i + 1) t
  | i, some v :: t => (i, ma_tv g v) :: ma_kn g (i + 1) t
theorem ma_kn_mem (g : ma_G) : ∀ (ls : List (Option Value)) (i : Nat) (q : Nat × Value), q ∈ ma_kn g i ls ↔ ∃ k v, ls[k]? = some (some v) ∧ q = (i + k, ma_tv g v)
  | [], i, q => by simp [ma_kn]
  | none :: t, i, q => by
    rw [ma_kn, ma_kn_mem g t]
    constructor
    · rintro ⟨k, v, h1, h2⟩
      exact ⟨k + 1, v, by simpa using h1, by rw [h2, show i + 1 + k = i + (k + 1) by omega]⟩
    · rintro ⟨k, v, h1, h2⟩
      cases k with
      | zero => simp at h1
      | succ k => exact ⟨k, v, by simpa using h1, by rw [h2, show i + 1 + k = i + (k + 1) by omega]⟩
  | some w :: t, i, q => by
    rw [ma_kn, List.mem_cons, ma_kn_mem g t]
    constructor
    · rintro (h | ⟨k, v, h1, h2⟩)
      · exact ⟨0, w, rfl, by rw [h]; rfl⟩
      · exact ⟨k + 1, v, by simpa using h1, by rw [h2, show i + 1 + k = i + (k + 1) by omega]⟩
    · rintro ⟨k, v, h1, h2⟩
      cases k with
      | zero =>
        simp at h1
        subst h1
        exact Or.inl h2
      | succ k => exact Or.inr ⟨k, v, by simpa using h1, by rw [h2, show i + 1 + k = i + (k + 1) by omega]⟩
theorem ma_L.has {g : ma_G} {n : Nat} {la : Array Slot} {ls : List (Option Value)} (h : ma_L g n la ls) : lv_has la n (ma_kn g 0 ls) := by
  refine ⟨h.1, h.2.1, fun q hq => ?_⟩
  obtain ⟨k, v, h1, h2⟩ := (ma_kn_mem g ls 0 q).mp hq
  rw [h2]
  simpa using h.2.2.2 k v h1
def ma_kill (ls : List (Option Value)) : Nat → List (Option Value)
  | 0 => ls
  | j + 1 => match ls[j]? with
    | some (some v) => if v.category = 2 then ls.set j none else ls
    | _ => ls
def ma_set1 (ls : List (Option Value)) (i : Nat) (v : Value) : List (Option Value) := (ma_kill ls i).set i (some v)
def ma_set2 (ls : List (Option Value)) (i : Nat) (v : Value) : List (Option Value) := ((ma_kill ls i).set i (some v)).set (i + 1) none
theorem ma_kill_len (ls : List (Option Value)) (i : Nat) : (ma_kill ls i).length = ls.length := by
  unfold ma_kill
  split
  · rfl
  · split
    · split <;> simp
    · rfl
theorem ma_kill_at {ls : List (Option Value)} {i j : Nat} {v : Value} (h : (ma_kill ls i)[j]? = some (some v)) : ls[j]? = some (some v) ∧ ¬ (j + 1 = i ∧ v.category = 2) := by
  unfold ma_kill at h
  split at h
  · exact ⟨h, fun q => by omega⟩
  · rename_i i' 
    split at h
    · rename_i w hw
      split at h
      · rename_i hc
        rw [List.getElem?_set] at h
        by_cases hj : i' = j
        · subst hj
          rw [if_pos rfl] at h
          split at h <;> simp at h
        · rw [if_neg hj] at h
          exact ⟨h, fun q => hj (by omega)⟩
      · rename_i hc
        refine ⟨h, fun q => hc ?_⟩
        have : j = i' := by omega
        subst this
        rw [hw] at h
        simp at h
        rw [h]
        exact q.2
    · rename_i hn
      refine ⟨h, fun q => ?_⟩
      have : j = i' := by omega
      subst this
      exact hn v h
theorem ma_L.set1 {g : ma_G} {n : Nat} {la la' : Array Slot} {ls : List (Option Value)} {i : Nat} {v : Value} (h : ma_L g n la ls) (h' : lv_has la' n ((i, ma_tv g v) :: (ma_kn g 0 ls).filter (fun q => !(q.1 == i) && !(q.1 + 1 == i && q.2.category == 2)))) : ma_L g n la' (ma_set1 ls i v) := by
  refine ⟨h'.1, h'.2.1, by rw [ma_set1, List.length_set, ma_kill_len]; exact h.2.2.1, fun j w hj => ?_⟩
  rw [ma_set1, List.getElem?_set] at hj
  by_cases hij : i = j
  · subst hij
    rw [if_pos rfl] at hj
    split at hj
    · simp at hj
      subst hj
      exact h'.2.2 _ List.mem_cons_self
    · simp at hj
  · rw [if_neg hij] at hj
    obtain ⟨h1, h2⟩ := ma_kill_at hj
    refine h'.2.2 (j, ma_tv g w) (List.mem_cons_of_mem _ (List.mem_filter.mpr ⟨(ma_kn_mem g ls 0 _).mpr ⟨j, w, h1, by simp⟩, ?_⟩))
    simp only [ma_tv_cat]
    simp
    refine ⟨fun q => hij q.symm, ?_⟩
    by_cases hq : j + 1 = i
    · exact Or.inr (fun q2 => h2 ⟨hq, q2⟩)
    · exact Or.inl hq
theorem ma_L.set2 {g : ma_G} {n : Nat} {la la' : Array Slot} {ls : List (Option Value)} {i : Nat} {v : Value} (h : ma_L g n la ls) (h' : lv_has la' n ((i, ma_tv g v) :: (ma_kn g 0 ls).filter (fun q => !(q.1 == i) && (!(q.1 == i + 1) && !(q.1 + 1 == i && q.2.category == 2))))) : ma_L g n la' (ma_set2 ls i v) := by
  refine ⟨h'.1, h'.2.1, by rw [ma_set2, List.length_set, List.length_set, ma_kill_len]; exact h.2.2.1, fun j w hj => ?_⟩
  rw [ma_set2, List.getElem?_set] at hj
  by_cases hi1 : i + 1 = j
  · rw [if_pos hi1] at hj
    split at hj <;> simp at hj
  · rw [if_neg hi1, List.getElem?_set] at hj
    by_cases hij : i = j
    · subst hij
      rw [if_pos rfl] at hj
      split at hj
      · simp at hj
        subst hj
        exact h'.2.2 _ List.mem_cons_self
      · simp at hj
    · rw [if_neg hij] at hj
      obtain ⟨h1, h2⟩ := ma_kill_at hj
      refine h'.2.2 (j, ma_tv g w) (List.mem_cons_of_mem _ (List.mem_filter.mpr ⟨(ma_kn_mem g ls 0 _).mpr ⟨j, w, h1, by simp⟩, ?_⟩))
      simp only [ma_tv_cat]
      simp
      refine ⟨fun q => hij q.symm, fun q => hi1 q.symm, ?_⟩
      by_cases hq : j + 1 = i
      · exact Or.inr (fun q2 => h2 ⟨hq, q2⟩)
      · exact Or.inl hq
/-- less is known -/
def ma_le : List (Option Value) → List (Option Value) → Prop
  | [], [] => True
  | none :: t, _ :: t' => ma_le t t'
  | some v :: t, some w :: t' => v = w ∧ ma_le t t'
  | _, _ => False
theorem ma_le_at : ∀ {ls ls' : List (Option Value)}, ma_le ls ls' → ls.length = ls'.length ∧ ∀ (i : Nat) (v : Value), ls[i]? = some (some v) → ls'[i]? = some (some v)
  | [], [], _ => ⟨rfl, fun i v h => by simp at h⟩
  | none :: t, _ :: t', h => by
    have ih := ma_le_at (ls := t) (ls' := t') h
    refine ⟨by simp [ih.1], fun i v hi => ?_⟩
    cases i with
    | zero => simp at hi
    | succ i => simpa using ih.2 i v (by simpa using hi)
  | some a :: t, some b :: t', h => by
    have ih := ma_le_at (ls := t) (ls' := t') h.2
    refine ⟨by simp [ih.1], fun i v hi => ?_⟩
    cases i with
    | zero =>
      simp at hi ⊢
      rw [← h.1]
      exact hi
    | succ i => simpa using ih.2 i v (by simpa using hi)
  | [], _ :: _, h => h.elim
  | some _ :: _, [], h => h.elim
  | some _ :: _, none :: _, h => h.elim
  | none :: _, [], h => h.elim
theorem ma_L.less {g : ma_G} {n : Nat} {la : Array Slot} {ls ls' : List (Option Value)} (h : ma_L g n la ls') (hl : ma_le ls ls') : ma_L g n la ls :=
  ⟨h.1, h.2.1, (ma_le_at hl).1.trans h.2.2.1, fun i v hi => h.2.2.2 i v ((ma_le_at hl).2 i v hi)⟩
/-! what holds of the tables in every state -/
def ma_tl (g : ma_G) : List (ClassId × FieldType) := [(g.2.2.2 .int, .int), (g.2.2.2 .byte, .byte), (g.2.2.2 .boolean, .boolean), (g.2.2.2 .long, .long), (g.2.2.2 (.object ma_row), .object ma_row)]
def ma_KK (g : ma_G) (U : State) : Prop := va_K g.1 ma_cl (ma_tl g) U ∧ (∀ q ∈ ma_nf, va_Nw (.fieldLinkNest q.1 q.2.1 q.2.2.1 q.2.2.2.1 q.2.2.2.2.1 q.2.2.2.2.2) U) ∧ (∀ q ∈ ma_nm, va_Nw (.methodLinkNest q.1 q.2.1 q.2.2.1 q.2.2.2) U) ∧ va_AO ma_row U
theorem ma_KK.moved {g : ma_G} {s U : State} (hW : s.WarmedH U.vm) (h : ma_KK g s) : ma_KK g U :=
  ⟨va_K.moved hW.alike h.1, fun q hq => va_Nw.warmF hW (h.2.1 q hq), fun q hq => va_Nw.warmM hW (h.2.2.1 q hq), va_AO.moved hW.alike h.2.2.2⟩
theorem ma_KK.same {g : ma_G} {s U : State} (hv : s.vm = U.vm) (h : ma_KK g s) : ma_KK g U :=
  ⟨va_K.moved (by rw [hv]; exact Vm.Alike.refl U.vm) h.1, fun q hq => va_Nw.same rfl hv (h.2.1 q hq), fun q hq => va_Nw.same rfl hv (h.2.2.1 q hq), va_AO.moved (by rw [hv]; exact Vm.Alike.refl U.vm) h.2.2.2⟩
def ma_wo (mi : ma_M) : List Cond := Cond.code mi.1 mi.2.1 mi.2.2.1 mi.2.2.2.1 :: ma_wd
def ma_rm (mi : ma_M) : Room := { frames := mi.2.2.2.2.1, cells := mi.2.2.2.2.2.1, slots := mi.2.2.2.2.2.2, locals := min (50 * mi.2.2.2.2.1) 338 }
/-- the world at a heap -/
def ma_at (g : ma_G) (x : Bool) (S : ma_S) (h : ma_H) (H : Heap) : Prop := va_P g.1 ma_cl (ma_ws g S h) H ∧ (x = true → H.size = g.2.2.1 + S.length)
def ma_Qc (g : ma_G) (x : Bool) (mc : Nat) (Q : ma_P) : Array Value → State → Outcome → State → Prop := fun _ st oc t =>
  (∃ (v : Option Value) (S : ma_S) (h : ma_H), oc = .returned (v.map (ma_tv g)) ∧ Q v S h ∧ ma_at g x S h t.heap) ∧ va_F (fun q => g.2.2.1 ≤ q) st t ∧ (x = true → t.heap.size = st.heap.size + mc)
def ma_Pc (g : ma_G) (x : Bool) (av : List Value) (S : ma_S) (h : ma_H) : Array Value → State → Prop := va_Pc (av.map (ma_tv g)) (fun U => ma_at g x S h U.heap ∧ g.2.2.1 ≤ U.heap.size ∧ ma_KK g U)
/-- the contract of a method -/
def ma_PM (l : Launch) (g : ma_G) (x : Bool) (mi : ma_M) (av : List Value) (S : ma_S) (h : ma_H) (Q : ma_P) : Prop :=
  Met l mi.1 (ma_wo mi) (ma_rm mi) (ma_Pc g x av S h) (ma_Qc g x mi.2.2.2.2.2.1 Q) mi.2.2.2.2.2.1 mi.2.2.2.2.2.2 (fun q => g.2.2.1 ≤ q)
/-- the methods by their numbers -/
def ma_or (l : Launch) (g : ma_G) (x : Bool) : ma_O := fun t mc ms av S h Q => ∃ mi, ma_mt[t]? = some mi ∧ mi.2.2.2.2.2.1 = mc ∧ mi.2.2.2.2.2.2 = ms ∧ ma_PM l g x mi av S h Q
theorem ma_blind (g : ma_G) (x : Bool) (av : List Value) (S : ma_S) (h : ma_H) : FrameBlind (ma_Pc g x av S h) := by
  intro a U f mk q
  obtain ⟨q0, q1, q2, q3⟩ := q
  exact ⟨q0, q1, q2, ma_KK.same (s := U) (U := U.calling f mk a) rfl q3⟩
/-! a step -/
def ma_a (aux : List Nat) (i : Nat) : Nat := aux.getD i 0
def ma_k (aux : List Nat) : Int32 := if ma_a aux 1 = 1 then -1 else nI (ma_a aux 0)
def ma_ii (st : List Value) (F : Int32 → Int32 → List Value → Prop) : Prop := match st with
  | .int y :: .int z :: st => F z y st
  | _ => False
def ma_ll (st : List Value) (F : Int64 → Int64 → List Value → Prop) : Prop := match st with
  | .long y :: .long z :: st => F z y st
  | _ => False
def ma_li (st : List Value) (F : Int64 → Int32 → List Value → Prop) : Prop := match st with
  | .int y :: .long z :: st => F z y st
  | _ => False
def ma_i1 (st : List Value) (F : Int32 → List Value → Prop) : Prop := match st with
  | .int z :: st => F z st
  | _ => False
def ma_l1 (st : List Value) (F : Int64 → List Value → Prop) : Prop := match st with
  | .long z :: st => F z st
  | _ => False
def ma_r1 (st : List Value) (F : Nat → List Value → Prop) : Prop := match st with
  | .ref z :: st => F z st
  | _ => False
def ma_gi (ls : List (Option Value)) (i : Nat) (F : Int32 → Prop) : Prop := match ls[i]? with
  | some (some (.int z)) => F z
  | _ => False
def ma_gl (ls : List (Option Value)) (i : Nat) (F : Int64 → Prop) : Prop := match ls[i]? with
  | some (some (.long z)) => F z
  | _ => False
def ma_gr (ls : List (Option Value)) (i : Nat) (F : Nat → Prop) : Prop := match ls[i]? with
  | some (some (.ref z)) => F z
  | _ => False
def ma_irem (z y : Int32) : Int32 := z - z / y * y
def ma_lrem (z y : Int64) : Int64 := z - z / y * y
def ma_shl (z y : Int32) : Int32 := z <<< (y &&& 31)
def ma_shr (z y : Int32) : Int32 := z >>> (y &&& 31)
def ma_ushr (z y : Int32) : Int32 := (z.toUInt32 >>> (y.toUInt32 &&& Int32.toUInt32 31)).toInt32
def ma_lshl (z : Int64) (y : Int32) : Int64 := z <<< (y.toInt64 &&& 63)
def ma_lushr (z : Int64) (y : Int32) : Int64 := (z.toUInt64 >>> (y.toInt64.toUInt64 &&& Int64.toUInt64 63)).toInt64
def ma_bc (cnd : ClassFile.Cond) (z y : Int32) (A B : Prop) : Prop := match cnd with
  | .eq => (z = y → A) ∧ (¬ z = y → B)
  | .ne => (¬ z = y → A) ∧ (z = y → B)
  | .lt => (z < y → A) ∧ (¬ z < y → B)
  | .ge => (y ≤ z → A) ∧ (¬ y ≤ z → B)
  | .gt => (y < z → A) ∧ (¬ y < z → B)
  | .le => (z ≤ y → A) ∧ (¬ z ≤ y → B)
def ma_pv (h : ma_H) (a k : Nat) : Nat → Value
  | 0 => .int (h.1 a k)
  | 1 => .long (h.2.1 a k)
  | _ => .ref (h.2.2 a k)
def ma_put (h : ma_H) (a k : Nat) (v : Value) : ma_H := match v with
  | .int z => ma_uI h a k z
  | .long z => ma_uL h a k z
  | .ref z => ma_uR h a k z
  | _ => h
def ma_vc (v : Value) : Nat := match v with
  | .int _ => 0
  | .long _ => 1
  | .ref _ => 2
  | _ => 9
def ma_in (S : ma_S) (a : Nat) (ty : FieldType) (i : Int32) : Prop := ∃ n, ma_sh S a = some (.inr (ty, n)) ∧ vp_in i n
def ma_pop : Nat → List Value → List Value → Option (List Value × List Value)
  | 0, st, acc => some (acc, st)
  | n + 1, v :: st, acc => ma_pop n st (v :: acc)
  | _ + 1, [], _ => none
def ma_cat : List Value → Nat
  | [] => 0
  | v :: st => v.category + ma_cat st
def ma_sw (v : Int32) (F : Nat → Prop) : Nat → List Nat → Prop
  | _, [] => True
  | i, t :: ts => (v = nI i → F t) ∧ ma_sw v F (i + 1) ts
def ma_call (mc ms : Nat) (O : ma_O) (t : Nat) (av rest : List Value) (c sl : Nat) (S : ma_S) (h : ma_H) (F : List Value → Nat → Nat → ma_S → ma_H → Prop) : Prop :=
  ma_cat rest ≤ 8 ∧ ∃ (mc' ms' : Nat) (post : ma_P), O t mc' ms' av S h post ∧ c + mc' ≤ mc ∧ sl + ms' ≤ ms ∧ ∀ v S' h', post v S' h' → F (v.toList ++ rest) (c + mc') (sl + ms') S' h'
def ma_x (x : Bool) (scr : Option (Nat × (Nat → Int32))) (mc ms : Nat) (O : ma_O) (ins : Instr) (aux : List Nat) (k : Nat) (ls : List (Option Value)) (st : List Value) (c sl : Nat) (S : ma_S) (h : ma_H) (K : ma_K) (Q : ma_P) : Prop :=
  match ins with
  | .iconst _ | .bipush _ | .sipush _ | .ldc _ | .ldc_w _ => K (k + 1) ls (.int (ma_k aux) :: st) c sl S h
  | .lconst _ | .ldc2_w _ => K (k + 1) ls (.long (lN (ma_a aux 0)) :: st) c sl S h
  | .iload i => ma_gi ls i fun z => K (k + 1) ls (.int z :: st) c sl S h
  | .iload_n i => ma_gi ls i fun z => K (k + 1) ls (.int z :: st) c sl S h
  | .lload i => ma_gl ls i fun z => K (k + 1) ls (.long z :: st) c sl S h
  | .lload_n i => ma_gl ls i fun z => K (k + 1) ls (.long z :: st) c sl S h
  | .aload i => ma_gr ls i fun z => K (k + 1) ls (.ref z :: st) c sl S h
  | .aload_n i => ma_gr ls i fun z => K (k + 1) ls (.ref z :: st) c sl S h
  | .istore i => ma_i1 st fun z st => i < ls.length ∧ K (k + 1) (ma_set1 ls i (.int z)) st c sl S h
  | .istore_n i => ma_i1 st fun z st => i < ls.length ∧ K (k + 1) (ma_set1 ls i (.int z)) st c sl S h
  | .astore i => ma_r1 st fun z st => i < ls.length ∧ K (k + 1) (ma_set1 ls i (.ref z)) st c sl S h
  | .astore_n i => ma_r1 st fun z st => i < ls.length ∧ K (k + 1) (ma_set1 ls i (.ref z)) st c sl S h
  | .lstore i => ma_l1 st fun z st => i + 1 < ls.length ∧ K (k + 1) (ma_set2 ls i (.long z)) st c sl S h
  | .lstore_n i => ma_l1 st fun z st => (i : Nat) + 1 < ls.length ∧ K (k + 1) (ma_set2 ls i (.long z)) st c sl S h
  | .iinc i _ => ma_gi ls i fun z => K (k + 1) (ma_set1 ls i (.int (z + ma_k aux))) st c sl S h
  | .iadd => ma_ii st fun z y st => K (k + 1) ls (.int (z + y) :: st) c sl S h
  | .isub => ma_ii st fun z y st => K (k + 1) ls (.int (z - y) :: st) c sl S h
  | .imul => ma_ii st fun z y st => K (k + 1) ls (.int (z * y) :: st) c sl S h
  | .iand => ma_ii st fun z y st => K (k + 1) ls (.int (z &&& y) :: st) c sl S h
  | .ior => ma_ii st fun z y st => K (k + 1) ls (.int (z ||| y) :: st) c sl S h
  | .ixor => ma_ii st fun z y st => K (k + 1) ls (.int (z ^^^ y) :: st) c sl S h
  | .idiv => ma_ii st fun z y st => ¬ y = 0 ∧ K (k + 1) ls (.int (z / y) :: st) c sl S h
  | .irem => ma_ii st fun z y st => ¬ y = 0 ∧ K (k + 1) ls (.int (ma_irem z y) :: st) c sl S h
  | .ishl => ma_ii st fun z y st => K (k + 1) ls (.int (ma_shl z y) :: st) c sl S h
  | .ishr => ma_ii st fun z y st => K (k + 1) ls (.int (ma_shr z y) :: st) c sl S h
  | .iushr => ma_ii st fun z y st => K (k + 1) ls (.int (ma_ushr z y) :: st) c sl S h
  | .ladd => ma_ll st fun z y st => K (k + 1) ls (.long (z + y) :: st) c sl S h
  | .lmul => ma_ll st fun z y st => K (k + 1) ls (.long (z * y) :: st) c sl S h
  | .land => ma_ll st fun z y st => K (k + 1) ls (.long (z &&& y) :: st) c sl S h
  | .lor => ma_ll st fun z y st => K (k + 1) ls (.long (z ||| y) :: st) c sl S h
  | .ldiv => ma_ll st fun z y st => ¬ y = 0 ∧ K (k + 1) ls (.long (z / y) :: st) c sl S h
  | .lrem => ma_ll st fun z y st => ¬ y = 0 ∧ K (k + 1) ls (.long (ma_lrem z y) :: st) c sl S h
  | .lcmp => ma_ll st fun z y st => K (k + 1) ls (.int (lg_cmp z y) :: st) c sl S h
  | .lshl => ma_li st fun z y st => K (k + 1) ls (.long (ma_lshl z y) :: st) c sl S h
  | .lushr => ma_li st fun z y st => K (k + 1) ls (.long (ma_lushr z y) :: st) c sl S h
  | .i2l => ma_i1 st fun z st => K (k + 1) ls (.long z.toInt64 :: st) c sl S h
  | .l2i => ma_l1 st fun z st => K (k + 1) ls (.int z.toInt32 :: st) c sl S h
  | .i2b => ma_i1 st fun z st => K (k + 1) ls (.int z.toInt8.toInt32 :: st) c sl S h
  | .goto _ => K (ma_a aux 0) ls st c sl S h
  | .if_icmp cnd _ => ma_ii st fun z y st => ma_bc cnd z y (K (ma_a aux 0) ls st c sl S h) (K (k + 1) ls st c sl S h)
  | .ifCond cnd _ => ma_i1 st fun z st => ma_bc cnd z (nI 0) (K (ma_a aux 0) ls st c sl S h) (K (k + 1) ls st c sl S h)
  | .tableswitch _ _ _ _ => ma_i1 st fun z st => ma_sw z (fun t => K t ls st c sl S h) 0 aux.tail ∧ (¬ vp_in z aux.tail.length → K (ma_a aux 0) ls st c sl S h)
  | .dup => match st with
    | v :: st => v.category = 1 ∧ K (k + 1) ls (v :: v :: st) c sl S h
    | _ => False
  | .dup2 => match st with
    | v :: w :: st => v.category = 1 ∧ w.category = 1 ∧ K (k + 1) ls (v :: w :: v :: w :: st) c sl S h
    | _ => False
  | .pop => match st with
    | v :: st => v.category = 1 ∧ K (k + 1) ls st c sl S h
    | _ => False
  | .getfield _ => ma_r1 st fun a st => ma_sh S a = some (.inl (ma_a aux 0)) ∧ K (k + 1) ls (ma_pv h a (ma_a aux 1) (ma_a aux 2) :: st) c sl S h
  | .putfield _ => match st with
    | v :: st => ma_vc v = ma_a aux 2 ∧ ma_r1 st fun a st => ma_sh S a = some (.inl (ma_a aux 0)) ∧ K (k + 1) ls st c sl S (ma_put h a (ma_a aux 1) v)
    | _ => False
  | .iaload => ma_i1 st fun i st => ma_r1 st fun a st => match aux with
    | [] => ma_in S a .int i ∧ K (k + 1) ls (.int (h.1 a i.toNatClampNeg) :: st) c sl S h
    | _ => match scr with
      | some (n, xs) => a = 1 ∧ vp_in i n ∧ K (k + 1) ls (.int (xs i.toNatClampNeg) :: st) c sl S h
      | none => False
  | .baload => ma_i1 st fun i st => ma_r1 st fun a st => ma_in S a (if ma_a aux 0 = 0 then .byte else .boolean) i ∧ K (k + 1) ls (.int (h.1 a i.toNatClampNeg) :: st) c sl S h
  | .laload => ma_i1 st fun i st => ma_r1 st fun a st => ma_in S a .long i ∧ K (k + 1) ls (.long (h.2.1 a i.toNatClampNeg) :: st) c sl S h
  | .aaload => ma_i1 st fun i st => ma_r1 st fun a st => ma_in S a (.object ma_row) i ∧ K (k + 1) ls (.ref (h.2.2 a i.toNatClampNeg) :: st) c sl S h
  | .iastore => ma_i1 st fun v st => ma_i1 st fun i st => ma_r1 st fun a st => ma_in S a .int i ∧ K (k + 1) ls st c sl S (ma_uI h a i.toNatClampNeg v)
  | .bastore => ma_i1 st fun v st => ma_i1 st fun i st => ma_r1 st fun a st => ma_in S a (if ma_a aux 0 = 0 then .byte else .boolean) i ∧ K (k + 1) ls st c sl S (ma_uI h a i.toNatClampNeg (vp_nar (if ma_a aux 0 = 0 then .byte else .boolean) v))
  | .lastore => ma_l1 st fun v st => ma_i1 st fun i st => ma_r1 st fun a st => ma_in S a .long i ∧ K (k + 1) ls st c sl S (ma_uL h a i.toNatClampNeg v)
  | .aastore => ma_r1 st fun v st => ma_i1 st fun i st => ma_r1 st fun a st => ma_in S a (.object ma_row) i ∧ ma_sh S v = some (.inl ma_rowi) ∧ K (k + 1) ls st c sl S (ma_uR h a i.toNatClampNeg v)
  | .arraylength => ma_r1 st fun a st => match aux with
    | [] => ∃ n, ma_sh S a = some (.inr (.int, n)) ∧ K (k + 1) ls (.int (nI n) :: st) c sl S h
    | _ => match scr with
      | some (n, _) => a = 1 ∧ K (k + 1) ls (.int (nI n) :: st) c sl S h
      | none => False
  | .newarray aty => ma_i1 st fun n st => x = true ∧ ∃ N, n = nI N ∧ N ≤ 100000 ∧ c + 1 ≤ mc ∧ sl + N ≤ ms ∧ K (k + 1) ls (.ref (S.length + 2) :: st) (c + 1) (sl + N) (S ++ [.inr (newarray.typeOf aty, N)]) (ma_z h (S.length + 2))
  | .anewarray _ => ma_i1 st fun n st => x = true ∧ ∃ N, n = nI N ∧ N ≤ 100000 ∧ c + 1 ≤ mc ∧ sl + N ≤ ms ∧ K (k + 1) ls (.ref (S.length + 2) :: st) (c + 1) (sl + N) (S ++ [.inr (.object ma_row, N)]) (ma_z h (S.length + 2))
  | .new _ => x = true ∧ c + 1 ≤ mc ∧ sl + ma_a aux 1 ≤ ms ∧ K (k + 1) ls (.ref (S.length + 2) :: st) (c + 1) (sl + ma_a aux 1) (S ++ [.inl (ma_a aux 0)]) (ma_z h (S.length + 2))
  | .invokevirtual _ => match ma_pop (ma_a aux 1) st [] with
    | some (av, .ref a :: rest) => ma_sh S a = some (.inl (ma_a aux 2)) ∧ ma_call mc ms O (ma_a aux 0) (.ref a :: av) rest c sl S h (K (k + 1) ls)
    | _ => False
  | .invokespecial _ => if ma_a aux 0 = 0 then ma_r1 st fun a st => (∃ ci, ma_sh S a = some (.inl ci)) ∧ ma_cat st ≤ 8 ∧ K (k + 1) ls st c sl S h
    else match ma_pop (ma_a aux 1) st [] with
      | some (av, .ref a :: rest) => (∃ ci, ma_sh S a = some (.inl ci)) ∧ ma_call mc ms O (ma_a aux 0) (.ref a :: av) rest c sl S h (K (k + 1) ls)
      | _ => False
  | .invokestatic _ => if ma_a aux 0 = 0 then (match st with
      | .int n :: .int dp :: .ref a :: .int sp :: .ref a0 :: rest => ma_cat rest ≤ 8 ∧ ∃ N0 N1 d0 d1 m, ma_sh S a0 = some (.inr (.int, N0)) ∧ ma_sh S a = some (.inr (.int, N1)) ∧ sp = nI d0 ∧ dp = nI d1 ∧ n = nI m ∧ d0 + m ≤ N0 ∧ d1 + m ≤ N1 ∧ N0 < 100000 ∧ N1 < 100000 ∧ K (k + 1) ls rest c sl S (ma_cp h a0 d0 a d1 m)
      | _ => False)
    else match ma_pop (ma_a aux 1) st [] with
      | some (av, rest) => ma_call mc ms O (ma_a aux 0) av rest c sl S h (K (k + 1) ls)
      | _ => False
  | .ireturn => match st with
    | [.int v] => (ma_a aux 0 = 1 → v = nI 0 ∨ v = nI 1) ∧ c ≤ mc ∧ sl ≤ ms ∧ (x = true → c = mc) ∧ Q (some (.int v)) S h
    | _ => False
  | .areturn => match st with
    | [.ref v] => c ≤ mc ∧ sl ≤ ms ∧ (x = true → c = mc) ∧ Q (some (.ref v)) S h
    | _ => False
  | .return_ => match st with
    | [] => c ≤ mc ∧ sl ≤ ms ∧ (x = true → c = mc) ∧ Q none S h
    | _ => False
  | _ => False
end
section
/-! the judgement and the check of a method's table -/
def ma_pcAt (P : List ma_E) (k : Nat) : Option Nat := (P[k]?).map (fun e => e.1)
def ma_B (g : ma_G) (scr : Option (Nat × (Nat → Int32))) (mi : ma_M) (p : Program) (s : State) (m : MethodId) (args : Array Value) (meth : Method) (cd : Code) : Prop :=
  p.tables.exec = Jvm.exec ∧ cd.code = mi.2.1 ∧ cd.maxLocals = mi.2.2.1 ∧ meth.sig.returnType = mi.2.2.2.1 ∧ meth.locks = false ∧ meth.name = mi.1.name ∧ (∀ w ∈ ma_wo mi, w.before args s = true) ∧ s.vm.findClass mi.1.cls = some m.cls ∧ ma_KK g s ∧ g.2.2.1 ≤ s.heap.size ∧ (∀ L xs, scr = some (L, xs) → va_X g.2.1 L xs s s.heap ∧ g.2.1 < s.heap.size ∧ g.2.1 < g.2.2.1)
def ma_wH (g : ma_G) (x : Bool) (S : ma_S) (h : ma_H) (s : State) (H : Heap) (locs : List Loc) (c : Nat) : Prop := va_P g.1 ma_cl (ma_ws g S h) H ∧ va_S (fun q => g.2.2.1 ≤ q) s.heap H locs ∧ (x = true → H.size = g.2.2.1 + S.length ∧ H.size = s.heap.size + c)
abbrev ma_W (l : Launch) (g : ma_G) (x : Bool) (mi : ma_M) (Q : ma_P) (p : Program) (e : Env) (s : State) (m : MethodId) (args : Array Value) (below : List Frame) (meth : Method) (cd : Code) (H : Heap) (locs : List Loc) (c sl : Nat) (pc : Nat) (la : Array Slot) (st : List Value) : Prop :=
  W p l e (ma_rm mi) s m args below meth cd H locs c sl (MQ below (ma_Qc g x mi.2.2.2.2.2.1 Q) args s mi.2.2.2.2.2.1 mi.2.2.2.2.2.2 (fun q => g.2.2.1 ≤ q)) (F0 m pc la st)
def ma_J (l : Launch) (g : ma_G) (x : Bool) (scr : Option (Nat × (Nat → Int32))) (mi : ma_M) (P : List ma_E) (Q : ma_P) : ma_K := fun k ls st c sl S h =>
  ∀ (p : Program) (e : Env) (s : State) (m : MethodId) (args : Array Value) (below : List Frame) (meth : Method) (cd : Code) (H : Heap) (locs : List Loc) (la : Array Slot) (pc : Nat),
    ma_B g scr mi p s m args meth cd → ma_wH g x S h s H locs c → ma_L g mi.2.2.1 la ls → ma_pcAt P k = some pc → ma_W l g x mi Q p e s m args below meth cd H locs c sl pc la (st.map (ma_tv g))
theorem ma_J.less {l : Launch} {g : ma_G} {x : Bool} {scr : Option (Nat × (Nat → Int32))} {mi : ma_M} {P : List ma_E} {Q : ma_P} {k c sl : Nat} {ls ls' : List (Option Value)} {st : List Value} {S : ma_S} {h : ma_H} (hJ : ma_J l g x scr mi P Q k ls st c sl S h) (hl : ma_le ls ls') : ma_J l g x scr mi P Q k ls' st c sl S h :=
  fun p e s m args below meth cd H locs la pc hB hw hL hp => hJ p e s m args below meth cd H locs la pc hB hw (hL.less hl) hp
def ma_len : Instr → Nat
  | .bipush _ | .ldc _ | .iload _ | .lload _ | .aload _ | .istore _ | .lstore _ | .astore _ | .newarray _ => 2
  | .sipush _ | .ldc_w _ | .ldc2_w _ | .iinc _ _ | .goto _ | .if_icmp _ _ | .ifCond _ _ | .getfield _ | .putfield _ | .anewarray _ | .new _ | .invokevirtual _ | .invokespecial _ | .invokestatic _ => 3
  | _ => 1
def ma_tc : FieldType → Nat
  | .int => 0
  | .long => 1
  | .object _ => 2
  | .array _ => 2
  | _ => 3
def ma_tgt (P : List ma_E) (pc : Nat) (off : Int) (t : Nat) : Bool := decide ((ma_pcAt P t).map (fun q : Nat => (q : Int)) = some ((pc : Int) + off))
/-- a field: its class's row, its own row, its link (0: plain, 1: a nest mate's), the link's place -/
def ma_okf (own : String) (idx : Nat) (aux : List Nat) : Bool := match ma_cl[ma_a aux 0]? with
  | some (C, T, N) => decide (ma_a aux 1 < N) && decide (((ma_ty (ma_a aux 0))[ma_a aux 1]?).map ma_tc = some (ma_a aux 2)) && decide (ma_a aux 2 ≤ 2) && decide ((T (ma_a aux 1)).1 = C) &&
    (if ma_a aux 3 = 0 then ma_has (ma_a aux 4) (Cond.fieldLink own idx C (T (ma_a aux 1)).2.1 (T (ma_a aux 1)).2.2.1) else match ma_nf[ma_a aux 4]? with
      | some q => decide (q.1 = own ∧ q.2.1 = idx ∧ q.2.2.1 = C ∧ q.2.2.2.1 = (T (ma_a aux 1)).2.1 ∧ q.2.2.2.2.1 = (T (ma_a aux 1)).2.2.1)
      | none => false)
  | none => false
def ma_okp (own mname : String) (aux : List Nat) : Bool := match ma_cl[ma_a aux 0]? with
  | some (_, T, _) => if (T (ma_a aux 1)).2.2.2 then decide (mname = "<init>") && decide ((T (ma_a aux 1)).1 = own) && decide (ma_a aux 3 = 0) else true
  | none => false
/-- a call: the callee's row, its room, its class among the words -/
def ma_okm (mi : ma_M) (t n wi : Nat) : Bool := match ma_mt[t]? with
  | some mj => decide ((parseMethodDescriptor mj.1.desc).map (fun d => d.parameters.length) = some n) && decide (mj.1.cls ≠ "java/lang/invoke/MethodHandle") && decide (mj.1.cls ≠ "java/lang/invoke/VarHandle") &&
    decide (mj.2.2.2.2.1 + 1 ≤ mi.2.2.2.2.1) && decide (8 + (mj.2.2.1 + 11) + (ma_rm mj).locals ≤ (ma_rm mi).locals) && ma_has wi (Cond.initialized mj.1.cls)
  | none => false
/-- a link to a method: plain, or a nest mate's -/
def ma_okl (own : String) (idx : Nat) (y : MethodName) (nest w : Nat) : Bool := if nest = 0 then ma_has w (Cond.methodLink own idx y) else match ma_nm[w]? with
  | some q => decide (q.1 = own ∧ q.2.1 = idx ∧ q.2.2.1 = y)
  | none => false
/-- [t, n, ci, nest, link, instance, selects, init] -/
def ma_okv (own : String) (idx : Nat) (aux : List Nat) : Bool := match ma_mt[ma_a aux 0]?, ma_cl[ma_a aux 2]? with
  | some mj, some (C, _, _) => decide (mj.1.cls = C) && ma_okl own idx mj.1 (ma_a aux 3) (ma_a aux 4) && ma_has (ma_a aux 5) (.instanceMethod mj.1) && ma_has (ma_a aux 6) (.selects mj.1.cls mj.1 mj.1)
  | _, _ => false
/-- [t, n, nest, link, instance, init] -/
def ma_oki (own : String) (idx : Nat) (aux : List Nat) : Bool := match ma_mt[ma_a aux 0]? with
  | some mj => decide (mj.1.name = "<init>") && decide (mj.2.2.2.1 = none) && ma_okl own idx mj.1 (ma_a aux 2) (ma_a aux 3) && ma_has (ma_a aux 4) (.instanceMethod mj.1)
  | none => false
/-- [t, n, nest, link, static, init] -/
def ma_oks (own : String) (idx : Nat) (aux : List Nat) : Bool := match ma_mt[ma_a aux 0]? with
  | some mj => ma_okl own idx mj.1 (ma_a aux 2) (ma_a aux 3) && ma_has (ma_a aux 4) (.static mj.1)
  | none => false
def ma_okx (mi : ma_M) (P : List ma_E) (k pc : Nat) (ins : Instr) (aux : List Nat) : Bool := match ins with
  | .iconst n => decide (Int32.ofInt n = ma_k aux)
  | .bipush n => decide ((Int8.ofInt n).toInt32 = ma_k aux)
  | .sipush n => decide ((Int16.ofInt n).toInt32 = ma_k aux)
  | .ldc i => ma_has (ma_a aux 2) (Jvm.Cond.constant mi.1.cls i (ma_k aux))
  | .ldc_w i => ma_has (ma_a aux 2) (Jvm.Cond.constant mi.1.cls i (ma_k aux))
  | .ldc2_w i => ma_has (ma_a aux 2) (Jvm.Cond.constantLong mi.1.cls i (lN (ma_a aux 0)))
  | .lconst n => decide (Int64.ofNat (n : Nat) = lN (ma_a aux 0))
  | .iinc _ n => decide (Int32.ofInt n = ma_k aux)
  | .goto off => ma_tgt P pc off (ma_a aux 0)
  | .if_icmp _ off => ma_tgt P pc off (ma_a aux 0)
  | .ifCond _ off => ma_tgt P pc off (ma_a aux 0)
  | .tableswitch d lo hi offs => decide (lo = 0) && decide (hi + 1 = (aux.tail.length : Int)) && decide (aux.tail.length < 1000) && ma_tgt P pc d (ma_a aux 0) && decide (offs.size = aux.tail.length) && (List.range aux.tail.length).all (fun i => ma_tgt P pc (offs.getD i 0) (aux.tail.getD i 0))
  | .getfield i => ma_okf mi.1.cls i aux
  | .putfield i => ma_okf mi.1.cls i aux && ma_okp mi.1.cls mi.1.name aux
  | .newarray aty => decide (aty = .int ∨ aty = .byte ∨ aty = .boolean ∨ aty = .long) && ma_has (ma_a aux 0) (Cond.arrayClass (newarray.typeOf aty))
  | .anewarray i => ma_has (ma_a aux 0) (Cond.classLink mi.1.cls i ma_row)
  | .new i => match ma_cl[ma_a aux 0]? with
    | some (C, _, N) => decide (N = ma_a aux 1) && ma_has (ma_a aux 2) (Cond.classLink mi.1.cls i C) && ma_has (ma_a aux 3) (Cond.instantiable C N) && ma_has (ma_a aux 4) (Cond.initialized C)
    | none => false
  | .invokevirtual i => ma_okm mi (ma_a aux 0) (ma_a aux 1) (ma_a aux 7) && ma_okv mi.1.cls i aux
  | .invokespecial i => if ma_a aux 0 = 0 then ma_has (ma_a aux 1) (Cond.methodLink mi.1.cls i Lib.objectInit) && ma_has (ma_a aux 2) (Cond.instanceMethod Lib.objectInit) && ma_has (ma_a aux 3) (Cond.code Lib.objectInit ⟨#[0xb1]⟩ 1 none) && decide (1 ≤ mi.2.2.2.2.1)
    else ma_okm mi (ma_a aux 0) (ma_a aux 1) (ma_a aux 5) && ma_oki mi.1.cls i aux
  | .invokestatic i => if ma_a aux 0 = 0 then ma_has (ma_a aux 1) (Cond.methodLink mi.1.cls i arraycopyName) && ma_has (ma_a aux 2) (Cond.native arraycopyName) && ma_has (ma_a aux 3) (Cond.static arraycopyName) && ma_has (ma_a aux 4) (Cond.initialized "java/lang/System") && decide (1 ≤ mi.2.2.2.2.1)
    else ma_okm mi (ma_a aux 0) (ma_a aux 1) (ma_a aux 5) && ma_oks mi.1.cls i aux
  | .ireturn => if ma_a aux 0 = 1 then decide (mi.2.2.2.1 = some .boolean) else decide (mi.2.2.2.1 = some .int)
  | .areturn => match mi.2.2.2.1 with
    | some (.object _) => true
    | some (.array _) => true
    | _ => false
  | .return_ => decide (mi.2.2.2.1 = none)
  | _ => true
/-- the instruction behind comes next -/
def ma_thru : Instr → Bool
  | .goto _ | .ireturn | .areturn | .return_ | .tableswitch _ _ _ _ | .athrow => false
  | _ => true
def ma_ok1 (mi : ma_M) (P : List ma_E) (k : Nat) (en : ma_E) : Bool :=
  decide (decode mi.2.1 en.1 = .ok (en.2.2.1, en.2.1)) && (match en.2.2.1 with
    | .tableswitch _ _ _ _ => true
    | i => decide (en.2.1 = ma_len i)) && (if ma_thru en.2.2.1 then decide (ma_pcAt P (k + 1) = some (en.1 + en.2.1)) else true) && ma_okx mi P k en.1 en.2.2.1 en.2.2.2
def ma_ok (mi : ma_M) (P : List ma_E) : Prop := ∀ k en, P[k]? = some en → ma_ok1 mi P k en = true
/-! the weakest precondition: from k on, up to the cuts -/
def ma_go (x : Bool) (scr : Option (Nat × (Nat → Int32))) (mc ms : Nat) (O : ma_O) (P : List ma_E) (Q : ma_P) (K : ma_K) : ma_K := fun k ls st c sl S h => match P[k]? with
  | some en => ma_x x scr mc ms O en.2.2.1 en.2.2.2 k ls st c sl S h K Q
  | none => False
def ma_wp (x : Bool) (scr : Option (Nat × (Nat → Int32))) (mc ms : Nat) (O : ma_O) (P : List ma_E) (Q : ma_P) (cuts : List Nat) (C : ma_K) : Nat → ma_K
  | 0 => fun _ _ _ _ _ _ _ => False
  | n + 1 => fun k ls st c sl S h => if k ∈ cuts then C k ls st c sl S h else ma_go x scr mc ms O P Q (ma_wp x scr mc ms O P Q cuts C n) k ls st c sl S h
def ma_okb (mi : ma_M) (P : List ma_E) : Bool := (List.range P.length).all (fun k => match P[k]? with
  | some en => ma_ok1 mi P k en
  | none => true)
theorem ma_ok_of {mi : ma_M} {P : List ma_E} (h : ma_okb mi P = true) : ma_ok mi P := by
  intro k en hk
  have h1 := List.all_eq_true.mp h k (List.mem_range.mpr (List.getElem?_eq_some_iff.mp hk).1)
  rw [hk] at h1
  exact h1
theorem ma_plain : ∀ (ci j : Nat) (hj : j < (ma_ty ci).length), ma_tc ((ma_ty ci)[j]) ≤ 2 := by
  have h : ∀ ci, (ma_ty ci).all (fun t => decide (ma_tc t ≤ 2)) = true := by
    intro ci
    match ci with
    | 0 => decide +kernel
    | 1 => decide +kernel
    | 2 => decide +kernel
    | 3 => decide +kernel
    | 4 => decide +kernel
    | 5 => decide +kernel
    | 6 => decide +kernel
    | 7 => decide +kernel
    | n + 8 => rfl
  intro ci j hj
  exact of_decide_eq_true (List.all_eq_true.mp (h ci) _ (List.getElem_mem hj))
end
section
/-! the rows: each instruction of the pure machine is one of the JVM -/
theorem ma_ii_inv {st : List Value} {F : Int32 → Int32 → List Value → Prop} (h : ma_ii st F) : ∃ z y st', st = .int y :: .int z :: st' ∧ F z y st' := by
  unfold ma_ii at h
  split at h
  · exact ⟨_, _, _, rfl, h⟩
  · exact h.elim
theorem ma_ll_inv {st : List Value} {F : Int64 → Int64 → List Value → Prop} (h : ma_ll st F) : ∃ z y st', st = .long y :: .long z :: st' ∧ F z y st' := by
  unfold ma_ll at h
  split at h
  · exact ⟨_, _, _, rfl, h⟩
  · exact h.elim
theorem ma_li_inv {st : List Value} {F : Int64 → Int32 → List Value → Prop} (h : ma_li st F) : ∃ z y st', st = .int y :: .long z :: st' ∧ F z y st' := by
  unfold ma_li at h
  split at h
  · exact ⟨_, _, _, rfl, h⟩
  · exact h.elim
theorem ma_i1_inv {st : List Value} {F : Int32 → List Value → Prop} (h : ma_i1 st F) : ∃ z st', st = .int z :: st' ∧ F z st' := by
  unfold ma_i1 at h
  split at h
  · exact ⟨_, _, rfl, h⟩
  · exact h.elim
theorem ma_l1_inv {st : List Value} {F : Int64 → List Value → Prop} (h : ma_l1 st F) : ∃ z st', st = .long z :: st' ∧ F z st' := by
  unfold ma_l1 at h
  split at h
  · exact ⟨_, _, rfl, h⟩
  · exact h.elim
theorem ma_r1_inv {st : List Value} {F : Nat → List Value → Prop} (h : ma_r1 st F) : ∃ z st', st = .ref z :: st' ∧ F z st' := by
  unfold ma_r1 at h
  split at h
  · exact ⟨_, _, rfl, h⟩
  · exact h.elim
theorem ma_gi_inv {ls : List (Option Value)} {i : Nat} {F : Int32 → Prop} (h : ma_gi ls i F) : ∃ z, ls[i]? = some (some (.int z)) ∧ F z := by
  unfold ma_gi at h
  split at h
  · exact ⟨_, by assumption, h⟩
  · exact h.elim
theorem ma_gl_inv {ls : List (Option Value)} {i : Nat} {F : Int64 → Prop} (h : ma_gl ls i F) : ∃ z, ls[i]? = some (some (.long z)) ∧ F z := by
  unfold ma_gl at h
  split at h
  · exact ⟨_, by assumption, h⟩
  · exact h.elim
theorem ma_gr_inv {ls : List (Option Value)} {i : Nat} {F : Nat → Prop} (h : ma_gr ls i F) : ∃ z, ls[i]? = some (some (.ref z)) ∧ F z := by
  unfold ma_gr at h
  split at h
  · exact ⟨_, by assumption, h⟩
  · exact h.elim
theorem ma_tgt_inv {P : List ma_E} {pc : Nat} {off : Int} {t : Nat} (h : ma_tgt P pc off t = true) : ∃ q, ma_pcAt P t = some q ∧ (pc : Int) + off = (q : Int) := by
  unfold ma_tgt at h
  obtain ⟨q, h1, h2⟩ := Option.map_eq_some_iff.mp (of_decide_eq_true h)
  exact ⟨q, h1, h2.symm⟩
section
variable {l : Launch} {g : ma_G} {x : Bool} {scr : Option (Nat × (Nat → Int32))} {mi : ma_M} {P : List ma_E} {Q : ma_P} {K : ma_K}
theorem ma_next {k : Nat} {ls : List (Option Value)} {st : List Value} {c sl : Nat} {S : ma_S} {h : ma_H} {p : Program} {e : Env} {s : State} {m : MethodId} {args : Array Value} {below : List Frame} {meth : Method} {cd : Code} {H : Heap} {locs : List Loc} {la : Array Slot} {pc : Nat}
    (hK : ∀ k ls st c sl S h, K k ls st c sl S h → ma_J l g x scr mi P Q k ls st c sl S h) (hx : K k ls st c sl S h) (hp : ma_pcAt P k = some pc) (hB : ma_B g scr mi p s m args meth cd) (hw : ma_wH g x S h s H locs c) (hL : ma_L g mi.2.2.1 la ls) : ma_W l g x mi Q p e s m args below meth cd H locs c sl pc la (st.map (ma_tv g)) :=
  hK _ _ _ _ _ _ _ hx p e s m args below meth cd H locs la pc hB hw hL hp
/-- what is to be shown of an instruction -/
def ma_Snd (ins : Instr) (aux : List Nat) : Prop := ∀ {l : Launch} {g : ma_G} {x : Bool} {scr : Option (Nat × (Nat → Int32))} {mi : ma_M} {P : List ma_E} {Q : ma_P} {K : ma_K} {k : Nat} {ls : List (Option Value)} {st : List Value} {c sl : Nat} {S : ma_S} {h : ma_H} {p : Program} {e : Env} {s : State} {m : MethodId} {args : Array Value} {below : List Frame} {meth : Method} {cd : Code} {H : Heap} {locs : List Loc} {la : Array Slot} {pc : Nat},
  (∀ k ls st c sl S h, K k ls st c sl S h → ma_J l g x scr mi P Q k ls st c sl S h) → decode mi.2.1 pc = .ok (ins, ma_len ins) → (ma_thru ins = true → ma_pcAt P (k + 1) = some (pc + ma_len ins)) → ma_okx mi P k pc ins aux = true →
  ma_x x scr mi.2.2.2.2.2.1 mi.2.2.2.2.2.2 (ma_or l g x) ins aux k ls st c sl S h K Q → ma_B g scr mi p s m args meth cd → ma_wH g x S h s H locs c → ma_L g mi.2.2.1 la ls → ma_W l g x mi Q p e s m args below meth cd H locs c sl pc la (st.map (ma_tv g))
theorem ma_s_iconst (n : Int) (aux : List Nat) : ma_Snd (.iconst n) aux := by
  intro l g x scr mi P Q K k ls st c sl S h p e s m args below meth cd H locs la pc hK hd hn ho hx hB hw hL
  exact lv_iconst hB.1 hB.2.1 hd (of_decide_eq_true ho) (ma_next hK hx (hn rfl) hB hw hL)
theorem ma_s_bipush (n : Int) (aux : List Nat) : ma_Snd (.bipush n) aux := by
  intro l g x scr mi P Q K k ls st c sl S h p e s m args below meth cd H locs la pc hK hd hn ho hx hB hw hL
  exact lv_bipush hB.1 hB.2.1 hd (of_decide_eq_true ho) (ma_next hK hx (hn rfl) hB hw hL)
theorem ma_s_sipush (n : Int) (aux : List Nat) : ma_Snd (.sipush n) aux := by
  intro l g x scr mi P Q K k ls st c sl S h p e s m args below meth cd H locs la pc hK hd hn ho hx hB hw hL
  exact lv_sipush hB.1 hB.2.1 hd (of_decide_eq_true ho) (ma_next hK hx (hn rfl) hB hw hL)
theorem ma_wB {g : ma_G} {scr : Option (Nat × (Nat → Int32))} {mi : ma_M} {p : Program} {s : State} {m : MethodId} {args : Array Value} {meth : Method} {cd : Code} (hB : ma_B g scr mi p s m args meth cd) {w : Cond} (hw : w ∈ ma_wd) : w.before args s = true := hB.2.2.2.2.2.2.1 w (List.mem_cons_of_mem _ hw)
theorem ma_s_ldc (i : Nat) (aux : List Nat) : ma_Snd (.ldc i) aux := by
  intro l g x scr mi P Q K k ls st c sl S h p e s m args below meth cd H locs la pc hK hd hn ho hx hB hw hL
  exact W.ldc hB.1 hB.2.1 hB.2.2.2.2.2.2.2.1 (ma_wB hB (ma_has_in ho)) rfl hd (ma_next hK hx (hn rfl) hB hw hL)
theorem ma_s_ldcw (i : Nat) (aux : List Nat) : ma_Snd (.ldc_w i) aux := by
  intro l g x scr mi P Q K k ls st c sl S h p e s m args below meth cd H locs la pc hK hd hn ho hx hB hw hL
  exact lv_ldcw hB.1 hB.2.1 hB.2.2.2.2.2.2.2.1 (ma_wB hB (ma_has_in ho)) hd (ma_next hK hx (hn rfl) hB hw hL)
theorem ma_s_ldc2 (i : Nat) (aux : List Nat) : ma_Snd (.ldc2_w i) aux := by
  intro l g x scr mi P Q K k ls st c sl S h p e s m args below meth cd H locs la pc hK hd hn ho hx hB hw hL
  exact W.ldc2 hB.1 hB.2.1 hB.2.2.2.2.2.2.2.1 (ma_wB hB (ma_has_in ho)) rfl hd (ma_next hK hx (hn rfl) hB hw hL)
theorem ma_s_lconst (n : Fin 2) (aux : List Nat) : ma_Snd (.lconst n) aux := by
  intro l g x scr mi P Q K k ls st c sl S h p e s m args below meth cd H locs la pc hK hd hn ho hx hB hw hL
  exact lv_lconst hB.1 hB.2.1 hd (of_decide_eq_true ho) (ma_next hK hx (hn rfl) hB hw hL)
theorem ma_s_iload (i : Nat) (aux : List Nat) : ma_Snd (.iload i) aux := by
  intro l g x scr mi P Q K k ls st c sl S h p e s m args below meth cd H locs la pc hK hd hn ho hx hB hw hL
  obtain ⟨z, h1, hx⟩ := ma_gi_inv hx
  exact lv_iload hB.1 hB.2.1 hd (hL.2.2.2 _ _ h1) (ma_next hK hx (hn rfl) hB hw hL)
theorem ma_s_iload_n (i : Fin 4) (aux : List Nat) : ma_Snd (.iload_n i) aux := by
  intro l g x scr mi P Q K k ls st c sl S h p e s m args below meth cd H locs la pc hK hd hn ho hx hB hw hL
  obtain ⟨z, h1, hx⟩ := ma_gi_inv hx
  exact lv_iload_n hB.1 hB.2.1 hd rfl (hL.2.2.2 _ _ h1) (ma_next hK hx (hn rfl) hB hw hL)
theorem ma_s_lload (i : Nat) (aux : List Nat) : ma_Snd (.lload i) aux := by
  intro l g x scr mi P Q K k ls st c sl S h p e s m args below meth cd H locs la pc hK hd hn ho hx hB hw hL
  obtain ⟨z, h1, hx⟩ := ma_gl_inv hx
  exact lv_lload hB.1 hB.2.1 hd (hL.2.2.2 _ _ h1) (ma_next hK hx (hn rfl) hB hw hL)
theorem ma_s_lload_n (i : Fin 4) (aux : List Nat) : ma_Snd (.lload_n i) aux := by
  intro l g x scr mi P Q K k ls st c sl S h p e s m args below meth cd H locs la pc hK hd hn ho hx hB hw hL
  obtain ⟨z, h1, hx⟩ := ma_gl_inv hx
  exact lv_lload_n hB.1 hB.2.1 hd rfl (hL.2.2.2 _ _ h1) (ma_next hK hx (hn rfl) hB hw hL)
theorem ma_s_aload (i : Nat) (aux : List Nat) : ma_Snd (.aload i) aux := by
  intro l g x scr mi P Q K k ls st c sl S h p e s m args below meth cd H locs la pc hK hd hn ho hx hB hw hL
  obtain ⟨z, h1, hx⟩ := ma_gr_inv hx
  have h2 := hL.2.2.2 _ _ h1
  have h3 := ma_next (below := below) (e := e) hK hx (hn rfl) hB hw hL
  have e0 : ma_tv g (.ref z) = va_rf (ma_ro g z) := rfl
  rw [List.map_cons, e0] at h3
  rw [e0] at h2
  cases hz : ma_ro g z with
  | none =>
    rw [hz] at h2 h3
    exact lv_aloadN hB.1 hB.2.1 hd h2 h3
  | some a =>
    rw [hz] at h2 h3
    exact lv_aload hB.1 hB.2.1 hd h2 h3
theorem ma_s_aload_n (i : Fin 4) (aux : List Nat) : ma_Snd (.aload_n i) aux := by
  intro l g x scr mi P Q K k ls st c sl S h p e s m args below meth cd H locs la pc hK hd hn ho hx hB hw hL
  obtain ⟨z, h1, hx⟩ := ma_gr_inv hx
  have h2 := hL.2.2.2 _ _ h1
  have h3 := ma_next (below := below) (e := e) hK hx (hn rfl) hB hw hL
  have e0 : ma_tv g (.ref z) = va_rf (ma_ro g z) := rfl
  rw [List.map_cons, e0] at h3
  rw [e0] at h2
  cases hz : ma_ro g z with
  | none =>
    rw [hz] at h2 h3
    exact lv_aload_nN hB.1 hB.2.1 hd rfl h2 h3
  | some a =>
    rw [hz] at h2 h3
    exact lv_aload_n hB.1 hB.2.1 hd rfl h2 h3
theorem ma_s_istore (i : Nat) (aux : List Nat) : ma_Snd (.istore i) aux := by
  intro l g x scr mi P Q K k ls st c sl S h p e s m args below meth cd H locs la pc hK hd hn ho hx hB hw hL
  obtain ⟨z, st', rfl, hi, hx⟩ := ma_i1_inv hx
  exact lv_istore hB.1 hB.2.1 hd hL.has (by rw [← hL.2.2.1]; exact hi) rfl (fun la' h' => ma_next hK hx (hn rfl) hB hw (hL.set1 (v := .int z) h'))
theorem ma_s_istore_n (i : Fin 4) (aux : List Nat) : ma_Snd (.istore_n i) aux := by
  intro l g x scr mi P Q K k ls st c sl S h p e s m args below meth cd H locs la pc hK hd hn ho hx hB hw hL
  obtain ⟨z, st', rfl, hi, hx⟩ := ma_i1_inv hx
  exact lv_istore_n hB.1 hB.2.1 hd rfl hL.has (by rw [← hL.2.2.1]; exact hi) rfl (fun la' h' => ma_next hK hx (hn rfl) hB hw (hL.set1 (v := .int z) h'))
theorem ma_s_lstore (i : Nat) (aux : List Nat) : ma_Snd (.lstore i) aux := by
  intro l g x scr mi P Q K k ls st c sl S h p e s m args below meth cd H locs la pc hK hd hn ho hx hB hw hL
  obtain ⟨z, st', rfl, hi, hx⟩ := ma_l1_inv hx
  exact lv_lstore hB.1 hB.2.1 hd hL.has (by rw [← hL.2.2.1]; exact hi) rfl (fun la' h' => ma_next hK hx (hn rfl) hB hw (hL.set2 (v := .long z) h'))
theorem ma_s_lstore_n (i : Fin 4) (aux : List Nat) : ma_Snd (.lstore_n i) aux := by
  intro l g x scr mi P Q K k ls st c sl S h p e s m args below meth cd H locs la pc hK hd hn ho hx hB hw hL
  obtain ⟨z, st', rfl, hi, hx⟩ := ma_l1_inv hx
  exact lv_lstore_n hB.1 hB.2.1 hd rfl hL.has (by rw [← hL.2.2.1]; exact hi) rfl (fun la' h' => ma_next hK hx (hn rfl) hB hw (hL.set2 (v := .long z) h'))
theorem ma_s_astore (i : Nat) (aux : List Nat) : ma_Snd (.astore i) aux := by
  intro l g x scr mi P Q K k ls st c sl S h p e s m args below meth cd H locs la pc hK hd hn ho hx hB hw hL
  obtain ⟨z, st', rfl, hi, hx⟩ := ma_r1_inv hx
  have e0 : ma_tv g (.ref z) = va_rf (ma_ro g z) := rfl
  have hi' : i < mi.2.2.1 := by rw [← hL.2.2.1]; exact hi
  rw [List.map_cons, e0]
  have h3 : ∀ la' : Array Slot, lv_has la' mi.2.2.1 ((i, va_rf (ma_ro g z)) :: (ma_kn g 0 ls).filter (fun q => !(q.1 == i) && !(q.1 + 1 == i && q.2.category == 2))) → _ := fun la' h' => ma_next (below := below) (e := e) hK hx (hn rfl) hB hw (hL.set1 (v := .ref z) h')
  cases hz : ma_ro g z with
  | none =>
    rw [hz] at h3
    exact lv_astoreN hB.1 hB.2.1 hd hL.has hi' rfl h3
  | some a =>
    rw [hz] at h3
    exact lv_astore hB.1 hB.2.1 hd hL.has hi' rfl h3
theorem ma_s_astore_n (i : Fin 4) (aux : List Nat) : ma_Snd (.astore_n i) aux := by
  intro l g x scr mi P Q K k ls st c sl S h p e s m args below meth cd H locs la pc hK hd hn ho hx hB hw hL
  obtain ⟨z, st', rfl, hi, hx⟩ := ma_r1_inv hx
  have e0 : ma_tv g (.ref z) = va_rf (ma_ro g z) := rfl
  have hi' : (i : Nat) < mi.2.2.1 := by rw [← hL.2.2.1]; exact hi
  rw [List.map_cons, e0]
  have h3 : ∀ la' : Array Slot, lv_has la' mi.2.2.1 (((i : Nat), va_rf (ma_ro g z)) :: (ma_kn g 0 ls).filter (fun q => !(q.1 == (i : Nat)) && !(q.1 + 1 == (i : Nat) && q.2.category == 2))) → _ := fun la' h' => ma_next (below := below) (e := e) hK hx (hn rfl) hB hw (hL.set1 (v := .ref z) h')
  cases hz : ma_ro g z with
  | none =>
    rw [hz] at h3
    exact lv_astore_nN hB.1 hB.2.1 hd rfl hL.has hi' rfl h3
  | some a =>
    rw [hz] at h3
    exact lv_astore_n hB.1 hB.2.1 hd rfl hL.has hi' rfl h3
theorem ma_s_iinc (i : Nat) (n : Int) (aux : List Nat) : ma_Snd (.iinc i n) aux := by
  intro l g x scr mi P Q K k ls st c sl S h p e s m args below meth cd H locs la pc hK hd hn ho hx hB hw hL
  obtain ⟨z, h1, hx⟩ := ma_gi_inv hx
  have hm : (i, Value.int z) ∈ ma_kn g 0 ls := (ma_kn_mem g ls 0 _).mpr ⟨i, .int z, h1, by simp [ma_tv]⟩
  obtain ⟨j, hj⟩ := List.getElem?_of_mem hm
  have hi : i < mi.2.2.1 := by rw [← hL.2.2.1]; exact (List.getElem?_eq_some_iff.mp h1).1
  exact lv_iinc hB.1 hB.2.1 hd hL.has hj (by rw [of_decide_eq_true ho]) hi rfl (fun la' h' => ma_next hK hx (hn rfl) hB hw (hL.set1 (v := .int (z + ma_k aux)) h'))
theorem ma_s_iadd (aux : List Nat) : ma_Snd .iadd aux := by
  intro l g x scr mi P Q K k ls st c sl S h p e s m args below meth cd H locs la pc hK hd hn ho hx hB hw hL
  obtain ⟨z, y, st', rfl, hx⟩ := ma_ii_inv hx
  exact lv_iadd hB.1 hB.2.1 hd (ma_next hK hx (hn rfl) hB hw hL)
theorem ma_s_isub (aux : List Nat) : ma_Snd .isub aux := by
  intro l g x scr mi P Q K k ls st c sl S h p e s m args below meth cd H locs la pc hK hd hn ho hx hB hw hL
  obtain ⟨z, y, st', rfl, hx⟩ := ma_ii_inv hx
  exact lv_isub hB.1 hB.2.1 hd (ma_next hK hx (hn rfl) hB hw hL)
theorem ma_s_imul (aux : List Nat) : ma_Snd .imul aux := by
  intro l g x scr mi P Q K k ls st c sl S h p e s m args below meth cd H locs la pc hK hd hn ho hx hB hw hL
  obtain ⟨z, y, st', rfl, hx⟩ := ma_ii_inv hx
  exact lv_imul hB.1 hB.2.1 hd (ma_next hK hx (hn rfl) hB hw hL)
theorem ma_s_iand (aux : List Nat) : ma_Snd .iand aux := by
  intro l g x scr mi P Q K k ls st c sl S h p e s m args below meth cd H locs la pc hK hd hn ho hx hB hw hL
  obtain ⟨z, y, st', rfl, hx⟩ := ma_ii_inv hx
  exact lv_iand hB.1 hB.2.1 hd (ma_next hK hx (hn rfl) hB hw hL)
theorem ma_s_ior (aux : List Nat) : ma_Snd .ior aux := by
  intro l g x scr mi P Q K k ls st c sl S h p e s m args below meth cd H locs la pc hK hd hn ho hx hB hw hL
  obtain ⟨z, y, st', rfl, hx⟩ := ma_ii_inv hx
  exact lv_ior hB.1 hB.2.1 hd (ma_next hK hx (hn rfl) hB hw hL)
theorem ma_s_ixor (aux : List Nat) : ma_Snd .ixor aux := by
  intro l g x scr mi P Q K k ls st c sl S h p e s m args below meth cd H locs la pc hK hd hn ho hx hB hw hL
  obtain ⟨z, y, st', rfl, hx⟩ := ma_ii_inv hx
  exact lv_ixor hB.1 hB.2.1 hd (ma_next hK hx (hn rfl) hB hw hL)
theorem ma_s_idiv (aux : List Nat) : ma_Snd .idiv aux := by
  intro l g x scr mi P Q K k ls st c sl S h p e s m args below meth cd H locs la pc hK hd hn ho hx hB hw hL
  obtain ⟨z, y, st', rfl, hne, hx⟩ := ma_ii_inv hx
  exact lv_idiv hB.1 hB.2.1 hd hne (ma_next hK hx (hn rfl) hB hw hL)
theorem ma_s_irem (aux : List Nat) : ma_Snd .irem aux := by
  intro l g x scr mi P Q K k ls st c sl S h p e s m args below meth cd H locs la pc hK hd hn ho hx hB hw hL
  obtain ⟨z, y, st', rfl, hne, hx⟩ := ma_ii_inv hx
  exact lv_irem hB.1 hB.2.1 hd hne (ma_next hK hx (hn rfl) hB hw hL)
theorem ma_s_ishl (aux : List Nat) : ma_Snd .ishl aux := by
  intro l g x scr mi P Q K k ls st c sl S h p e s m args below meth cd H locs la pc hK hd hn ho hx hB hw hL
  obtain ⟨z, y, st', rfl, hx⟩ := ma_ii_inv hx
  exact lv_ishl hB.1 hB.2.1 hd (ma_next hK hx (hn rfl) hB hw hL)
theorem ma_s_ishr (aux : List Nat) : ma_Snd .ishr aux := by
  intro l g x scr mi P Q K k ls st c sl S h p e s m args below meth cd H locs la pc hK hd hn ho hx hB hw hL
  obtain ⟨z, y, st', rfl, hx⟩ := ma_ii_inv hx
  exact lv_ishr hB.1 hB.2.1 hd (ma_next hK hx (hn rfl) hB hw hL)
theorem ma_s_iushr (aux : List Nat) : ma_Snd .iushr aux := by
  intro l g x scr mi P Q K k ls st c sl S h p e s m args below meth cd H locs la pc hK hd hn ho hx hB hw hL
  obtain ⟨z, y, st', rfl, hx⟩ := ma_ii_inv hx
  exact lv_iushr hB.1 hB.2.1 hd rfl (ma_next hK hx (hn rfl) hB hw hL)
theorem ma_s_ladd (aux : List Nat) : ma_Snd .ladd aux := by
  intro l g x scr mi P Q K k ls st c sl S h p e s m args below meth cd H locs la pc hK hd hn ho hx hB hw hL
  obtain ⟨z, y, st', rfl, hx⟩ := ma_ll_inv hx
  exact lv_ladd hB.1 hB.2.1 hd (ma_next hK hx (hn rfl) hB hw hL)
theorem ma_s_lmul (aux : List Nat) : ma_Snd .lmul aux := by
  intro l g x scr mi P Q K k ls st c sl S h p e s m args below meth cd H locs la pc hK hd hn ho hx hB hw hL
  obtain ⟨z, y, st', rfl, hx⟩ := ma_ll_inv hx
  exact lv_lmul hB.1 hB.2.1 hd (ma_next hK hx (hn rfl) hB hw hL)
theorem ma_s_land (aux : List Nat) : ma_Snd .land aux := by
  intro l g x scr mi P Q K k ls st c sl S h p e s m args below meth cd H locs la pc hK hd hn ho hx hB hw hL
  obtain ⟨z, y, st', rfl, hx⟩ := ma_ll_inv hx
  exact lv_land hB.1 hB.2.1 hd (ma_next hK hx (hn rfl) hB hw hL)
theorem ma_s_lor (aux : List Nat) : ma_Snd .lor aux := by
  intro l g x scr mi P Q K k ls st c sl S h p e s m args below meth cd H locs la pc hK hd hn ho hx hB hw hL
  obtain ⟨z, y, st', rfl, hx⟩ := ma_ll_inv hx
  exact lv_lor hB.1 hB.2.1 hd (ma_next hK hx (hn rfl) hB hw hL)
theorem ma_s_ldiv (aux : List Nat) : ma_Snd .ldiv aux := by
  intro l g x scr mi P Q K k ls st c sl S h p e s m args below meth cd H locs la pc hK hd hn ho hx hB hw hL
  obtain ⟨z, y, st', rfl, hne, hx⟩ := ma_ll_inv hx
  exact lv_ldiv hB.1 hB.2.1 hd hne (ma_next hK hx (hn rfl) hB hw hL)
theorem ma_s_lrem (aux : List Nat) : ma_Snd .lrem aux := by
  intro l g x scr mi P Q K k ls st c sl S h p e s m args below meth cd H locs la pc hK hd hn ho hx hB hw hL
  obtain ⟨z, y, st', rfl, hne, hx⟩ := ma_ll_inv hx
  exact lv_lrem hB.1 hB.2.1 hd hne (ma_next hK hx (hn rfl) hB hw hL)
theorem ma_s_lcmp (aux : List Nat) : ma_Snd .lcmp aux := by
  intro l g x scr mi P Q K k ls st c sl S h p e s m args below meth cd H locs la pc hK hd hn ho hx hB hw hL
  obtain ⟨z, y, st', rfl, hx⟩ := ma_ll_inv hx
  exact W.lcmp hB.1 hB.2.1 hd (ma_next hK hx (hn rfl) hB hw hL)
theorem ma_s_lshl (aux : List Nat) : ma_Snd .lshl aux := by
  intro l g x scr mi P Q K k ls st c sl S h p e s m args below meth cd H locs la pc hK hd hn ho hx hB hw hL
  obtain ⟨z, y, st', rfl, hx⟩ := ma_li_inv hx
  exact lv_lshl hB.1 hB.2.1 hd rfl (ma_next hK hx (hn rfl) hB hw hL)
theorem ma_s_lushr (aux : List Nat) : ma_Snd .lushr aux := by
  intro l g x scr mi P Q K k ls st c sl S h p e s m args below meth cd H locs la pc hK hd hn ho hx hB hw hL
  obtain ⟨z, y, st', rfl, hx⟩ := ma_li_inv hx
  exact lv_lushr hB.1 hB.2.1 hd rfl (ma_next hK hx (hn rfl) hB hw hL)
theorem ma_s_i2l (aux : List Nat) : ma_Snd .i2l aux := by
  intro l g x scr mi P Q K k ls st c sl S h p e s m args below meth cd H locs la pc hK hd hn ho hx hB hw hL
  obtain ⟨z, st', rfl, hx⟩ := ma_i1_inv hx
  exact lv_i2l hB.1 hB.2.1 hd rfl (ma_next hK hx (hn rfl) hB hw hL)
theorem ma_s_l2i (aux : List Nat) : ma_Snd .l2i aux := by
  intro l g x scr mi P Q K k ls st c sl S h p e s m args below meth cd H locs la pc hK hd hn ho hx hB hw hL
  obtain ⟨z, st', rfl, hx⟩ := ma_l1_inv hx
  exact lv_l2i hB.1 hB.2.1 hd rfl (ma_next hK hx (hn rfl) hB hw hL)
theorem ma_s_i2b (aux : List Nat) : ma_Snd .i2b aux := by
  intro l g x scr mi P Q K k ls st c sl S h p e s m args below meth cd H locs la pc hK hd hn ho hx hB hw hL
  obtain ⟨z, st', rfl, hx⟩ := ma_i1_inv hx
  exact lv_i2b hB.1 hB.2.1 hd rfl (ma_next hK hx (hn rfl) hB hw hL)
theorem ma_s_goto (off : Int) (aux : List Nat) : ma_Snd (.goto off) aux := by
  intro l g x scr mi P Q K k ls st c sl S h p e s m args below meth cd H locs la pc hK hd hn ho hx hB hw hL
  obtain ⟨q, h1, h2⟩ := ma_tgt_inv ho
  exact lv_goto hB.1 hB.2.1 hd h2 (ma_next hK hx h1 hB hw hL)
theorem ma_s_icmp (cnd : ClassFile.Cond) (off : Int) (aux : List Nat) : ma_Snd (.if_icmp cnd off) aux := by
  intro l g x scr mi P Q K k ls st c sl S h p e s m args below meth cd H locs la pc hK hd hn ho hx hB hw hL
  obtain ⟨q, h1, h2⟩ := ma_tgt_inv ho
  obtain ⟨z, y, st', rfl, hx⟩ := ma_ii_inv hx
  cases cnd
  · exact lv_icmp_eq hB.1 hB.2.1 hd h2 (fun q => ma_next hK (hx.1 q) h1 hB hw hL) (fun q => ma_next hK (hx.2 q) (hn rfl) hB hw hL)
  · exact lv_icmp_ne hB.1 hB.2.1 hd h2 (fun q => ma_next hK (hx.1 q) h1 hB hw hL) (fun q => ma_next hK (hx.2 q) (hn rfl) hB hw hL)
  · exact lv_icmp_lt hB.1 hB.2.1 hd h2 (fun q => ma_next hK (hx.1 q) h1 hB hw hL) (fun q => ma_next hK (hx.2 q) (hn rfl) hB hw hL)
  · exact lv_icmp_ge hB.1 hB.2.1 hd h2 (fun q => ma_next hK (hx.1 q) h1 hB hw hL) (fun q => ma_next hK (hx.2 q) (hn rfl) hB hw hL)
  · exact lv_icmp_gt hB.1 hB.2.1 hd h2 (fun q => ma_next hK (hx.1 q) h1 hB hw hL) (fun q => ma_next hK (hx.2 q) (hn rfl) hB hw hL)
  · exact lv_icmp_le hB.1 hB.2.1 hd h2 (fun q => ma_next hK (hx.1 q) h1 hB hw hL) (fun q => ma_next hK (hx.2 q) (hn rfl) hB hw hL)
theorem ma_s_if (cnd : ClassFile.Cond) (off : Int) (aux : List Nat) : ma_Snd (.ifCond cnd off) aux := by
  intro l g x scr mi P Q K k ls st c sl S h p e s m args below meth cd H locs la pc hK hd hn ho hx hB hw hL
  obtain ⟨q, h1, h2⟩ := ma_tgt_inv ho
  obtain ⟨z, st', rfl, hx⟩ := ma_i1_inv hx
  cases cnd
  · exact lv_if_eq hB.1 hB.2.1 hd h2 (fun q => ma_next hK (hx.1 q) h1 hB hw hL) (fun q => ma_next hK (hx.2 q) (hn rfl) hB hw hL)
  · exact lv_if_ne hB.1 hB.2.1 hd h2 (fun q => ma_next hK (hx.1 q) h1 hB hw hL) (fun q => ma_next hK (hx.2 q) (hn rfl) hB hw hL)
  · exact lv_if_lt hB.1 hB.2.1 hd h2 (fun q => ma_next hK (hx.1 q) h1 hB hw hL) (fun q => ma_next hK (hx.2 q) (hn rfl) hB hw hL)
  · exact lv_if_ge hB.1 hB.2.1 hd h2 (fun q => ma_next hK (hx.1 q) h1 hB hw hL) (fun q => ma_next hK (hx.2 q) (hn rfl) hB hw hL)
  · exact lv_if_gt hB.1 hB.2.1 hd h2 (fun q => ma_next hK (hx.1 q) h1 hB hw hL) (fun q => ma_next hK (hx.2 q) (hn rfl) hB hw hL)
  · exact lv_if_le hB.1 hB.2.1 hd h2 (fun q => ma_next hK (hx.1 q) h1 hB hw hL) (fun q => ma_next hK (hx.2 q) (hn rfl) hB hw hL)
theorem ma_s_dup (aux : List Nat) : ma_Snd .dup aux := by
  intro l g x scr mi P Q K k ls st c sl S h p e s m args below meth cd H locs la pc hK hd hn ho hx hB hw hL
  match st, hx with
  | v :: st', hx => exact lv_dup hB.1 hB.2.1 hd (by rw [ma_tv_cat]; exact hx.1) (ma_next hK hx.2 (hn rfl) hB hw hL)
theorem ma_s_dup2 (aux : List Nat) : ma_Snd .dup2 aux := by
  intro l g x scr mi P Q K k ls st c sl S h p e s m args below meth cd H locs la pc hK hd hn ho hx hB hw hL
  match st, hx with
  | v :: w :: st', hx => exact lv_dup2_11 hB.1 hB.2.1 hd (by rw [ma_tv_cat]; exact hx.1) (by rw [ma_tv_cat]; exact hx.2.1) (ma_next hK hx.2.2 (hn rfl) hB hw hL)
theorem ma_s_pop (aux : List Nat) : ma_Snd .pop aux := by
  intro l g x scr mi P Q K k ls st c sl S h p e s m args below meth cd H locs la pc hK hd hn ho hx hB hw hL
  match st, hx with
  | v :: st', hx => exact lv_pop hB.1 hB.2.1 hd (by rw [ma_tv_cat]; exact hx.1) (ma_next hK hx.2 (hn rfl) hB hw hL)
end
end
section
/-! the size of the heap -/
theorem ma_Wsz {p : Program} {l : Launch} {e : Env} {R : Room} {s : State} {m : MethodId} {args : Array Value} {below : List Frame} {meth : Method} {c : Code} {H : Heap} {locs : List Loc} {cells slots : Nat} {Q : State → Prop} {f : JFrame} (k : H.size ≤ s.heap.size + cells → W p l e R s m args below meth c H locs cells slots Q f) : W p l e R s m args below meth c H locs cells slots Q f := by
  intro T hT X
  refine k ?_ T hT X
  rw [← hT]
  exact X.same.2.2.1
theorem ma_wH.rfS {g : ma_G} {x : Bool} {S : ma_S} {h : ma_H} {s : State} {H : Heap} {locs : List Loc} {c : Nat} (hw : ma_wH g x S h s H locs c) : va_S (fun q => g.2.2.1 ≤ q) H H locs := ⟨Nat.le_refl _, fun _ _ _ => rfl, hw.2.1.2.2⟩
theorem ma_wH.step {g : ma_G} {x : Bool} {S : ma_S} {h h' : ma_H} {s : State} {H H1 : Heap} {locs locs1 : List Loc} {c : Nat} (hw : ma_wH g x S h s H locs c) (hS1 : va_S (fun q => g.2.2.1 ≤ q) H H1 locs1) (hP1 : va_P g.1 ma_cl (ma_ws g S h') H1) (hz : H1.size ≤ s.heap.size + c) : ma_wH g x S h' s H1 locs1 c := by
  refine ⟨hP1, ⟨Nat.le_trans hw.2.1.1 hS1.1, fun q h1 h2 => ?_, hS1.2.2⟩, fun hx => ?_⟩
  · rw [hS1.2.1 q (Nat.lt_of_lt_of_le h1 hw.2.1.1) h2]
    exact hw.2.1.2.1 q h1 h2
  · obtain ⟨e1, e2⟩ := hw.2.2 hx
    have := hS1.1
    omega
theorem ma_wH.new {g : ma_G} {x : Bool} {S : ma_S} {h h' : ma_H} {s : State} {H H1 : Heap} {locs locs1 : List Loc} {c q : Nat} {e : va_E} {sh : Nat ⊕ (FieldType × Nat)} (hw : ma_wH g x S h s H locs c) (hx : x = true) (hS1 : va_S (fun q => g.2.2.1 ≤ q) H H1 locs1) (hP1 : va_P g.1 ma_cl (ma_ws g S h ++ [(q, e)]) H1) (hD1 : va_D (fun q => g.2.2.1 ≤ q) (ma_ws g S h ++ [(q, e)])) (hz : H1.size ≤ s.heap.size + (c + 1))
    (he : e = ma_cell g h' (S.length + 2) sh) (ho : ∀ j sh', S[j]? = some sh' → ma_cell g h' (j + 2) sh' = ma_cell g h (j + 2) sh') : q = g.2.2.1 + S.length ∧ ma_wH g x (S ++ [sh]) h' s H1 locs1 (c + 1) := by
  obtain ⟨e1, e2⟩ := hw.2.2 hx
  have hl : (ma_ws g S h).length = S.length := by simp [ma_ws]
  have hlast : (ma_ws g S h ++ [(q, e)])[S.length]? = some (q, e) := by rw [List.getElem?_append_right (by omega), hl]; simp
  have hq1 : q < H1.size := (hP1 _ _ hlast).lt
  have hq2 : g.2.2.1 ≤ q := hD1.2 _ _ hlast
  have hq3 : ¬ q < g.2.2.1 + S.length := by
    intro hq
    obtain ⟨i, rfl⟩ : ∃ i, q = g.2.2.1 + i := ⟨q - g.2.2.1, by omega⟩
    have hi : i < S.length := by omega
    have h1 : (ma_ws g S h ++ [(g.2.2.1 + i, e)])[i]? = some (g.2.2.1 + i, ma_cell g h (i + 2) S[i]) := by
      rw [List.getElem?_append_left (by omega), ma_ws_at, List.getElem?_eq_getElem hi]; rfl
    have := hD1.1 i S.length _ _ h1 hlast rfl
    omega
  have hq : q = g.2.2.1 + S.length := by omega
  refine ⟨hq, ?_, ⟨Nat.le_trans hw.2.1.1 hS1.1, fun q h1 h2 => ?_, hS1.2.2⟩, fun _ => ⟨?_, ?_⟩⟩
  · have e3 : ma_ws g S h ++ [(q, e)] = ma_ws g (S ++ [sh]) h' := by
      apply List.ext_getElem?
      intro i
      rw [ma_ws_at]
      by_cases hi : i < S.length
      · rw [List.getElem?_append_left (by omega), List.getElem?_append_left hi, ma_ws_at, List.getElem?_eq_getElem hi]
        simp only [Option.map_some]
        rw [ho i _ (List.getElem?_eq_getElem hi)]
      · by_cases hi2 : i = S.length
        · subst hi2
          rw [hlast, List.getElem?_append_right (Nat.le_refl _), hq, he]
          simp
        · rw [List.getElem?_eq_none (by simp; omega), List.getElem?_eq_none (by simp; omega)]
          rfl
    rw [← e3]
    exact hP1
  · rw [hS1.2.1 q (Nat.lt_of_lt_of_le h1 hw.2.1.1) h2]
    exact hw.2.1.2.1 q h1 h2
  · simp
    omega
  · omega
/-! fields and arrays -/
theorem ma_okf_inv {own : String} {idx : Nat} {aux : List Nat} (ho : ma_okf own idx aux = true) : ∃ C T N fty, ma_cl[ma_a aux 0]? = some (C, T, N) ∧ ma_a aux 1 < N ∧ (ma_ty (ma_a aux 0))[ma_a aux 1]? = some fty ∧ ma_tc fty = ma_a aux 2 ∧ ma_a aux 2 ≤ 2 ∧ (T (ma_a aux 1)).1 = C ∧
    ((ma_a aux 3 = 0 ∧ Cond.fieldLink own idx C (T (ma_a aux 1)).2.1 (T (ma_a aux 1)).2.2.1 ∈ ma_wd) ∨ (¬ ma_a aux 3 = 0 ∧ ∃ host, (own, idx, C, (T (ma_a aux 1)).2.1, (T (ma_a aux 1)).2.2.1, host) ∈ ma_nf)) := by
  unfold ma_okf at ho
  split at ho
  · rename_i C T N hc
    simp only [Bool.and_eq_true, decide_eq_true_eq] at ho
    obtain ⟨⟨⟨⟨h1, h2⟩, h3⟩, h4⟩, h5⟩ := ho
    obtain ⟨fty, h6, h7⟩ := Option.map_eq_some_iff.mp h2
    refine ⟨C, T, N, fty, hc, h1, h6, h7, h3, h4, ?_⟩
    split at h5
    · rename_i h8
      exact Or.inl ⟨h8, ma_has_in h5⟩
    · rename_i h8
      split at h5
      · rename_i q hq
        obtain ⟨e1, e2, e3, e4, e5⟩ := of_decide_eq_true h5
        refine Or.inr ⟨h8, q.2.2.2.2.2, ?_⟩
        rw [← e1, ← e2, ← e3, ← e4, ← e5]
        exact List.mem_of_getElem? hq
      · cases h5
  · cases ho
theorem ma_fs_at (g : ma_G) (h : ma_H) (a ci k : Nat) {fty : FieldType} (hf : (ma_ty ci)[k]? = some fty) : ((ma_ty ci).mapIdx (fun k ty => ma_fv g h a k ty))[k]? = some (ma_fv g h a k fty) := by
  simp [hf]
theorem ma_pv_fv (g : ma_G) (h : ma_H) (a k : Nat) {fty : FieldType} {w : Nat} (hc : ma_tc fty = w) (hw : w ≤ 2) : ma_tv g (ma_pv h a k w) = ma_fv g h a k fty := by
  cases fty <;> simp [ma_tc] at hc <;> subst hc <;> first | rfl | (exfalso; omega)
theorem ma_in_wo {mi : ma_M} {C : String} {T : u_T} {N : Nat} (h : ∀ w ∈ u_ws C T N, w ∈ ma_wd) : ∀ w ∈ u_ws C T N, w ∈ ma_wo mi := fun w hw => List.mem_cons_of_mem _ (h w hw)
theorem ma_s_getfield (i : Nat) (aux : List Nat) : ma_Snd (.getfield i) aux := by
  intro l g x scr mi P Q K k ls st c sl S h p e s m args below meth cd H locs la pc hK hd hn ho hx hB hw hL
  obtain ⟨a, st', rfl, hsh, hx⟩ := ma_r1_inv hx
  obtain ⟨j, rfl, hS⟩ := ma_sh_some hsh
  obtain ⟨C, T, N, fty, hc, hk, hf, htc, hw2, hT1, hlink⟩ := ma_okf_inv ho
  obtain ⟨hk1, hk2, hk3, hk4⟩ := ma_clok hc
  have he : (ma_ws g S h)[j]? = some (g.2.2.1 + j, .inr (ma_a aux 0, (ma_ty (ma_a aux 0)).mapIdx (fun k ty => ma_fv g h (j + 2) k ty))) := by rw [ma_ws_at, hS]; rfl
  have h3 := ma_next (below := below) (e := e) hK hx (hn rfl) hB hw hL
  rw [List.map_cons, ma_pv_fv g h _ _ htc hw2] at h3
  obtain ⟨-, h5⟩ | ⟨-, host, h5⟩ := hlink
  · exact va_get (T := T) (ref := C) hB.1 hB.2.1 hB.2.2.2.2.2.2.1 (ma_in_wo hk4) hB.2.2.2.2.2.2.2.1 hB.2.2.2.2.2.2.2.2.1.1 hw.1 j he hc _ hk (ma_wB hB h5) (fun y hy => by rw [hT1] at hy; exact hy) (ma_fs_at g h _ _ _ hf) hd h3
  · exact va_getN (T := T) (ref := C) hB.1 hB.2.1 hB.2.2.2.2.2.2.1 (ma_in_wo hk4) hB.2.2.2.2.2.2.2.1 hB.2.2.2.2.2.2.2.2.1.1 hw.1 j he hc _ hk (va_Nw.use rfl (hB.2.2.2.2.2.2.2.2.1.2.1 _ h5)) (fun y hy => by rw [hT1] at hy; exact hy) (ma_fs_at g h _ _ _ hf) hd h3
theorem ma_put_other {h : ma_H} {a k a' k' : Nat} {v : Value} (hn : ¬ (a' = a ∧ k' = k)) : (ma_put h a k v).1 a' k' = h.1 a' k' ∧ (ma_put h a k v).2.1 a' k' = h.2.1 a' k' ∧ (ma_put h a k v).2.2 a' k' = h.2.2 a' k' := by
  cases v <;> simp [ma_put, ma_uI, ma_uL, ma_uR, hn]
theorem ma_fv_other {g : ma_G} {h h' : ma_H} {a k : Nat} (h1 : h'.1 a k = h.1 a k) (h2 : h'.2.1 a k = h.2.1 a k) (h3 : h'.2.2 a k = h.2.2 a k) (ty : FieldType) : ma_fv g h' a k ty = ma_fv g h a k ty := by
  cases ty <;> simp [ma_fv, h1, h2, h3]
theorem ma_fv_put {g : ma_G} {h : ma_H} {a k : Nat} {v : Value} {fty : FieldType} (hv : ma_vc v = ma_tc fty) (h2 : ma_tc fty ≤ 2) : ma_fv g (ma_put h a k v) a k fty = ma_tv g v := by
  cases fty <;> cases v <;> simp [ma_vc, ma_tc] at hv h2 <;> simp [ma_fv, ma_put, ma_uI, ma_uL, ma_uR, ma_tv]
theorem ma_ws_put (g : ma_G) (S : ma_S) (h : ma_H) (j ci k : Nat) (hS : S[j]? = some (.inl ci)) {fty : FieldType} (hf : (ma_ty ci)[k]? = some fty) {v : Value} (hv : ma_vc v = ma_tc fty) (h2 : ma_tc fty ≤ 2) :
    (ma_ws g S h).set j (g.2.2.1 + j, .inr (ci, ((ma_ty ci).mapIdx (fun k ty => ma_fv g h (j + 2) k ty)).set k (ma_tv g v))) = ma_ws g S (ma_put h (j + 2) k v) := by
  refine ma_ws_set g S h _ j hS ?_ (fun j' sh' hj _ => ?_)
  · show Sum.inr (ci, _) = _
    congr 2
    apply List.ext_getElem?
    intro i
    rw [List.getElem?_set]
    by_cases hi : k = i
    · subst hi
      have hl : k < (ma_ty ci).length := (List.getElem?_eq_some_iff.mp hf).1
      rw [if_pos rfl, if_pos (by simpa using hl)]
      simp [hf, ma_fv_put hv h2]
    · rw [if_neg hi]
      simp only [List.getElem?_mapIdx]
      cases (ma_ty ci)[i]? with
      | none => rfl
      | some ty =>
        obtain ⟨e1, e2, e3⟩ := ma_put_other (h := h) (a := j + 2) (k := k) (a' := j + 2) (k' := i) (v := v) (fun q => hi q.2.symm)
        simp [ma_fv_other e1 e2 e3]
  · refine ma_cell_other (fun i => ?_) (fun i => ?_) (fun i => ?_) sh'
    · exact (ma_put_other (fun q => hj (by omega))).1
    · exact (ma_put_other (fun q => hj (by omega))).2.1
    · exact (ma_put_other (fun q => hj (by omega))).2.2
theorem ma_tv_fits (g : ma_G) {v : Value} {fty : FieldType} (hv : ma_vc v = ma_tc fty) (h2 : ma_tc fty ≤ 2) : narrow fty (ma_tv g v) = ma_tv g v ∧ fits fty (ma_tv g v) = true := by
  cases fty <;> cases v <;> simp [ma_vc, ma_tc] at hv h2
  case int.int z => exact ⟨rfl, rfl⟩
  case long.long z => exact ⟨rfl, rfl⟩
  case object.ref C z =>
    show narrow _ (va_rf (ma_ro g z)) = va_rf (ma_ro g z) ∧ fits _ (va_rf (ma_ro g z)) = true
    cases ma_ro g z <;> exact ⟨rfl, rfl⟩
  case array.ref C z =>
    show narrow _ (va_rf (ma_ro g z)) = va_rf (ma_ro g z) ∧ fits _ (va_rf (ma_ro g z)) = true
    cases ma_ro g z <;> exact ⟨rfl, rfl⟩
theorem ma_s_putfield (i : Nat) (aux : List Nat) : ma_Snd (.putfield i) aux := by
  intro l g x scr mi P Q K k ls st c sl S h p e s m args below meth cd H locs la pc hK hd hn ho hx hB hw hL
  match st, hx with
  | v :: st1, hx =>
    obtain ⟨hvc, hx⟩ := hx
    obtain ⟨a, st', rfl, hsh, hx⟩ := ma_r1_inv hx
    obtain ⟨j, rfl, hS⟩ := ma_sh_some hsh
    simp only [ma_okx, Bool.and_eq_true] at ho
    obtain ⟨C, T, N, fty, hc, hk, hf, htc, hw2, hT1, hlink⟩ := ma_okf_inv ho.1
    obtain ⟨hk1, hk2, hk3, hk4⟩ := ma_clok hc
    have hvt : ma_vc v = ma_tc fty := by rw [htc]; exact hvc
    have ht2 : ma_tc fty ≤ 2 := by rw [htc]; exact hw2
    have hd2 : parseFieldDescriptor (T (ma_a aux 1)).2.2.1 = some fty := by rw [hk2 _ hk]; exact hf
    obtain ⟨hnar, hfit⟩ := ma_tv_fits g hvt ht2
    have he : (ma_ws g S h)[j]? = some (g.2.2.1 + j, .inr (ma_a aux 0, (ma_ty (ma_a aux 0)).mapIdx (fun k ty => ma_fv g h (j + 2) k ty))) := by rw [ma_ws_at, hS]; rfl
    have hlen : ma_a aux 1 < ((ma_ty (ma_a aux 0)).mapIdx (fun k ty => ma_fv g h (j + 2) k ty)).length := by simp [hk1]; exact hk
    have hty0 : ∀ k, k < N → parseFieldDescriptor (T k).2.2.1 = some ((ma_ty (ma_a aux 0)).getD k .int) := by
      intro k hk
      rw [hk2 k hk, List.getD_eq_getElem?_getD]
      have : k < (ma_ty (ma_a aux 0)).length := by rw [hk1]; exact hk
      rw [List.getElem?_eq_getElem this]
      rfl
    have kk : ∀ (H1 : Heap) (locs1 : List Loc), va_P g.1 ma_cl ((ma_ws g S h).set j (g.2.2.1 + j, .inr (ma_a aux 0, ((ma_ty (ma_a aux 0)).mapIdx (fun k ty => ma_fv g h (j + 2) k ty)).set (ma_a aux 1) (ma_tv g v)))) H1 → va_D (fun q => g.2.2.1 ≤ q) ((ma_ws g S h).set j (g.2.2.1 + j, .inr (ma_a aux 0, ((ma_ty (ma_a aux 0)).mapIdx (fun k ty => ma_fv g h (j + 2) k ty)).set (ma_a aux 1) (ma_tv g v)))) → va_S (fun q => g.2.2.1 ≤ q) H H1 locs1 → ma_W l g x mi Q p e s m args below meth cd H1 locs1 c sl (pc + 3) la (st'.map (ma_tv g)) := by
      intro H1 locs1 hP1 hD1 hS1
      rw [ma_ws_put g S h j _ _ hS hf hvt ht2] at hP1
      exact ma_Wsz fun hz => ma_next hK hx (hn rfl) hB (hw.step hS1 hP1 hz) hL
    obtain ⟨h6, h5⟩ | ⟨h6, host, h5⟩ := hlink
    · by_cases hfin : (T (ma_a aux 1)).2.2.2 = true
      · have ho2 := ho.2
        simp only [ma_okp, hc, hfin, if_true, Bool.and_eq_true, decide_eq_true_eq] at ho2
        exact va_putF (T := T) (ref := C) hB.1 hB.2.1 hB.2.2.2.2.2.2.1 (ma_in_wo hk4) _ hty0 hk3 hB.2.2.2.2.2.2.2.1 hB.2.2.2.2.2.2.2.2.1.1 hw.1 (ma_D g S h) hw.rfS j he hc _ hk (ma_wB hB h5) (fun y hy => by rw [hT1] at hy; exact hy) hfin (by rw [hB.2.2.2.2.2.1]; exact ho2.1.1) ho2.1.2 hd2 hnar hfit hlen hd kk
      · exact va_put (T := T) (ref := C) hB.1 hB.2.1 hB.2.2.2.2.2.2.1 (ma_in_wo hk4) _ hty0 hk3 hB.2.2.2.2.2.2.2.1 hB.2.2.2.2.2.2.2.2.1.1 hw.1 (ma_D g S h) hw.rfS j he hc _ hk (ma_wB hB h5) (fun y hy => by rw [hT1] at hy; exact hy) (by simpa using hfin) hd2 hnar hfit hlen hd kk
    · have hfin : ¬ (T (ma_a aux 1)).2.2.2 = true := by
        intro hfin
        have ho2 := ho.2
        simp only [ma_okp, hc, hfin, if_true, Bool.and_eq_true, decide_eq_true_eq] at ho2
        exact h6 ho2.2
      exact va_putN (T := T) (ref := C) hB.1 hB.2.1 hB.2.2.2.2.2.2.1 (ma_in_wo hk4) _ hty0 hk3 hB.2.2.2.2.2.2.2.1 hB.2.2.2.2.2.2.2.2.1.1 hw.1 (ma_D g S h) hw.rfS j he hc _ hk (va_Nw.use rfl (hB.2.2.2.2.2.2.2.2.1.2.1 _ h5)) (fun y hy => by rw [hT1] at hy; exact hy) (by simpa using hfin) hd2 hnar hfit hlen hd kk
end
section
/-! arrays -/
theorem ma_in_inv {S : ma_S} {a : Nat} {ty : FieldType} {i : Int32} (h : ma_in S a ty i) : ∃ j n, a = j + 2 ∧ S[j]? = some (.inr (ty, n)) ∧ vp_in i n := by
  obtain ⟨n, h1, h2⟩ := h
  obtain ⟨j, rfl, h3⟩ := ma_sh_some h1
  exact ⟨j, n, rfl, h3, h2⟩
theorem ma_ws_arr (g : ma_G) (S : ma_S) (h : ma_H) (j n : Nat) (ty : FieldType) (hS : S[j]? = some (.inr (ty, n))) : (ma_ws g S h)[j]? = some (g.2.2.1 + j, .inl (g.2.2.2 ty, n, ma_cont g h (j + 2) ty)) := by
  rw [ma_ws_at, hS]
  rfl
theorem ma_uI_other {h : ma_H} {a k a' : Nat} {v : Int32} (hn : a' ≠ a) (sh : Nat ⊕ (FieldType × Nat)) (g : ma_G) : ma_cell g (ma_uI h a k v) a' sh = ma_cell g h a' sh :=
  ma_cell_other (h := h) (h' := ma_uI h a k v) (fun i => by simp [ma_uI, hn]) (fun i => rfl) (fun i => rfl) sh
theorem ma_uL_other {h : ma_H} {a k a' : Nat} {v : Int64} (hn : a' ≠ a) (sh : Nat ⊕ (FieldType × Nat)) (g : ma_G) : ma_cell g (ma_uL h a k v) a' sh = ma_cell g h a' sh :=
  ma_cell_other (h := h) (h' := ma_uL h a k v) (fun i => rfl) (fun i => by simp [ma_uL, hn]) (fun i => rfl) sh
theorem ma_uR_other {h : ma_H} {a k a' : Nat} {v : Nat} (hn : a' ≠ a) (sh : Nat ⊕ (FieldType × Nat)) (g : ma_G) : ma_cell g (ma_uR h a k v) a' sh = ma_cell g h a' sh :=
  ma_cell_other (h := h) (h' := ma_uR h a k v) (fun i => rfl) (fun i => rfl) (fun i => by simp [ma_uR, hn]) sh
theorem ma_uI_upd (h : ma_H) (a k : Nat) (v : Int32) : (ma_uI h a k v).1 a = upd (h.1 a) k v := by
  funext j
  simp [ma_uI, upd]
theorem ma_uL_upd (h : ma_H) (a k : Nat) (v : Int64) : (ma_uL h a k v).2.1 a = vp_updL (h.2.1 a) k v := by
  funext j
  simp [ma_uL, vp_updL]
theorem ma_uR_upd (g : ma_G) (h : ma_H) (a k : Nat) (v : Nat) : (fun i => ma_ro g ((ma_uR h a k v).2.2 a i)) = va_up (fun i => ma_ro g (h.2.2 a i)) k (ma_ro g v) := by
  funext j
  simp only [ma_uR, va_up, true_and]
  split <;> rfl
theorem ma_ws_uI (g : ma_G) (S : ma_S) (h : ma_H) (j n k : Nat) (ty : FieldType) (v : Int32) (hS : S[j]? = some (.inr (ty, n))) (ht : ma_cont g h (j + 2) ty = .inl (h.1 (j + 2))) (ht' : ma_cont g (ma_uI h (j + 2) k v) (j + 2) ty = .inl ((ma_uI h (j + 2) k v).1 (j + 2))) :
    (ma_ws g S h).set j (g.2.2.1 + j, .inl (g.2.2.2 ty, n, .inl (upd (h.1 (j + 2)) k v))) = ma_ws g S (ma_uI h (j + 2) k v) := by
  refine ma_ws_set g S h _ j hS ?_ (fun j' sh' hj _ => ma_uI_other (by omega) sh' g)
  show Sum.inl (_, _, _) = _
  rw [ht', ma_uI_upd]
section
variable {l : Launch} {g : ma_G} {x : Bool} {scr : Option (Nat × (Nat → Int32))} {mi : ma_M} {P : List ma_E} {Q : ma_P} {K : ma_K}
theorem ma_s_iaload (aux : List Nat) : ma_Snd .iaload aux := by
  intro l g x scr mi P Q K k ls st c sl S h p e s m args below meth cd H locs la pc hK hd hn ho hx hB hw hL
  obtain ⟨i, st1, rfl, hx⟩ := ma_i1_inv hx
  obtain ⟨a, st2, rfl, hx⟩ := ma_r1_inv hx
  have hKK := hB.2.2.2.2.2.2.2.2.1.1
  match aux, hx with
  | [], hx =>
    obtain ⟨j, n, rfl, hS, hi⟩ := ma_in_inv hx.1
    exact va_iald hB.1 hB.2.1 hKK hw.1 j 0 (ma_ws_arr g S h j n _ hS) rfl hi hd (ma_next hK hx.2 (hn rfl) hB hw hL)
  | _ :: _, hx =>
    match scr, hx, hB, hK with
    | some (L, xs), hx, hB, hK =>
      obtain ⟨rfl, hi, hx⟩ := hx
      obtain ⟨hX, h1, h2⟩ := hB.2.2.2.2.2.2.2.2.2.2 L xs rfl
      exact va_sld hB.1 hB.2.1 hX h1 (fun q => by have : g.2.2.1 ≤ g.2.1 := q; omega) hw.2.1 hi hd (ma_next hK hx (hn rfl) hB hw hL)
theorem ma_s_baload (aux : List Nat) : ma_Snd .baload aux := by
  intro l g x scr mi P Q K k ls st c sl S h p e s m args below meth cd H locs la pc hK hd hn ho hx hB hw hL
  obtain ⟨i, st1, rfl, hx⟩ := ma_i1_inv hx
  obtain ⟨a, st2, rfl, hx⟩ := ma_r1_inv hx
  have hKK := hB.2.2.2.2.2.2.2.2.1.1
  obtain ⟨j, n, rfl, hS, hi⟩ := ma_in_inv hx.1
  by_cases ha : ma_a aux 0 = 0
  · rw [if_pos ha] at hS
    exact va_bald hB.1 hB.2.1 hKK hw.1 j 1 (ma_ws_arr g S h j n _ hS) rfl hi hd (ma_next hK hx.2 (hn rfl) hB hw hL)
  · rw [if_neg ha] at hS
    exact va_zald hB.1 hB.2.1 hKK hw.1 j 2 (ma_ws_arr g S h j n _ hS) rfl hi hd (ma_next hK hx.2 (hn rfl) hB hw hL)
theorem ma_s_laload (aux : List Nat) : ma_Snd .laload aux := by
  intro l g x scr mi P Q K k ls st c sl S h p e s m args below meth cd H locs la pc hK hd hn ho hx hB hw hL
  obtain ⟨i, st1, rfl, hx⟩ := ma_i1_inv hx
  obtain ⟨a, st2, rfl, hx⟩ := ma_r1_inv hx
  have hKK := hB.2.2.2.2.2.2.2.2.1.1
  obtain ⟨j, n, rfl, hS, hi⟩ := ma_in_inv hx.1
  exact va_lald hB.1 hB.2.1 hKK hw.1 j 3 (ma_ws_arr g S h j n _ hS) rfl hi hd (ma_next hK hx.2 (hn rfl) hB hw hL)
theorem ma_s_aaload (aux : List Nat) : ma_Snd .aaload aux := by
  intro l g x scr mi P Q K k ls st c sl S h p e s m args below meth cd H locs la pc hK hd hn ho hx hB hw hL
  obtain ⟨i, st1, rfl, hx⟩ := ma_i1_inv hx
  obtain ⟨a, st2, rfl, hx⟩ := ma_r1_inv hx
  have hKK := hB.2.2.2.2.2.2.2.2.1.1
  obtain ⟨j, n, rfl, hS, hi⟩ := ma_in_inv hx.1
  exact va_aldq hB.1 hB.2.1 hKK hw.1 j 4 (ma_ws_arr g S h j n _ hS) rfl hi hd (ma_next hK hx.2 (hn rfl) hB hw hL)
theorem ma_s_iastore (aux : List Nat) : ma_Snd .iastore aux := by
  intro l g x scr mi P Q K k ls st c sl S h p e s m args below meth cd H locs la pc hK hd hn ho hx hB hw hL
  obtain ⟨v, st0, rfl, hx⟩ := ma_i1_inv hx
  obtain ⟨i, st1, rfl, hx⟩ := ma_i1_inv hx
  obtain ⟨a, st2, rfl, hx⟩ := ma_r1_inv hx
  have hKK := hB.2.2.2.2.2.2.2.2.1.1
  obtain ⟨j, n, rfl, hS, hi⟩ := ma_in_inv hx.1
  refine va_iast hB.1 hB.2.1 hKK hw.1 (ma_D g S h) hw.rfS j 0 (ma_ws_arr g S h j n _ hS) rfl hi hd (fun H1 locs1 hP1 hD1 hS1 => ?_)
  rw [ma_ws_uI g S h j n _ _ v hS rfl rfl] at hP1
  exact ma_Wsz fun hz => ma_next hK hx.2 (hn rfl) hB (hw.step hS1 hP1 hz) hL
theorem ma_s_bastore (aux : List Nat) : ma_Snd .bastore aux := by
  intro l g x scr mi P Q K k ls st c sl S h p e s m args below meth cd H locs la pc hK hd hn ho hx hB hw hL
  obtain ⟨v, st0, rfl, hx⟩ := ma_i1_inv hx
  obtain ⟨i, st1, rfl, hx⟩ := ma_i1_inv hx
  obtain ⟨a, st2, rfl, hx⟩ := ma_r1_inv hx
  have hKK := hB.2.2.2.2.2.2.2.2.1.1
  obtain ⟨j, n, rfl, hS, hi⟩ := ma_in_inv hx.1
  have hx2 := hx.2
  by_cases ha : ma_a aux 0 = 0
  · rw [if_pos ha] at hS hx2
    refine va_bast hB.1 hB.2.1 hKK hw.1 (ma_D g S h) hw.rfS j 1 (ma_ws_arr g S h j n _ hS) rfl hi hd (fun H1 locs1 hP1 hD1 hS1 => ?_)
    rw [ma_ws_uI g S h j n _ _ _ hS rfl rfl] at hP1
    exact ma_Wsz fun hz => ma_next hK hx2 (hn rfl) hB (hw.step hS1 hP1 hz) hL
  · rw [if_neg ha] at hS hx2
    refine va_zast hB.1 hB.2.1 hKK hw.1 (ma_D g S h) hw.rfS j 2 (ma_ws_arr g S h j n _ hS) rfl hi hd (fun H1 locs1 hP1 hD1 hS1 => ?_)
    rw [ma_ws_uI g S h j n _ _ _ hS rfl rfl] at hP1
    exact ma_Wsz fun hz => ma_next hK hx2 (hn rfl) hB (hw.step hS1 hP1 hz) hL
theorem ma_s_lastore (aux : List Nat) : ma_Snd .lastore aux := by
  intro l g x scr mi P Q K k ls st c sl S h p e s m args below meth cd H locs la pc hK hd hn ho hx hB hw hL
  obtain ⟨v, st0, rfl, hx⟩ := ma_l1_inv hx
  obtain ⟨i, st1, rfl, hx⟩ := ma_i1_inv hx
  obtain ⟨a, st2, rfl, hx⟩ := ma_r1_inv hx
  have hKK := hB.2.2.2.2.2.2.2.2.1.1
  obtain ⟨j, n, rfl, hS, hi⟩ := ma_in_inv hx.1
  refine va_last hB.1 hB.2.1 hKK hw.1 (ma_D g S h) hw.rfS j 3 (ma_ws_arr g S h j n _ hS) rfl hi hd (fun H1 locs1 hP1 hD1 hS1 => ?_)
  have e1 : (ma_ws g S h).set j (g.2.2.1 + j, .inl (g.2.2.2 .long, n, .inr (.inl (vp_updL (h.2.1 (j + 2)) i.toNatClampNeg v)))) = ma_ws g S (ma_uL h (j + 2) i.toNatClampNeg v) := by
    refine ma_ws_set g S h _ j hS ?_ (fun j' sh' hj _ => ma_uL_other (by omega) sh' g)
    show Sum.inl (_, _, Sum.inr (Sum.inl ((ma_uL h (j + 2) i.toNatClampNeg v).2.1 (j + 2)))) = _
    rw [ma_uL_upd]
  rw [e1] at hP1
  exact ma_Wsz fun hz => ma_next hK hx.2 (hn rfl) hB (hw.step hS1 hP1 hz) hL
theorem ma_s_aastore (aux : List Nat) : ma_Snd .aastore aux := by
  intro l g x scr mi P Q K k ls st c sl S h p e s m args below meth cd H locs la pc hK hd hn ho hx hB hw hL
  obtain ⟨v, st0, rfl, hx⟩ := ma_r1_inv hx
  obtain ⟨i, st1, rfl, hx⟩ := ma_i1_inv hx
  obtain ⟨a, st2, rfl, hx⟩ := ma_r1_inv hx
  have hKK := hB.2.2.2.2.2.2.2.2.1.1
  obtain ⟨h1, h2, hx⟩ := hx
  obtain ⟨j, n, rfl, hS, hi⟩ := ma_in_inv h1
  obtain ⟨j2, rfl, hS2⟩ := ma_sh_some h2
  have hv : (ma_ws g S h)[j2]? = some (g.2.2.1 + j2, .inr (ma_rowi, (ma_ty ma_rowi).mapIdx (fun k ty => ma_fv g h (j2 + 2) k ty))) := by rw [ma_ws_at, hS2]; rfl
  refine va_astq hB.1 hB.2.1 hKK hw.1 (ma_D g S h) hw.rfS j 4 j2 ma_rowi (r := ma_rowc) (ma_ws_arr g S h j n _ hS) rfl hv ma_rowok hi hd (fun H1 locs1 hP1 hD1 hS1 => ?_)
  have e1 : (ma_ws g S h).set j (g.2.2.1 + j, .inl (g.2.2.2 (.object ma_row), n, .inr (.inr (.inr (.inr (va_up (fun i => ma_ro g (h.2.2 (j + 2) i)) i.toNatClampNeg (some (g.2.2.1 + j2)))))))) = ma_ws g S (ma_uR h (j + 2) i.toNatClampNeg (j2 + 2)) := by
    refine ma_ws_set g S h _ j hS ?_ (fun j' sh' hj _ => ma_uR_other (by omega) sh' g)
    show Sum.inl (_, _, Sum.inr (Sum.inr (Sum.inr (Sum.inr (fun i' => ma_ro g ((ma_uR h (j + 2) i.toNatClampNeg (j2 + 2)).2.2 (j + 2) i')))))) = _
    rw [ma_uR_upd]
    rfl
  rw [e1] at hP1
  exact ma_Wsz fun hz => ma_next hK hx (hn rfl) hB (hw.step hS1 hP1 hz) hL
theorem ma_s_arraylength (aux : List Nat) : ma_Snd .arraylength aux := by
  intro l g x scr mi P Q K k ls st c sl S h p e s m args below meth cd H locs la pc hK hd hn ho hx hB hw hL
  obtain ⟨a, st2, rfl, hx⟩ := ma_r1_inv hx
  have hKK := hB.2.2.2.2.2.2.2.2.1.1
  match aux, hx with
  | [], hx =>
    obtain ⟨n, h1, hx2⟩ := hx
    obtain ⟨j, rfl, hS⟩ := ma_sh_some h1
    exact va_alen hB.1 hB.2.1 hKK hw.1 j 0 (ma_ws_arr g S h j n _ hS) rfl rfl hd (ma_next hK hx2 (hn rfl) hB hw hL)
  | _ :: _, hx =>
    match scr, hx, hB, hK with
    | some (L, xs), hx, hB, hK =>
      obtain ⟨rfl, hx2⟩ := hx
      obtain ⟨hX, h1, h2⟩ := hB.2.2.2.2.2.2.2.2.2.2 L xs rfl
      exact va_slen hB.1 hB.2.1 hX h1 (fun q => by have : g.2.2.1 ≤ g.2.1 := q; omega) hw.2.1 hd (ma_next hK hx2 (hn rfl) hB hw hL)
/-! making -/
theorem ma_z_other {h : ma_H} {a a' : Nat} (hn : a' ≠ a) (sh : Nat ⊕ (FieldType × Nat)) (g : ma_G) : ma_cell g (ma_z h a) a' sh = ma_cell g h a' sh :=
  ma_cell_other (fun i => by simp [ma_z, hn]) (fun i => by simp [ma_z, hn]) (fun i => by simp [ma_z, hn]) sh
theorem ma_s_new (i : Nat) (aux : List Nat) : ma_Snd (.new i) aux := by
  intro l g x scr mi P Q K k ls st c sl S h p e s m args below meth cd H locs la pc hK hd hn ho hx hB hw hL
  obtain ⟨hxt, hc1, hs1, hx⟩ := hx
  have hKK := hB.2.2.2.2.2.2.2.2.1.1
  simp only [ma_okx] at ho
  split at ho
  · rename_i C T N hc
    simp only [Bool.and_eq_true, decide_eq_true_eq] at ho
    obtain ⟨⟨⟨hN, h1⟩, h2⟩, h3⟩ := ho
    rw [← hN] at hs1 hx
    have h1 := ma_has_in h1
    have h2 := ma_has_in h2
    have h3 := ma_has_in h3
    obtain ⟨hk1, hk2, hk3, hk4⟩ := ma_clok hc
    have hty0 : ∀ k, k < N → parseFieldDescriptor (T k).2.2.1 = some ((ma_ty (ma_a aux 0)).getD k .int) := by
      intro k hk
      rw [hk2 k hk, List.getD_eq_getElem?_getD]
      have : k < (ma_ty (ma_a aux 0)).length := by rw [hk1]; exact hk
      rw [List.getElem?_eq_getElem this]
      rfl
    have hfs : ∀ j, j < N → defaultValue ((ma_ty (ma_a aux 0)).getD j .int) = vp_V ((ma_ty (ma_a aux 0)).mapIdx (fun k ty => ma_fv g (ma_z h (S.length + 2)) (S.length + 2) k ty)) j := by
      intro j hj
      have hj2 : j < (ma_ty (ma_a aux 0)).length := by rw [hk1]; exact hj
      rw [vp_V, List.getD_eq_getElem?_getD, List.getD_eq_getElem?_getD, List.getElem?_mapIdx, List.getElem?_eq_getElem hj2]
      have hplain := ma_plain (ma_a aux 0) j hj2
      simp only [Option.getD_some, Option.map_some]
      revert hplain
      generalize (ma_ty (ma_a aux 0))[j] = ty
      intro hplain
      cases ty <;> simp [ma_tc] at hplain <;> simp [ma_fv, ma_z, defaultValue, ma_ro, va_rf]
    refine va_new (c0 := cd) (own := mi.1.cls) hB.1 hB.2.1 hB.2.2.2.2.2.2.1 (ma_in_wo hk4) _ hty0 hB.2.2.2.2.2.2.2.1 (ma_wB hB h1) (ma_wB hB h2) (ma_wB hB h3) hKK hw.1 (ma_D g S h) hw.rfS (fun q hq => Nat.le_trans (Nat.le_trans hB.2.2.2.2.2.2.2.2.2.1 hw.2.1.1) hq) hc hfs hc1 hs1 hd (fun q H1 hP1 hD1 hS1 => ?_)
    refine ma_Wsz fun hz => ?_
    obtain ⟨rfl, hw1⟩ := hw.new (h' := ma_z h (S.length + 2)) (sh := .inl (ma_a aux 0)) hxt hS1 hP1 hD1 hz rfl (fun j sh' hj => ma_z_other (by have := (List.getElem?_eq_some_iff.mp hj).1; omega) sh' g)
    exact ma_next hK hx (hn rfl) hB hw1 hL
  · cases ho
theorem ma_s_newarray (aty : ArrayType) (aux : List Nat) : ma_Snd (.newarray aty) aux := by
  intro l g x scr mi P Q K k ls st c sl S h p e s m args below meth cd H locs la pc hK hd hn ho hx hB hw hL
  obtain ⟨n, st', rfl, hxt, N, rfl, hN, hc1, hs1, hx⟩ := ma_i1_inv hx
  have hKK := hB.2.2.2.2.2.2.2.2.1.1
  simp only [ma_okx, Bool.and_eq_true, decide_eq_true_eq] at ho
  obtain ⟨hat, h1⟩ := ho
  have h1 := ma_has_in h1
  have hfin : ∀ (a0 : vp_A) (ty : FieldType), newarray.typeOf aty = ty → (∀ cA : ClassId, vp_cell cA a0 = arrV cA N (fun _ => defaultValue ty)) → componentBytes ty ≤ 8 → a0 = (N, ma_cont g (ma_z h (S.length + 2)) (S.length + 2) ty) → (∃ t0 : Nat, (ma_tl g)[t0]? = some (g.2.2.2 ty, ty)) → ty ≠ .object ma_row → ma_W l g x mi Q p e s m args below meth cd H locs c sl pc la ((Value.int (nI N) :: st').map (ma_tv g)) := by
    intro a0 ty hty ha hbytes hcont htl hno
    obtain ⟨t0, ht0⟩ := htl
    subst hty
    refine va_newa hB.1 hB.2.1 (ma_wB hB h1) rfl hKK hw.1 (ma_D g S h) hw.rfS (fun q hq => Nat.le_trans (Nat.le_trans hB.2.2.2.2.2.2.2.2.2.1 hw.2.1.1) hq) ha (nI_pos (by omega)) (nI_clamp (by omega)) (Nat.le_trans (Nat.mul_le_mul hN hbytes) (by decide)) hc1 hs1 hd (fun q cA H1 hK1 hP1 hD1 hS1 => ?_)
    have hcA : cA = g.2.2.2 (newarray.typeOf aty) := by
      have e1 := (hK1.2 5 (cA, newarray.typeOf aty) (by simp [ma_tl])).2
      have e2 := (hK1.2 t0 (g.2.2.2 (newarray.typeOf aty), newarray.typeOf aty) (by rw [List.getElem?_append_left (List.getElem?_eq_some_iff.mp ht0).1]; exact ht0)).2
      revert e1 e2
      cases aty <;> exact fun e1 e2 => Option.some.inj (e1.symm.trans e2)
    subst hcA
    refine ma_Wsz fun hz => ?_
    obtain ⟨rfl, hw1⟩ := hw.new (h' := ma_z h (S.length + 2)) (sh := .inr (newarray.typeOf aty, N)) hxt hS1 hP1 hD1 hz (by rw [hcont]; rfl) (fun j sh' hj => ma_z_other (by have := (List.getElem?_eq_some_iff.mp hj).1; omega) sh' g)
    exact ma_next hK hx (hn rfl) hB hw1 hL
  rcases hat with rfl | rfl | rfl | rfl
  · exact hfin (N, .inl (fun _ => 0)) .int rfl (fun cA => rfl) (by decide) (by simp [ma_cont, ma_z]) ⟨0, rfl⟩ (by simp)
  · exact hfin (N, .inl (fun _ => 0)) .byte rfl (fun cA => rfl) (by decide) (by simp [ma_cont, ma_z]) ⟨1, rfl⟩ (by simp)
  · exact hfin (N, .inl (fun _ => 0)) .boolean rfl (fun cA => rfl) (by decide) (by simp [ma_cont, ma_z]) ⟨2, rfl⟩ (by simp)
  · exact hfin (N, .inr (.inl (fun _ => 0))) .long rfl (fun cA => rfl) (by decide) (by simp [ma_cont, ma_z]) ⟨3, rfl⟩ (by simp)
theorem ma_s_anewarray (i : Nat) (aux : List Nat) : ma_Snd (.anewarray i) aux := by
  intro l g x scr mi P Q K k ls st c sl S h p e s m args below meth cd H locs la pc hK hd hn ho hx hB hw hL
  obtain ⟨n, st', rfl, hxt, N, rfl, hN, hc1, hs1, hx⟩ := ma_i1_inv hx
  have hKK := hB.2.2.2.2.2.2.2.2.1.1
  refine va_newq hB.1 hB.2.1 (own := mi.1.cls) (C := ma_row) hB.2.2.2.2.2.2.2.1 (ma_wB hB (ma_has_in ho)) hB.2.2.2.2.2.2.2.2.1.2.2.2 hKK hw.1 (ma_D g S h) hw.rfS (fun q hq => Nat.le_trans (Nat.le_trans hB.2.2.2.2.2.2.2.2.2.1 hw.2.1.1) hq) (nI_pos (by omega)) (nI_clamp (by omega)) (by omega) hc1 hs1 hd (fun q cA H1 hK1 hP1 hD1 hS1 => ?_)
  have hcA : cA = g.2.2.2 (.object ma_row) := by
    obtain ⟨_, _, _, _, _, e1⟩ := (hK1.2 5 (cA, .object ma_row) (by simp [ma_tl])).2
    obtain ⟨_, _, _, _, _, e2⟩ := (hK1.2 4 (g.2.2.2 (.object ma_row), .object ma_row) (by simp [ma_tl])).2
    exact Option.some.inj (e1.symm.trans e2)
  subst hcA
  refine ma_Wsz fun hz => ?_
  obtain ⟨rfl, hw1⟩ := hw.new (h' := ma_z h (S.length + 2)) (sh := .inr (.object ma_row, N)) hxt hS1 hP1 hD1 hz (by show Sum.inl (_, _, _) = Sum.inl (_, _, _); simp [ma_cont, ma_z, ma_ro]) (fun j sh' hj => ma_z_other (by have := (List.getElem?_eq_some_iff.mp hj).1; omega) sh' g)
  exact ma_next hK hx (hn rfl) hB hw1 hL
end
end
section
/-! returns, calls, and the whole -/
theorem ma_s_return (aux : List Nat) : ma_Snd .return_ aux := by
  intro l g x scr mi P Q K k ls st c sl S h p e s m args below meth cd H locs la pc hK hd hn ho hx hB hw hL
  match st, hx with
  | [], hx =>
    obtain ⟨h1, h2, h3, hq⟩ := hx
    have hlocks := hB.2.2.2.2.1
    refine W.widen h1 h2 ?_
    exact W.vret hB.1 hB.2.1 (hB.2.2.2.1.trans (of_decide_eq_true ho)) (fun t ht hW => ⟨⟨none, S, h, rfl, hq, by rw [ht]; exact ⟨hw.1, fun q => (hw.2.2 q).1⟩⟩, hw.2.1.F ht, fun q => by rw [ht, (hw.2.2 q).2, h3 q]⟩) hw.2.1.2.2 hd
theorem ma_s_ireturn (aux : List Nat) : ma_Snd .ireturn aux := by
  intro l g x scr mi P Q K k ls st c sl S h p e s m args below meth cd H locs la pc hK hd hn ho hx hB hw hL
  match st, hx with
  | [.int v], hx =>
    obtain ⟨h0, h1, h2, h3, hq⟩ := hx
    have hlocks := hB.2.2.2.2.1
    have hQ : ∀ t : State, t.heap = H → s.WarmedH t.vm → ma_Qc g x mi.2.2.2.2.2.1 Q args s (.returned (some (.int v))) t := fun t ht hW => ⟨⟨some (.int v), S, h, rfl, hq, by rw [ht]; exact ⟨hw.1, fun q => (hw.2.2 q).1⟩⟩, hw.2.1.F ht, fun q => by rw [ht, (hw.2.2 q).2, h3 q]⟩
    refine W.widen h1 h2 ?_
    simp only [ma_okx] at ho
    by_cases ha : ma_a aux 0 = 1
    · rw [if_pos ha] at ho
      refine W.zret hB.1 hB.2.1 (hB.2.2.2.1.trans (of_decide_eq_true ho)) ?_ hQ hw.2.1.2.2 hd
      rcases h0 ha with rfl | rfl <;> rfl
    · rw [if_neg ha] at ho
      exact W.iret hB.1 hB.2.1 (hB.2.2.2.1.trans (of_decide_eq_true ho)) hQ hw.2.1.2.2 hd
theorem ma_s_areturn (aux : List Nat) : ma_Snd .areturn aux := by
  intro l g x scr mi P Q K k ls st c sl S h p e s m args below meth cd H locs la pc hK hd hn ho hx hB hw hL
  match st, hx with
  | [.ref v], hx =>
    obtain ⟨h1, h2, h3, hq⟩ := hx
    have hlocks := hB.2.2.2.2.1
    refine W.widen h1 h2 ?_
    simp only [ma_okx] at ho
    obtain ⟨rt, hr, hrt⟩ : ∃ rt, mi.2.2.2.1 = some rt ∧ ((∃ n, rt = .object n) ∨ ∃ t, rt = .array t) := by
      split at ho
      · rename_i n hn
        exact ⟨_, hn, Or.inl ⟨n, rfl⟩⟩
      · rename_i n hn
        exact ⟨_, hn, Or.inr ⟨n, rfl⟩⟩
      · cases ho
    refine W.aret (v := ma_tv g (.ref v)) hB.1 hB.2.1 (hB.2.2.2.1.trans hr) hrt ?_ (fun t ht hW => ⟨⟨some (.ref v), S, h, rfl, hq, by rw [ht]; exact ⟨hw.1, fun q => (hw.2.2 q).1⟩⟩, hw.2.1.F ht, fun q => by rw [ht, (hw.2.2 q).2, h3 q]⟩) hw.2.1.2.2 hd
    show va_rf (ma_ro g v) = .null ∨ ∃ a, va_rf (ma_ro g v) = .ref a
    cases ma_ro g v with
    | none => exact Or.inl rfl
    | some a => exact Or.inr ⟨a, rfl⟩
theorem ma_sw_inv {v : Int32} {F : Nat → Prop} : ∀ {ts : List Nat} {i j : Nat} {t : Nat}, ma_sw v F i ts → ts[j]? = some t → v = nI (i + j) → F t
  | [], _, _, _, _, h, _ => by simp at h
  | t0 :: ts, i, 0, t, hs, h, hv => by
    simp at h
    subst h
    exact hs.1 hv
  | t0 :: ts, i, j + 1, t, hs, h, hv => ma_sw_inv (ts := ts) (i := i + 1) (j := j) hs.2 (by simpa using h) (by rw [hv, show i + (j + 1) = i + 1 + j by omega])
theorem ma_s_tableswitch {l : Launch} {g : ma_G} {x : Bool} {scr : Option (Nat × (Nat → Int32))} {mi : ma_M} {P : List ma_E} {Q : ma_P} {K : ma_K} {k : Nat} {ls : List (Option Value)} {st : List Value} {c sl : Nat} {S : ma_S} {h : ma_H} {p : Program} {e : Env} {s : State} {m : MethodId} {args : Array Value} {below : List Frame} {meth : Method} {cd : Code} {H : Heap} {locs : List Loc} {la : Array Slot} {pc len : Nat} {d lo hi : Int} {offs : Array Int} {aux : List Nat}
    (hK : ∀ k ls st c sl S h, K k ls st c sl S h → ma_J l g x scr mi P Q k ls st c sl S h) (hd : decode mi.2.1 pc = .ok (.tableswitch d lo hi offs, len)) (ho : ma_okx mi P k pc (.tableswitch d lo hi offs) aux = true)
    (hx : ma_x x scr mi.2.2.2.2.2.1 mi.2.2.2.2.2.2 (ma_or l g x) (.tableswitch d lo hi offs) aux k ls st c sl S h K Q) (hB : ma_B g scr mi p s m args meth cd) (hw : ma_wH g x S h s H locs c) (hL : ma_L g mi.2.2.1 la ls) : ma_W l g x mi Q p e s m args below meth cd H locs c sl pc la (st.map (ma_tv g)) := by
  obtain ⟨z, st', rfl, hx1, hx2⟩ := ma_i1_inv hx
  simp only [ma_okx, Bool.and_eq_true, decide_eq_true_eq] at ho
  obtain ⟨⟨⟨⟨⟨rfl, h2⟩, h3⟩, h4⟩, h5⟩, h6⟩ := ho
  by_cases hin : vp_in z aux.tail.length
  · obtain ⟨j, hj, rfl⟩ := vp_in_of hin (by omega)
    have hT : (nI j).toInt = (j : Int) := nI_toInt (by omega)
    obtain ⟨q, hq1, hq2⟩ := ma_tgt_inv (List.all_eq_true.mp h6 j (List.mem_range.mpr hj))
    have e1 : aux.tail[j]? = some (aux.tail.getD j 0) := by rw [List.getD_eq_getElem?_getD, List.getElem?_eq_getElem hj]; rfl
    have e2 : offs[j]? = some (offs.getD j 0) := by
      have hj2 : j < offs.size := by rw [h5]; exact hj
      simp [hj2]
    refine lv_tableIn hB.1 hB.2.1 hd (by rw [hT]; omega) (by rw [hT]; omega) (off := offs.getD j 0) ?_ hq2 (ma_next hK (ma_sw_inv hx1 e1 (by rw [Nat.zero_add])) hq1 hB hw hL)
    rw [hT, show ((j : Int) - 0).toNat = j by omega]
    exact e2
  · obtain ⟨q, hq1, hq2⟩ := ma_tgt_inv h4
    refine lv_tableOut hB.1 hB.2.1 hd ?_ hq2 (ma_next hK (hx2 hin) hq1 hB hw hL)
    rw [vp_in_iff] at hin
    omega
theorem ma_pop_inv : ∀ {n : Nat} {st acc av rest : List Value}, ma_pop n st acc = some (av, rest) → ∃ as, av = as ++ acc ∧ st = as.reverse ++ rest ∧ as.length = n
  | 0, st, acc, av, rest, h => by
    simp [ma_pop] at h
    exact ⟨[], by simp [h.1], by simp [h.2], rfl⟩
  | n + 1, v :: st, acc, av, rest, h => by
    rw [ma_pop] at h
    obtain ⟨as, h1, h2, h3⟩ := ma_pop_inv h
    exact ⟨as ++ [v], by simp [h1], by simp [h2], by simp [h3]⟩
  | n + 1, [], acc, av, rest, h => by simp [ma_pop] at h
theorem ma_cat_eq (g : ma_G) : ∀ st : List Value, ((st.map (ma_tv g)).map fun v => v.category).sum = ma_cat st
  | [] => rfl
  | v :: st => by simp [ma_cat, ma_tv_cat, ← ma_cat_eq g st]
theorem ma_good {mi mj : ma_M} (h : Cond.code mj.1 mj.2.1 mj.2.2.1 mj.2.2.2.1 ∈ ma_wd) : GoodIn (ma_wo mi) (ma_wo mj) := by
  intro w hw
  have hw' : w ∈ ma_wd := by
    rcases List.mem_cons.mp hw with rfl | h2
    · exact h
    · exact h2
  exact ⟨List.mem_cons_of_mem _ hw', good_of_word (List.all_eq_true.mp ma_wdok w hw')⟩
/-- a call has run -/
theorem ma_ran {l : Launch} {g : ma_G} {x : Bool} {scr : Option (Nat × (Nat → Int32))} {mi mj : ma_M} {P : List ma_E} {Q post : ma_P} {K : ma_K} {k : Nat} {ls : List (Option Value)} {st rest : List Value} {c sl : Nat} {S : ma_S} {h : ma_H} {p : Program} {e : Env} {s : State} {m : MethodId} {args av : Array Value} {below : List Frame} {meth : Method} {cd : Code} {H : Heap} {locs : List Loc} {la : Array Slot} {pc : Nat}
    (hK : ∀ k ls st c sl S h, K k ls st c sl S h → ma_J l g x scr mi P Q k ls st c sl S h) (hn : ma_pcAt P (k + 1) = some (pc + 3)) (hB : ma_B g scr mi p s m args meth cd) (hw : ma_wH g x S h s H locs c) (hL : ma_L g mi.2.2.1 la ls)
    (hr : va_Run p l e (ma_rm mi) s m args below meth cd H locs c sl mj.2.2.2.2.2.1 mj.2.2.2.2.2.2 (F0 m pc la st) (rest.map (ma_tv g)) (ma_Qc g x mj.2.2.2.2.2.1 post av) (fun q => g.2.2.1 ≤ q))
    (hx : ∀ v S' h', post v S' h' → K (k + 1) ls (v.toList ++ rest) (c + mj.2.2.2.2.2.1) (sl + mj.2.2.2.2.2.2) S' h') : ma_W l g x mi Q p e s m args below meth cd H locs c sl pc la st := by
  intro T hT X
  obtain ⟨v, st₀, t, T', L, h0, X', hLf, e1, e2, ⟨⟨v', S', h', hv, hp, hat⟩, ⟨hz, hk⟩, hzz⟩, go⟩ := hr T hT X
  have hv' : v = v'.map (ma_tv g) := by cases hv; rfl
  subst hv'
  rw [h0] at hz hk hzz
  have hw' : ma_wH g x S' h' s T'.heap (locs ++ L) (c + mj.2.2.2.2.2.1) := by
    refine ⟨by rw [e1]; exact hat.1, ⟨Nat.le_trans hw.2.1.1 (by rw [e1]; exact hz), fun q g1 g2 => ?_, fun q hq => ?_⟩, fun hxt => ⟨by rw [e1]; exact hat.2 hxt, by rw [e1, hzz hxt, (hw.2.2 hxt).2]; omega⟩⟩
    · rw [e1, hk q (Nat.lt_of_lt_of_le g1 hw.2.1.1) g2]
      exact hw.2.1.2.1 q g1 g2
    · rcases List.mem_append.mp hq with h | h
      · exact hw.2.1.2.2 q h
      · exact hLf q h
  obtain ⟨t2, a1, b1⟩ := ma_next (below := below) (e := e) hK (hx v' S' h' hp) hn hB hw' hL T' rfl X'
  refine ⟨t2, go t2 ?_, b1⟩
  have e3 : (v'.toList ++ rest).map (ma_tv g) = (v'.map (ma_tv g)).toList ++ rest.map (ma_tv g) := by
    cases v' <;> simp
  rw [← e3]
  exact a1
theorem ma_okm_inv {mi : ma_M} {t n wi : Nat} (ho : ma_okm mi t n wi = true) : ∃ mj, ma_mt[t]? = some mj ∧ (mj.1.cls ≠ "java/lang/invoke/MethodHandle" ∧ mj.1.cls ≠ "java/lang/invoke/VarHandle" ∧ (parseMethodDescriptor mj.1.desc).map (fun d => d.parameters.length) = some n) ∧ ((ma_rm mj).frames + 1 ≤ (ma_rm mi).frames ∧ 8 + (mj.2.2.1 + 11) + (ma_rm mj).locals ≤ (ma_rm mi).locals) ∧ Cond.code mj.1 mj.2.1 mj.2.2.1 mj.2.2.2.1 ∈ ma_wd ∧ Cond.initialized mj.1.cls ∈ ma_wd := by
  unfold ma_okm at ho
  split at ho
  · rename_i mj hm
    simp only [Bool.and_eq_true, decide_eq_true_eq] at ho
    obtain ⟨⟨⟨⟨⟨h1, h2⟩, h3⟩, h4⟩, h5⟩, h7⟩ := ho
    exact ⟨mj, hm, ⟨h2, h3, h1⟩, ⟨h4, h5⟩, ma_mtok mj (List.mem_of_getElem? hm), ma_has_in h7⟩
  · cases ho
theorem ma_okl_inv {own : String} {idx : Nat} {y : MethodName} {nest w : Nat} {g : ma_G} {scr : Option (Nat × (Nat → Int32))} {mi : ma_M} {p : Program} {s : State} {m : MethodId} {args : Array Value} {meth : Method} {cd : Code} (ho : ma_okl own idx y nest w = true) (hB : ma_B g scr mi p s m args meth cd) : (Cond.methodLink own idx y).before args s = true ∨ ∃ host, va_Nw (.methodLinkNest own idx y host) s := by
  unfold ma_okl at ho
  split at ho
  · exact Or.inl (ma_wB hB (ma_has_in ho))
  · split at ho
    · rename_i q hq
      obtain ⟨e1, e2, e3⟩ := of_decide_eq_true ho
      refine Or.inr ⟨q.2.2.2, ?_⟩
      rw [← e1, ← e2, ← e3]
      exact hB.2.2.2.2.2.2.2.2.1.2.2.1 q (List.mem_of_getElem? hq)
    · cases ho
theorem ma_pre {g : ma_G} {x : Bool} {S : ma_S} {h : ma_H} {s : State} {H : Heap} {locs : List Loc} {c : Nat} (hw : ma_wH g x S h s H locs c) (hb : g.2.2.1 ≤ s.heap.size) (hk : ma_KK g s) (av : List Value) : PreS s H (ma_Pc g x av S h) (av.map (ma_tv g)) :=
  ⟨ma_blind g x av S h, fun U hU hW => ⟨rfl, ⟨by rw [hU]; exact hw.1, fun q => by rw [hU]; exact (hw.2.2 q).1⟩, by rw [hU]; exact Nat.le_trans hb hw.2.1.1, hk.moved hW⟩⟩
theorem ma_s_invokevirtual (i : Nat) (aux : List Nat) : ma_Snd (.invokevirtual i) aux := by
  intro l g x scr mi P Q K k ls st c sl S h p e s m args below meth cd H locs la pc hK hd hn ho hx hB hw hL
  simp only [ma_okx, Bool.and_eq_true] at ho
  obtain ⟨mj, hm, hdd, hR, hcode, hini⟩ := ma_okm_inv ho.1
  simp only [ma_x] at hx
  split at hx
  · rename_i av a rest hpop
    obtain ⟨hsh, hcat, mc', ms', post, ⟨mj', hm', rfl, rfl, hM⟩, hc1, hs1, hx⟩ := hx
    cases hm.symm.trans hm'
    obtain ⟨as, h1, h2, h3⟩ := ma_pop_inv hpop
    rw [List.append_nil] at h1
    subst h1
    subst h2
    obtain ⟨j, rfl, hS⟩ := ma_sh_some hsh
    have ho2 := ho.2
    simp only [ma_okv, hm] at ho2
    split at ho2
    · rename_i mj2 C T N hmj hc
      cases hmj
      simp only [Bool.and_eq_true, decide_eq_true_eq] at ho2
      obtain ⟨⟨⟨hC, hlink⟩, hi1⟩, hi2⟩ := ho2
      subst hC
      have he : (ma_ws g S h)[j]? = some (g.2.2.1 + j, .inr (ma_a aux 2, (ma_ty (ma_a aux 2)).mapIdx (fun k ty => ma_fv g h (j + 2) k ty))) := by rw [ma_ws_at, hS]; rfl
      have hrecv := va_recv hB.2.2.2.2.2.2.2.2.1.1 hw.1 hc he
      have hpre := ma_pre hw hB.2.2.2.2.2.2.2.2.2.1 hB.2.2.2.2.2.2.2.2.1 (.ref (j + 2) :: av)
      have hi1 := ma_wB hB (ma_has_in hi1)
      have hi2 := ma_wB hB (ma_has_in hi2)
      have hini2 := ma_wB hB hini
      have hstk : (F0 m pc la ((av.reverse ++ Value.ref (j + 2) :: rest).map (ma_tv g))).stack = (av.map (ma_tv g)).reverse ++ Value.ref (g.2.2.1 + j) :: rest.map (ma_tv g) := by
        show (av.reverse ++ Value.ref (j + 2) :: rest).map (ma_tv g) = _
        simp [ma_tv, ma_ro, va_rf]
      have hlen : (av.map (ma_tv g)).length = ma_a aux 1 := by simp [h3]
      have hcat2 : 2 * (F0 m pc la ((av.reverse ++ Value.ref (j + 2) :: rest).map (ma_tv g))).monitorRoom + ((rest.map (ma_tv g)).map fun v => v.category).sum ≤ 8 := by
        rw [ma_cat_eq]
        exact Nat.le_trans (Nat.le_of_eq (by show 2 * 0 + _ = _; omega)) hcat
      rcases ma_okl_inv hlink hB with hl1 | ⟨host, hl1⟩
      · exact ma_ran hK (hn rfl) hB hw hL (va_runV (As := av.map (ma_tv g)) ⟨hB.1, hB.2.1, hB.2.2.1, hB.2.2.2.2.2.2.2.1, hB.2.2.2.2.2.2.1⟩ hM ⟨callB_of (bytes := mj.2.1) (maxL := mj.2.2.1) (ret := mj.2.2.2.1) (ma_a aux 1) hB.2.2.2.2.2.2.1 (ma_good hcode) rfl rfl rfl hini2 hl1 hdd hR, hi1, hi2⟩ ⟨hpre.1, hrecv, hpre.2⟩ rfl hlen hL.1 hstk hcat2 hd ⟨hc1, hs1⟩) hx
      · exact ma_ran hK (hn rfl) hB hw hL (va_runVN (As := av.map (ma_tv g)) ⟨hB.1, hB.2.1, hB.2.2.1, hB.2.2.2.2.2.2.2.1, hB.2.2.2.2.2.2.1⟩ hM ⟨va_cnB (bytes := mj.2.1) (maxL := mj.2.2.1) (ret := mj.2.2.2.1) (ma_a aux 1) hB.2.2.2.2.2.2.1 (ma_good hcode) rfl rfl rfl hl1 hini2 hdd hR, hi1, hi2⟩ ⟨hpre.1, hrecv, hpre.2⟩ rfl hlen hL.1 hstk hcat2 hd ⟨hc1, hs1⟩) hx
    · cases ho2
  · exact hx.elim
theorem ma_s_invokestatic (i : Nat) (aux : List Nat) (ha : ¬ ma_a aux 0 = 0) : ma_Snd (.invokestatic i) aux := by
  intro l g x scr mi P Q K k ls st c sl S h p e s m args below meth cd H locs la pc hK hd hn ho hx hB hw hL
  simp only [ma_okx, if_neg ha, Bool.and_eq_true] at ho
  obtain ⟨mj, hm, hdd, hR, hcode, hini⟩ := ma_okm_inv ho.1
  simp only [ma_x, if_neg ha] at hx
  split at hx
  · rename_i av rest hpop
    obtain ⟨hcat, mc', ms', post, ⟨mj', hm', rfl, rfl, hM⟩, hc1, hs1, hx⟩ := hx
    cases hm.symm.trans hm'
    obtain ⟨as, h1, h2, h3⟩ := ma_pop_inv hpop
    rw [List.append_nil] at h1
    subst h1
    subst h2
    have ho2 := ho.2
    simp only [ma_oks, hm, Bool.and_eq_true] at ho2
    have hpre := ma_pre hw hB.2.2.2.2.2.2.2.2.2.1 hB.2.2.2.2.2.2.2.2.1 av
    have hi1 := ma_wB hB (ma_has_in ho2.2)
    have hini2 := ma_wB hB hini
    have hstk : (F0 m pc la ((av.reverse ++ rest).map (ma_tv g))).stack = (av.map (ma_tv g)).reverse ++ rest.map (ma_tv g) := by
      show (av.reverse ++ rest).map (ma_tv g) = _
      simp
    have hlen : (av.map (ma_tv g)).length = ma_a aux 1 := by simp [h3]
    have hcat2 : 2 * (F0 m pc la ((av.reverse ++ rest).map (ma_tv g))).monitorRoom + ((rest.map (ma_tv g)).map fun v => v.category).sum ≤ 8 := by
      rw [ma_cat_eq]
      exact Nat.le_trans (Nat.le_of_eq (by show 2 * 0 + _ = _; omega)) hcat
    rcases ma_okl_inv ho2.1 hB with hl1 | ⟨host, hl1⟩
    · exact ma_ran hK (hn rfl) hB hw hL (va_runS (As := av.map (ma_tv g)) ⟨hB.1, hB.2.1, hB.2.2.1, hB.2.2.2.2.2.2.2.1, hB.2.2.2.2.2.2.1⟩ hM ⟨callB_of (bytes := mj.2.1) (maxL := mj.2.2.1) (ret := mj.2.2.2.1) (ma_a aux 1) hB.2.2.2.2.2.2.1 (ma_good hcode) rfl rfl rfl hini2 hl1 hdd hR, hi1⟩ hpre rfl hlen hL.1 hstk hcat2 hd ⟨hc1, hs1⟩) hx
    · exact ma_ran hK (hn rfl) hB hw hL (va_runSN (As := av.map (ma_tv g)) ⟨hB.1, hB.2.1, hB.2.2.1, hB.2.2.2.2.2.2.2.1, hB.2.2.2.2.2.2.1⟩ hM ⟨va_cnB (bytes := mj.2.1) (maxL := mj.2.2.1) (ret := mj.2.2.2.1) (ma_a aux 1) hB.2.2.2.2.2.2.1 (ma_good hcode) rfl rfl rfl hl1 hini2 hdd hR, hi1, trivial⟩ hpre rfl hlen hL.1 hstk hcat2 hd ⟨hc1, hs1⟩) hx
  · exact hx.elim
theorem ma_s_invokespecial (i : Nat) (aux : List Nat) (ha : ¬ ma_a aux 0 = 0) : ma_Snd (.invokespecial i) aux := by
  intro l g x scr mi P Q K k ls st c sl S h p e s m args below meth cd H locs la pc hK hd hn ho hx hB hw hL
  simp only [ma_okx, if_neg ha, Bool.and_eq_true] at ho
  obtain ⟨ho1, ho2⟩ := ho
  obtain ⟨mj, hm, hdd, hR, hcode, hini⟩ := ma_okm_inv ho1
  simp only [ma_x, if_neg ha] at hx
  split at hx
  · rename_i av a rest hpop
    obtain ⟨⟨ci, hsh⟩, hcat, mc', ms', post, ⟨mj', hm', rfl, rfl, hM⟩, hc1, hs1, hx⟩ := hx
    cases hm.symm.trans hm'
    obtain ⟨as, h1, h2, h3⟩ := ma_pop_inv hpop
    rw [List.append_nil] at h1
    subst h1
    subst h2
    obtain ⟨j, rfl, hS⟩ := ma_sh_some hsh
    simp only [ma_oki, hm, Bool.and_eq_true, decide_eq_true_eq] at ho2
    obtain ⟨⟨ho3, ho2⟩, hi1⟩ := ho2
    have hpre := ma_pre hw hB.2.2.2.2.2.2.2.2.2.1 hB.2.2.2.2.2.2.2.2.1 (.ref (j + 2) :: av)
    have hi1 := ma_wB hB (ma_has_in hi1)
    have hini2 := ma_wB hB hini
    have hstk : (F0 m pc la ((av.reverse ++ Value.ref (j + 2) :: rest).map (ma_tv g))).stack = (av.map (ma_tv g)).reverse ++ Value.ref (g.2.2.1 + j) :: rest.map (ma_tv g) := by
      show (av.reverse ++ Value.ref (j + 2) :: rest).map (ma_tv g) = _
      simp [ma_tv, ma_ro, va_rf]
    have hlen : (av.map (ma_tv g)).length = ma_a aux 1 := by simp [h3]
    have hcat2 : 2 * (F0 m pc la ((av.reverse ++ Value.ref (j + 2) :: rest).map (ma_tv g))).monitorRoom + ((rest.map (ma_tv g)).map fun v => v.category).sum ≤ 8 := by
      rw [ma_cat_eq]
      exact Nat.le_trans (Nat.le_of_eq (by show 2 * 0 + _ = _; omega)) hcat
    have hwo : ma_wo mj = Cond.code mj.1 mj.2.1 mj.2.2.1 none :: ma_wd := by rw [← ho3.2]; rfl
    rcases ma_okl_inv ho2 hB with hl1 | ⟨host, hl1⟩
    · exact ma_ran hK (hn rfl) hB hw hL (va_runI (As := av.map (ma_tv g)) ⟨hB.1, hB.2.1, hB.2.2.1, hB.2.2.2.2.2.2.2.1, hB.2.2.2.2.2.2.1⟩ hM ⟨callB_of (bytes := mj.2.1) (maxL := mj.2.2.1) (ret := none) (ma_a aux 1) hB.2.2.2.2.2.2.1 (ma_good hcode) hwo rfl rfl hini2 hl1 hdd hR, ho3.1, hi1⟩ hpre rfl hlen hL.1 hstk hcat2 hd ⟨hc1, hs1⟩) hx
    · exact ma_ran hK (hn rfl) hB hw hL (va_runIN (As := av.map (ma_tv g)) ⟨hB.1, hB.2.1, hB.2.2.1, hB.2.2.2.2.2.2.2.1, hB.2.2.2.2.2.2.1⟩ hM ⟨va_cnB (bytes := mj.2.1) (maxL := mj.2.2.1) (ret := none) (ma_a aux 1) hB.2.2.2.2.2.2.1 (ma_good hcode) hwo rfl rfl hl1 hini2 hdd hR, ho3.1, hi1⟩ hpre rfl hlen hL.1 hstk hcat2 hd ⟨hc1, hs1⟩) hx
  · exact hx.elim
theorem ma_s_objinit (i : Nat) (aux : List Nat) (ha : ma_a aux 0 = 0) : ma_Snd (.invokespecial i) aux := by
  intro l g x scr mi P Q K k ls st c sl S h p e s m args below meth cd H locs la pc hK hd hn ho hx hB hw hL
  simp only [ma_okx, if_pos ha, Bool.and_eq_true, decide_eq_true_eq] at ho
  obtain ⟨⟨⟨h1, h2⟩, h3⟩, h4⟩ := ho
  have h1 := ma_has_in h1
  have h2 := ma_has_in h2
  have h3 := ma_has_in h3
  simp only [ma_x, if_pos ha] at hx
  obtain ⟨a, st', rfl, ⟨ci, hsh⟩, hcat, hx2⟩ := ma_r1_inv hx
  obtain ⟨j, rfl, hS⟩ := ma_sh_some hsh
  refine W.objInit hB.1 hB.2.1 hB.2.2.2.2.2.2.2.1 (ma_wB hB h1) (ma_wB hB h2) (ma_wB hB h3) rfl (by rw [hB.2.2.1]; exact hL.1) (a := g.2.2.1 + j) (rest := st'.map (ma_tv g)) rfl hd h4 ?_ (ma_next hK hx2 (hn rfl) hB hw hL)
  rw [ma_cat_eq]
  show 2 * 0 + ma_cat st' + 12 ≤ min (50 * mi.2.2.2.2.1) 338
  omega
theorem ma_s_arraycopy (i : Nat) (aux : List Nat) (ha : ma_a aux 0 = 0) : ma_Snd (.invokestatic i) aux := by
  intro l g x scr mi P Q K k ls st c sl S h p e s m args below meth cd H locs la pc hK hd hn ho hx hB hw hL
  simp only [ma_okx, if_pos ha, Bool.and_eq_true, decide_eq_true_eq] at ho
  obtain ⟨⟨⟨⟨h1, h2⟩, h3⟩, h4⟩, h5⟩ := ho
  have h1 := ma_has_in h1
  have h2 := ma_has_in h2
  have h3 := ma_has_in h3
  have h4 := ma_has_in h4
  simp only [ma_x, if_pos ha] at hx
  split at hx
  · rename_i n dp a sp a0 rest
    obtain ⟨hcat, N0, N1, d0, d1, mm, hs0, hs1, rfl, rfl, rfl, hb0, hb1, hl0, hl1, hx⟩ := hx
    obtain ⟨j0, rfl, hS0⟩ := ma_sh_some hs0
    obtain ⟨j1, rfl, hS1⟩ := ma_sh_some hs1
    have hKK := hB.2.2.2.2.2.2.2.2.1.1
    have c0 : (nI d0).toNatClampNeg = d0 := nI_clamp (by omega)
    have c1 : (nI d1).toNatClampNeg = d1 := nI_clamp (by omega)
    have c2 : (nI mm).toNatClampNeg = mm := nI_clamp (by omega)
    refine va_copyi (A := fun q => g.2.2.1 ≤ q) hB.1 hB.2.1 (by rw [hB.2.2.1]; exact hL.1.symm) hB.2.2.2.2.2.2.2.1 (ma_wB hB h1) (ma_wB hB h2) (ma_wB hB h3) (ma_wB hB h4) hKK hw.1 (ma_D g S h) hw.rfS j0 j1 0 0 (ty := .int) (ma_ws_arr g S h j0 N0 _ hS0) (ma_ws_arr g S h j1 N1 _ hS1) rfl rfl rfl (nI_pos (by omega)) (nI_pos (by omega)) (nI_pos (by omega)) (by rw [c0, c2]; exact hb0) (by rw [c1, c2]; exact hb1) (fun i _ => rfl) h5 ?_ hd (fun H1 locs1 hP1 hD1 hS1' => ?_)
    · rw [ma_cat_eq]
      show ma_cat rest + (nativeFrameWords "java/lang/System" "arraycopy" 5 + 11) ≤ min (50 * mi.2.2.2.2.1) 338
      have : nativeFrameWords "java/lang/System" "arraycopy" 5 + 11 ≤ 42 := by decide
      omega
    · rw [c0, c1, c2] at hP1
      have e1 : (ma_ws g S h).set j1 (g.2.2.1 + j1, .inl (g.2.2.2 .int, N1, .inl (va_cpy (h.1 (j0 + 2)) (h.1 (j1 + 2)) d0 d1 mm))) = ma_ws g S (ma_cp h (j0 + 2) d0 (j1 + 2) d1 mm) := by
        refine ma_ws_set g S h _ j1 hS1 ?_ (fun j' sh' hj _ => ma_cell_other (h := h) (h' := ma_cp h (j0 + 2) d0 (j1 + 2) d1 mm) (fun i => ?_) (fun i => rfl) (fun i => rfl) sh')
        · show Sum.inl (_, _, Sum.inl ((ma_cp h (j0 + 2) d0 (j1 + 2) d1 mm).1 (j1 + 2))) = _
          congr 4
          funext q
          simp only [ma_cp, true_and]
          by_cases hq : d1 ≤ q ∧ q < d1 + mm
          · rw [if_pos hq, pk_cpy_in hq.1 hq.2]
          · rw [if_neg hq, pk_cpy_out (by omega)]
        · show (if j' + 2 = j1 + 2 ∧ d1 ≤ i ∧ i < d1 + mm then _ else _) = _
          rw [if_neg (fun q => hj (by omega))]
      have hP2 : va_P g.1 ma_cl (ma_ws g S (ma_cp h (j0 + 2) d0 (j1 + 2) d1 mm)) H1 := by rw [← e1]; exact hP1
      exact ma_Wsz fun hz => ma_next hK hx (hn rfl) hB (hw.step hS1' hP2 hz) hL
  · exact hx.elim
end
section
theorem ma_sound {l : Launch} {g : ma_G} {x : Bool} {scr : Option (Nat × (Nat → Int32))} {mi : ma_M} {P : List ma_E} {Q : ma_P} {K : ma_K} {k : Nat} {ls : List (Option Value)} {st : List Value} {c sl : Nat} {S : ma_S} {h : ma_H} (hok : ma_ok mi P)
    (hK : ∀ k ls st c sl S h, K k ls st c sl S h → ma_J l g x scr mi P Q k ls st c sl S h) (hx : ma_go x scr mi.2.2.2.2.2.1 mi.2.2.2.2.2.2 (ma_or l g x) P Q K k ls st c sl S h) : ma_J l g x scr mi P Q k ls st c sl S h := by
  intro p e s m args below meth cd H locs la pc hB hw hL hpc
  unfold ma_go at hx
  split at hx
  · rename_i en hen
    have h1 := hok k en hen
    obtain ⟨pc', len, ins, aux⟩ := en
    have hpc' : pc' = pc := by
      rw [ma_pcAt, hen] at hpc
      exact Option.some.inj hpc
    subst hpc'
    unfold ma_ok1 at h1
    simp only [Bool.and_eq_true] at h1
    obtain ⟨⟨⟨hd, hlen⟩, hnx⟩, ho⟩ := h1
    have hd := of_decide_eq_true hd
    dsimp only at hd hlen hnx ho hx
    have key : ma_Snd ins aux → len = ma_len ins → ma_W l g x mi Q p e s m args below meth cd H locs c sl pc' la (st.map (ma_tv g)) := by
      intro hS hl
      subst hl
      exact hS hK hd (fun ht => by rw [if_pos ht] at hnx; exact of_decide_eq_true hnx) ho hx hB hw hL
    cases ins
    case iconst => exact key (ma_s_iconst _ aux) (of_decide_eq_true hlen)
    case bipush => exact key (ma_s_bipush _ aux) (of_decide_eq_true hlen)
    case sipush => exact key (ma_s_sipush _ aux) (of_decide_eq_true hlen)
    case ldc => exact key (ma_s_ldc _ aux) (of_decide_eq_true hlen)
    case ldc_w => exact key (ma_s_ldcw _ aux) (of_decide_eq_true hlen)
    case ldc2_w => exact key (ma_s_ldc2 _ aux) (of_decide_eq_true hlen)
    case lconst => exact key (ma_s_lconst _ aux) (of_decide_eq_true hlen)
    case iload => exact key (ma_s_iload _ aux) (of_decide_eq_true hlen)
    case iload_n => exact key (ma_s_iload_n _ aux) (of_decide_eq_true hlen)
    case lload => exact key (ma_s_lload _ aux) (of_decide_eq_true hlen)
    case lload_n => exact key (ma_s_lload_n _ aux) (of_decide_eq_true hlen)
    case aload => exact key (ma_s_aload _ aux) (of_decide_eq_true hlen)
    case aload_n => exact key (ma_s_aload_n _ aux) (of_decide_eq_true hlen)
    case istore => exact key (ma_s_istore _ aux) (of_decide_eq_true hlen)
    case istore_n => exact key (ma_s_istore_n _ aux) (of_decide_eq_true hlen)
    case lstore => exact key (ma_s_lstore _ aux) (of_decide_eq_true hlen)
    case lstore_n => exact key (ma_s_lstore_n _ aux) (of_decide_eq_true hlen)
    case astore => exact key (ma_s_astore _ aux) (of_decide_eq_true hlen)
    case astore_n => exact key (ma_s_astore_n _ aux) (of_decide_eq_true hlen)
    case iinc => exact key (ma_s_iinc _ _ aux) (of_decide_eq_true hlen)
    case goto => exact key (ma_s_goto _ aux) (of_decide_eq_true hlen)
    case if_icmp => exact key (ma_s_icmp _ _ aux) (of_decide_eq_true hlen)
    case ifCond => exact key (ma_s_if _ _ aux) (of_decide_eq_true hlen)
    case getfield => exact key (ma_s_getfield _ aux) (of_decide_eq_true hlen)
    case putfield => exact key (ma_s_putfield _ aux) (of_decide_eq_true hlen)
    case new => exact key (ma_s_new _ aux) (of_decide_eq_true hlen)
    case newarray => exact key (ma_s_newarray _ aux) (of_decide_eq_true hlen)
    case anewarray => exact key (ma_s_anewarray _ aux) (of_decide_eq_true hlen)
    case invokevirtual => exact key (ma_s_invokevirtual _ aux) (of_decide_eq_true hlen)
    case iadd => exact key (ma_s_iadd aux) (of_decide_eq_true hlen)
    case isub => exact key (ma_s_isub aux) (of_decide_eq_true hlen)
    case imul => exact key (ma_s_imul aux) (of_decide_eq_true hlen)
    case iand => exact key (ma_s_iand aux) (of_decide_eq_true hlen)
    case ior => exact key (ma_s_ior aux) (of_decide_eq_true hlen)
    case ixor => exact key (ma_s_ixor aux) (of_decide_eq_true hlen)
    case idiv => exact key (ma_s_idiv aux) (of_decide_eq_true hlen)
    case irem => exact key (ma_s_irem aux) (of_decide_eq_true hlen)
    case ishl => exact key (ma_s_ishl aux) (of_decide_eq_true hlen)
    case ishr => exact key (ma_s_ishr aux) (of_decide_eq_true hlen)
    case iushr => exact key (ma_s_iushr aux) (of_decide_eq_true hlen)
    case ladd => exact key (ma_s_ladd aux) (of_decide_eq_true hlen)
    case lmul => exact key (ma_s_lmul aux) (of_decide_eq_true hlen)
    case land => exact key (ma_s_land aux) (of_decide_eq_true hlen)
    case lor => exact key (ma_s_lor aux) (of_decide_eq_true hlen)
    case ldiv => exact key (ma_s_ldiv aux) (of_decide_eq_true hlen)
    case lrem => exact key (ma_s_lrem aux) (of_decide_eq_true hlen)
    case lcmp => exact key (ma_s_lcmp aux) (of_decide_eq_true hlen)
    case lshl => exact key (ma_s_lshl aux) (of_decide_eq_true hlen)
    case lushr => exact key (ma_s_lushr aux) (of_decide_eq_true hlen)
    case i2l => exact key (ma_s_i2l aux) (of_decide_eq_true hlen)
    case l2i => exact key (ma_s_l2i aux) (of_decide_eq_true hlen)
    case i2b => exact key (ma_s_i2b aux) (of_decide_eq_true hlen)
    case dup => exact key (ma_s_dup aux) (of_decide_eq_true hlen)
    case dup2 => exact key (ma_s_dup2 aux) (of_decide_eq_true hlen)
    case pop => exact key (ma_s_pop aux) (of_decide_eq_true hlen)
    case iaload => exact key (ma_s_iaload aux) (of_decide_eq_true hlen)
    case baload => exact key (ma_s_baload aux) (of_decide_eq_true hlen)
    case laload => exact key (ma_s_laload aux) (of_decide_eq_true hlen)
    case aaload => exact key (ma_s_aaload aux) (of_decide_eq_true hlen)
    case iastore => exact key (ma_s_iastore aux) (of_decide_eq_true hlen)
    case bastore => exact key (ma_s_bastore aux) (of_decide_eq_true hlen)
    case lastore => exact key (ma_s_lastore aux) (of_decide_eq_true hlen)
    case aastore => exact key (ma_s_aastore aux) (of_decide_eq_true hlen)
    case arraylength => exact key (ma_s_arraylength aux) (of_decide_eq_true hlen)
    case ireturn => exact key (ma_s_ireturn aux) (of_decide_eq_true hlen)
    case areturn => exact key (ma_s_areturn aux) (of_decide_eq_true hlen)
    case return_ => exact key (ma_s_return aux) (of_decide_eq_true hlen)
    case invokespecial =>
      by_cases ha : ma_a aux 0 = 0
      · exact key (ma_s_objinit _ aux ha) (of_decide_eq_true hlen)
      · exact key (ma_s_invokespecial _ aux ha) (of_decide_eq_true hlen)
    case invokestatic =>
      by_cases ha : ma_a aux 0 = 0
      · exact key (ma_s_arraycopy _ aux ha) (of_decide_eq_true hlen)
      · exact key (ma_s_invokestatic _ aux ha) (of_decide_eq_true hlen)
    case tableswitch => exact ma_s_tableswitch hK hd ho hx hB hw hL
    all_goals exact hx.elim
  · exact hx.elim
theorem ma_wp_J {l : Launch} {g : ma_G} {x : Bool} {scr : Option (Nat × (Nat → Int32))} {mi : ma_M} {P : List ma_E} {Q : ma_P} (hok : ma_ok mi P) (cuts : List Nat) : ∀ (n k : Nat) (ls : List (Option Value)) (st : List Value) (c sl : Nat) (S : ma_S) (h : ma_H), ma_wp x scr mi.2.2.2.2.2.1 mi.2.2.2.2.2.2 (ma_or l g x) P Q cuts (ma_J l g x scr mi P Q) n k ls st c sl S h → ma_J l g x scr mi P Q k ls st c sl S h
  | 0, _, _, _, _, _, _, _, hx => hx.elim
  | n + 1, k, ls, st, c, sl, S, h, hx => by
    rw [ma_wp] at hx
    split at hx
    · exact hx
    · exact ma_sound hok (ma_wp_J hok cuts n) hx
/-- from k on up to the cuts -/
theorem ma_run {l : Launch} {g : ma_G} {x : Bool} {scr : Option (Nat × (Nat → Int32))} {mi : ma_M} {P : List ma_E} {Q : ma_P} (hok : ma_ok mi P) (cuts : List Nat) (n : Nat) {k : Nat} {ls : List (Option Value)} {st : List Value} {c sl : Nat} {S : ma_S} {h : ma_H} (hx : ma_go x scr mi.2.2.2.2.2.1 mi.2.2.2.2.2.2 (ma_or l g x) P Q (ma_wp x scr mi.2.2.2.2.2.1 mi.2.2.2.2.2.2 (ma_or l g x) P Q cuts (ma_J l g x scr mi P Q) n) k ls st c sl S h) : ma_J l g x scr mi P Q k ls st c sl S h :=
  ma_sound hok (ma_wp_J hok cuts n) hx
/-- the locals at the entry -/
def ma_en : List Value → List (Option Value)
  | [] => []
  | v :: vs => if v.category = 2 then some v :: none :: ma_en vs else some v :: ma_en vs
theorem ma_en_at (g : ma_G) : ∀ (vs : List Value) (i0 i : Nat) (v : Value), (ma_en vs)[i]? = some (some v) → (i0 + i, ma_tv g v) ∈ lv_args i0 (vs.map (ma_tv g))
  | [], _, _, _, h => by simp [ma_en] at h
  | w :: vs, i0, i, v, h => by
    rw [List.map_cons, lv_args, ma_tv_cat]
    rw [ma_en] at h
    split at h
    · rename_i hc
      rw [if_pos hc]
      match i, h with
      | 0, h => simp at h; subst h; exact List.mem_cons_self
      | 1, h => simp at h
      | i + 2, h =>
        refine List.mem_cons_of_mem _ ?_
        have := ma_en_at g vs (i0 + 2) i v (by simpa using h)
        rwa [show i0 + 2 + i = i0 + (i + 2) by omega] at this
    · rename_i hc
      rw [if_neg hc]
      match i, h with
      | 0, h => simp at h; subst h; exact List.mem_cons_self
      | i + 1, h =>
        refine List.mem_cons_of_mem _ ?_
        have := ma_en_at g vs (i0 + 1) i v (by simpa using h)
        rwa [show i0 + 1 + i = i0 + (i + 1) by omega] at this
theorem ma_en_len (g : ma_G) : ∀ vs : List Value, (lg_sl (vs.map (ma_tv g))).length = (ma_en vs).length
  | [] => rfl
  | v :: vs => by
    have ih := ma_en_len g vs
    rw [ma_en, List.map_cons]
    unfold lg_sl at ih ⊢
    rw [List.flatMap_cons, List.length_append, ih, ma_tv_cat]
    split <;> simp <;> omega
/-- a method's contract out of its walk -/
theorem ma_PM_of {l : Launch} {g : ma_G} {x : Bool} {mi : ma_M} {P : List ma_E} {av : List Value} {S : ma_S} {h : ma_H} {Q : ma_P} (hpl : plainName mi.1.cls = true) (hp0 : ma_pcAt P 0 = some 0) (hlen : (ma_en av).length ≤ mi.2.2.1)
    (hJ : ma_J l g x none mi P Q 0 (ma_en av ++ List.replicate (mi.2.2.1 - (ma_en av).length) none) [] 0 0 S h) : ma_PM l g x mi av S h Q := by
  refine Met.ofW (cc := mi.2.1) (maxL := mi.2.2.1) (ret := mi.2.2.2.1) hpl rfl ?_
  intro p e s m args below meth c s₁ B hml hv
  obtain ⟨rfl, hat, hb, hKK⟩ := hv
  rw [lg_entry_eq]
  have hl := lv_entry (av.map (ma_tv g)) (n := mi.2.2.1) (by rw [ma_en_len]; exact hlen)
  have hL : ma_L g mi.2.2.1 ((lg_sl (av.map (ma_tv g)) ++ List.replicate (mi.2.2.1 - (lg_sl (av.map (ma_tv g))).length) Slot.unset).toArray) (ma_en av ++ List.replicate (mi.2.2.1 - (ma_en av).length) none) := by
    refine ⟨hl.1, hl.2.1, by simp; omega, fun i v hi => ?_⟩
    have hi2 : (ma_en av)[i]? = some (some v) := by
      by_cases hlt : i < (ma_en av).length
      · rw [List.getElem?_append_left hlt] at hi
        exact hi
      · rw [List.getElem?_append_right (by omega), List.getElem?_replicate] at hi
        split at hi <;> simp at hi
    have := ma_en_at g av 0 i v hi2
    rw [Nat.zero_add] at this
    exact hl.2.2 _ this
  refine hJ p e s m _ below meth c s.heap [] _ 0 ⟨B.exec, B.bytes, hml, B.returns, B.notSynchronized, (name_of_methodNamed B.named B.method).1, atoms_spec (ws := ma_wo mi) B.pre, findClass_of_methodNamed B.named, hKK, hb, fun L xs q => by cases q⟩ ⟨hat.1, va_S.rf, fun q => ⟨hat.2 q, rfl⟩⟩ hL hp0
end
section
/-! the methods as tables -/
def pr_Row_append : List ma_E := [(0, 1, .aload_n 0, []),
  (1, 3, .getfield 16, [0, 2, 0, 0, 78]),
  (4, 2, .bipush 32, [32, 0]),
  (6, 3, .if_icmp .ge (24), [17]),
  (9, 1, .aload_n 0, []),
  (10, 1, .dup, []),
  (11, 3, .getfield 7, [0, 0, 1, 0, 74]),
  (14, 1, .iload_n 1, []),
  (15, 1, .i2l, []),
  (16, 1, .iconst 2, [2, 0]),
  (17, 1, .aload_n 0, []),
  (18, 3, .getfield 16, [0, 2, 0, 0, 78]),
  (21, 1, .imul, []),
  (22, 1, .lshl, []),
  (23, 1, .lor, []),
  (24, 3, .putfield 7, [0, 0, 1, 0, 74]),
  (27, 3, .goto (24), [31]),
  (30, 1, .aload_n 0, []),
  (31, 1, .dup, []),
  (32, 3, .getfield 13, [0, 1, 1, 0, 76]),
  (35, 1, .iload_n 1, []),
  (36, 1, .i2l, []),
  (37, 1, .iconst 2, [2, 0]),
  (38, 1, .aload_n 0, []),
  (39, 3, .getfield 16, [0, 2, 0, 0, 78]),
  (42, 2, .bipush 32, [32, 0]),
  (44, 1, .isub, []),
  (45, 1, .imul, []),
  (46, 1, .lshl, []),
  (47, 1, .lor, []),
  (48, 3, .putfield 13, [0, 1, 1, 0, 76]),
  (51, 1, .aload_n 0, []),
  (52, 1, .dup, []),
  (53, 3, .getfield 16, [0, 2, 0, 0, 78]),
  (56, 1, .iconst 1, [1, 0]),
  (57, 1, .iadd, []),
  (58, 3, .putfield 16, [0, 2, 0, 0, 78]),
  (61, 1, .return_, [])]
theorem po_Row_append : ma_ok me_Row_append pr_Row_append := ma_ok_of (by decide +kernel)
theorem pa_Row_append_0 : pr_Row_append[0]? = some (0, 1, .aload_n 0, []) := rfl
theorem pa_Row_append_1 : pr_Row_append[1]? = some (1, 3, .getfield 16, [0, 2, 0, 0, 78]) := rfl
theorem pa_Row_append_2 : pr_Row_append[2]? = some (4, 2, .bipush 32, [32, 0]) := rfl
theorem pa_Row_append_3 : pr_Row_append[3]? = some (6, 3, .if_icmp .ge (24), [17]) := rfl
theorem pa_Row_append_4 : pr_Row_append[4]? = some (9, 1, .aload_n 0, []) := rfl
theorem pa_Row_append_5 : pr_Row_append[5]? = some (10, 1, .dup, []) := rfl
theorem pa_Row_append_6 : pr_Row_append[6]? = some (11, 3, .getfield 7, [0, 0, 1, 0, 74]) := rfl
theorem pa_Row_append_7 : pr_Row_append[7]? = some (14, 1, .iload_n 1, []) := rfl
theorem pa_Row_append_8 : pr_Row_append[8]? = some (15, 1, .i2l, []) := rfl
theorem pa_Row_append_9 : pr_Row_append[9]? = some (16, 1, .iconst 2, [2, 0]) := rfl
theorem pa_Row_append_10 : pr_Row_append[10]? = some (17, 1, .aload_n 0, []) := rfl
theorem pa_Row_append_11 : pr_Row_append[11]? = some (18, 3, .getfield 16, [0, 2, 0, 0, 78]) := rfl
theorem pa_Row_append_12 : pr_Row_append[12]? = some (21, 1, .imul, []) := rfl
theorem pa_Row_append_13 : pr_Row_append[13]? = some (22, 1, .lshl, []) := rfl
theorem pa_Row_append_14 : pr_Row_append[14]? = some (23, 1, .lor, []) := rfl
theorem pa_Row_append_15 : pr_Row_append[15]? = some (24, 3, .putfield 7, [0, 0, 1, 0, 74]) := rfl
theorem pa_Row_append_16 : pr_Row_append[16]? = some (27, 3, .goto (24), [31]) := rfl
theorem pa_Row_append_17 : pr_Row_append[17]? = some (30, 1, .aload_n 0, []) := rfl
theorem pa_Row_append_18 : pr_Row_append[18]? = some (31, 1, .dup, []) := rfl
theorem pa_Row_append_19 : pr_Row_append[19]? = some (32, 3, .getfield 13, [0, 1, 1, 0, 76]) := rfl
theorem pa_Row_append_20 : pr_Row_append[20]? = some (35, 1, .iload_n 1, []) := rfl
theorem pa_Row_append_21 : pr_Row_append[21]? = some (36, 1, .i2l, []) := rfl
theorem pa_Row_append_22 : pr_Row_append[22]? = some (37, 1, .iconst 2, [2, 0]) := rfl
theorem pa_Row_append_23 : pr_Row_append[23]? = some (38, 1, .aload_n 0, []) := rfl
theorem pa_Row_append_24 : pr_Row_append[24]? = some (39, 3, .getfield 16, [0, 2, 0, 0, 78]) := rfl
theorem pa_Row_append_25 : pr_Row_append[25]? = some (42, 2, .bipush 32, [32, 0]) := rfl
theorem pa_Row_append_26 : pr_Row_append[26]? = some (44, 1, .isub, []) := rfl
theorem pa_Row_append_27 : pr_Row_append[27]? = some (45, 1, .imul, []) := rfl
theorem pa_Row_append_28 : pr_Row_append[28]? = some (46, 1, .lshl, []) := rfl
theorem pa_Row_append_29 : pr_Row_append[29]? = some (47, 1, .lor, []) := rfl
theorem pa_Row_append_30 : pr_Row_append[30]? = some (48, 3, .putfield 13, [0, 1, 1, 0, 76]) := rfl
theorem pa_Row_append_31 : pr_Row_append[31]? = some (51, 1, .aload_n 0, []) := rfl
theorem pa_Row_append_32 : pr_Row_append[32]? = some (52, 1, .dup, []) := rfl
theorem pa_Row_append_33 : pr_Row_append[33]? = some (53, 3, .getfield 16, [0, 2, 0, 0, 78]) := rfl
theorem pa_Row_append_34 : pr_Row_append[34]? = some (56, 1, .iconst 1, [1, 0]) := rfl
theorem pa_Row_append_35 : pr_Row_append[35]? = some (57, 1, .iadd, []) := rfl
theorem pa_Row_append_36 : pr_Row_append[36]? = some (58, 3, .putfield 16, [0, 2, 0, 0, 78]) := rfl
theorem pa_Row_append_37 : pr_Row_append[37]? = some (61, 1, .return_, []) := rfl
def pa_Row_append := And.intro pa_Row_append_0 (And.intro pa_Row_append_1 (And.intro pa_Row_append_2 (And.intro pa_Row_append_3 (And.intro pa_Row_append_4 (And.intro pa_Row_append_5 (And.intro pa_Row_append_6 (And.intro pa_Row_append_7 (And.intro pa_Row_append_8 (And.intro pa_Row_append_9 (And.intro pa_Row_append_10 (And.intro pa_Row_append_11 (And.intro pa_Row_append_12 (And.intro pa_Row_append_13 (And.intro pa_Row_append_14 (And.intro pa_Row_append_15 (And.intro pa_Row_append_16 (And.intro pa_Row_append_17 (And.intro pa_Row_append_18 (And.intro pa_Row_append_19 (And.intro pa_Row_append_20 (And.intro pa_Row_append_21 (And.intro pa_Row_append_22 (And.intro pa_Row_append_23 (And.intro pa_Row_append_24 (And.intro pa_Row_append_25 (And.intro pa_Row_append_26 (And.intro pa_Row_append_27 (And.intro pa_Row_append_28 (And.intro pa_Row_append_29 (And.intro pa_Row_append_30 (And.intro pa_Row_append_31 (And.intro pa_Row_append_32 (And.intro pa_Row_append_33 (And.intro pa_Row_append_34 (And.intro pa_Row_append_35 (And.intro pa_Row_append_36 (pa_Row_append_37)))))))))))))))))))))))))))))))))))))
def pr_Row_at : List ma_E := [(0, 1, .iload_n 1, []),
  (1, 2, .bipush 32, [32, 0]),
  (3, 3, .if_icmp .ge (14), [10]),
  (6, 1, .aload_n 0, []),
  (7, 3, .getfield 7, [0, 0, 1, 0, 74]),
  (10, 1, .iconst 2, [2, 0]),
  (11, 1, .iload_n 1, []),
  (12, 1, .imul, []),
  (13, 1, .lushr, []),
  (14, 3, .goto (14), [18]),
  (17, 1, .aload_n 0, []),
  (18, 3, .getfield 13, [0, 1, 1, 0, 76]),
  (21, 1, .iconst 2, [2, 0]),
  (22, 1, .iload_n 1, []),
  (23, 2, .bipush 32, [32, 0]),
  (25, 1, .isub, []),
  (26, 1, .imul, []),
  (27, 1, .lushr, []),
  (28, 1, .lstore_n 2, []),
  (29, 1, .lload_n 2, []),
  (30, 3, .ldc2_w 20, [3, 0, 393]),
  (33, 1, .land, []),
  (34, 1, .l2i, []),
  (35, 1, .ireturn, [0])]
theorem po_Row_at : ma_ok me_Row_at pr_Row_at := ma_ok_of (by decide +kernel)
theorem pa_Row_at_0 : pr_Row_at[0]? = some (0, 1, .iload_n 1, []) := rfl
theorem pa_Row_at_1 : pr_Row_at[1]? = some (1, 2, .bipush 32, [32, 0]) := rfl
theorem pa_Row_at_2 : pr_Row_at[2]? = some (3, 3, .if_icmp .ge (14), [10]) := rfl
theorem pa_Row_at_3 : pr_Row_at[3]? = some (6, 1, .aload_n 0, []) := rfl
theorem pa_Row_at_4 : pr_Row_at[4]? = some (7, 3, .getfield 7, [0, 0, 1, 0, 74]) := rfl
theorem pa_Row_at_5 : pr_Row_at[5]? = some (10, 1, .iconst 2, [2, 0]) := rfl
theorem pa_Row_at_6 : pr_Row_at[6]? = some (11, 1, .iload_n 1, []) := rfl
theorem pa_Row_at_7 : pr_Row_at[7]? = some (12, 1, .imul, []) := rfl
theorem pa_Row_at_8 : pr_Row_at[8]? = some (13, 1, .lushr, []) := rfl
theorem pa_Row_at_9 : pr_Row_at[9]? = some (14, 3, .goto (14), [18]) := rfl
theorem pa_Row_at_10 : pr_Row_at[10]? = some (17, 1, .aload_n 0, []) := rfl
theorem pa_Row_at_11 : pr_Row_at[11]? = some (18, 3, .getfield 13, [0, 1, 1, 0, 76]) := rfl
theorem pa_Row_at_12 : pr_Row_at[12]? = some (21, 1, .iconst 2, [2, 0]) := rfl
theorem pa_Row_at_13 : pr_Row_at[13]? = some (22, 1, .iload_n 1, []) := rfl
theorem pa_Row_at_14 : pr_Row_at[14]? = some (23, 2, .bipush 32, [32, 0]) := rfl
theorem pa_Row_at_15 : pr_Row_at[15]? = some (25, 1, .isub, []) := rfl
theorem pa_Row_at_16 : pr_Row_at[16]? = some (26, 1, .imul, []) := rfl
theorem pa_Row_at_17 : pr_Row_at[17]? = some (27, 1, .lushr, []) := rfl
theorem pa_Row_at_18 : pr_Row_at[18]? = some (28, 1, .lstore_n 2, []) := rfl
theorem pa_Row_at_19 : pr_Row_at[19]? = some (29, 1, .lload_n 2, []) := rfl
theorem pa_Row_at_20 : pr_Row_at[20]? = some (30, 3, .ldc2_w 20, [3, 0, 393]) := rfl
theorem pa_Row_at_21 : pr_Row_at[21]? = some (33, 1, .land, []) := rfl
theorem pa_Row_at_22 : pr_Row_at[22]? = some (34, 1, .l2i, []) := rfl
theorem pa_Row_at_23 : pr_Row_at[23]? = some (35, 1, .ireturn, [0]) := rfl
def pa_Row_at := And.intro pa_Row_at_0 (And.intro pa_Row_at_1 (And.intro pa_Row_at_2 (And.intro pa_Row_at_3 (And.intro pa_Row_at_4 (And.intro pa_Row_at_5 (And.intro pa_Row_at_6 (And.intro pa_Row_at_7 (And.intro pa_Row_at_8 (And.intro pa_Row_at_9 (And.intro pa_Row_at_10 (And.intro pa_Row_at_11 (And.intro pa_Row_at_12 (And.intro pa_Row_at_13 (And.intro pa_Row_at_14 (And.intro pa_Row_at_15 (And.intro pa_Row_at_16 (And.intro pa_Row_at_17 (And.intro pa_Row_at_18 (And.intro pa_Row_at_19 (And.intro pa_Row_at_20 (And.intro pa_Row_at_21 (And.intro pa_Row_at_22 (pa_Row_at_23)))))))))))))))))))))))
def pr_Row_become : List ma_E := [(0, 1, .aload_n 0, []),
  (1, 1, .lload_n 1, []),
  (2, 3, .putfield 7, [0, 0, 1, 0, 74]),
  (5, 1, .aload_n 0, []),
  (6, 1, .lload_n 3, []),
  (7, 3, .putfield 13, [0, 1, 1, 0, 76]),
  (10, 1, .aload_n 0, []),
  (11, 2, .iload 5, []),
  (13, 3, .putfield 16, [0, 2, 0, 0, 78]),
  (16, 1, .return_, [])]
theorem po_Row_become : ma_ok me_Row_become pr_Row_become := ma_ok_of (by decide +kernel)
theorem pa_Row_become_0 : pr_Row_become[0]? = some (0, 1, .aload_n 0, []) := rfl
theorem pa_Row_become_1 : pr_Row_become[1]? = some (1, 1, .lload_n 1, []) := rfl
theorem pa_Row_become_2 : pr_Row_become[2]? = some (2, 3, .putfield 7, [0, 0, 1, 0, 74]) := rfl
theorem pa_Row_become_3 : pr_Row_become[3]? = some (5, 1, .aload_n 0, []) := rfl
theorem pa_Row_become_4 : pr_Row_become[4]? = some (6, 1, .lload_n 3, []) := rfl
theorem pa_Row_become_5 : pr_Row_become[5]? = some (7, 3, .putfield 13, [0, 1, 1, 0, 76]) := rfl
theorem pa_Row_become_6 : pr_Row_become[6]? = some (10, 1, .aload_n 0, []) := rfl
theorem pa_Row_become_7 : pr_Row_become[7]? = some (11, 2, .iload 5, []) := rfl
theorem pa_Row_become_8 : pr_Row_become[8]? = some (13, 3, .putfield 16, [0, 2, 0, 0, 78]) := rfl
theorem pa_Row_become_9 : pr_Row_become[9]? = some (16, 1, .return_, []) := rfl
def pa_Row_become := And.intro pa_Row_become_0 (And.intro pa_Row_become_1 (And.intro pa_Row_become_2 (And.intro pa_Row_become_3 (And.intro pa_Row_become_4 (And.intro pa_Row_become_5 (And.intro pa_Row_become_6 (And.intro pa_Row_become_7 (And.intro pa_Row_become_8 (pa_Row_become_9)))))))))
def pr_Fld_over : List ma_E := [(0, 1, .iload_n 1, []),
  (1, 3, .ifCond .eq (7), [4]),
  (4, 1, .iload_n 2, []),
  (5, 3, .ifCond .ne (7), [6]),
  (8, 1, .iconst 0, [0, 0]),
  (9, 3, .goto (29), [22]),
  (12, 1, .aload_n 0, []),
  (13, 3, .getfield 9, [1, 0, 2, 0, 96]),
  (16, 1, .aload_n 0, []),
  (17, 3, .getfield 13, [1, 1, 2, 0, 97]),
  (20, 1, .iload_n 1, []),
  (21, 1, .iaload, []),
  (22, 1, .aload_n 0, []),
  (23, 3, .getfield 13, [1, 1, 2, 0, 97]),
  (26, 1, .iload_n 2, []),
  (27, 1, .iaload, []),
  (28, 1, .isub, []),
  (29, 3, .sipush 255, [255, 0]),
  (32, 1, .iadd, []),
  (33, 3, .sipush 255, [255, 0]),
  (36, 1, .irem, []),
  (37, 1, .iaload, []),
  (38, 1, .ireturn, [0])]
theorem po_Fld_over : ma_ok me_Fld_over pr_Fld_over := ma_ok_of (by decide +kernel)
theorem pa_Fld_over_0 : pr_Fld_over[0]? = some (0, 1, .iload_n 1, []) := rfl
theorem pa_Fld_over_1 : pr_Fld_over[1]? = some (1, 3, .ifCond .eq (7), [4]) := rfl
theorem pa_Fld_over_2 : pr_Fld_over[2]? = some (4, 1, .iload_n 2, []) := rfl
theorem pa_Fld_over_3 : pr_Fld_over[3]? = some (5, 3, .ifCond .ne (7), [6]) := rfl
theorem pa_Fld_over_4 : pr_Fld_over[4]? = some (8, 1, .iconst 0, [0, 0]) := rfl
theorem pa_Fld_over_5 : pr_Fld_over[5]? = some (9, 3, .goto (29), [22]) := rfl
theorem pa_Fld_over_6 : pr_Fld_over[6]? = some (12, 1, .aload_n 0, []) := rfl
theorem pa_Fld_over_7 : pr_Fld_over[7]? = some (13, 3, .getfield 9, [1, 0, 2, 0, 96]) := rfl
theorem pa_Fld_over_8 : pr_Fld_over[8]? = some (16, 1, .aload_n 0, []) := rfl
theorem pa_Fld_over_9 : pr_Fld_over[9]? = some (17, 3, .getfield 13, [1, 1, 2, 0, 97]) := rfl
theorem pa_Fld_over_10 : pr_Fld_over[10]? = some (20, 1, .iload_n 1, []) := rfl
theorem pa_Fld_over_11 : pr_Fld_over[11]? = some (21, 1, .iaload, []) := rfl
theorem pa_Fld_over_12 : pr_Fld_over[12]? = some (22, 1, .aload_n 0, []) := rfl
theorem pa_Fld_over_13 : pr_Fld_over[13]? = some (23, 3, .getfield 13, [1, 1, 2, 0, 97]) := rfl
theorem pa_Fld_over_14 : pr_Fld_over[14]? = some (26, 1, .iload_n 2, []) := rfl
theorem pa_Fld_over_15 : pr_Fld_over[15]? = some (27, 1, .iaload, []) := rfl
theorem pa_Fld_over_16 : pr_Fld_over[16]? = some (28, 1, .isub, []) := rfl
theorem pa_Fld_over_17 : pr_Fld_over[17]? = some (29, 3, .sipush 255, [255, 0]) := rfl
theorem pa_Fld_over_18 : pr_Fld_over[18]? = some (32, 1, .iadd, []) := rfl
theorem pa_Fld_over_19 : pr_Fld_over[19]? = some (33, 3, .sipush 255, [255, 0]) := rfl
theorem pa_Fld_over_20 : pr_Fld_over[20]? = some (36, 1, .irem, []) := rfl
theorem pa_Fld_over_21 : pr_Fld_over[21]? = some (37, 1, .iaload, []) := rfl
theorem pa_Fld_over_22 : pr_Fld_over[22]? = some (38, 1, .ireturn, [0]) := rfl
def pa_Fld_over := And.intro pa_Fld_over_0 (And.intro pa_Fld_over_1 (And.intro pa_Fld_over_2 (And.intro pa_Fld_over_3 (And.intro pa_Fld_over_4 (And.intro pa_Fld_over_5 (And.intro pa_Fld_over_6 (And.intro pa_Fld_over_7 (And.intro pa_Fld_over_8 (And.intro pa_Fld_over_9 (And.intro pa_Fld_over_10 (And.intro pa_Fld_over_11 (And.intro pa_Fld_over_12 (And.intro pa_Fld_over_13 (And.intro pa_Fld_over_14 (And.intro pa_Fld_over_15 (And.intro pa_Fld_over_16 (And.intro pa_Fld_over_17 (And.intro pa_Fld_over_18 (And.intro pa_Fld_over_19 (And.intro pa_Fld_over_20 (And.intro pa_Fld_over_21 (pa_Fld_over_22))))))))))))))))))))))
def pr_Fld_powerOfTwo : List ma_E := [(0, 1, .aload_n 0, []),
  (1, 3, .getfield 9, [1, 0, 2, 0, 96]),
  (4, 1, .iload_n 1, []),
  (5, 3, .sipush 255, [255, 0]),
  (8, 1, .irem, []),
  (9, 1, .iaload, []),
  (10, 1, .ireturn, [0])]
theorem po_Fld_powerOfTwo : ma_ok me_Fld_powerOfTwo pr_Fld_powerOfTwo := ma_ok_of (by decide +kernel)
theorem pa_Fld_powerOfTwo_0 : pr_Fld_powerOfTwo[0]? = some (0, 1, .aload_n 0, []) := rfl
theorem pa_Fld_powerOfTwo_1 : pr_Fld_powerOfTwo[1]? = some (1, 3, .getfield 9, [1, 0, 2, 0, 96]) := rfl
theorem pa_Fld_powerOfTwo_2 : pr_Fld_powerOfTwo[2]? = some (4, 1, .iload_n 1, []) := rfl
theorem pa_Fld_powerOfTwo_3 : pr_Fld_powerOfTwo[3]? = some (5, 3, .sipush 255, [255, 0]) := rfl
theorem pa_Fld_powerOfTwo_4 : pr_Fld_powerOfTwo[4]? = some (8, 1, .irem, []) := rfl
theorem pa_Fld_powerOfTwo_5 : pr_Fld_powerOfTwo[5]? = some (9, 1, .iaload, []) := rfl
theorem pa_Fld_powerOfTwo_6 : pr_Fld_powerOfTwo[6]? = some (10, 1, .ireturn, [0]) := rfl
def pa_Fld_powerOfTwo := And.intro pa_Fld_powerOfTwo_0 (And.intro pa_Fld_powerOfTwo_1 (And.intro pa_Fld_powerOfTwo_2 (And.intro pa_Fld_powerOfTwo_3 (And.intro pa_Fld_powerOfTwo_4 (And.intro pa_Fld_powerOfTwo_5 (pa_Fld_powerOfTwo_6))))))
def pr_Fld_times : List ma_E := [(0, 1, .iload_n 1, []),
  (1, 3, .ifCond .eq (7), [4]),
  (4, 1, .iload_n 2, []),
  (5, 3, .ifCond .ne (7), [6]),
  (8, 1, .iconst 0, [0, 0]),
  (9, 3, .goto (25), [20]),
  (12, 1, .aload_n 0, []),
  (13, 3, .getfield 9, [1, 0, 2, 0, 96]),
  (16, 1, .aload_n 0, []),
  (17, 3, .getfield 13, [1, 1, 2, 0, 97]),
  (20, 1, .iload_n 1, []),
  (21, 1, .iaload, []),
  (22, 1, .aload_n 0, []),
  (23, 3, .getfield 13, [1, 1, 2, 0, 97]),
  (26, 1, .iload_n 2, []),
  (27, 1, .iaload, []),
  (28, 1, .iadd, []),
  (29, 3, .sipush 255, [255, 0]),
  (32, 1, .irem, []),
  (33, 1, .iaload, []),
  (34, 1, .ireturn, [0])]
theorem po_Fld_times : ma_ok me_Fld_times pr_Fld_times := ma_ok_of (by decide +kernel)
theorem pa_Fld_times_0 : pr_Fld_times[0]? = some (0, 1, .iload_n 1, []) := rfl
theorem pa_Fld_times_1 : pr_Fld_times[1]? = some (1, 3, .ifCond .eq (7), [4]) := rfl
theorem pa_Fld_times_2 : pr_Fld_times[2]? = some (4, 1, .iload_n 2, []) := rfl
theorem pa_Fld_times_3 : pr_Fld_times[3]? = some (5, 3, .ifCond .ne (7), [6]) := rfl
theorem pa_Fld_times_4 : pr_Fld_times[4]? = some (8, 1, .iconst 0, [0, 0]) := rfl
theorem pa_Fld_times_5 : pr_Fld_times[5]? = some (9, 3, .goto (25), [20]) := rfl
theorem pa_Fld_times_6 : pr_Fld_times[6]? = some (12, 1, .aload_n 0, []) := rfl
theorem pa_Fld_times_7 : pr_Fld_times[7]? = some (13, 3, .getfield 9, [1, 0, 2, 0, 96]) := rfl
theorem pa_Fld_times_8 : pr_Fld_times[8]? = some (16, 1, .aload_n 0, []) := rfl
theorem pa_Fld_times_9 : pr_Fld_times[9]? = some (17, 3, .getfield 13, [1, 1, 2, 0, 97]) := rfl
theorem pa_Fld_times_10 : pr_Fld_times[10]? = some (20, 1, .iload_n 1, []) := rfl
theorem pa_Fld_times_11 : pr_Fld_times[11]? = some (21, 1, .iaload, []) := rfl
theorem pa_Fld_times_12 : pr_Fld_times[12]? = some (22, 1, .aload_n 0, []) := rfl
theorem pa_Fld_times_13 : pr_Fld_times[13]? = some (23, 3, .getfield 13, [1, 1, 2, 0, 97]) := rfl
theorem pa_Fld_times_14 : pr_Fld_times[14]? = some (26, 1, .iload_n 2, []) := rfl
theorem pa_Fld_times_15 : pr_Fld_times[15]? = some (27, 1, .iaload, []) := rfl
theorem pa_Fld_times_16 : pr_Fld_times[16]? = some (28, 1, .iadd, []) := rfl
theorem pa_Fld_times_17 : pr_Fld_times[17]? = some (29, 3, .sipush 255, [255, 0]) := rfl
theorem pa_Fld_times_18 : pr_Fld_times[18]? = some (32, 1, .irem, []) := rfl
theorem pa_Fld_times_19 : pr_Fld_times[19]? = some (33, 1, .iaload, []) := rfl
theorem pa_Fld_times_20 : pr_Fld_times[20]? = some (34, 1, .ireturn, [0]) := rfl
def pa_Fld_times := And.intro pa_Fld_times_0 (And.intro pa_Fld_times_1 (And.intro pa_Fld_times_2 (And.intro pa_Fld_times_3 (And.intro pa_Fld_times_4 (And.intro pa_Fld_times_5 (And.intro pa_Fld_times_6 (And.intro pa_Fld_times_7 (And.intro pa_Fld_times_8 (And.intro pa_Fld_times_9 (And.intro pa_Fld_times_10 (And.intro pa_Fld_times_11 (And.intro pa_Fld_times_12 (And.intro pa_Fld_times_13 (And.intro pa_Fld_times_14 (And.intro pa_Fld_times_15 (And.intro pa_Fld_times_16 (And.intro pa_Fld_times_17 (And.intro pa_Fld_times_18 (And.intro pa_Fld_times_19 (pa_Fld_times_20))))))))))))))))))))
def pr_Bod_ahead : List ma_E := [(0, 1, .iload_n 1, []),
  (1, 3, .ifCond .ne (7), [4]),
  (4, 1, .iconst 3, [3, 0]),
  (5, 3, .goto (11), [10]),
  (8, 1, .aload_n 0, []),
  (9, 3, .getfield 9, [2, 0, 2, 0, 146]),
  (12, 1, .iload_n 1, []),
  (13, 1, .iconst 1, [1, 0]),
  (14, 1, .isub, []),
  (15, 1, .iaload, []),
  (16, 1, .ireturn, [0])]
theorem po_Bod_ahead : ma_ok me_Bod_ahead pr_Bod_ahead := ma_ok_of (by decide +kernel)
theorem pa_Bod_ahead_0 : pr_Bod_ahead[0]? = some (0, 1, .iload_n 1, []) := rfl
theorem pa_Bod_ahead_1 : pr_Bod_ahead[1]? = some (1, 3, .ifCond .ne (7), [4]) := rfl
theorem pa_Bod_ahead_2 : pr_Bod_ahead[2]? = some (4, 1, .iconst 3, [3, 0]) := rfl
theorem pa_Bod_ahead_3 : pr_Bod_ahead[3]? = some (5, 3, .goto (11), [10]) := rfl
theorem pa_Bod_ahead_4 : pr_Bod_ahead[4]? = some (8, 1, .aload_n 0, []) := rfl
theorem pa_Bod_ahead_5 : pr_Bod_ahead[5]? = some (9, 3, .getfield 9, [2, 0, 2, 0, 146]) := rfl
theorem pa_Bod_ahead_6 : pr_Bod_ahead[6]? = some (12, 1, .iload_n 1, []) := rfl
theorem pa_Bod_ahead_7 : pr_Bod_ahead[7]? = some (13, 1, .iconst 1, [1, 0]) := rfl
theorem pa_Bod_ahead_8 : pr_Bod_ahead[8]? = some (14, 1, .isub, []) := rfl
theorem pa_Bod_ahead_9 : pr_Bod_ahead[9]? = some (15, 1, .iaload, []) := rfl
theorem pa_Bod_ahead_10 : pr_Bod_ahead[10]? = some (16, 1, .ireturn, [0]) := rfl
def pa_Bod_ahead := And.intro pa_Bod_ahead_0 (And.intro pa_Bod_ahead_1 (And.intro pa_Bod_ahead_2 (And.intro pa_Bod_ahead_3 (And.intro pa_Bod_ahead_4 (And.intro pa_Bod_ahead_5 (And.intro pa_Bod_ahead_6 (And.intro pa_Bod_ahead_7 (And.intro pa_Bod_ahead_8 (And.intro pa_Bod_ahead_9 (pa_Bod_ahead_10))))))))))
def pr_Bod_rise : List ma_E := [(0, 1, .iload_n 1, []),
  (1, 1, .iconst 1, [1, 0]),
  (2, 3, .if_icmp .lt (30), [19]),
  (5, 1, .iload_n 1, []),
  (6, 2, .bipush 33, [33, 0]),
  (8, 3, .if_icmp .ge (24), [19]),
  (11, 1, .aload_n 0, []),
  (12, 3, .getfield 9, [2, 0, 2, 0, 146]),
  (15, 1, .iload_n 1, []),
  (16, 1, .iaload, []),
  (17, 1, .aload_n 0, []),
  (18, 3, .getfield 9, [2, 0, 2, 0, 146]),
  (21, 1, .iload_n 1, []),
  (22, 1, .iconst 1, [1, 0]),
  (23, 1, .isub, []),
  (24, 1, .iaload, []),
  (25, 3, .if_icmp .lt (7), [19]),
  (28, 1, .iload_n 1, []),
  (29, 3, .goto (4), [20]),
  (32, 1, .iconst 0, [0, 0]),
  (33, 1, .ireturn, [0])]
theorem po_Bod_rise : ma_ok me_Bod_rise pr_Bod_rise := ma_ok_of (by decide +kernel)
theorem pa_Bod_rise_0 : pr_Bod_rise[0]? = some (0, 1, .iload_n 1, []) := rfl
theorem pa_Bod_rise_1 : pr_Bod_rise[1]? = some (1, 1, .iconst 1, [1, 0]) := rfl
theorem pa_Bod_rise_2 : pr_Bod_rise[2]? = some (2, 3, .if_icmp .lt (30), [19]) := rfl
theorem pa_Bod_rise_3 : pr_Bod_rise[3]? = some (5, 1, .iload_n 1, []) := rfl
theorem pa_Bod_rise_4 : pr_Bod_rise[4]? = some (6, 2, .bipush 33, [33, 0]) := rfl
theorem pa_Bod_rise_5 : pr_Bod_rise[5]? = some (8, 3, .if_icmp .ge (24), [19]) := rfl
theorem pa_Bod_rise_6 : pr_Bod_rise[6]? = some (11, 1, .aload_n 0, []) := rfl
theorem pa_Bod_rise_7 : pr_Bod_rise[7]? = some (12, 3, .getfield 9, [2, 0, 2, 0, 146]) := rfl
theorem pa_Bod_rise_8 : pr_Bod_rise[8]? = some (15, 1, .iload_n 1, []) := rfl
theorem pa_Bod_rise_9 : pr_Bod_rise[9]? = some (16, 1, .iaload, []) := rfl
theorem pa_Bod_rise_10 : pr_Bod_rise[10]? = some (17, 1, .aload_n 0, []) := rfl
theorem pa_Bod_rise_11 : pr_Bod_rise[11]? = some (18, 3, .getfield 9, [2, 0, 2, 0, 146]) := rfl
theorem pa_Bod_rise_12 : pr_Bod_rise[12]? = some (21, 1, .iload_n 1, []) := rfl
theorem pa_Bod_rise_13 : pr_Bod_rise[13]? = some (22, 1, .iconst 1, [1, 0]) := rfl
theorem pa_Bod_rise_14 : pr_Bod_rise[14]? = some (23, 1, .isub, []) := rfl
theorem pa_Bod_rise_15 : pr_Bod_rise[15]? = some (24, 1, .iaload, []) := rfl
theorem pa_Bod_rise_16 : pr_Bod_rise[16]? = some (25, 3, .if_icmp .lt (7), [19]) := rfl
theorem pa_Bod_rise_17 : pr_Bod_rise[17]? = some (28, 1, .iload_n 1, []) := rfl
theorem pa_Bod_rise_18 : pr_Bod_rise[18]? = some (29, 3, .goto (4), [20]) := rfl
theorem pa_Bod_rise_19 : pr_Bod_rise[19]? = some (32, 1, .iconst 0, [0, 0]) := rfl
theorem pa_Bod_rise_20 : pr_Bod_rise[20]? = some (33, 1, .ireturn, [0]) := rfl
def pa_Bod_rise := And.intro pa_Bod_rise_0 (And.intro pa_Bod_rise_1 (And.intro pa_Bod_rise_2 (And.intro pa_Bod_rise_3 (And.intro pa_Bod_rise_4 (And.intro pa_Bod_rise_5 (And.intro pa_Bod_rise_6 (And.intro pa_Bod_rise_7 (And.intro pa_Bod_rise_8 (And.intro pa_Bod_rise_9 (And.intro pa_Bod_rise_10 (And.intro pa_Bod_rise_11 (And.intro pa_Bod_rise_12 (And.intro pa_Bod_rise_13 (And.intro pa_Bod_rise_14 (And.intro pa_Bod_rise_15 (And.intro pa_Bod_rise_16 (And.intro pa_Bod_rise_17 (And.intro pa_Bod_rise_18 (And.intro pa_Bod_rise_19 (pa_Bod_rise_20))))))))))))))))))))
def pr_Bod_signature : List ma_E := [(0, 1, .aload_n 0, []),
  (1, 3, .getfield 19, [2, 2, 0, 0, 149]),
  (4, 2, .bipush 33, [33, 0]),
  (6, 1, .irem, []),
  (7, 1, .ireturn, [0])]
theorem po_Bod_signature : ma_ok me_Bod_signature pr_Bod_signature := ma_ok_of (by decide +kernel)
theorem pa_Bod_signature_0 : pr_Bod_signature[0]? = some (0, 1, .aload_n 0, []) := rfl
theorem pa_Bod_signature_1 : pr_Bod_signature[1]? = some (1, 3, .getfield 19, [2, 2, 0, 0, 149]) := rfl
theorem pa_Bod_signature_2 : pr_Bod_signature[2]? = some (4, 2, .bipush 33, [33, 0]) := rfl
theorem pa_Bod_signature_3 : pr_Bod_signature[3]? = some (6, 1, .irem, []) := rfl
theorem pa_Bod_signature_4 : pr_Bod_signature[4]? = some (7, 1, .ireturn, [0]) := rfl
def pa_Bod_signature := And.intro pa_Bod_signature_0 (And.intro pa_Bod_signature_1 (And.intro pa_Bod_signature_2 (And.intro pa_Bod_signature_3 (pa_Bod_signature_4))))
def pr_Bod_sum : List ma_E := [(0, 1, .aload_n 0, []),
  (1, 3, .getfield 15, [2, 1, 0, 0, 148]),
  (4, 1, .iconst 4, [4, 0]),
  (5, 1, .irem, []),
  (6, 1, .ireturn, [0])]
theorem po_Bod_sum : ma_ok me_Bod_sum pr_Bod_sum := ma_ok_of (by decide +kernel)
theorem pa_Bod_sum_0 : pr_Bod_sum[0]? = some (0, 1, .aload_n 0, []) := rfl
theorem pa_Bod_sum_1 : pr_Bod_sum[1]? = some (1, 3, .getfield 15, [2, 1, 0, 0, 148]) := rfl
theorem pa_Bod_sum_2 : pr_Bod_sum[2]? = some (4, 1, .iconst 4, [4, 0]) := rfl
theorem pa_Bod_sum_3 : pr_Bod_sum[3]? = some (5, 1, .irem, []) := rfl
theorem pa_Bod_sum_4 : pr_Bod_sum[4]? = some (6, 1, .ireturn, [0]) := rfl
def pa_Bod_sum := And.intro pa_Bod_sum_0 (And.intro pa_Bod_sum_1 (And.intro pa_Bod_sum_2 (And.intro pa_Bod_sum_3 (pa_Bod_sum_4))))
def pr_Col_countUnknown : List ma_E := [(0, 1, .iconst 0, [0, 0]),
  (1, 1, .istore_n 1, []),
  (2, 1, .iconst 0, [0, 0]),
  (3, 1, .istore_n 2, []),
  (4, 1, .iload_n 2, []),
  (5, 2, .bipush 16, [16, 0]),
  (7, 3, .if_icmp .ge (26), [20]),
  (10, 1, .iload_n 1, []),
  (11, 1, .aload_n 0, []),
  (12, 3, .getfield 15, [4, 2, 2, 0, 113]),
  (15, 1, .iload_n 2, []),
  (16, 1, .baload, [1]),
  (17, 3, .ifCond .eq (7), [15]),
  (20, 1, .iconst 1, [1, 0]),
  (21, 3, .goto (4), [16]),
  (24, 1, .iconst 0, [0, 0]),
  (25, 1, .iadd, []),
  (26, 1, .istore_n 1, []),
  (27, 3, .iinc 2 (1), [1, 0]),
  (30, 3, .goto (-26), [4]),
  (33, 1, .iload_n 1, []),
  (34, 1, .ireturn, [0])]
theorem po_Col_countUnknown : ma_ok me_Col_countUnknown pr_Col_countUnknown := ma_ok_of (by decide +kernel)
theorem pa_Col_countUnknown_0 : pr_Col_countUnknown[0]? = some (0, 1, .iconst 0, [0, 0]) := rfl
theorem pa_Col_countUnknown_1 : pr_Col_countUnknown[1]? = some (1, 1, .istore_n 1, []) := rfl
theorem pa_Col_countUnknown_2 : pr_Col_countUnknown[2]? = some (2, 1, .iconst 0, [0, 0]) := rfl
theorem pa_Col_countUnknown_3 : pr_Col_countUnknown[3]? = some (3, 1, .istore_n 2, []) := rfl
theorem pa_Col_countUnknown_4 : pr_Col_countUnknown[4]? = some (4, 1, .iload_n 2, []) := rfl
theorem pa_Col_countUnknown_5 : pr_Col_countUnknown[5]? = some (5, 2, .bipush 16, [16, 0]) := rfl
theorem pa_Col_countUnknown_6 : pr_Col_countUnknown[6]? = some (7, 3, .if_icmp .ge (26), [20]) := rfl
theorem pa_Col_countUnknown_7 : pr_Col_countUnknown[7]? = some (10, 1, .iload_n 1, []) := rfl
theorem pa_Col_countUnknown_8 : pr_Col_countUnknown[8]? = some (11, 1, .aload_n 0, []) := rfl
theorem pa_Col_countUnknown_9 : pr_Col_countUnknown[9]? = some (12, 3, .getfield 15, [4, 2, 2, 0, 113]) := rfl
theorem pa_Col_countUnknown_10 : pr_Col_countUnknown[10]? = some (15, 1, .iload_n 2, []) := rfl
theorem pa_Col_countUnknown_11 : pr_Col_countUnknown[11]? = some (16, 1, .baload, [1]) := rfl
theorem pa_Col_countUnknown_12 : pr_Col_countUnknown[12]? = some (17, 3, .ifCond .eq (7), [15]) := rfl
theorem pa_Col_countUnknown_13 : pr_Col_countUnknown[13]? = some (20, 1, .iconst 1, [1, 0]) := rfl
theorem pa_Col_countUnknown_14 : pr_Col_countUnknown[14]? = some (21, 3, .goto (4), [16]) := rfl
theorem pa_Col_countUnknown_15 : pr_Col_countUnknown[15]? = some (24, 1, .iconst 0, [0, 0]) := rfl
theorem pa_Col_countUnknown_16 : pr_Col_countUnknown[16]? = some (25, 1, .iadd, []) := rfl
theorem pa_Col_countUnknown_17 : pr_Col_countUnknown[17]? = some (26, 1, .istore_n 1, []) := rfl
theorem pa_Col_countUnknown_18 : pr_Col_countUnknown[18]? = some (27, 3, .iinc 2 (1), [1, 0]) := rfl
theorem pa_Col_countUnknown_19 : pr_Col_countUnknown[19]? = some (30, 3, .goto (-26), [4]) := rfl
theorem pa_Col_countUnknown_20 : pr_Col_countUnknown[20]? = some (33, 1, .iload_n 1, []) := rfl
theorem pa_Col_countUnknown_21 : pr_Col_countUnknown[21]? = some (34, 1, .ireturn, [0]) := rfl
def pa_Col_countUnknown := And.intro pa_Col_countUnknown_0 (And.intro pa_Col_countUnknown_1 (And.intro pa_Col_countUnknown_2 (And.intro pa_Col_countUnknown_3 (And.intro pa_Col_countUnknown_4 (And.intro pa_Col_countUnknown_5 (And.intro pa_Col_countUnknown_6 (And.intro pa_Col_countUnknown_7 (And.intro pa_Col_countUnknown_8 (And.intro pa_Col_countUnknown_9 (And.intro pa_Col_countUnknown_10 (And.intro pa_Col_countUnknown_11 (And.intro pa_Col_countUnknown_12 (And.intro pa_Col_countUnknown_13 (And.intro pa_Col_countUnknown_14 (And.intro pa_Col_countUnknown_15 (And.intro pa_Col_countUnknown_16 (And.intro pa_Col_countUnknown_17 (And.intro pa_Col_countUnknown_18 (And.intro pa_Col_countUnknown_19 (And.intro pa_Col_countUnknown_20 (pa_Col_countUnknown_21)))))))))))))))))))))
def pr_Col_set : List ma_E := [(0, 1, .aload_n 0, []),
  (1, 3, .getfield 9, [4, 1, 2, 0, 110]),
  (4, 1, .iload_n 1, []),
  (5, 1, .iload_n 3, []),
  (6, 3, .ifCond .eq (7), [7]),
  (9, 1, .iconst 0, [0, 0]),
  (10, 3, .goto (4), [8]),
  (13, 1, .iload_n 2, []),
  (14, 1, .iastore, []),
  (15, 1, .aload_n 0, []),
  (16, 3, .getfield 15, [4, 2, 2, 0, 113]),
  (19, 1, .iload_n 1, []),
  (20, 1, .iload_n 3, []),
  (21, 1, .bastore, [1]),
  (22, 1, .return_, [])]
theorem po_Col_set : ma_ok me_Col_set pr_Col_set := ma_ok_of (by decide +kernel)
theorem pa_Col_set_0 : pr_Col_set[0]? = some (0, 1, .aload_n 0, []) := rfl
theorem pa_Col_set_1 : pr_Col_set[1]? = some (1, 3, .getfield 9, [4, 1, 2, 0, 110]) := rfl
theorem pa_Col_set_2 : pr_Col_set[2]? = some (4, 1, .iload_n 1, []) := rfl
theorem pa_Col_set_3 : pr_Col_set[3]? = some (5, 1, .iload_n 3, []) := rfl
theorem pa_Col_set_4 : pr_Col_set[4]? = some (6, 3, .ifCond .eq (7), [7]) := rfl
theorem pa_Col_set_5 : pr_Col_set[5]? = some (9, 1, .iconst 0, [0, 0]) := rfl
theorem pa_Col_set_6 : pr_Col_set[6]? = some (10, 3, .goto (4), [8]) := rfl
theorem pa_Col_set_7 : pr_Col_set[7]? = some (13, 1, .iload_n 2, []) := rfl
theorem pa_Col_set_8 : pr_Col_set[8]? = some (14, 1, .iastore, []) := rfl
theorem pa_Col_set_9 : pr_Col_set[9]? = some (15, 1, .aload_n 0, []) := rfl
theorem pa_Col_set_10 : pr_Col_set[10]? = some (16, 3, .getfield 15, [4, 2, 2, 0, 113]) := rfl
theorem pa_Col_set_11 : pr_Col_set[11]? = some (19, 1, .iload_n 1, []) := rfl
theorem pa_Col_set_12 : pr_Col_set[12]? = some (20, 1, .iload_n 3, []) := rfl
theorem pa_Col_set_13 : pr_Col_set[13]? = some (21, 1, .bastore, [1]) := rfl
theorem pa_Col_set_14 : pr_Col_set[14]? = some (22, 1, .return_, []) := rfl
def pa_Col_set := And.intro pa_Col_set_0 (And.intro pa_Col_set_1 (And.intro pa_Col_set_2 (And.intro pa_Col_set_3 (And.intro pa_Col_set_4 (And.intro pa_Col_set_5 (And.intro pa_Col_set_6 (And.intro pa_Col_set_7 (And.intro pa_Col_set_8 (And.intro pa_Col_set_9 (And.intro pa_Col_set_10 (And.intro pa_Col_set_11 (And.intro pa_Col_set_12 (And.intro pa_Col_set_13 (pa_Col_set_14))))))))))))))
def pr_Dec_loseBlock : List ma_E := [(0, 1, .aload_n 0, []),
  (1, 3, .getfield 44, [5, 10, 2, 0, 197]),
  (4, 1, .iload_n 1, []),
  (5, 1, .iconst (-1), [1, 1]),
  (6, 1, .iastore, []),
  (7, 1, .iconst 0, [0, 0]),
  (8, 1, .istore_n 2, []),
  (9, 1, .iload_n 2, []),
  (10, 2, .bipush 40, [40, 0]),
  (12, 3, .if_icmp .ge (21), [21]),
  (15, 1, .aload_n 0, []),
  (16, 3, .getfield 38, [5, 8, 2, 0, 193]),
  (19, 1, .iload_n 1, []),
  (20, 2, .bipush 40, [40, 0]),
  (22, 1, .imul, []),
  (23, 1, .iload_n 2, []),
  (24, 1, .iadd, []),
  (25, 1, .iconst 0, [0, 0]),
  (26, 1, .iastore, []),
  (27, 3, .iinc 2 (1), [1, 0]),
  (30, 3, .goto (-21), [7]),
  (33, 1, .return_, [])]
theorem po_Dec_loseBlock : ma_ok me_Dec_loseBlock pr_Dec_loseBlock := ma_ok_of (by decide +kernel)
theorem pa_Dec_loseBlock_0 : pr_Dec_loseBlock[0]? = some (0, 1, .aload_n 0, []) := rfl
theorem pa_Dec_loseBlock_1 : pr_Dec_loseBlock[1]? = some (1, 3, .getfield 44, [5, 10, 2, 0, 197]) := rfl
theorem pa_Dec_loseBlock_2 : pr_Dec_loseBlock[2]? = some (4, 1, .iload_n 1, []) := rfl
theorem pa_Dec_loseBlock_3 : pr_Dec_loseBlock[3]? = some (5, 1, .iconst (-1), [1, 1]) := rfl
theorem pa_Dec_loseBlock_4 : pr_Dec_loseBlock[4]? = some (6, 1, .iastore, []) := rfl
theorem pa_Dec_loseBlock_5 : pr_Dec_loseBlock[5]? = some (7, 1, .iconst 0, [0, 0]) := rfl
theorem pa_Dec_loseBlock_6 : pr_Dec_loseBlock[6]? = some (8, 1, .istore_n 2, []) := rfl
theorem pa_Dec_loseBlock_7 : pr_Dec_loseBlock[7]? = some (9, 1, .iload_n 2, []) := rfl
theorem pa_Dec_loseBlock_8 : pr_Dec_loseBlock[8]? = some (10, 2, .bipush 40, [40, 0]) := rfl
theorem pa_Dec_loseBlock_9 : pr_Dec_loseBlock[9]? = some (12, 3, .if_icmp .ge (21), [21]) := rfl
theorem pa_Dec_loseBlock_10 : pr_Dec_loseBlock[10]? = some (15, 1, .aload_n 0, []) := rfl
theorem pa_Dec_loseBlock_11 : pr_Dec_loseBlock[11]? = some (16, 3, .getfield 38, [5, 8, 2, 0, 193]) := rfl
theorem pa_Dec_loseBlock_12 : pr_Dec_loseBlock[12]? = some (19, 1, .iload_n 1, []) := rfl
theorem pa_Dec_loseBlock_13 : pr_Dec_loseBlock[13]? = some (20, 2, .bipush 40, [40, 0]) := rfl
theorem pa_Dec_loseBlock_14 : pr_Dec_loseBlock[14]? = some (22, 1, .imul, []) := rfl
theorem pa_Dec_loseBlock_15 : pr_Dec_loseBlock[15]? = some (23, 1, .iload_n 2, []) := rfl
theorem pa_Dec_loseBlock_16 : pr_Dec_loseBlock[16]? = some (24, 1, .iadd, []) := rfl
theorem pa_Dec_loseBlock_17 : pr_Dec_loseBlock[17]? = some (25, 1, .iconst 0, [0, 0]) := rfl
theorem pa_Dec_loseBlock_18 : pr_Dec_loseBlock[18]? = some (26, 1, .iastore, []) := rfl
theorem pa_Dec_loseBlock_19 : pr_Dec_loseBlock[19]? = some (27, 3, .iinc 2 (1), [1, 0]) := rfl
theorem pa_Dec_loseBlock_20 : pr_Dec_loseBlock[20]? = some (30, 3, .goto (-21), [7]) := rfl
theorem pa_Dec_loseBlock_21 : pr_Dec_loseBlock[21]? = some (33, 1, .return_, []) := rfl
def pa_Dec_loseBlock := And.intro pa_Dec_loseBlock_0 (And.intro pa_Dec_loseBlock_1 (And.intro pa_Dec_loseBlock_2 (And.intro pa_Dec_loseBlock_3 (And.intro pa_Dec_loseBlock_4 (And.intro pa_Dec_loseBlock_5 (And.intro pa_Dec_loseBlock_6 (And.intro pa_Dec_loseBlock_7 (And.intro pa_Dec_loseBlock_8 (And.intro pa_Dec_loseBlock_9 (And.intro pa_Dec_loseBlock_10 (And.intro pa_Dec_loseBlock_11 (And.intro pa_Dec_loseBlock_12 (And.intro pa_Dec_loseBlock_13 (And.intro pa_Dec_loseBlock_14 (And.intro pa_Dec_loseBlock_15 (And.intro pa_Dec_loseBlock_16 (And.intro pa_Dec_loseBlock_17 (And.intro pa_Dec_loseBlock_18 (And.intro pa_Dec_loseBlock_19 (And.intro pa_Dec_loseBlock_20 (pa_Dec_loseBlock_21)))))))))))))))))))))
def pr_Dec_settleSlots : List ma_E := [(0, 1, .aload_n 0, []),
  (1, 3, .getfield 41, [5, 9, 2, 0, 195]),
  (4, 1, .iload_n 1, []),
  (5, 1, .iconst 0, [0, 0]),
  (6, 1, .iastore, []),
  (7, 1, .iconst 0, [0, 0]),
  (8, 1, .istore_n 2, []),
  (9, 1, .iload_n 2, []),
  (10, 2, .bipush 16, [16, 0]),
  (12, 3, .if_icmp .ge (59), [45]),
  (15, 1, .aload_n 0, []),
  (16, 3, .getfield 18, [5, 2, 2, 0, 184]),
  (19, 1, .iload_n 1, []),
  (20, 2, .bipush 16, [16, 0]),
  (22, 1, .imul, []),
  (23, 1, .iload_n 2, []),
  (24, 1, .iadd, []),
  (25, 1, .iaload, []),
  (26, 1, .istore_n 3, []),
  (27, 1, .aload_n 0, []),
  (28, 3, .getfield 41, [5, 9, 2, 0, 195]),
  (31, 1, .iload_n 1, []),
  (32, 1, .dup2, []),
  (33, 1, .iaload, []),
  (34, 1, .iload_n 3, []),
  (35, 1, .iconst 1, [1, 0]),
  (36, 3, .if_icmp .ne (7), [29]),
  (39, 1, .iconst 0, [0, 0]),
  (40, 3, .goto (4), [30]),
  (43, 1, .iconst 1, [1, 0]),
  (44, 1, .iadd, []),
  (45, 1, .iastore, []),
  (46, 1, .aload_n 0, []),
  (47, 1, .dup, []),
  (48, 3, .getfield 35, [5, 7, 0, 0, 191]),
  (51, 1, .iload_n 3, []),
  (52, 1, .iconst 1, [1, 0]),
  (53, 3, .if_icmp .le (7), [40]),
  (56, 1, .iload_n 3, []),
  (57, 3, .goto (4), [41]),
  (60, 1, .iconst 0, [0, 0]),
  (61, 1, .iadd, []),
  (62, 3, .putfield 35, [5, 7, 0, 0, 191]),
  (65, 3, .iinc 2 (1), [1, 0]),
  (68, 3, .goto (-59), [7]),
  (71, 1, .return_, [])]
theorem po_Dec_settleSlots : ma_ok me_Dec_settleSlots pr_Dec_settleSlots := ma_ok_of (by decide +kernel)
theorem pa_Dec_settleSlots_0 : pr_Dec_settleSlots[0]? = some (0, 1, .aload_n 0, []) := rfl
theorem pa_Dec_settleSlots_1 : pr_Dec_settleSlots[1]? = some (1, 3, .getfield 41, [5, 9, 2, 0, 195]) := rfl
theorem pa_Dec_settleSlots_2 : pr_Dec_settleSlots[2]? = some (4, 1, .iload_n 1, []) := rfl
theorem pa_Dec_settleSlots_3 : pr_Dec_settleSlots[3]? = some (5, 1, .iconst 0, [0, 0]) := rfl
theorem pa_Dec_settleSlots_4 : pr_Dec_settleSlots[4]? = some (6, 1, .iastore, []) := rfl
theorem pa_Dec_settleSlots_5 : pr_Dec_settleSlots[5]? = some (7, 1, .iconst 0, [0, 0]) := rfl
theorem pa_Dec_settleSlots_6 : pr_Dec_settleSlots[6]? = some (8, 1, .istore_n 2, []) := rfl
theorem pa_Dec_settleSlots_7 : pr_Dec_settleSlots[7]? = some (9, 1, .iload_n 2, []) := rfl
theorem pa_Dec_settleSlots_8 : pr_Dec_settleSlots[8]? = some (10, 2, .bipush 16, [16, 0]) := rfl
theorem pa_Dec_settleSlots_9 : pr_Dec_settleSlots[9]? = some (12, 3, .if_icmp .ge (59), [45]) := rfl
theorem pa_Dec_settleSlots_10 : pr_Dec_settleSlots[10]? = some (15, 1, .aload_n 0, []) := rfl
theorem pa_Dec_settleSlots_11 : pr_Dec_settleSlots[11]? = some (16, 3, .getfield 18, [5, 2, 2, 0, 184]) := rfl
theorem pa_Dec_settleSlots_12 : pr_Dec_settleSlots[12]? = some (19, 1, .iload_n 1, []) := rfl
theorem pa_Dec_settleSlots_13 : pr_Dec_settleSlots[13]? = some (20, 2, .bipush 16, [16, 0]) := rfl
theorem pa_Dec_settleSlots_14 : pr_Dec_settleSlots[14]? = some (22, 1, .imul, []) := rfl
theorem pa_Dec_settleSlots_15 : pr_Dec_settleSlots[15]? = some (23, 1, .iload_n 2, []) := rfl
theorem pa_Dec_settleSlots_16 : pr_Dec_settleSlots[16]? = some (24, 1, .iadd, []) := rfl
theorem pa_Dec_settleSlots_17 : pr_Dec_settleSlots[17]? = some (25, 1, .iaload, []) := rfl
theorem pa_Dec_settleSlots_18 : pr_Dec_settleSlots[18]? = some (26, 1, .istore_n 3, []) := rfl
theorem pa_Dec_settleSlots_19 : pr_Dec_settleSlots[19]? = some (27, 1, .aload_n 0, []) := rfl
theorem pa_Dec_settleSlots_20 : pr_Dec_settleSlots[20]? = some (28, 3, .getfield 41, [5, 9, 2, 0, 195]) := rfl
theorem pa_Dec_settleSlots_21 : pr_Dec_settleSlots[21]? = some (31, 1, .iload_n 1, []) := rfl
theorem pa_Dec_settleSlots_22 : pr_Dec_settleSlots[22]? = some (32, 1, .dup2, []) := rfl
theorem pa_Dec_settleSlots_23 : pr_Dec_settleSlots[23]? = some (33, 1, .iaload, []) := rfl
theorem pa_Dec_settleSlots_24 : pr_Dec_settleSlots[24]? = some (34, 1, .iload_n 3, []) := rfl
theorem pa_Dec_settleSlots_25 : pr_Dec_settleSlots[25]? = some (35, 1, .iconst 1, [1, 0]) := rfl
theorem pa_Dec_settleSlots_26 : pr_Dec_settleSlots[26]? = some (36, 3, .if_icmp .ne (7), [29]) := rfl
theorem pa_Dec_settleSlots_27 : pr_Dec_settleSlots[27]? = some (39, 1, .iconst 0, [0, 0]) := rfl
theorem pa_Dec_settleSlots_28 : pr_Dec_settleSlots[28]? = some (40, 3, .goto (4), [30]) := rfl
theorem pa_Dec_settleSlots_29 : pr_Dec_settleSlots[29]? = some (43, 1, .iconst 1, [1, 0]) := rfl
theorem pa_Dec_settleSlots_30 : pr_Dec_settleSlots[30]? = some (44, 1, .iadd, []) := rfl
theorem pa_Dec_settleSlots_31 : pr_Dec_settleSlots[31]? = some (45, 1, .iastore, []) := rfl
theorem pa_Dec_settleSlots_32 : pr_Dec_settleSlots[32]? = some (46, 1, .aload_n 0, []) := rfl
theorem pa_Dec_settleSlots_33 : pr_Dec_settleSlots[33]? = some (47, 1, .dup, []) := rfl
theorem pa_Dec_settleSlots_34 : pr_Dec_settleSlots[34]? = some (48, 3, .getfield 35, [5, 7, 0, 0, 191]) := rfl
theorem pa_Dec_settleSlots_35 : pr_Dec_settleSlots[35]? = some (51, 1, .iload_n 3, []) := rfl
theorem pa_Dec_settleSlots_36 : pr_Dec_settleSlots[36]? = some (52, 1, .iconst 1, [1, 0]) := rfl
theorem pa_Dec_settleSlots_37 : pr_Dec_settleSlots[37]? = some (53, 3, .if_icmp .le (7), [40]) := rfl
theorem pa_Dec_settleSlots_38 : pr_Dec_settleSlots[38]? = some (56, 1, .iload_n 3, []) := rfl
theorem pa_Dec_settleSlots_39 : pr_Dec_settleSlots[39]? = some (57, 3, .goto (4), [41]) := rfl
theorem pa_Dec_settleSlots_40 : pr_Dec_settleSlots[40]? = some (60, 1, .iconst 0, [0, 0]) := rfl
theorem pa_Dec_settleSlots_41 : pr_Dec_settleSlots[41]? = some (61, 1, .iadd, []) := rfl
theorem pa_Dec_settleSlots_42 : pr_Dec_settleSlots[42]? = some (62, 3, .putfield 35, [5, 7, 0, 0, 191]) := rfl
theorem pa_Dec_settleSlots_43 : pr_Dec_settleSlots[43]? = some (65, 3, .iinc 2 (1), [1, 0]) := rfl
theorem pa_Dec_settleSlots_44 : pr_Dec_settleSlots[44]? = some (68, 3, .goto (-59), [7]) := rfl
theorem pa_Dec_settleSlots_45 : pr_Dec_settleSlots[45]? = some (71, 1, .return_, []) := rfl
def pa_Dec_settleSlots := And.intro pa_Dec_settleSlots_0 (And.intro pa_Dec_settleSlots_1 (And.intro pa_Dec_settleSlots_2 (And.intro pa_Dec_settleSlots_3 (And.intro pa_Dec_settleSlots_4 (And.intro pa_Dec_settleSlots_5 (And.intro pa_Dec_settleSlots_6 (And.intro pa_Dec_settleSlots_7 (And.intro pa_Dec_settleSlots_8 (And.intro pa_Dec_settleSlots_9 (And.intro pa_Dec_settleSlots_10 (And.intro pa_Dec_settleSlots_11 (And.intro pa_Dec_settleSlots_12 (And.intro pa_Dec_settleSlots_13 (And.intro pa_Dec_settleSlots_14 (And.intro pa_Dec_settleSlots_15 (And.intro pa_Dec_settleSlots_16 (And.intro pa_Dec_settleSlots_17 (And.intro pa_Dec_settleSlots_18 (And.intro pa_Dec_settleSlots_19 (And.intro pa_Dec_settleSlots_20 (And.intro pa_Dec_settleSlots_21 (And.intro pa_Dec_settleSlots_22 (And.intro pa_Dec_settleSlots_23 (And.intro pa_Dec_settleSlots_24 (And.intro pa_Dec_settleSlots_25 (And.intro pa_Dec_settleSlots_26 (And.intro pa_Dec_settleSlots_27 (And.intro pa_Dec_settleSlots_28 (And.intro pa_Dec_settleSlots_29 (And.intro pa_Dec_settleSlots_30 (And.intro pa_Dec_settleSlots_31 (And.intro pa_Dec_settleSlots_32 (And.intro pa_Dec_settleSlots_33 (And.intro pa_Dec_settleSlots_34 (And.intro pa_Dec_settleSlots_35 (And.intro pa_Dec_settleSlots_36 (And.intro pa_Dec_settleSlots_37 (And.intro pa_Dec_settleSlots_38 (And.intro pa_Dec_settleSlots_39 (And.intro pa_Dec_settleSlots_40 (And.intro pa_Dec_settleSlots_41 (And.intro pa_Dec_settleSlots_42 (And.intro pa_Dec_settleSlots_43 (And.intro pa_Dec_settleSlots_44 (pa_Dec_settleSlots_45)))))))))))))))))))))))))))))))))))))))))))))
def pr_Arc_blocksOf : List ma_E := [(0, 1, .iload_n 0, []),
  (1, 2, .bipush 40, [40, 0]),
  (3, 1, .iadd, []),
  (4, 1, .iconst 1, [1, 0]),
  (5, 1, .isub, []),
  (6, 2, .bipush 40, [40, 0]),
  (8, 1, .idiv, []),
  (9, 1, .ireturn, [0])]
theorem po_Arc_blocksOf : ma_ok me_Arc_blocksOf pr_Arc_blocksOf := ma_ok_of (by decide +kernel)
theorem pa_Arc_blocksOf_0 : pr_Arc_blocksOf[0]? = some (0, 1, .iload_n 0, []) := rfl
theorem pa_Arc_blocksOf_1 : pr_Arc_blocksOf[1]? = some (1, 2, .bipush 40, [40, 0]) := rfl
theorem pa_Arc_blocksOf_2 : pr_Arc_blocksOf[2]? = some (3, 1, .iadd, []) := rfl
theorem pa_Arc_blocksOf_3 : pr_Arc_blocksOf[3]? = some (4, 1, .iconst 1, [1, 0]) := rfl
theorem pa_Arc_blocksOf_4 : pr_Arc_blocksOf[4]? = some (5, 1, .isub, []) := rfl
theorem pa_Arc_blocksOf_5 : pr_Arc_blocksOf[5]? = some (6, 2, .bipush 40, [40, 0]) := rfl
theorem pa_Arc_blocksOf_6 : pr_Arc_blocksOf[6]? = some (8, 1, .idiv, []) := rfl
theorem pa_Arc_blocksOf_7 : pr_Arc_blocksOf[7]? = some (9, 1, .ireturn, [0]) := rfl
def pa_Arc_blocksOf := And.intro pa_Arc_blocksOf_0 (And.intro pa_Arc_blocksOf_1 (And.intro pa_Arc_blocksOf_2 (And.intro pa_Arc_blocksOf_3 (And.intro pa_Arc_blocksOf_4 (And.intro pa_Arc_blocksOf_5 (And.intro pa_Arc_blocksOf_6 (pa_Arc_blocksOf_7)))))))
def pr_Arc_clear : List ma_E := [(0, 1, .aload_n 0, []),
  (1, 1, .iconst 0, [0, 0]),
  (2, 3, .putfield 28, [6, 4, 0, 0, 226]),
  (5, 1, .return_, [])]
theorem po_Arc_clear : ma_ok me_Arc_clear pr_Arc_clear := ma_ok_of (by decide +kernel)
theorem pa_Arc_clear_0 : pr_Arc_clear[0]? = some (0, 1, .aload_n 0, []) := rfl
theorem pa_Arc_clear_1 : pr_Arc_clear[1]? = some (1, 1, .iconst 0, [0, 0]) := rfl
theorem pa_Arc_clear_2 : pr_Arc_clear[2]? = some (2, 3, .putfield 28, [6, 4, 0, 0, 226]) := rfl
theorem pa_Arc_clear_3 : pr_Arc_clear[3]? = some (5, 1, .return_, []) := rfl
def pa_Arc_clear := And.intro pa_Arc_clear_0 (And.intro pa_Arc_clear_1 (And.intro pa_Arc_clear_2 (pa_Arc_clear_3)))
def pr_Arc_count : List ma_E := [(0, 1, .iload_n 1, []),
  (1, 27, .tableswitch 51 0 2 #[27, 35, 43], [14, 2, 6, 10]),
  (28, 1, .aload_n 0, []),
  (29, 3, .getfield 62, [6, 9, 2, 0, 231]),
  (32, 3, .getfield 132, [5, 5, 0, 1, 9]),
  (35, 1, .ireturn, [0]),
  (36, 1, .aload_n 0, []),
  (37, 3, .getfield 62, [6, 9, 2, 0, 231]),
  (40, 3, .getfield 139, [5, 6, 0, 1, 10]),
  (43, 1, .ireturn, [0]),
  (44, 1, .aload_n 0, []),
  (45, 3, .getfield 62, [6, 9, 2, 0, 231]),
  (48, 3, .getfield 142, [5, 7, 0, 1, 11]),
  (51, 1, .ireturn, [0]),
  (52, 1, .iconst (-1), [1, 1]),
  (53, 1, .ireturn, [0])]
theorem po_Arc_count : ma_ok me_Arc_count pr_Arc_count := ma_ok_of (by decide +kernel)
theorem pa_Arc_count_0 : pr_Arc_count[0]? = some (0, 1, .iload_n 1, []) := rfl
theorem pa_Arc_count_1 : pr_Arc_count[1]? = some (1, 27, .tableswitch 51 0 2 #[27, 35, 43], [14, 2, 6, 10]) := rfl
theorem pa_Arc_count_2 : pr_Arc_count[2]? = some (28, 1, .aload_n 0, []) := rfl
theorem pa_Arc_count_3 : pr_Arc_count[3]? = some (29, 3, .getfield 62, [6, 9, 2, 0, 231]) := rfl
theorem pa_Arc_count_4 : pr_Arc_count[4]? = some (32, 3, .getfield 132, [5, 5, 0, 1, 9]) := rfl
theorem pa_Arc_count_5 : pr_Arc_count[5]? = some (35, 1, .ireturn, [0]) := rfl
theorem pa_Arc_count_6 : pr_Arc_count[6]? = some (36, 1, .aload_n 0, []) := rfl
theorem pa_Arc_count_7 : pr_Arc_count[7]? = some (37, 3, .getfield 62, [6, 9, 2, 0, 231]) := rfl
theorem pa_Arc_count_8 : pr_Arc_count[8]? = some (40, 3, .getfield 139, [5, 6, 0, 1, 10]) := rfl
theorem pa_Arc_count_9 : pr_Arc_count[9]? = some (43, 1, .ireturn, [0]) := rfl
theorem pa_Arc_count_10 : pr_Arc_count[10]? = some (44, 1, .aload_n 0, []) := rfl
theorem pa_Arc_count_11 : pr_Arc_count[11]? = some (45, 3, .getfield 62, [6, 9, 2, 0, 231]) := rfl
theorem pa_Arc_count_12 : pr_Arc_count[12]? = some (48, 3, .getfield 142, [5, 7, 0, 1, 11]) := rfl
theorem pa_Arc_count_13 : pr_Arc_count[13]? = some (51, 1, .ireturn, [0]) := rfl
theorem pa_Arc_count_14 : pr_Arc_count[14]? = some (52, 1, .iconst (-1), [1, 1]) := rfl
theorem pa_Arc_count_15 : pr_Arc_count[15]? = some (53, 1, .ireturn, [0]) := rfl
def pa_Arc_count := And.intro pa_Arc_count_0 (And.intro pa_Arc_count_1 (And.intro pa_Arc_count_2 (And.intro pa_Arc_count_3 (And.intro pa_Arc_count_4 (And.intro pa_Arc_count_5 (And.intro pa_Arc_count_6 (And.intro pa_Arc_count_7 (And.intro pa_Arc_count_8 (And.intro pa_Arc_count_9 (And.intro pa_Arc_count_10 (And.intro pa_Arc_count_11 (And.intro pa_Arc_count_12 (And.intro pa_Arc_count_13 (And.intro pa_Arc_count_14 (pa_Arc_count_15)))))))))))))))
def pr_Arc_heap : List ma_E := [(0, 1, .aload_n 0, []),
  (1, 3, .getfield 28, [6, 4, 0, 0, 226]),
  (4, 1, .ireturn, [0])]
theorem po_Arc_heap : ma_ok me_Arc_heap pr_Arc_heap := ma_ok_of (by decide +kernel)
theorem pa_Arc_heap_0 : pr_Arc_heap[0]? = some (0, 1, .aload_n 0, []) := rfl
theorem pa_Arc_heap_1 : pr_Arc_heap[1]? = some (1, 3, .getfield 28, [6, 4, 0, 0, 226]) := rfl
theorem pa_Arc_heap_2 : pr_Arc_heap[2]? = some (4, 1, .ireturn, [0]) := rfl
def pa_Arc_heap := And.intro pa_Arc_heap_0 (And.intro pa_Arc_heap_1 (pa_Arc_heap_2))
def pr_Arc_isFull : List ma_E := [(0, 1, .aload_n 0, []),
  (1, 3, .getfield 28, [6, 4, 0, 0, 226]),
  (4, 2, .bipush 90, [90, 0]),
  (6, 3, .if_icmp .lt (7), [6]),
  (9, 1, .iconst 1, [1, 0]),
  (10, 3, .goto (4), [7]),
  (13, 1, .iconst 0, [0, 0]),
  (14, 1, .ireturn, [1])]
theorem po_Arc_isFull : ma_ok me_Arc_isFull pr_Arc_isFull := ma_ok_of (by decide +kernel)
theorem pa_Arc_isFull_0 : pr_Arc_isFull[0]? = some (0, 1, .aload_n 0, []) := rfl
theorem pa_Arc_isFull_1 : pr_Arc_isFull[1]? = some (1, 3, .getfield 28, [6, 4, 0, 0, 226]) := rfl
theorem pa_Arc_isFull_2 : pr_Arc_isFull[2]? = some (4, 2, .bipush 90, [90, 0]) := rfl
theorem pa_Arc_isFull_3 : pr_Arc_isFull[3]? = some (6, 3, .if_icmp .lt (7), [6]) := rfl
theorem pa_Arc_isFull_4 : pr_Arc_isFull[4]? = some (9, 1, .iconst 1, [1, 0]) := rfl
theorem pa_Arc_isFull_5 : pr_Arc_isFull[5]? = some (10, 3, .goto (4), [7]) := rfl
theorem pa_Arc_isFull_6 : pr_Arc_isFull[6]? = some (13, 1, .iconst 0, [0, 0]) := rfl
theorem pa_Arc_isFull_7 : pr_Arc_isFull[7]? = some (14, 1, .ireturn, [1]) := rfl
def pa_Arc_isFull := And.intro pa_Arc_isFull_0 (And.intro pa_Arc_isFull_1 (And.intro pa_Arc_isFull_2 (And.intro pa_Arc_isFull_3 (And.intro pa_Arc_isFull_4 (And.intro pa_Arc_isFull_5 (And.intro pa_Arc_isFull_6 (pa_Arc_isFull_7)))))))
def pr_Arc_isSize : List ma_E := [(0, 1, .iload_n 0, []),
  (1, 1, .iconst 1, [1, 0]),
  (2, 3, .if_icmp .lt (14), [8]),
  (5, 1, .iload_n 0, []),
  (6, 3, .sipush 160, [160, 0]),
  (9, 3, .if_icmp .gt (7), [8]),
  (12, 1, .iconst 1, [1, 0]),
  (13, 3, .goto (4), [9]),
  (16, 1, .iconst 0, [0, 0]),
  (17, 1, .ireturn, [1])]
theorem po_Arc_isSize : ma_ok me_Arc_isSize pr_Arc_isSize := ma_ok_of (by decide +kernel)
theorem pa_Arc_isSize_0 : pr_Arc_isSize[0]? = some (0, 1, .iload_n 0, []) := rfl
theorem pa_Arc_isSize_1 : pr_Arc_isSize[1]? = some (1, 1, .iconst 1, [1, 0]) := rfl
theorem pa_Arc_isSize_2 : pr_Arc_isSize[2]? = some (2, 3, .if_icmp .lt (14), [8]) := rfl
theorem pa_Arc_isSize_3 : pr_Arc_isSize[3]? = some (5, 1, .iload_n 0, []) := rfl
theorem pa_Arc_isSize_4 : pr_Arc_isSize[4]? = some (6, 3, .sipush 160, [160, 0]) := rfl
theorem pa_Arc_isSize_5 : pr_Arc_isSize[5]? = some (9, 3, .if_icmp .gt (7), [8]) := rfl
theorem pa_Arc_isSize_6 : pr_Arc_isSize[6]? = some (12, 1, .iconst 1, [1, 0]) := rfl
theorem pa_Arc_isSize_7 : pr_Arc_isSize[7]? = some (13, 3, .goto (4), [9]) := rfl
theorem pa_Arc_isSize_8 : pr_Arc_isSize[8]? = some (16, 1, .iconst 0, [0, 0]) := rfl
theorem pa_Arc_isSize_9 : pr_Arc_isSize[9]? = some (17, 1, .ireturn, [1]) := rfl
def pa_Arc_isSize := And.intro pa_Arc_isSize_0 (And.intro pa_Arc_isSize_1 (And.intro pa_Arc_isSize_2 (And.intro pa_Arc_isSize_3 (And.intro pa_Arc_isSize_4 (And.intro pa_Arc_isSize_5 (And.intro pa_Arc_isSize_6 (And.intro pa_Arc_isSize_7 (And.intro pa_Arc_isSize_8 (pa_Arc_isSize_9)))))))))
def pr_Arc_isWritten : List ma_E := [(0, 1, .iload_n 1, []),
  (1, 3, .ifCond .lt (15), [8]),
  (4, 1, .iload_n 1, []),
  (5, 1, .aload_n 0, []),
  (6, 3, .getfield 21, [6, 2, 0, 0, 224]),
  (9, 3, .if_icmp .ge (7), [8]),
  (12, 1, .iconst 1, [1, 0]),
  (13, 3, .goto (4), [9]),
  (16, 1, .iconst 0, [0, 0]),
  (17, 1, .ireturn, [1])]
theorem po_Arc_isWritten : ma_ok me_Arc_isWritten pr_Arc_isWritten := ma_ok_of (by decide +kernel)
theorem pa_Arc_isWritten_0 : pr_Arc_isWritten[0]? = some (0, 1, .iload_n 1, []) := rfl
theorem pa_Arc_isWritten_1 : pr_Arc_isWritten[1]? = some (1, 3, .ifCond .lt (15), [8]) := rfl
theorem pa_Arc_isWritten_2 : pr_Arc_isWritten[2]? = some (4, 1, .iload_n 1, []) := rfl
theorem pa_Arc_isWritten_3 : pr_Arc_isWritten[3]? = some (5, 1, .aload_n 0, []) := rfl
theorem pa_Arc_isWritten_4 : pr_Arc_isWritten[4]? = some (6, 3, .getfield 21, [6, 2, 0, 0, 224]) := rfl
theorem pa_Arc_isWritten_5 : pr_Arc_isWritten[5]? = some (9, 3, .if_icmp .ge (7), [8]) := rfl
theorem pa_Arc_isWritten_6 : pr_Arc_isWritten[6]? = some (12, 1, .iconst 1, [1, 0]) := rfl
theorem pa_Arc_isWritten_7 : pr_Arc_isWritten[7]? = some (13, 3, .goto (4), [9]) := rfl
theorem pa_Arc_isWritten_8 : pr_Arc_isWritten[8]? = some (16, 1, .iconst 0, [0, 0]) := rfl
theorem pa_Arc_isWritten_9 : pr_Arc_isWritten[9]? = some (17, 1, .ireturn, [1]) := rfl
def pa_Arc_isWritten := And.intro pa_Arc_isWritten_0 (And.intro pa_Arc_isWritten_1 (And.intro pa_Arc_isWritten_2 (And.intro pa_Arc_isWritten_3 (And.intro pa_Arc_isWritten_4 (And.intro pa_Arc_isWritten_5 (And.intro pa_Arc_isWritten_6 (And.intro pa_Arc_isWritten_7 (And.intro pa_Arc_isWritten_8 (pa_Arc_isWritten_9)))))))))
def pr_Arc_load : List ma_E := [(0, 1, .iload_n 1, []),
  (1, 3, .ifCond .lt (10), [5]),
  (4, 1, .iload_n 1, []),
  (5, 3, .sipush 160, [160, 0]),
  (8, 3, .if_icmp .lt (5), [7]),
  (11, 1, .iconst 0, [0, 0]),
  (12, 1, .ireturn, [1]),
  (13, 1, .aload_n 0, []),
  (14, 3, .getfield 9, [6, 0, 2, 0, 222]),
  (17, 1, .iload_n 1, []),
  (18, 1, .iload_n 2, []),
  (19, 3, .sipush 255, [255, 0]),
  (22, 1, .iand, []),
  (23, 1, .iastore, []),
  (24, 1, .iconst 1, [1, 0]),
  (25, 1, .ireturn, [1])]
theorem po_Arc_load : ma_ok me_Arc_load pr_Arc_load := ma_ok_of (by decide +kernel)
theorem pa_Arc_load_0 : pr_Arc_load[0]? = some (0, 1, .iload_n 1, []) := rfl
theorem pa_Arc_load_1 : pr_Arc_load[1]? = some (1, 3, .ifCond .lt (10), [5]) := rfl
theorem pa_Arc_load_2 : pr_Arc_load[2]? = some (4, 1, .iload_n 1, []) := rfl
theorem pa_Arc_load_3 : pr_Arc_load[3]? = some (5, 3, .sipush 160, [160, 0]) := rfl
theorem pa_Arc_load_4 : pr_Arc_load[4]? = some (8, 3, .if_icmp .lt (5), [7]) := rfl
theorem pa_Arc_load_5 : pr_Arc_load[5]? = some (11, 1, .iconst 0, [0, 0]) := rfl
theorem pa_Arc_load_6 : pr_Arc_load[6]? = some (12, 1, .ireturn, [1]) := rfl
theorem pa_Arc_load_7 : pr_Arc_load[7]? = some (13, 1, .aload_n 0, []) := rfl
theorem pa_Arc_load_8 : pr_Arc_load[8]? = some (14, 3, .getfield 9, [6, 0, 2, 0, 222]) := rfl
theorem pa_Arc_load_9 : pr_Arc_load[9]? = some (17, 1, .iload_n 1, []) := rfl
theorem pa_Arc_load_10 : pr_Arc_load[10]? = some (18, 1, .iload_n 2, []) := rfl
theorem pa_Arc_load_11 : pr_Arc_load[11]? = some (19, 3, .sipush 255, [255, 0]) := rfl
theorem pa_Arc_load_12 : pr_Arc_load[12]? = some (22, 1, .iand, []) := rfl
theorem pa_Arc_load_13 : pr_Arc_load[13]? = some (23, 1, .iastore, []) := rfl
theorem pa_Arc_load_14 : pr_Arc_load[14]? = some (24, 1, .iconst 1, [1, 0]) := rfl
theorem pa_Arc_load_15 : pr_Arc_load[15]? = some (25, 1, .ireturn, [1]) := rfl
def pa_Arc_load := And.intro pa_Arc_load_0 (And.intro pa_Arc_load_1 (And.intro pa_Arc_load_2 (And.intro pa_Arc_load_3 (And.intro pa_Arc_load_4 (And.intro pa_Arc_load_5 (And.intro pa_Arc_load_6 (And.intro pa_Arc_load_7 (And.intro pa_Arc_load_8 (And.intro pa_Arc_load_9 (And.intro pa_Arc_load_10 (And.intro pa_Arc_load_11 (And.intro pa_Arc_load_12 (And.intro pa_Arc_load_13 (And.intro pa_Arc_load_14 (pa_Arc_load_15)))))))))))))))
def pr_Arc_nextRead : List ma_E := [(0, 1, .aload_n 0, []),
  (1, 1, .dup, []),
  (2, 3, .getfield 28, [6, 4, 0, 0, 226]),
  (5, 1, .iconst 1, [1, 0]),
  (6, 1, .iadd, []),
  (7, 3, .putfield 28, [6, 4, 0, 0, 226]),
  (10, 1, .aload_n 0, []),
  (11, 3, .getfield 25, [6, 3, 2, 0, 225]),
  (14, 1, .aload_n 0, []),
  (15, 3, .getfield 28, [6, 4, 0, 0, 226]),
  (18, 1, .iconst 1, [1, 0]),
  (19, 1, .isub, []),
  (20, 1, .aaload, []),
  (21, 1, .areturn, [])]
theorem po_Arc_nextRead : ma_ok me_Arc_nextRead pr_Arc_nextRead := ma_ok_of (by decide +kernel)
theorem pa_Arc_nextRead_0 : pr_Arc_nextRead[0]? = some (0, 1, .aload_n 0, []) := rfl
theorem pa_Arc_nextRead_1 : pr_Arc_nextRead[1]? = some (1, 1, .dup, []) := rfl
theorem pa_Arc_nextRead_2 : pr_Arc_nextRead[2]? = some (2, 3, .getfield 28, [6, 4, 0, 0, 226]) := rfl
theorem pa_Arc_nextRead_3 : pr_Arc_nextRead[3]? = some (5, 1, .iconst 1, [1, 0]) := rfl
theorem pa_Arc_nextRead_4 : pr_Arc_nextRead[4]? = some (6, 1, .iadd, []) := rfl
theorem pa_Arc_nextRead_5 : pr_Arc_nextRead[5]? = some (7, 3, .putfield 28, [6, 4, 0, 0, 226]) := rfl
theorem pa_Arc_nextRead_6 : pr_Arc_nextRead[6]? = some (10, 1, .aload_n 0, []) := rfl
theorem pa_Arc_nextRead_7 : pr_Arc_nextRead[7]? = some (11, 3, .getfield 25, [6, 3, 2, 0, 225]) := rfl
theorem pa_Arc_nextRead_8 : pr_Arc_nextRead[8]? = some (14, 1, .aload_n 0, []) := rfl
theorem pa_Arc_nextRead_9 : pr_Arc_nextRead[9]? = some (15, 3, .getfield 28, [6, 4, 0, 0, 226]) := rfl
theorem pa_Arc_nextRead_10 : pr_Arc_nextRead[10]? = some (18, 1, .iconst 1, [1, 0]) := rfl
theorem pa_Arc_nextRead_11 : pr_Arc_nextRead[11]? = some (19, 1, .isub, []) := rfl
theorem pa_Arc_nextRead_12 : pr_Arc_nextRead[12]? = some (20, 1, .aaload, []) := rfl
theorem pa_Arc_nextRead_13 : pr_Arc_nextRead[13]? = some (21, 1, .areturn, []) := rfl
def pa_Arc_nextRead := And.intro pa_Arc_nextRead_0 (And.intro pa_Arc_nextRead_1 (And.intro pa_Arc_nextRead_2 (And.intro pa_Arc_nextRead_3 (And.intro pa_Arc_nextRead_4 (And.intro pa_Arc_nextRead_5 (And.intro pa_Arc_nextRead_6 (And.intro pa_Arc_nextRead_7 (And.intro pa_Arc_nextRead_8 (And.intro pa_Arc_nextRead_9 (And.intro pa_Arc_nextRead_10 (And.intro pa_Arc_nextRead_11 (And.intro pa_Arc_nextRead_12 (pa_Arc_nextRead_13)))))))))))))
def pr_Arc_shuffle : List ma_E := [(0, 1, .iload_n 1, []),
  (1, 3, .ifCond .ge (5), [4]),
  (4, 1, .iconst 0, [0, 0]),
  (5, 1, .ireturn, [1]),
  (6, 1, .iload_n 1, []),
  (7, 1, .istore_n 2, []),
  (8, 1, .aload_n 0, []),
  (9, 3, .getfield 28, [6, 4, 0, 0, 226]),
  (12, 1, .iconst 1, [1, 0]),
  (13, 1, .isub, []),
  (14, 1, .istore_n 3, []),
  (15, 1, .iload_n 3, []),
  (16, 1, .iconst 1, [1, 0]),
  (17, 3, .if_icmp .lt (61), [50]),
  (20, 1, .iload_n 2, []),
  (21, 2, .ldc 119, [1103515245, 0, 432]),
  (23, 1, .imul, []),
  (24, 3, .sipush 12345, [12345, 0]),
  (27, 1, .iadd, []),
  (28, 2, .ldc 120, [2147483647, 0, 433]),
  (30, 1, .iand, []),
  (31, 1, .istore_n 2, []),
  (32, 1, .iload_n 2, []),
  (33, 2, .ldc 121, [65536, 0, 434]),
  (35, 1, .idiv, []),
  (36, 1, .iload_n 3, []),
  (37, 1, .iconst 1, [1, 0]),
  (38, 1, .iadd, []),
  (39, 1, .irem, []),
  (40, 2, .istore 4, []),
  (42, 1, .aload_n 0, []),
  (43, 3, .getfield 25, [6, 3, 2, 0, 225]),
  (46, 1, .iload_n 3, []),
  (47, 1, .aaload, []),
  (48, 2, .astore 5, []),
  (50, 1, .aload_n 0, []),
  (51, 3, .getfield 25, [6, 3, 2, 0, 225]),
  (54, 1, .iload_n 3, []),
  (55, 1, .aload_n 0, []),
  (56, 3, .getfield 25, [6, 3, 2, 0, 225]),
  (59, 2, .iload 4, []),
  (61, 1, .aaload, []),
  (62, 1, .aastore, []),
  (63, 1, .aload_n 0, []),
  (64, 3, .getfield 25, [6, 3, 2, 0, 225]),
  (67, 2, .iload 4, []),
  (69, 2, .aload 5, []),
  (71, 1, .aastore, []),
  (72, 3, .iinc 3 (-1), [1, 1]),
  (75, 3, .goto (-60), [11]),
  (78, 1, .iconst 1, [1, 0]),
  (79, 1, .ireturn, [1])]
theorem po_Arc_shuffle : ma_ok me_Arc_shuffle pr_Arc_shuffle := ma_ok_of (by decide +kernel)
theorem pa_Arc_shuffle_0 : pr_Arc_shuffle[0]? = some (0, 1, .iload_n 1, []) := rfl
theorem pa_Arc_shuffle_1 : pr_Arc_shuffle[1]? = some (1, 3, .ifCond .ge (5), [4]) := rfl
theorem pa_Arc_shuffle_2 : pr_Arc_shuffle[2]? = some (4, 1, .iconst 0, [0, 0]) := rfl
theorem pa_Arc_shuffle_3 : pr_Arc_shuffle[3]? = some (5, 1, .ireturn, [1]) := rfl
theorem pa_Arc_shuffle_4 : pr_Arc_shuffle[4]? = some (6, 1, .iload_n 1, []) := rfl
theorem pa_Arc_shuffle_5 : pr_Arc_shuffle[5]? = some (7, 1, .istore_n 2, []) := rfl
theorem pa_Arc_shuffle_6 : pr_Arc_shuffle[6]? = some (8, 1, .aload_n 0, []) := rfl
theorem pa_Arc_shuffle_7 : pr_Arc_shuffle[7]? = some (9, 3, .getfield 28, [6, 4, 0, 0, 226]) := rfl
theorem pa_Arc_shuffle_8 : pr_Arc_shuffle[8]? = some (12, 1, .iconst 1, [1, 0]) := rfl
theorem pa_Arc_shuffle_9 : pr_Arc_shuffle[9]? = some (13, 1, .isub, []) := rfl
theorem pa_Arc_shuffle_10 : pr_Arc_shuffle[10]? = some (14, 1, .istore_n 3, []) := rfl
theorem pa_Arc_shuffle_11 : pr_Arc_shuffle[11]? = some (15, 1, .iload_n 3, []) := rfl
theorem pa_Arc_shuffle_12 : pr_Arc_shuffle[12]? = some (16, 1, .iconst 1, [1, 0]) := rfl
theorem pa_Arc_shuffle_13 : pr_Arc_shuffle[13]? = some (17, 3, .if_icmp .lt (61), [50]) := rfl
theorem pa_Arc_shuffle_14 : pr_Arc_shuffle[14]? = some (20, 1, .iload_n 2, []) := rfl
theorem pa_Arc_shuffle_15 : pr_Arc_shuffle[15]? = some (21, 2, .ldc 119, [1103515245, 0, 432]) := rfl
theorem pa_Arc_shuffle_16 : pr_Arc_shuffle[16]? = some (23, 1, .imul, []) := rfl
theorem pa_Arc_shuffle_17 : pr_Arc_shuffle[17]? = some (24, 3, .sipush 12345, [12345, 0]) := rfl
theorem pa_Arc_shuffle_18 : pr_Arc_shuffle[18]? = some (27, 1, .iadd, []) := rfl
theorem pa_Arc_shuffle_19 : pr_Arc_shuffle[19]? = some (28, 2, .ldc 120, [2147483647, 0, 433]) := rfl
theorem pa_Arc_shuffle_20 : pr_Arc_shuffle[20]? = some (30, 1, .iand, []) := rfl
theorem pa_Arc_shuffle_21 : pr_Arc_shuffle[21]? = some (31, 1, .istore_n 2, []) := rfl
theorem pa_Arc_shuffle_22 : pr_Arc_shuffle[22]? = some (32, 1, .iload_n 2, []) := rfl
theorem pa_Arc_shuffle_23 : pr_Arc_shuffle[23]? = some (33, 2, .ldc 121, [65536, 0, 434]) := rfl
theorem pa_Arc_shuffle_24 : pr_Arc_shuffle[24]? = some (35, 1, .idiv, []) := rfl
theorem pa_Arc_shuffle_25 : pr_Arc_shuffle[25]? = some (36, 1, .iload_n 3, []) := rfl
theorem pa_Arc_shuffle_26 : pr_Arc_shuffle[26]? = some (37, 1, .iconst 1, [1, 0]) := rfl
theorem pa_Arc_shuffle_27 : pr_Arc_shuffle[27]? = some (38, 1, .iadd, []) := rfl
theorem pa_Arc_shuffle_28 : pr_Arc_shuffle[28]? = some (39, 1, .irem, []) := rfl
theorem pa_Arc_shuffle_29 : pr_Arc_shuffle[29]? = some (40, 2, .istore 4, []) := rfl
theorem pa_Arc_shuffle_30 : pr_Arc_shuffle[30]? = some (42, 1, .aload_n 0, []) := rfl
theorem pa_Arc_shuffle_31 : pr_Arc_shuffle[31]? = some (43, 3, .getfield 25, [6, 3, 2, 0, 225]) := rfl
theorem pa_Arc_shuffle_32 : pr_Arc_shuffle[32]? = some (46, 1, .iload_n 3, []) := rfl
theorem pa_Arc_shuffle_33 : pr_Arc_shuffle[33]? = some (47, 1, .aaload, []) := rfl
theorem pa_Arc_shuffle_34 : pr_Arc_shuffle[34]? = some (48, 2, .astore 5, []) := rfl
theorem pa_Arc_shuffle_35 : pr_Arc_shuffle[35]? = some (50, 1, .aload_n 0, []) := rfl
theorem pa_Arc_shuffle_36 : pr_Arc_shuffle[36]? = some (51, 3, .getfield 25, [6, 3, 2, 0, 225]) := rfl
theorem pa_Arc_shuffle_37 : pr_Arc_shuffle[37]? = some (54, 1, .iload_n 3, []) := rfl
theorem pa_Arc_shuffle_38 : pr_Arc_shuffle[38]? = some (55, 1, .aload_n 0, []) := rfl
theorem pa_Arc_shuffle_39 : pr_Arc_shuffle[39]? = some (56, 3, .getfield 25, [6, 3, 2, 0, 225]) := rfl
theorem pa_Arc_shuffle_40 : pr_Arc_shuffle[40]? = some (59, 2, .iload 4, []) := rfl
theorem pa_Arc_shuffle_41 : pr_Arc_shuffle[41]? = some (61, 1, .aaload, []) := rfl
theorem pa_Arc_shuffle_42 : pr_Arc_shuffle[42]? = some (62, 1, .aastore, []) := rfl
theorem pa_Arc_shuffle_43 : pr_Arc_shuffle[43]? = some (63, 1, .aload_n 0, []) := rfl
theorem pa_Arc_shuffle_44 : pr_Arc_shuffle[44]? = some (64, 3, .getfield 25, [6, 3, 2, 0, 225]) := rfl
theorem pa_Arc_shuffle_45 : pr_Arc_shuffle[45]? = some (67, 2, .iload 4, []) := rfl
theorem pa_Arc_shuffle_46 : pr_Arc_shuffle[46]? = some (69, 2, .aload 5, []) := rfl
theorem pa_Arc_shuffle_47 : pr_Arc_shuffle[47]? = some (71, 1, .aastore, []) := rfl
theorem pa_Arc_shuffle_48 : pr_Arc_shuffle[48]? = some (72, 3, .iinc 3 (-1), [1, 1]) := rfl
theorem pa_Arc_shuffle_49 : pr_Arc_shuffle[49]? = some (75, 3, .goto (-60), [11]) := rfl
theorem pa_Arc_shuffle_50 : pr_Arc_shuffle[50]? = some (78, 1, .iconst 1, [1, 0]) := rfl
theorem pa_Arc_shuffle_51 : pr_Arc_shuffle[51]? = some (79, 1, .ireturn, [1]) := rfl
def pa_Arc_shuffle := And.intro pa_Arc_shuffle_0 (And.intro pa_Arc_shuffle_1 (And.intro pa_Arc_shuffle_2 (And.intro pa_Arc_shuffle_3 (And.intro pa_Arc_shuffle_4 (And.intro pa_Arc_shuffle_5 (And.intro pa_Arc_shuffle_6 (And.intro pa_Arc_shuffle_7 (And.intro pa_Arc_shuffle_8 (And.intro pa_Arc_shuffle_9 (And.intro pa_Arc_shuffle_10 (And.intro pa_Arc_shuffle_11 (And.intro pa_Arc_shuffle_12 (And.intro pa_Arc_shuffle_13 (And.intro pa_Arc_shuffle_14 (And.intro pa_Arc_shuffle_15 (And.intro pa_Arc_shuffle_16 (And.intro pa_Arc_shuffle_17 (And.intro pa_Arc_shuffle_18 (And.intro pa_Arc_shuffle_19 (And.intro pa_Arc_shuffle_20 (And.intro pa_Arc_shuffle_21 (And.intro pa_Arc_shuffle_22 (And.intro pa_Arc_shuffle_23 (And.intro pa_Arc_shuffle_24 (And.intro pa_Arc_shuffle_25 (And.intro pa_Arc_shuffle_26 (And.intro pa_Arc_shuffle_27 (And.intro pa_Arc_shuffle_28 (And.intro pa_Arc_shuffle_29 (And.intro pa_Arc_shuffle_30 (And.intro pa_Arc_shuffle_31 (And.intro pa_Arc_shuffle_32 (And.intro pa_Arc_shuffle_33 (And.intro pa_Arc_shuffle_34 (And.intro pa_Arc_shuffle_35 (And.intro pa_Arc_shuffle_36 (And.intro pa_Arc_shuffle_37 (And.intro pa_Arc_shuffle_38 (And.intro pa_Arc_shuffle_39 (And.intro pa_Arc_shuffle_40 (And.intro pa_Arc_shuffle_41 (And.intro pa_Arc_shuffle_42 (And.intro pa_Arc_shuffle_43 (And.intro pa_Arc_shuffle_44 (And.intro pa_Arc_shuffle_45 (And.intro pa_Arc_shuffle_46 (And.intro pa_Arc_shuffle_47 (And.intro pa_Arc_shuffle_48 (And.intro pa_Arc_shuffle_49 (And.intro pa_Arc_shuffle_50 (pa_Arc_shuffle_51)))))))))))))))))))))))))))))))))))))))))))))))))))
def pr_Mod_clear : List ma_E := [(0, 1, .aload_n 0, []),
  (1, 1, .iconst 0, [0, 0]),
  (2, 3, .putfield 66, [7, 0, 0, 0, 620]),
  (5, 1, .aload_n 0, []),
  (6, 1, .iconst 0, [0, 0]),
  (7, 3, .putfield 97, [7, 4, 0, 0, 624]),
  (10, 1, .return_, [])]
theorem po_Mod_clear : ma_ok me_Mod_clear pr_Mod_clear := ma_ok_of (by decide +kernel)
theorem pa_Mod_clear_0 : pr_Mod_clear[0]? = some (0, 1, .aload_n 0, []) := rfl
theorem pa_Mod_clear_1 : pr_Mod_clear[1]? = some (1, 1, .iconst 0, [0, 0]) := rfl
theorem pa_Mod_clear_2 : pr_Mod_clear[2]? = some (2, 3, .putfield 66, [7, 0, 0, 0, 620]) := rfl
theorem pa_Mod_clear_3 : pr_Mod_clear[3]? = some (5, 1, .aload_n 0, []) := rfl
theorem pa_Mod_clear_4 : pr_Mod_clear[4]? = some (6, 1, .iconst 0, [0, 0]) := rfl
theorem pa_Mod_clear_5 : pr_Mod_clear[5]? = some (7, 3, .putfield 97, [7, 4, 0, 0, 624]) := rfl
theorem pa_Mod_clear_6 : pr_Mod_clear[6]? = some (10, 1, .return_, []) := rfl
def pa_Mod_clear := And.intro pa_Mod_clear_0 (And.intro pa_Mod_clear_1 (And.intro pa_Mod_clear_2 (And.intro pa_Mod_clear_3 (And.intro pa_Mod_clear_4 (And.intro pa_Mod_clear_5 (pa_Mod_clear_6))))))
def pr_Mod_count : List ma_E := [(0, 1, .aload_n 0, []),
  (1, 1, .iconst 0, [0, 0]),
  (2, 3, .putfield 66, [7, 0, 0, 0, 620]),
  (5, 1, .iload_n 1, []),
  (6, 3, .ifCond .ne (10), [8]),
  (9, 1, .aload_n 0, []),
  (10, 3, .getfield 121, [7, 7, 0, 0, 627]),
  (13, 3, .goto (28), [21]),
  (16, 1, .iload_n 1, []),
  (17, 1, .iconst 1, [1, 0]),
  (18, 3, .if_icmp .ne (10), [14]),
  (21, 1, .aload_n 0, []),
  (22, 3, .getfield 124, [7, 8, 0, 0, 628]),
  (25, 3, .goto (16), [21]),
  (28, 1, .iload_n 1, []),
  (29, 1, .iconst 2, [2, 0]),
  (30, 3, .if_icmp .ne (10), [20]),
  (33, 1, .aload_n 0, []),
  (34, 3, .getfield 127, [7, 9, 0, 0, 629]),
  (37, 3, .goto (4), [21]),
  (40, 1, .iconst (-1), [1, 1]),
  (41, 1, .ireturn, [0])]
theorem po_Mod_count : ma_ok me_Mod_count pr_Mod_count := ma_ok_of (by decide +kernel)
theorem pa_Mod_count_0 : pr_Mod_count[0]? = some (0, 1, .aload_n 0, []) := rfl
theorem pa_Mod_count_1 : pr_Mod_count[1]? = some (1, 1, .iconst 0, [0, 0]) := rfl
theorem pa_Mod_count_2 : pr_Mod_count[2]? = some (2, 3, .putfield 66, [7, 0, 0, 0, 620]) := rfl
theorem pa_Mod_count_3 : pr_Mod_count[3]? = some (5, 1, .iload_n 1, []) := rfl
theorem pa_Mod_count_4 : pr_Mod_count[4]? = some (6, 3, .ifCond .ne (10), [8]) := rfl
theorem pa_Mod_count_5 : pr_Mod_count[5]? = some (9, 1, .aload_n 0, []) := rfl
theorem pa_Mod_count_6 : pr_Mod_count[6]? = some (10, 3, .getfield 121, [7, 7, 0, 0, 627]) := rfl
theorem pa_Mod_count_7 : pr_Mod_count[7]? = some (13, 3, .goto (28), [21]) := rfl
theorem pa_Mod_count_8 : pr_Mod_count[8]? = some (16, 1, .iload_n 1, []) := rfl
theorem pa_Mod_count_9 : pr_Mod_count[9]? = some (17, 1, .iconst 1, [1, 0]) := rfl
theorem pa_Mod_count_10 : pr_Mod_count[10]? = some (18, 3, .if_icmp .ne (10), [14]) := rfl
theorem pa_Mod_count_11 : pr_Mod_count[11]? = some (21, 1, .aload_n 0, []) := rfl
theorem pa_Mod_count_12 : pr_Mod_count[12]? = some (22, 3, .getfield 124, [7, 8, 0, 0, 628]) := rfl
theorem pa_Mod_count_13 : pr_Mod_count[13]? = some (25, 3, .goto (16), [21]) := rfl
theorem pa_Mod_count_14 : pr_Mod_count[14]? = some (28, 1, .iload_n 1, []) := rfl
theorem pa_Mod_count_15 : pr_Mod_count[15]? = some (29, 1, .iconst 2, [2, 0]) := rfl
theorem pa_Mod_count_16 : pr_Mod_count[16]? = some (30, 3, .if_icmp .ne (10), [20]) := rfl
theorem pa_Mod_count_17 : pr_Mod_count[17]? = some (33, 1, .aload_n 0, []) := rfl
theorem pa_Mod_count_18 : pr_Mod_count[18]? = some (34, 3, .getfield 127, [7, 9, 0, 0, 629]) := rfl
theorem pa_Mod_count_19 : pr_Mod_count[19]? = some (37, 3, .goto (4), [21]) := rfl
theorem pa_Mod_count_20 : pr_Mod_count[20]? = some (40, 1, .iconst (-1), [1, 1]) := rfl
theorem pa_Mod_count_21 : pr_Mod_count[21]? = some (41, 1, .ireturn, [0]) := rfl
def pa_Mod_count := And.intro pa_Mod_count_0 (And.intro pa_Mod_count_1 (And.intro pa_Mod_count_2 (And.intro pa_Mod_count_3 (And.intro pa_Mod_count_4 (And.intro pa_Mod_count_5 (And.intro pa_Mod_count_6 (And.intro pa_Mod_count_7 (And.intro pa_Mod_count_8 (And.intro pa_Mod_count_9 (And.intro pa_Mod_count_10 (And.intro pa_Mod_count_11 (And.intro pa_Mod_count_12 (And.intro pa_Mod_count_13 (And.intro pa_Mod_count_14 (And.intro pa_Mod_count_15 (And.intro pa_Mod_count_16 (And.intro pa_Mod_count_17 (And.intro pa_Mod_count_18 (And.intro pa_Mod_count_19 (And.intro pa_Mod_count_20 (pa_Mod_count_21)))))))))))))))))))))
def pr_Mod_group : List ma_E := [(0, 1, .iconst 0, [0, 0]),
  (1, 1, .istore_n 2, []),
  (2, 2, .bipush 11, [11, 0]),
  (4, 1, .iload_n 1, []),
  (5, 1, .imul, []),
  (6, 1, .istore_n 3, []),
  (7, 1, .iload_n 3, []),
  (8, 2, .bipush 11, [11, 0]),
  (10, 1, .iload_n 1, []),
  (11, 1, .imul, []),
  (12, 2, .bipush 11, [11, 0]),
  (14, 1, .iadd, []),
  (15, 3, .if_icmp .ge (60), [48]),
  (18, 1, .iload_n 3, []),
  (19, 3, .ifCond .ne (7), [17]),
  (22, 1, .iconst 3, [3, 0]),
  (23, 3, .goto (11), [23]),
  (26, 1, .aload_n 0, []),
  (27, 3, .getfield 32, [7, 13, 2, 0, 633]),
  (30, 1, .iload_n 3, []),
  (31, 1, .iconst 1, [1, 0]),
  (32, 1, .isub, []),
  (33, 1, .iaload, []),
  (34, 2, .istore 4, []),
  (36, 1, .iconst 3, [3, 0]),
  (37, 1, .iload_n 2, []),
  (38, 1, .imul, []),
  (39, 1, .aload_n 0, []),
  (40, 3, .getfield 32, [7, 13, 2, 0, 633]),
  (43, 1, .iload_n 3, []),
  (44, 1, .iaload, []),
  (45, 2, .iload 4, []),
  (47, 3, .if_icmp .ge (12), [38]),
  (50, 1, .aload_n 0, []),
  (51, 3, .getfield 32, [7, 13, 2, 0, 633]),
  (54, 1, .iload_n 3, []),
  (55, 1, .iaload, []),
  (56, 3, .goto (11), [44]),
  (59, 1, .aload_n 0, []),
  (60, 3, .getfield 32, [7, 13, 2, 0, 633]),
  (63, 1, .iload_n 3, []),
  (64, 1, .iaload, []),
  (65, 1, .iconst 1, [1, 0]),
  (66, 1, .isub, []),
  (67, 1, .iadd, []),
  (68, 1, .istore_n 2, []),
  (69, 3, .iinc 3 (1), [1, 0]),
  (72, 3, .goto (-65), [6]),
  (75, 1, .iload_n 2, []),
  (76, 1, .ireturn, [0])]
theorem po_Mod_group : ma_ok me_Mod_group pr_Mod_group := ma_ok_of (by decide +kernel)
theorem pa_Mod_group_0 : pr_Mod_group[0]? = some (0, 1, .iconst 0, [0, 0]) := rfl
theorem pa_Mod_group_1 : pr_Mod_group[1]? = some (1, 1, .istore_n 2, []) := rfl
theorem pa_Mod_group_2 : pr_Mod_group[2]? = some (2, 2, .bipush 11, [11, 0]) := rfl
theorem pa_Mod_group_3 : pr_Mod_group[3]? = some (4, 1, .iload_n 1, []) := rfl
theorem pa_Mod_group_4 : pr_Mod_group[4]? = some (5, 1, .imul, []) := rfl
theorem pa_Mod_group_5 : pr_Mod_group[5]? = some (6, 1, .istore_n 3, []) := rfl
theorem pa_Mod_group_6 : pr_Mod_group[6]? = some (7, 1, .iload_n 3, []) := rfl
theorem pa_Mod_group_7 : pr_Mod_group[7]? = some (8, 2, .bipush 11, [11, 0]) := rfl
theorem pa_Mod_group_8 : pr_Mod_group[8]? = some (10, 1, .iload_n 1, []) := rfl
theorem pa_Mod_group_9 : pr_Mod_group[9]? = some (11, 1, .imul, []) := rfl
theorem pa_Mod_group_10 : pr_Mod_group[10]? = some (12, 2, .bipush 11, [11, 0]) := rfl
theorem pa_Mod_group_11 : pr_Mod_group[11]? = some (14, 1, .iadd, []) := rfl
theorem pa_Mod_group_12 : pr_Mod_group[12]? = some (15, 3, .if_icmp .ge (60), [48]) := rfl
theorem pa_Mod_group_13 : pr_Mod_group[13]? = some (18, 1, .iload_n 3, []) := rfl
theorem pa_Mod_group_14 : pr_Mod_group[14]? = some (19, 3, .ifCond .ne (7), [17]) := rfl
theorem pa_Mod_group_15 : pr_Mod_group[15]? = some (22, 1, .iconst 3, [3, 0]) := rfl
theorem pa_Mod_group_16 : pr_Mod_group[16]? = some (23, 3, .goto (11), [23]) := rfl
theorem pa_Mod_group_17 : pr_Mod_group[17]? = some (26, 1, .aload_n 0, []) := rfl
theorem pa_Mod_group_18 : pr_Mod_group[18]? = some (27, 3, .getfield 32, [7, 13, 2, 0, 633]) := rfl
theorem pa_Mod_group_19 : pr_Mod_group[19]? = some (30, 1, .iload_n 3, []) := rfl
theorem pa_Mod_group_20 : pr_Mod_group[20]? = some (31, 1, .iconst 1, [1, 0]) := rfl
theorem pa_Mod_group_21 : pr_Mod_group[21]? = some (32, 1, .isub, []) := rfl
theorem pa_Mod_group_22 : pr_Mod_group[22]? = some (33, 1, .iaload, []) := rfl
theorem pa_Mod_group_23 : pr_Mod_group[23]? = some (34, 2, .istore 4, []) := rfl
theorem pa_Mod_group_24 : pr_Mod_group[24]? = some (36, 1, .iconst 3, [3, 0]) := rfl
theorem pa_Mod_group_25 : pr_Mod_group[25]? = some (37, 1, .iload_n 2, []) := rfl
theorem pa_Mod_group_26 : pr_Mod_group[26]? = some (38, 1, .imul, []) := rfl
theorem pa_Mod_group_27 : pr_Mod_group[27]? = some (39, 1, .aload_n 0, []) := rfl
theorem pa_Mod_group_28 : pr_Mod_group[28]? = some (40, 3, .getfield 32, [7, 13, 2, 0, 633]) := rfl
theorem pa_Mod_group_29 : pr_Mod_group[29]? = some (43, 1, .iload_n 3, []) := rfl
theorem pa_Mod_group_30 : pr_Mod_group[30]? = some (44, 1, .iaload, []) := rfl
theorem pa_Mod_group_31 : pr_Mod_group[31]? = some (45, 2, .iload 4, []) := rfl
theorem pa_Mod_group_32 : pr_Mod_group[32]? = some (47, 3, .if_icmp .ge (12), [38]) := rfl
theorem pa_Mod_group_33 : pr_Mod_group[33]? = some (50, 1, .aload_n 0, []) := rfl
theorem pa_Mod_group_34 : pr_Mod_group[34]? = some (51, 3, .getfield 32, [7, 13, 2, 0, 633]) := rfl
theorem pa_Mod_group_35 : pr_Mod_group[35]? = some (54, 1, .iload_n 3, []) := rfl
theorem pa_Mod_group_36 : pr_Mod_group[36]? = some (55, 1, .iaload, []) := rfl
theorem pa_Mod_group_37 : pr_Mod_group[37]? = some (56, 3, .goto (11), [44]) := rfl
theorem pa_Mod_group_38 : pr_Mod_group[38]? = some (59, 1, .aload_n 0, []) := rfl
theorem pa_Mod_group_39 : pr_Mod_group[39]? = some (60, 3, .getfield 32, [7, 13, 2, 0, 633]) := rfl
theorem pa_Mod_group_40 : pr_Mod_group[40]? = some (63, 1, .iload_n 3, []) := rfl
theorem pa_Mod_group_41 : pr_Mod_group[41]? = some (64, 1, .iaload, []) := rfl
theorem pa_Mod_group_42 : pr_Mod_group[42]? = some (65, 1, .iconst 1, [1, 0]) := rfl
theorem pa_Mod_group_43 : pr_Mod_group[43]? = some (66, 1, .isub, []) := rfl
theorem pa_Mod_group_44 : pr_Mod_group[44]? = some (67, 1, .iadd, []) := rfl
theorem pa_Mod_group_45 : pr_Mod_group[45]? = some (68, 1, .istore_n 2, []) := rfl
theorem pa_Mod_group_46 : pr_Mod_group[46]? = some (69, 3, .iinc 3 (1), [1, 0]) := rfl
theorem pa_Mod_group_47 : pr_Mod_group[47]? = some (72, 3, .goto (-65), [6]) := rfl
theorem pa_Mod_group_48 : pr_Mod_group[48]? = some (75, 1, .iload_n 2, []) := rfl
theorem pa_Mod_group_49 : pr_Mod_group[49]? = some (76, 1, .ireturn, [0]) := rfl
def pa_Mod_group := And.intro pa_Mod_group_0 (And.intro pa_Mod_group_1 (And.intro pa_Mod_group_2 (And.intro pa_Mod_group_3 (And.intro pa_Mod_group_4 (And.intro pa_Mod_group_5 (And.intro pa_Mod_group_6 (And.intro pa_Mod_group_7 (And.intro pa_Mod_group_8 (And.intro pa_Mod_group_9 (And.intro pa_Mod_group_10 (And.intro pa_Mod_group_11 (And.intro pa_Mod_group_12 (And.intro pa_Mod_group_13 (And.intro pa_Mod_group_14 (And.intro pa_Mod_group_15 (And.intro pa_Mod_group_16 (And.intro pa_Mod_group_17 (And.intro pa_Mod_group_18 (And.intro pa_Mod_group_19 (And.intro pa_Mod_group_20 (And.intro pa_Mod_group_21 (And.intro pa_Mod_group_22 (And.intro pa_Mod_group_23 (And.intro pa_Mod_group_24 (And.intro pa_Mod_group_25 (And.intro pa_Mod_group_26 (And.intro pa_Mod_group_27 (And.intro pa_Mod_group_28 (And.intro pa_Mod_group_29 (And.intro pa_Mod_group_30 (And.intro pa_Mod_group_31 (And.intro pa_Mod_group_32 (And.intro pa_Mod_group_33 (And.intro pa_Mod_group_34 (And.intro pa_Mod_group_35 (And.intro pa_Mod_group_36 (And.intro pa_Mod_group_37 (And.intro pa_Mod_group_38 (And.intro pa_Mod_group_39 (And.intro pa_Mod_group_40 (And.intro pa_Mod_group_41 (And.intro pa_Mod_group_42 (And.intro pa_Mod_group_43 (And.intro pa_Mod_group_44 (And.intro pa_Mod_group_45 (And.intro pa_Mod_group_46 (And.intro pa_Mod_group_47 (And.intro pa_Mod_group_48 (pa_Mod_group_49)))))))))))))))))))))))))))))))))))))))))))))))))
end
section
/-! the methods as tables -/
def pr_Mod_heap : List ma_E := [(0, 1, .aload_n 0, []),
  (1, 1, .iconst 0, [0, 0]),
  (2, 3, .putfield 66, [7, 0, 0, 0, 620]),
  (5, 1, .aload_n 0, []),
  (6, 3, .getfield 97, [7, 4, 0, 0, 624]),
  (9, 1, .ireturn, [0])]
theorem po_Mod_heap : ma_ok me_Mod_heap pr_Mod_heap := ma_ok_of (by decide +kernel)
theorem pa_Mod_heap_0 : pr_Mod_heap[0]? = some (0, 1, .aload_n 0, []) := rfl
theorem pa_Mod_heap_1 : pr_Mod_heap[1]? = some (1, 1, .iconst 0, [0, 0]) := rfl
theorem pa_Mod_heap_2 : pr_Mod_heap[2]? = some (2, 3, .putfield 66, [7, 0, 0, 0, 620]) := rfl
theorem pa_Mod_heap_3 : pr_Mod_heap[3]? = some (5, 1, .aload_n 0, []) := rfl
theorem pa_Mod_heap_4 : pr_Mod_heap[4]? = some (6, 3, .getfield 97, [7, 4, 0, 0, 624]) := rfl
theorem pa_Mod_heap_5 : pr_Mod_heap[5]? = some (9, 1, .ireturn, [0]) := rfl
def pa_Mod_heap := And.intro pa_Mod_heap_0 (And.intro pa_Mod_heap_1 (And.intro pa_Mod_heap_2 (And.intro pa_Mod_heap_3 (And.intro pa_Mod_heap_4 (pa_Mod_heap_5)))))
def pr_Mod_in : List ma_E := [(0, 1, .iload_n 0, []),
  (1, 1, .iload_n 1, []),
  (2, 3, .if_icmp .lt (12), [8]),
  (5, 1, .iload_n 0, []),
  (6, 1, .iload_n 2, []),
  (7, 3, .if_icmp .gt (7), [8]),
  (10, 1, .iconst 1, [1, 0]),
  (11, 3, .goto (4), [9]),
  (14, 1, .iconst 0, [0, 0]),
  (15, 1, .ireturn, [1])]
theorem po_Mod_in : ma_ok me_Mod_in pr_Mod_in := ma_ok_of (by decide +kernel)
theorem pa_Mod_in_0 : pr_Mod_in[0]? = some (0, 1, .iload_n 0, []) := rfl
theorem pa_Mod_in_1 : pr_Mod_in[1]? = some (1, 1, .iload_n 1, []) := rfl
theorem pa_Mod_in_2 : pr_Mod_in[2]? = some (2, 3, .if_icmp .lt (12), [8]) := rfl
theorem pa_Mod_in_3 : pr_Mod_in[3]? = some (5, 1, .iload_n 0, []) := rfl
theorem pa_Mod_in_4 : pr_Mod_in[4]? = some (6, 1, .iload_n 2, []) := rfl
theorem pa_Mod_in_5 : pr_Mod_in[5]? = some (7, 3, .if_icmp .gt (7), [8]) := rfl
theorem pa_Mod_in_6 : pr_Mod_in[6]? = some (10, 1, .iconst 1, [1, 0]) := rfl
theorem pa_Mod_in_7 : pr_Mod_in[7]? = some (11, 3, .goto (4), [9]) := rfl
theorem pa_Mod_in_8 : pr_Mod_in[8]? = some (14, 1, .iconst 0, [0, 0]) := rfl
theorem pa_Mod_in_9 : pr_Mod_in[9]? = some (15, 1, .ireturn, [1]) := rfl
def pa_Mod_in := And.intro pa_Mod_in_0 (And.intro pa_Mod_in_1 (And.intro pa_Mod_in_2 (And.intro pa_Mod_in_3 (And.intro pa_Mod_in_4 (And.intro pa_Mod_in_5 (And.intro pa_Mod_in_6 (And.intro pa_Mod_in_7 (And.intro pa_Mod_in_8 (pa_Mod_in_9)))))))))
def pr_Mod_most : List ma_E := [(0, 1, .iconst 0, [0, 0]),
  (1, 1, .istore_n 2, []),
  (2, 1, .iload_n 2, []),
  (3, 1, .iconst 4, [4, 0]),
  (4, 3, .if_icmp .ge (54), [35]),
  (7, 1, .iconst 0, [0, 0]),
  (8, 1, .istore_n 3, []),
  (9, 1, .iload_n 1, []),
  (10, 2, .istore 4, []),
  (12, 2, .iload 4, []),
  (14, 1, .iload_n 1, []),
  (15, 1, .iconst 3, [3, 0]),
  (16, 1, .iadd, []),
  (17, 3, .if_icmp .ge (28), [28]),
  (20, 1, .iload_n 3, []),
  (21, 1, .aload_n 0, []),
  (22, 3, .getfield 35, [7, 14, 2, 0, 634]),
  (25, 2, .iload 4, []),
  (27, 1, .iaload, []),
  (28, 1, .iload_n 2, []),
  (29, 3, .if_icmp .ne (7), [23]),
  (32, 1, .iconst 1, [1, 0]),
  (33, 3, .goto (4), [24]),
  (36, 1, .iconst 0, [0, 0]),
  (37, 1, .iadd, []),
  (38, 1, .istore_n 3, []),
  (39, 3, .iinc 4 (1), [1, 0]),
  (42, 3, .goto (-30), [9]),
  (45, 1, .iload_n 3, []),
  (46, 1, .iconst 1, [1, 0]),
  (47, 3, .if_icmp .le (5), [33]),
  (50, 1, .iload_n 2, []),
  (51, 1, .ireturn, [0]),
  (52, 3, .iinc 2 (1), [1, 0]),
  (55, 3, .goto (-53), [2]),
  (58, 1, .iconst (-1), [1, 1]),
  (59, 1, .ireturn, [0])]
theorem po_Mod_most : ma_ok me_Mod_most pr_Mod_most := ma_ok_of (by decide +kernel)
theorem pa_Mod_most_0 : pr_Mod_most[0]? = some (0, 1, .iconst 0, [0, 0]) := rfl
theorem pa_Mod_most_1 : pr_Mod_most[1]? = some (1, 1, .istore_n 2, []) := rfl
theorem pa_Mod_most_2 : pr_Mod_most[2]? = some (2, 1, .iload_n 2, []) := rfl
theorem pa_Mod_most_3 : pr_Mod_most[3]? = some (3, 1, .iconst 4, [4, 0]) := rfl
theorem pa_Mod_most_4 : pr_Mod_most[4]? = some (4, 3, .if_icmp .ge (54), [35]) := rfl
theorem pa_Mod_most_5 : pr_Mod_most[5]? = some (7, 1, .iconst 0, [0, 0]) := rfl
theorem pa_Mod_most_6 : pr_Mod_most[6]? = some (8, 1, .istore_n 3, []) := rfl
theorem pa_Mod_most_7 : pr_Mod_most[7]? = some (9, 1, .iload_n 1, []) := rfl
theorem pa_Mod_most_8 : pr_Mod_most[8]? = some (10, 2, .istore 4, []) := rfl
theorem pa_Mod_most_9 : pr_Mod_most[9]? = some (12, 2, .iload 4, []) := rfl
theorem pa_Mod_most_10 : pr_Mod_most[10]? = some (14, 1, .iload_n 1, []) := rfl
theorem pa_Mod_most_11 : pr_Mod_most[11]? = some (15, 1, .iconst 3, [3, 0]) := rfl
theorem pa_Mod_most_12 : pr_Mod_most[12]? = some (16, 1, .iadd, []) := rfl
theorem pa_Mod_most_13 : pr_Mod_most[13]? = some (17, 3, .if_icmp .ge (28), [28]) := rfl
theorem pa_Mod_most_14 : pr_Mod_most[14]? = some (20, 1, .iload_n 3, []) := rfl
theorem pa_Mod_most_15 : pr_Mod_most[15]? = some (21, 1, .aload_n 0, []) := rfl
theorem pa_Mod_most_16 : pr_Mod_most[16]? = some (22, 3, .getfield 35, [7, 14, 2, 0, 634]) := rfl
theorem pa_Mod_most_17 : pr_Mod_most[17]? = some (25, 2, .iload 4, []) := rfl
theorem pa_Mod_most_18 : pr_Mod_most[18]? = some (27, 1, .iaload, []) := rfl
theorem pa_Mod_most_19 : pr_Mod_most[19]? = some (28, 1, .iload_n 2, []) := rfl
theorem pa_Mod_most_20 : pr_Mod_most[20]? = some (29, 3, .if_icmp .ne (7), [23]) := rfl
theorem pa_Mod_most_21 : pr_Mod_most[21]? = some (32, 1, .iconst 1, [1, 0]) := rfl
theorem pa_Mod_most_22 : pr_Mod_most[22]? = some (33, 3, .goto (4), [24]) := rfl
theorem pa_Mod_most_23 : pr_Mod_most[23]? = some (36, 1, .iconst 0, [0, 0]) := rfl
theorem pa_Mod_most_24 : pr_Mod_most[24]? = some (37, 1, .iadd, []) := rfl
theorem pa_Mod_most_25 : pr_Mod_most[25]? = some (38, 1, .istore_n 3, []) := rfl
theorem pa_Mod_most_26 : pr_Mod_most[26]? = some (39, 3, .iinc 4 (1), [1, 0]) := rfl
theorem pa_Mod_most_27 : pr_Mod_most[27]? = some (42, 3, .goto (-30), [9]) := rfl
theorem pa_Mod_most_28 : pr_Mod_most[28]? = some (45, 1, .iload_n 3, []) := rfl
theorem pa_Mod_most_29 : pr_Mod_most[29]? = some (46, 1, .iconst 1, [1, 0]) := rfl
theorem pa_Mod_most_30 : pr_Mod_most[30]? = some (47, 3, .if_icmp .le (5), [33]) := rfl
theorem pa_Mod_most_31 : pr_Mod_most[31]? = some (50, 1, .iload_n 2, []) := rfl
theorem pa_Mod_most_32 : pr_Mod_most[32]? = some (51, 1, .ireturn, [0]) := rfl
theorem pa_Mod_most_33 : pr_Mod_most[33]? = some (52, 3, .iinc 2 (1), [1, 0]) := rfl
theorem pa_Mod_most_34 : pr_Mod_most[34]? = some (55, 3, .goto (-53), [2]) := rfl
theorem pa_Mod_most_35 : pr_Mod_most[35]? = some (58, 1, .iconst (-1), [1, 1]) := rfl
theorem pa_Mod_most_36 : pr_Mod_most[36]? = some (59, 1, .ireturn, [0]) := rfl
def pa_Mod_most := And.intro pa_Mod_most_0 (And.intro pa_Mod_most_1 (And.intro pa_Mod_most_2 (And.intro pa_Mod_most_3 (And.intro pa_Mod_most_4 (And.intro pa_Mod_most_5 (And.intro pa_Mod_most_6 (And.intro pa_Mod_most_7 (And.intro pa_Mod_most_8 (And.intro pa_Mod_most_9 (And.intro pa_Mod_most_10 (And.intro pa_Mod_most_11 (And.intro pa_Mod_most_12 (And.intro pa_Mod_most_13 (And.intro pa_Mod_most_14 (And.intro pa_Mod_most_15 (And.intro pa_Mod_most_16 (And.intro pa_Mod_most_17 (And.intro pa_Mod_most_18 (And.intro pa_Mod_most_19 (And.intro pa_Mod_most_20 (And.intro pa_Mod_most_21 (And.intro pa_Mod_most_22 (And.intro pa_Mod_most_23 (And.intro pa_Mod_most_24 (And.intro pa_Mod_most_25 (And.intro pa_Mod_most_26 (And.intro pa_Mod_most_27 (And.intro pa_Mod_most_28 (And.intro pa_Mod_most_29 (And.intro pa_Mod_most_30 (And.intro pa_Mod_most_31 (And.intro pa_Mod_most_32 (And.intro pa_Mod_most_33 (And.intro pa_Mod_most_34 (And.intro pa_Mod_most_35 (pa_Mod_most_36))))))))))))))))))))))))))))))))))))
def pr_Mod_ones : List ma_E := [(0, 1, .iconst 0, [0, 0]),
  (1, 1, .istore_n 1, []),
  (2, 1, .iload_n 0, []),
  (3, 1, .istore_n 2, []),
  (4, 1, .iload_n 2, []),
  (5, 3, .ifCond .eq (15), [14]),
  (8, 3, .iinc 1 (1), [1, 0]),
  (11, 1, .iload_n 2, []),
  (12, 1, .iload_n 2, []),
  (13, 1, .iconst 1, [1, 0]),
  (14, 1, .isub, []),
  (15, 1, .iand, []),
  (16, 1, .istore_n 2, []),
  (17, 3, .goto (-13), [4]),
  (20, 1, .iload_n 1, []),
  (21, 1, .ireturn, [0])]
theorem po_Mod_ones : ma_ok me_Mod_ones pr_Mod_ones := ma_ok_of (by decide +kernel)
theorem pa_Mod_ones_0 : pr_Mod_ones[0]? = some (0, 1, .iconst 0, [0, 0]) := rfl
theorem pa_Mod_ones_1 : pr_Mod_ones[1]? = some (1, 1, .istore_n 1, []) := rfl
theorem pa_Mod_ones_2 : pr_Mod_ones[2]? = some (2, 1, .iload_n 0, []) := rfl
theorem pa_Mod_ones_3 : pr_Mod_ones[3]? = some (3, 1, .istore_n 2, []) := rfl
theorem pa_Mod_ones_4 : pr_Mod_ones[4]? = some (4, 1, .iload_n 2, []) := rfl
theorem pa_Mod_ones_5 : pr_Mod_ones[5]? = some (5, 3, .ifCond .eq (15), [14]) := rfl
theorem pa_Mod_ones_6 : pr_Mod_ones[6]? = some (8, 3, .iinc 1 (1), [1, 0]) := rfl
theorem pa_Mod_ones_7 : pr_Mod_ones[7]? = some (11, 1, .iload_n 2, []) := rfl
theorem pa_Mod_ones_8 : pr_Mod_ones[8]? = some (12, 1, .iload_n 2, []) := rfl
theorem pa_Mod_ones_9 : pr_Mod_ones[9]? = some (13, 1, .iconst 1, [1, 0]) := rfl
theorem pa_Mod_ones_10 : pr_Mod_ones[10]? = some (14, 1, .isub, []) := rfl
theorem pa_Mod_ones_11 : pr_Mod_ones[11]? = some (15, 1, .iand, []) := rfl
theorem pa_Mod_ones_12 : pr_Mod_ones[12]? = some (16, 1, .istore_n 2, []) := rfl
theorem pa_Mod_ones_13 : pr_Mod_ones[13]? = some (17, 3, .goto (-13), [4]) := rfl
theorem pa_Mod_ones_14 : pr_Mod_ones[14]? = some (20, 1, .iload_n 1, []) := rfl
theorem pa_Mod_ones_15 : pr_Mod_ones[15]? = some (21, 1, .ireturn, [0]) := rfl
def pa_Mod_ones := And.intro pa_Mod_ones_0 (And.intro pa_Mod_ones_1 (And.intro pa_Mod_ones_2 (And.intro pa_Mod_ones_3 (And.intro pa_Mod_ones_4 (And.intro pa_Mod_ones_5 (And.intro pa_Mod_ones_6 (And.intro pa_Mod_ones_7 (And.intro pa_Mod_ones_8 (And.intro pa_Mod_ones_9 (And.intro pa_Mod_ones_10 (And.intro pa_Mod_ones_11 (And.intro pa_Mod_ones_12 (And.intro pa_Mod_ones_13 (And.intro pa_Mod_ones_14 (pa_Mod_ones_15)))))))))))))))
def pr_Mod_shuffle : List ma_E := [(0, 1, .aload_n 0, []),
  (1, 1, .iconst 0, [0, 0]),
  (2, 3, .putfield 66, [7, 0, 0, 0, 620]),
  (5, 1, .iload_n 1, []),
  (6, 3, .ifCond .ge (5), [7]),
  (9, 1, .iconst 0, [0, 0]),
  (10, 1, .ireturn, [1]),
  (11, 1, .iload_n 1, []),
  (12, 1, .i2l, []),
  (13, 1, .lstore_n 2, []),
  (14, 1, .aload_n 0, []),
  (15, 3, .getfield 97, [7, 4, 0, 0, 624]),
  (18, 1, .iconst 1, [1, 0]),
  (19, 1, .isub, []),
  (20, 2, .istore 4, []),
  (22, 2, .iload 4, []),
  (24, 3, .ifCond .le (141), [96]),
  (27, 1, .lload_n 2, []),
  (28, 3, .ldc2_w 106, [1103515245, 0, 757]),
  (31, 1, .lmul, []),
  (32, 3, .ldc2_w 108, [12345, 0, 758]),
  (35, 1, .ladd, []),
  (36, 3, .ldc2_w 110, [2147483648, 0, 759]),
  (39, 1, .lrem, []),
  (40, 1, .lstore_n 2, []),
  (41, 1, .lload_n 2, []),
  (42, 3, .ldc2_w 112, [65536, 0, 760]),
  (45, 1, .ldiv, []),
  (46, 2, .iload 4, []),
  (48, 1, .iconst 1, [1, 0]),
  (49, 1, .iadd, []),
  (50, 1, .i2l, []),
  (51, 1, .lrem, []),
  (52, 1, .l2i, []),
  (53, 2, .istore 5, []),
  (55, 1, .iconst 0, [0, 0]),
  (56, 2, .istore 6, []),
  (58, 2, .iload 6, []),
  (60, 2, .bipush 60, [60, 0]),
  (62, 3, .if_icmp .ge (65), [76]),
  (65, 1, .aload_n 0, []),
  (66, 3, .getfield 17, [7, 5, 2, 0, 625]),
  (69, 2, .bipush 60, [60, 0]),
  (71, 2, .iload 4, []),
  (73, 1, .imul, []),
  (74, 2, .iload 6, []),
  (76, 1, .iadd, []),
  (77, 1, .baload, [0]),
  (78, 2, .istore 7, []),
  (80, 1, .aload_n 0, []),
  (81, 3, .getfield 17, [7, 5, 2, 0, 625]),
  (84, 2, .bipush 60, [60, 0]),
  (86, 2, .iload 4, []),
  (88, 1, .imul, []),
  (89, 2, .iload 6, []),
  (91, 1, .iadd, []),
  (92, 1, .aload_n 0, []),
  (93, 3, .getfield 17, [7, 5, 2, 0, 625]),
  (96, 2, .bipush 60, [60, 0]),
  (98, 2, .iload 5, []),
  (100, 1, .imul, []),
  (101, 2, .iload 6, []),
  (103, 1, .iadd, []),
  (104, 1, .baload, [0]),
  (105, 1, .bastore, [0]),
  (106, 1, .aload_n 0, []),
  (107, 3, .getfield 17, [7, 5, 2, 0, 625]),
  (110, 2, .bipush 60, [60, 0]),
  (112, 2, .iload 5, []),
  (114, 1, .imul, []),
  (115, 2, .iload 6, []),
  (117, 1, .iadd, []),
  (118, 2, .iload 7, []),
  (120, 1, .bastore, [0]),
  (121, 3, .iinc 6 (1), [1, 0]),
  (124, 3, .goto (-66), [37]),
  (127, 1, .aload_n 0, []),
  (128, 3, .getfield 20, [7, 6, 2, 0, 626]),
  (131, 2, .iload 4, []),
  (133, 1, .iaload, []),
  (134, 2, .istore 6, []),
  (136, 1, .aload_n 0, []),
  (137, 3, .getfield 20, [7, 6, 2, 0, 626]),
  (140, 2, .iload 4, []),
  (142, 1, .aload_n 0, []),
  (143, 3, .getfield 20, [7, 6, 2, 0, 626]),
  (146, 2, .iload 5, []),
  (148, 1, .iaload, []),
  (149, 1, .iastore, []),
  (150, 1, .aload_n 0, []),
  (151, 3, .getfield 20, [7, 6, 2, 0, 626]),
  (154, 2, .iload 5, []),
  (156, 2, .iload 6, []),
  (158, 1, .iastore, []),
  (159, 3, .iinc 4 (-1), [1, 1]),
  (162, 3, .goto (-140), [15]),
  (165, 1, .iconst 1, [1, 0]),
  (166, 1, .ireturn, [1])]
theorem po_Mod_shuffle : ma_ok me_Mod_shuffle pr_Mod_shuffle := ma_ok_of (by decide +kernel)
theorem pa_Mod_shuffle_0 : pr_Mod_shuffle[0]? = some (0, 1, .aload_n 0, []) := rfl
theorem pa_Mod_shuffle_1 : pr_Mod_shuffle[1]? = some (1, 1, .iconst 0, [0, 0]) := rfl
theorem pa_Mod_shuffle_2 : pr_Mod_shuffle[2]? = some (2, 3, .putfield 66, [7, 0, 0, 0, 620]) := rfl
theorem pa_Mod_shuffle_3 : pr_Mod_shuffle[3]? = some (5, 1, .iload_n 1, []) := rfl
theorem pa_Mod_shuffle_4 : pr_Mod_shuffle[4]? = some (6, 3, .ifCond .ge (5), [7]) := rfl
theorem pa_Mod_shuffle_5 : pr_Mod_shuffle[5]? = some (9, 1, .iconst 0, [0, 0]) := rfl
theorem pa_Mod_shuffle_6 : pr_Mod_shuffle[6]? = some (10, 1, .ireturn, [1]) := rfl
theorem pa_Mod_shuffle_7 : pr_Mod_shuffle[7]? = some (11, 1, .iload_n 1, []) := rfl
theorem pa_Mod_shuffle_8 : pr_Mod_shuffle[8]? = some (12, 1, .i2l, []) := rfl
theorem pa_Mod_shuffle_9 : pr_Mod_shuffle[9]? = some (13, 1, .lstore_n 2, []) := rfl
theorem pa_Mod_shuffle_10 : pr_Mod_shuffle[10]? = some (14, 1, .aload_n 0, []) := rfl
theorem pa_Mod_shuffle_11 : pr_Mod_shuffle[11]? = some (15, 3, .getfield 97, [7, 4, 0, 0, 624]) := rfl
theorem pa_Mod_shuffle_12 : pr_Mod_shuffle[12]? = some (18, 1, .iconst 1, [1, 0]) := rfl
theorem pa_Mod_shuffle_13 : pr_Mod_shuffle[13]? = some (19, 1, .isub, []) := rfl
theorem pa_Mod_shuffle_14 : pr_Mod_shuffle[14]? = some (20, 2, .istore 4, []) := rfl
theorem pa_Mod_shuffle_15 : pr_Mod_shuffle[15]? = some (22, 2, .iload 4, []) := rfl
theorem pa_Mod_shuffle_16 : pr_Mod_shuffle[16]? = some (24, 3, .ifCond .le (141), [96]) := rfl
theorem pa_Mod_shuffle_17 : pr_Mod_shuffle[17]? = some (27, 1, .lload_n 2, []) := rfl
theorem pa_Mod_shuffle_18 : pr_Mod_shuffle[18]? = some (28, 3, .ldc2_w 106, [1103515245, 0, 757]) := rfl
theorem pa_Mod_shuffle_19 : pr_Mod_shuffle[19]? = some (31, 1, .lmul, []) := rfl
theorem pa_Mod_shuffle_20 : pr_Mod_shuffle[20]? = some (32, 3, .ldc2_w 108, [12345, 0, 758]) := rfl
theorem pa_Mod_shuffle_21 : pr_Mod_shuffle[21]? = some (35, 1, .ladd, []) := rfl
theorem pa_Mod_shuffle_22 : pr_Mod_shuffle[22]? = some (36, 3, .ldc2_w 110, [2147483648, 0, 759]) := rfl
theorem pa_Mod_shuffle_23 : pr_Mod_shuffle[23]? = some (39, 1, .lrem, []) := rfl
theorem pa_Mod_shuffle_24 : pr_Mod_shuffle[24]? = some (40, 1, .lstore_n 2, []) := rfl
theorem pa_Mod_shuffle_25 : pr_Mod_shuffle[25]? = some (41, 1, .lload_n 2, []) := rfl
theorem pa_Mod_shuffle_26 : pr_Mod_shuffle[26]? = some (42, 3, .ldc2_w 112, [65536, 0, 760]) := rfl
theorem pa_Mod_shuffle_27 : pr_Mod_shuffle[27]? = some (45, 1, .ldiv, []) := rfl
theorem pa_Mod_shuffle_28 : pr_Mod_shuffle[28]? = some (46, 2, .iload 4, []) := rfl
theorem pa_Mod_shuffle_29 : pr_Mod_shuffle[29]? = some (48, 1, .iconst 1, [1, 0]) := rfl
theorem pa_Mod_shuffle_30 : pr_Mod_shuffle[30]? = some (49, 1, .iadd, []) := rfl
theorem pa_Mod_shuffle_31 : pr_Mod_shuffle[31]? = some (50, 1, .i2l, []) := rfl
theorem pa_Mod_shuffle_32 : pr_Mod_shuffle[32]? = some (51, 1, .lrem, []) := rfl
theorem pa_Mod_shuffle_33 : pr_Mod_shuffle[33]? = some (52, 1, .l2i, []) := rfl
theorem pa_Mod_shuffle_34 : pr_Mod_shuffle[34]? = some (53, 2, .istore 5, []) := rfl
theorem pa_Mod_shuffle_35 : pr_Mod_shuffle[35]? = some (55, 1, .iconst 0, [0, 0]) := rfl
theorem pa_Mod_shuffle_36 : pr_Mod_shuffle[36]? = some (56, 2, .istore 6, []) := rfl
theorem pa_Mod_shuffle_37 : pr_Mod_shuffle[37]? = some (58, 2, .iload 6, []) := rfl
theorem pa_Mod_shuffle_38 : pr_Mod_shuffle[38]? = some (60, 2, .bipush 60, [60, 0]) := rfl
theorem pa_Mod_shuffle_39 : pr_Mod_shuffle[39]? = some (62, 3, .if_icmp .ge (65), [76]) := rfl
theorem pa_Mod_shuffle_40 : pr_Mod_shuffle[40]? = some (65, 1, .aload_n 0, []) := rfl
theorem pa_Mod_shuffle_41 : pr_Mod_shuffle[41]? = some (66, 3, .getfield 17, [7, 5, 2, 0, 625]) := rfl
theorem pa_Mod_shuffle_42 : pr_Mod_shuffle[42]? = some (69, 2, .bipush 60, [60, 0]) := rfl
theorem pa_Mod_shuffle_43 : pr_Mod_shuffle[43]? = some (71, 2, .iload 4, []) := rfl
theorem pa_Mod_shuffle_44 : pr_Mod_shuffle[44]? = some (73, 1, .imul, []) := rfl
theorem pa_Mod_shuffle_45 : pr_Mod_shuffle[45]? = some (74, 2, .iload 6, []) := rfl
theorem pa_Mod_shuffle_46 : pr_Mod_shuffle[46]? = some (76, 1, .iadd, []) := rfl
theorem pa_Mod_shuffle_47 : pr_Mod_shuffle[47]? = some (77, 1, .baload, [0]) := rfl
theorem pa_Mod_shuffle_48 : pr_Mod_shuffle[48]? = some (78, 2, .istore 7, []) := rfl
theorem pa_Mod_shuffle_49 : pr_Mod_shuffle[49]? = some (80, 1, .aload_n 0, []) := rfl
theorem pa_Mod_shuffle_50 : pr_Mod_shuffle[50]? = some (81, 3, .getfield 17, [7, 5, 2, 0, 625]) := rfl
theorem pa_Mod_shuffle_51 : pr_Mod_shuffle[51]? = some (84, 2, .bipush 60, [60, 0]) := rfl
theorem pa_Mod_shuffle_52 : pr_Mod_shuffle[52]? = some (86, 2, .iload 4, []) := rfl
theorem pa_Mod_shuffle_53 : pr_Mod_shuffle[53]? = some (88, 1, .imul, []) := rfl
theorem pa_Mod_shuffle_54 : pr_Mod_shuffle[54]? = some (89, 2, .iload 6, []) := rfl
theorem pa_Mod_shuffle_55 : pr_Mod_shuffle[55]? = some (91, 1, .iadd, []) := rfl
theorem pa_Mod_shuffle_56 : pr_Mod_shuffle[56]? = some (92, 1, .aload_n 0, []) := rfl
theorem pa_Mod_shuffle_57 : pr_Mod_shuffle[57]? = some (93, 3, .getfield 17, [7, 5, 2, 0, 625]) := rfl
theorem pa_Mod_shuffle_58 : pr_Mod_shuffle[58]? = some (96, 2, .bipush 60, [60, 0]) := rfl
theorem pa_Mod_shuffle_59 : pr_Mod_shuffle[59]? = some (98, 2, .iload 5, []) := rfl
theorem pa_Mod_shuffle_60 : pr_Mod_shuffle[60]? = some (100, 1, .imul, []) := rfl
theorem pa_Mod_shuffle_61 : pr_Mod_shuffle[61]? = some (101, 2, .iload 6, []) := rfl
theorem pa_Mod_shuffle_62 : pr_Mod_shuffle[62]? = some (103, 1, .iadd, []) := rfl
theorem pa_Mod_shuffle_63 : pr_Mod_shuffle[63]? = some (104, 1, .baload, [0]) := rfl
theorem pa_Mod_shuffle_64 : pr_Mod_shuffle[64]? = some (105, 1, .bastore, [0]) := rfl
theorem pa_Mod_shuffle_65 : pr_Mod_shuffle[65]? = some (106, 1, .aload_n 0, []) := rfl
theorem pa_Mod_shuffle_66 : pr_Mod_shuffle[66]? = some (107, 3, .getfield 17, [7, 5, 2, 0, 625]) := rfl
theorem pa_Mod_shuffle_67 : pr_Mod_shuffle[67]? = some (110, 2, .bipush 60, [60, 0]) := rfl
theorem pa_Mod_shuffle_68 : pr_Mod_shuffle[68]? = some (112, 2, .iload 5, []) := rfl
theorem pa_Mod_shuffle_69 : pr_Mod_shuffle[69]? = some (114, 1, .imul, []) := rfl
theorem pa_Mod_shuffle_70 : pr_Mod_shuffle[70]? = some (115, 2, .iload 6, []) := rfl
theorem pa_Mod_shuffle_71 : pr_Mod_shuffle[71]? = some (117, 1, .iadd, []) := rfl
theorem pa_Mod_shuffle_72 : pr_Mod_shuffle[72]? = some (118, 2, .iload 7, []) := rfl
theorem pa_Mod_shuffle_73 : pr_Mod_shuffle[73]? = some (120, 1, .bastore, [0]) := rfl
theorem pa_Mod_shuffle_74 : pr_Mod_shuffle[74]? = some (121, 3, .iinc 6 (1), [1, 0]) := rfl
theorem pa_Mod_shuffle_75 : pr_Mod_shuffle[75]? = some (124, 3, .goto (-66), [37]) := rfl
theorem pa_Mod_shuffle_76 : pr_Mod_shuffle[76]? = some (127, 1, .aload_n 0, []) := rfl
theorem pa_Mod_shuffle_77 : pr_Mod_shuffle[77]? = some (128, 3, .getfield 20, [7, 6, 2, 0, 626]) := rfl
theorem pa_Mod_shuffle_78 : pr_Mod_shuffle[78]? = some (131, 2, .iload 4, []) := rfl
theorem pa_Mod_shuffle_79 : pr_Mod_shuffle[79]? = some (133, 1, .iaload, []) := rfl
theorem pa_Mod_shuffle_80 : pr_Mod_shuffle[80]? = some (134, 2, .istore 6, []) := rfl
theorem pa_Mod_shuffle_81 : pr_Mod_shuffle[81]? = some (136, 1, .aload_n 0, []) := rfl
theorem pa_Mod_shuffle_82 : pr_Mod_shuffle[82]? = some (137, 3, .getfield 20, [7, 6, 2, 0, 626]) := rfl
theorem pa_Mod_shuffle_83 : pr_Mod_shuffle[83]? = some (140, 2, .iload 4, []) := rfl
theorem pa_Mod_shuffle_84 : pr_Mod_shuffle[84]? = some (142, 1, .aload_n 0, []) := rfl
theorem pa_Mod_shuffle_85 : pr_Mod_shuffle[85]? = some (143, 3, .getfield 20, [7, 6, 2, 0, 626]) := rfl
theorem pa_Mod_shuffle_86 : pr_Mod_shuffle[86]? = some (146, 2, .iload 5, []) := rfl
theorem pa_Mod_shuffle_87 : pr_Mod_shuffle[87]? = some (148, 1, .iaload, []) := rfl
theorem pa_Mod_shuffle_88 : pr_Mod_shuffle[88]? = some (149, 1, .iastore, []) := rfl
theorem pa_Mod_shuffle_89 : pr_Mod_shuffle[89]? = some (150, 1, .aload_n 0, []) := rfl
theorem pa_Mod_shuffle_90 : pr_Mod_shuffle[90]? = some (151, 3, .getfield 20, [7, 6, 2, 0, 626]) := rfl
theorem pa_Mod_shuffle_91 : pr_Mod_shuffle[91]? = some (154, 2, .iload 5, []) := rfl
theorem pa_Mod_shuffle_92 : pr_Mod_shuffle[92]? = some (156, 2, .iload 6, []) := rfl
theorem pa_Mod_shuffle_93 : pr_Mod_shuffle[93]? = some (158, 1, .iastore, []) := rfl
theorem pa_Mod_shuffle_94 : pr_Mod_shuffle[94]? = some (159, 3, .iinc 4 (-1), [1, 1]) := rfl
theorem pa_Mod_shuffle_95 : pr_Mod_shuffle[95]? = some (162, 3, .goto (-140), [15]) := rfl
theorem pa_Mod_shuffle_96 : pr_Mod_shuffle[96]? = some (165, 1, .iconst 1, [1, 0]) := rfl
theorem pa_Mod_shuffle_97 : pr_Mod_shuffle[97]? = some (166, 1, .ireturn, [1]) := rfl
def pa_Mod_shuffle := And.intro pa_Mod_shuffle_0 (And.intro pa_Mod_shuffle_1 (And.intro pa_Mod_shuffle_2 (And.intro pa_Mod_shuffle_3 (And.intro pa_Mod_shuffle_4 (And.intro pa_Mod_shuffle_5 (And.intro pa_Mod_shuffle_6 (And.intro pa_Mod_shuffle_7 (And.intro pa_Mod_shuffle_8 (And.intro pa_Mod_shuffle_9 (And.intro pa_Mod_shuffle_10 (And.intro pa_Mod_shuffle_11 (And.intro pa_Mod_shuffle_12 (And.intro pa_Mod_shuffle_13 (And.intro pa_Mod_shuffle_14 (And.intro pa_Mod_shuffle_15 (And.intro pa_Mod_shuffle_16 (And.intro pa_Mod_shuffle_17 (And.intro pa_Mod_shuffle_18 (And.intro pa_Mod_shuffle_19 (And.intro pa_Mod_shuffle_20 (And.intro pa_Mod_shuffle_21 (And.intro pa_Mod_shuffle_22 (And.intro pa_Mod_shuffle_23 (And.intro pa_Mod_shuffle_24 (And.intro pa_Mod_shuffle_25 (And.intro pa_Mod_shuffle_26 (And.intro pa_Mod_shuffle_27 (And.intro pa_Mod_shuffle_28 (And.intro pa_Mod_shuffle_29 (And.intro pa_Mod_shuffle_30 (And.intro pa_Mod_shuffle_31 (And.intro pa_Mod_shuffle_32 (And.intro pa_Mod_shuffle_33 (And.intro pa_Mod_shuffle_34 (And.intro pa_Mod_shuffle_35 (And.intro pa_Mod_shuffle_36 (And.intro pa_Mod_shuffle_37 (And.intro pa_Mod_shuffle_38 (And.intro pa_Mod_shuffle_39 (And.intro pa_Mod_shuffle_40 (And.intro pa_Mod_shuffle_41 (And.intro pa_Mod_shuffle_42 (And.intro pa_Mod_shuffle_43 (And.intro pa_Mod_shuffle_44 (And.intro pa_Mod_shuffle_45 (And.intro pa_Mod_shuffle_46 (And.intro pa_Mod_shuffle_47 (And.intro pa_Mod_shuffle_48 (And.intro pa_Mod_shuffle_49 (And.intro pa_Mod_shuffle_50 (And.intro pa_Mod_shuffle_51 (And.intro pa_Mod_shuffle_52 (And.intro pa_Mod_shuffle_53 (And.intro pa_Mod_shuffle_54 (And.intro pa_Mod_shuffle_55 (And.intro pa_Mod_shuffle_56 (And.intro pa_Mod_shuffle_57 (And.intro pa_Mod_shuffle_58 (And.intro pa_Mod_shuffle_59 (And.intro pa_Mod_shuffle_60 (And.intro pa_Mod_shuffle_61 (And.intro pa_Mod_shuffle_62 (And.intro pa_Mod_shuffle_63 (And.intro pa_Mod_shuffle_64 (And.intro pa_Mod_shuffle_65 (And.intro pa_Mod_shuffle_66 (And.intro pa_Mod_shuffle_67 (And.intro pa_Mod_shuffle_68 (And.intro pa_Mod_shuffle_69 (And.intro pa_Mod_shuffle_70 (And.intro pa_Mod_shuffle_71 (And.intro pa_Mod_shuffle_72 (And.intro pa_Mod_shuffle_73 (And.intro pa_Mod_shuffle_74 (And.intro pa_Mod_shuffle_75 (And.intro pa_Mod_shuffle_76 (And.intro pa_Mod_shuffle_77 (And.intro pa_Mod_shuffle_78 (And.intro pa_Mod_shuffle_79 (And.intro pa_Mod_shuffle_80 (And.intro pa_Mod_shuffle_81 (And.intro pa_Mod_shuffle_82 (And.intro pa_Mod_shuffle_83 (And.intro pa_Mod_shuffle_84 (And.intro pa_Mod_shuffle_85 (And.intro pa_Mod_shuffle_86 (And.intro pa_Mod_shuffle_87 (And.intro pa_Mod_shuffle_88 (And.intro pa_Mod_shuffle_89 (And.intro pa_Mod_shuffle_90 (And.intro pa_Mod_shuffle_91 (And.intro pa_Mod_shuffle_92 (And.intro pa_Mod_shuffle_93 (And.intro pa_Mod_shuffle_94 (And.intro pa_Mod_shuffle_95 (And.intro pa_Mod_shuffle_96 (pa_Mod_shuffle_97)))))))))))))))))))))))))))))))))))))))))))))))))))))))))))))))))))))))))))))))))))))))))))))))))
def pr_Mod_signature : List ma_E := [(0, 1, .iconst 0, [0, 0]),
  (1, 1, .istore_n 1, []),
  (2, 1, .iconst 1, [1, 0]),
  (3, 1, .istore_n 2, []),
  (4, 1, .iload_n 2, []),
  (5, 2, .bipush 33, [33, 0]),
  (7, 3, .if_icmp .ge (34), [26]),
  (10, 1, .iload_n 1, []),
  (11, 1, .aload_n 0, []),
  (12, 3, .getfield 32, [7, 13, 2, 0, 633]),
  (15, 1, .iload_n 2, []),
  (16, 1, .iaload, []),
  (17, 1, .aload_n 0, []),
  (18, 3, .getfield 32, [7, 13, 2, 0, 633]),
  (21, 1, .iload_n 2, []),
  (22, 1, .iconst 1, [1, 0]),
  (23, 1, .isub, []),
  (24, 1, .iaload, []),
  (25, 3, .if_icmp .lt (7), [21]),
  (28, 1, .iload_n 2, []),
  (29, 3, .goto (4), [22]),
  (32, 1, .iconst 0, [0, 0]),
  (33, 1, .iadd, []),
  (34, 1, .istore_n 1, []),
  (35, 3, .iinc 2 (1), [1, 0]),
  (38, 3, .goto (-34), [4]),
  (41, 1, .iload_n 1, []),
  (42, 2, .bipush 33, [33, 0]),
  (44, 1, .irem, []),
  (45, 1, .ireturn, [0])]
theorem po_Mod_signature : ma_ok me_Mod_signature pr_Mod_signature := ma_ok_of (by decide +kernel)
theorem pa_Mod_signature_0 : pr_Mod_signature[0]? = some (0, 1, .iconst 0, [0, 0]) := rfl
theorem pa_Mod_signature_1 : pr_Mod_signature[1]? = some (1, 1, .istore_n 1, []) := rfl
theorem pa_Mod_signature_2 : pr_Mod_signature[2]? = some (2, 1, .iconst 1, [1, 0]) := rfl
theorem pa_Mod_signature_3 : pr_Mod_signature[3]? = some (3, 1, .istore_n 2, []) := rfl
theorem pa_Mod_signature_4 : pr_Mod_signature[4]? = some (4, 1, .iload_n 2, []) := rfl
theorem pa_Mod_signature_5 : pr_Mod_signature[5]? = some (5, 2, .bipush 33, [33, 0]) := rfl
theorem pa_Mod_signature_6 : pr_Mod_signature[6]? = some (7, 3, .if_icmp .ge (34), [26]) := rfl
theorem pa_Mod_signature_7 : pr_Mod_signature[7]? = some (10, 1, .iload_n 1, []) := rfl
theorem pa_Mod_signature_8 : pr_Mod_signature[8]? = some (11, 1, .aload_n 0, []) := rfl
theorem pa_Mod_signature_9 : pr_Mod_signature[9]? = some (12, 3, .getfield 32, [7, 13, 2, 0, 633]) := rfl
theorem pa_Mod_signature_10 : pr_Mod_signature[10]? = some (15, 1, .iload_n 2, []) := rfl
theorem pa_Mod_signature_11 : pr_Mod_signature[11]? = some (16, 1, .iaload, []) := rfl
theorem pa_Mod_signature_12 : pr_Mod_signature[12]? = some (17, 1, .aload_n 0, []) := rfl
theorem pa_Mod_signature_13 : pr_Mod_signature[13]? = some (18, 3, .getfield 32, [7, 13, 2, 0, 633]) := rfl
theorem pa_Mod_signature_14 : pr_Mod_signature[14]? = some (21, 1, .iload_n 2, []) := rfl
theorem pa_Mod_signature_15 : pr_Mod_signature[15]? = some (22, 1, .iconst 1, [1, 0]) := rfl
theorem pa_Mod_signature_16 : pr_Mod_signature[16]? = some (23, 1, .isub, []) := rfl
theorem pa_Mod_signature_17 : pr_Mod_signature[17]? = some (24, 1, .iaload, []) := rfl
theorem pa_Mod_signature_18 : pr_Mod_signature[18]? = some (25, 3, .if_icmp .lt (7), [21]) := rfl
theorem pa_Mod_signature_19 : pr_Mod_signature[19]? = some (28, 1, .iload_n 2, []) := rfl
theorem pa_Mod_signature_20 : pr_Mod_signature[20]? = some (29, 3, .goto (4), [22]) := rfl
theorem pa_Mod_signature_21 : pr_Mod_signature[21]? = some (32, 1, .iconst 0, [0, 0]) := rfl
theorem pa_Mod_signature_22 : pr_Mod_signature[22]? = some (33, 1, .iadd, []) := rfl
theorem pa_Mod_signature_23 : pr_Mod_signature[23]? = some (34, 1, .istore_n 1, []) := rfl
theorem pa_Mod_signature_24 : pr_Mod_signature[24]? = some (35, 3, .iinc 2 (1), [1, 0]) := rfl
theorem pa_Mod_signature_25 : pr_Mod_signature[25]? = some (38, 3, .goto (-34), [4]) := rfl
theorem pa_Mod_signature_26 : pr_Mod_signature[26]? = some (41, 1, .iload_n 1, []) := rfl
theorem pa_Mod_signature_27 : pr_Mod_signature[27]? = some (42, 2, .bipush 33, [33, 0]) := rfl
theorem pa_Mod_signature_28 : pr_Mod_signature[28]? = some (44, 1, .irem, []) := rfl
theorem pa_Mod_signature_29 : pr_Mod_signature[29]? = some (45, 1, .ireturn, [0]) := rfl
def pa_Mod_signature := And.intro pa_Mod_signature_0 (And.intro pa_Mod_signature_1 (And.intro pa_Mod_signature_2 (And.intro pa_Mod_signature_3 (And.intro pa_Mod_signature_4 (And.intro pa_Mod_signature_5 (And.intro pa_Mod_signature_6 (And.intro pa_Mod_signature_7 (And.intro pa_Mod_signature_8 (And.intro pa_Mod_signature_9 (And.intro pa_Mod_signature_10 (And.intro pa_Mod_signature_11 (And.intro pa_Mod_signature_12 (And.intro pa_Mod_signature_13 (And.intro pa_Mod_signature_14 (And.intro pa_Mod_signature_15 (And.intro pa_Mod_signature_16 (And.intro pa_Mod_signature_17 (And.intro pa_Mod_signature_18 (And.intro pa_Mod_signature_19 (And.intro pa_Mod_signature_20 (And.intro pa_Mod_signature_21 (And.intro pa_Mod_signature_22 (And.intro pa_Mod_signature_23 (And.intro pa_Mod_signature_24 (And.intro pa_Mod_signature_25 (And.intro pa_Mod_signature_26 (And.intro pa_Mod_signature_27 (And.intro pa_Mod_signature_28 (pa_Mod_signature_29)))))))))))))))))))))))))))))
def pr_Mod_sum : List ma_E := [(0, 1, .iconst 0, [0, 0]),
  (1, 1, .istore_n 1, []),
  (2, 1, .iconst 0, [0, 0]),
  (3, 1, .istore_n 2, []),
  (4, 1, .iload_n 2, []),
  (5, 2, .bipush 33, [33, 0]),
  (7, 3, .if_icmp .ge (18), [16]),
  (10, 1, .iload_n 1, []),
  (11, 1, .aload_n 0, []),
  (12, 3, .getfield 32, [7, 13, 2, 0, 633]),
  (15, 1, .iload_n 2, []),
  (16, 1, .iaload, []),
  (17, 1, .iadd, []),
  (18, 1, .istore_n 1, []),
  (19, 3, .iinc 2 (1), [1, 0]),
  (22, 3, .goto (-18), [4]),
  (25, 1, .iload_n 1, []),
  (26, 1, .iconst 4, [4, 0]),
  (27, 1, .irem, []),
  (28, 1, .ireturn, [0])]
theorem po_Mod_sum : ma_ok me_Mod_sum pr_Mod_sum := ma_ok_of (by decide +kernel)
theorem pa_Mod_sum_0 : pr_Mod_sum[0]? = some (0, 1, .iconst 0, [0, 0]) := rfl
theorem pa_Mod_sum_1 : pr_Mod_sum[1]? = some (1, 1, .istore_n 1, []) := rfl
theorem pa_Mod_sum_2 : pr_Mod_sum[2]? = some (2, 1, .iconst 0, [0, 0]) := rfl
theorem pa_Mod_sum_3 : pr_Mod_sum[3]? = some (3, 1, .istore_n 2, []) := rfl
theorem pa_Mod_sum_4 : pr_Mod_sum[4]? = some (4, 1, .iload_n 2, []) := rfl
theorem pa_Mod_sum_5 : pr_Mod_sum[5]? = some (5, 2, .bipush 33, [33, 0]) := rfl
theorem pa_Mod_sum_6 : pr_Mod_sum[6]? = some (7, 3, .if_icmp .ge (18), [16]) := rfl
theorem pa_Mod_sum_7 : pr_Mod_sum[7]? = some (10, 1, .iload_n 1, []) := rfl
theorem pa_Mod_sum_8 : pr_Mod_sum[8]? = some (11, 1, .aload_n 0, []) := rfl
theorem pa_Mod_sum_9 : pr_Mod_sum[9]? = some (12, 3, .getfield 32, [7, 13, 2, 0, 633]) := rfl
theorem pa_Mod_sum_10 : pr_Mod_sum[10]? = some (15, 1, .iload_n 2, []) := rfl
theorem pa_Mod_sum_11 : pr_Mod_sum[11]? = some (16, 1, .iaload, []) := rfl
theorem pa_Mod_sum_12 : pr_Mod_sum[12]? = some (17, 1, .iadd, []) := rfl
theorem pa_Mod_sum_13 : pr_Mod_sum[13]? = some (18, 1, .istore_n 1, []) := rfl
theorem pa_Mod_sum_14 : pr_Mod_sum[14]? = some (19, 3, .iinc 2 (1), [1, 0]) := rfl
theorem pa_Mod_sum_15 : pr_Mod_sum[15]? = some (22, 3, .goto (-18), [4]) := rfl
theorem pa_Mod_sum_16 : pr_Mod_sum[16]? = some (25, 1, .iload_n 1, []) := rfl
theorem pa_Mod_sum_17 : pr_Mod_sum[17]? = some (26, 1, .iconst 4, [4, 0]) := rfl
theorem pa_Mod_sum_18 : pr_Mod_sum[18]? = some (27, 1, .irem, []) := rfl
theorem pa_Mod_sum_19 : pr_Mod_sum[19]? = some (28, 1, .ireturn, [0]) := rfl
def pa_Mod_sum := And.intro pa_Mod_sum_0 (And.intro pa_Mod_sum_1 (And.intro pa_Mod_sum_2 (And.intro pa_Mod_sum_3 (And.intro pa_Mod_sum_4 (And.intro pa_Mod_sum_5 (And.intro pa_Mod_sum_6 (And.intro pa_Mod_sum_7 (And.intro pa_Mod_sum_8 (And.intro pa_Mod_sum_9 (And.intro pa_Mod_sum_10 (And.intro pa_Mod_sum_11 (And.intro pa_Mod_sum_12 (And.intro pa_Mod_sum_13 (And.intro pa_Mod_sum_14 (And.intro pa_Mod_sum_15 (And.intro pa_Mod_sum_16 (And.intro pa_Mod_sum_17 (And.intro pa_Mod_sum_18 (pa_Mod_sum_19)))))))))))))))))))
def pr_Mod_thrown : List ma_E := [(0, 1, .aload_n 0, []),
  (1, 3, .getfield 66, [7, 0, 0, 0, 620]),
  (4, 1, .ireturn, [0])]
theorem po_Mod_thrown : ma_ok me_Mod_thrown pr_Mod_thrown := ma_ok_of (by decide +kernel)
theorem pa_Mod_thrown_0 : pr_Mod_thrown[0]? = some (0, 1, .aload_n 0, []) := rfl
theorem pa_Mod_thrown_1 : pr_Mod_thrown[1]? = some (1, 3, .getfield 66, [7, 0, 0, 0, 620]) := rfl
theorem pa_Mod_thrown_2 : pr_Mod_thrown[2]? = some (4, 1, .ireturn, [0]) := rfl
def pa_Mod_thrown := And.intro pa_Mod_thrown_0 (And.intro pa_Mod_thrown_1 (pa_Mod_thrown_2))
def pr_Mod_times : List ma_E := [(0, 1, .iconst 0, [0, 0]),
  (1, 1, .istore_n 2, []),
  (2, 1, .iload_n 0, []),
  (3, 3, .sipush 255, [255, 0]),
  (6, 1, .iand, []),
  (7, 1, .istore_n 3, []),
  (8, 1, .iconst 0, [0, 0]),
  (9, 2, .istore 4, []),
  (11, 2, .iload 4, []),
  (13, 2, .bipush 8, [8, 0]),
  (15, 3, .if_icmp .ge (40), [35]),
  (18, 1, .iload_n 1, []),
  (19, 2, .iload 4, []),
  (21, 1, .ishr, []),
  (22, 1, .iconst 1, [1, 0]),
  (23, 1, .iand, []),
  (24, 1, .iconst 1, [1, 0]),
  (25, 3, .if_icmp .ne (7), [22]),
  (28, 1, .iload_n 2, []),
  (29, 1, .iload_n 3, []),
  (30, 1, .ixor, []),
  (31, 1, .istore_n 2, []),
  (32, 1, .iload_n 3, []),
  (33, 1, .iconst 1, [1, 0]),
  (34, 1, .ishl, []),
  (35, 1, .istore_n 3, []),
  (36, 1, .iload_n 3, []),
  (37, 3, .sipush 255, [255, 0]),
  (40, 3, .if_icmp .le (9), [33]),
  (43, 1, .iload_n 3, []),
  (44, 3, .sipush 285, [285, 0]),
  (47, 1, .ixor, []),
  (48, 1, .istore_n 3, []),
  (49, 3, .iinc 4 (1), [1, 0]),
  (52, 3, .goto (-41), [8]),
  (55, 1, .iload_n 2, []),
  (56, 1, .ireturn, [0])]
theorem po_Mod_times : ma_ok me_Mod_times pr_Mod_times := ma_ok_of (by decide +kernel)
theorem pa_Mod_times_0 : pr_Mod_times[0]? = some (0, 1, .iconst 0, [0, 0]) := rfl
theorem pa_Mod_times_1 : pr_Mod_times[1]? = some (1, 1, .istore_n 2, []) := rfl
theorem pa_Mod_times_2 : pr_Mod_times[2]? = some (2, 1, .iload_n 0, []) := rfl
theorem pa_Mod_times_3 : pr_Mod_times[3]? = some (3, 3, .sipush 255, [255, 0]) := rfl
theorem pa_Mod_times_4 : pr_Mod_times[4]? = some (6, 1, .iand, []) := rfl
theorem pa_Mod_times_5 : pr_Mod_times[5]? = some (7, 1, .istore_n 3, []) := rfl
theorem pa_Mod_times_6 : pr_Mod_times[6]? = some (8, 1, .iconst 0, [0, 0]) := rfl
theorem pa_Mod_times_7 : pr_Mod_times[7]? = some (9, 2, .istore 4, []) := rfl
theorem pa_Mod_times_8 : pr_Mod_times[8]? = some (11, 2, .iload 4, []) := rfl
theorem pa_Mod_times_9 : pr_Mod_times[9]? = some (13, 2, .bipush 8, [8, 0]) := rfl
theorem pa_Mod_times_10 : pr_Mod_times[10]? = some (15, 3, .if_icmp .ge (40), [35]) := rfl
theorem pa_Mod_times_11 : pr_Mod_times[11]? = some (18, 1, .iload_n 1, []) := rfl
theorem pa_Mod_times_12 : pr_Mod_times[12]? = some (19, 2, .iload 4, []) := rfl
theorem pa_Mod_times_13 : pr_Mod_times[13]? = some (21, 1, .ishr, []) := rfl
theorem pa_Mod_times_14 : pr_Mod_times[14]? = some (22, 1, .iconst 1, [1, 0]) := rfl
theorem pa_Mod_times_15 : pr_Mod_times[15]? = some (23, 1, .iand, []) := rfl
theorem pa_Mod_times_16 : pr_Mod_times[16]? = some (24, 1, .iconst 1, [1, 0]) := rfl
theorem pa_Mod_times_17 : pr_Mod_times[17]? = some (25, 3, .if_icmp .ne (7), [22]) := rfl
theorem pa_Mod_times_18 : pr_Mod_times[18]? = some (28, 1, .iload_n 2, []) := rfl
theorem pa_Mod_times_19 : pr_Mod_times[19]? = some (29, 1, .iload_n 3, []) := rfl
theorem pa_Mod_times_20 : pr_Mod_times[20]? = some (30, 1, .ixor, []) := rfl
theorem pa_Mod_times_21 : pr_Mod_times[21]? = some (31, 1, .istore_n 2, []) := rfl
theorem pa_Mod_times_22 : pr_Mod_times[22]? = some (32, 1, .iload_n 3, []) := rfl
theorem pa_Mod_times_23 : pr_Mod_times[23]? = some (33, 1, .iconst 1, [1, 0]) := rfl
theorem pa_Mod_times_24 : pr_Mod_times[24]? = some (34, 1, .ishl, []) := rfl
theorem pa_Mod_times_25 : pr_Mod_times[25]? = some (35, 1, .istore_n 3, []) := rfl
theorem pa_Mod_times_26 : pr_Mod_times[26]? = some (36, 1, .iload_n 3, []) := rfl
theorem pa_Mod_times_27 : pr_Mod_times[27]? = some (37, 3, .sipush 255, [255, 0]) := rfl
theorem pa_Mod_times_28 : pr_Mod_times[28]? = some (40, 3, .if_icmp .le (9), [33]) := rfl
theorem pa_Mod_times_29 : pr_Mod_times[29]? = some (43, 1, .iload_n 3, []) := rfl
theorem pa_Mod_times_30 : pr_Mod_times[30]? = some (44, 3, .sipush 285, [285, 0]) := rfl
theorem pa_Mod_times_31 : pr_Mod_times[31]? = some (47, 1, .ixor, []) := rfl
theorem pa_Mod_times_32 : pr_Mod_times[32]? = some (48, 1, .istore_n 3, []) := rfl
theorem pa_Mod_times_33 : pr_Mod_times[33]? = some (49, 3, .iinc 4 (1), [1, 0]) := rfl
theorem pa_Mod_times_34 : pr_Mod_times[34]? = some (52, 3, .goto (-41), [8]) := rfl
theorem pa_Mod_times_35 : pr_Mod_times[35]? = some (55, 1, .iload_n 2, []) := rfl
theorem pa_Mod_times_36 : pr_Mod_times[36]? = some (56, 1, .ireturn, [0]) := rfl
def pa_Mod_times := And.intro pa_Mod_times_0 (And.intro pa_Mod_times_1 (And.intro pa_Mod_times_2 (And.intro pa_Mod_times_3 (And.intro pa_Mod_times_4 (And.intro pa_Mod_times_5 (And.intro pa_Mod_times_6 (And.intro pa_Mod_times_7 (And.intro pa_Mod_times_8 (And.intro pa_Mod_times_9 (And.intro pa_Mod_times_10 (And.intro pa_Mod_times_11 (And.intro pa_Mod_times_12 (And.intro pa_Mod_times_13 (And.intro pa_Mod_times_14 (And.intro pa_Mod_times_15 (And.intro pa_Mod_times_16 (And.intro pa_Mod_times_17 (And.intro pa_Mod_times_18 (And.intro pa_Mod_times_19 (And.intro pa_Mod_times_20 (And.intro pa_Mod_times_21 (And.intro pa_Mod_times_22 (And.intro pa_Mod_times_23 (And.intro pa_Mod_times_24 (And.intro pa_Mod_times_25 (And.intro pa_Mod_times_26 (And.intro pa_Mod_times_27 (And.intro pa_Mod_times_28 (And.intro pa_Mod_times_29 (And.intro pa_Mod_times_30 (And.intro pa_Mod_times_31 (And.intro pa_Mod_times_32 (And.intro pa_Mod_times_33 (And.intro pa_Mod_times_34 (And.intro pa_Mod_times_35 (pa_Mod_times_36))))))))))))))))))))))))))))))))))))
def pr_Itg_bitCount : List ma_E := [(0, 1, .iload_n 0, []),
  (1, 1, .iload_n 0, []),
  (2, 1, .iconst 1, [1, 0]),
  (3, 1, .iushr, []),
  (4, 3, .ldc_w 265, [1431655765, 0, 517]),
  (7, 1, .iand, []),
  (8, 1, .isub, []),
  (9, 1, .istore_n 0, []),
  (10, 1, .iload_n 0, []),
  (11, 3, .ldc_w 266, [858993459, 0, 518]),
  (14, 1, .iand, []),
  (15, 1, .iload_n 0, []),
  (16, 1, .iconst 2, [2, 0]),
  (17, 1, .iushr, []),
  (18, 3, .ldc_w 266, [858993459, 0, 518]),
  (21, 1, .iand, []),
  (22, 1, .iadd, []),
  (23, 1, .istore_n 0, []),
  (24, 1, .iload_n 0, []),
  (25, 1, .iload_n 0, []),
  (26, 1, .iconst 4, [4, 0]),
  (27, 1, .iushr, []),
  (28, 1, .iadd, []),
  (29, 3, .ldc_w 267, [252645135, 0, 519]),
  (32, 1, .iand, []),
  (33, 1, .istore_n 0, []),
  (34, 1, .iload_n 0, []),
  (35, 1, .iload_n 0, []),
  (36, 2, .bipush 8, [8, 0]),
  (38, 1, .iushr, []),
  (39, 1, .iadd, []),
  (40, 1, .istore_n 0, []),
  (41, 1, .iload_n 0, []),
  (42, 1, .iload_n 0, []),
  (43, 2, .bipush 16, [16, 0]),
  (45, 1, .iushr, []),
  (46, 1, .iadd, []),
  (47, 1, .istore_n 0, []),
  (48, 1, .iload_n 0, []),
  (49, 2, .bipush 63, [63, 0]),
  (51, 1, .iand, []),
  (52, 1, .ireturn, [0])]
theorem po_Itg_bitCount : ma_ok me_Itg_bitCount pr_Itg_bitCount := ma_ok_of (by decide +kernel)
theorem pa_Itg_bitCount_0 : pr_Itg_bitCount[0]? = some (0, 1, .iload_n 0, []) := rfl
theorem pa_Itg_bitCount_1 : pr_Itg_bitCount[1]? = some (1, 1, .iload_n 0, []) := rfl
theorem pa_Itg_bitCount_2 : pr_Itg_bitCount[2]? = some (2, 1, .iconst 1, [1, 0]) := rfl
theorem pa_Itg_bitCount_3 : pr_Itg_bitCount[3]? = some (3, 1, .iushr, []) := rfl
theorem pa_Itg_bitCount_4 : pr_Itg_bitCount[4]? = some (4, 3, .ldc_w 265, [1431655765, 0, 517]) := rfl
theorem pa_Itg_bitCount_5 : pr_Itg_bitCount[5]? = some (7, 1, .iand, []) := rfl
theorem pa_Itg_bitCount_6 : pr_Itg_bitCount[6]? = some (8, 1, .isub, []) := rfl
theorem pa_Itg_bitCount_7 : pr_Itg_bitCount[7]? = some (9, 1, .istore_n 0, []) := rfl
theorem pa_Itg_bitCount_8 : pr_Itg_bitCount[8]? = some (10, 1, .iload_n 0, []) := rfl
theorem pa_Itg_bitCount_9 : pr_Itg_bitCount[9]? = some (11, 3, .ldc_w 266, [858993459, 0, 518]) := rfl
theorem pa_Itg_bitCount_10 : pr_Itg_bitCount[10]? = some (14, 1, .iand, []) := rfl
theorem pa_Itg_bitCount_11 : pr_Itg_bitCount[11]? = some (15, 1, .iload_n 0, []) := rfl
theorem pa_Itg_bitCount_12 : pr_Itg_bitCount[12]? = some (16, 1, .iconst 2, [2, 0]) := rfl
theorem pa_Itg_bitCount_13 : pr_Itg_bitCount[13]? = some (17, 1, .iushr, []) := rfl
theorem pa_Itg_bitCount_14 : pr_Itg_bitCount[14]? = some (18, 3, .ldc_w 266, [858993459, 0, 518]) := rfl
theorem pa_Itg_bitCount_15 : pr_Itg_bitCount[15]? = some (21, 1, .iand, []) := rfl
theorem pa_Itg_bitCount_16 : pr_Itg_bitCount[16]? = some (22, 1, .iadd, []) := rfl
theorem pa_Itg_bitCount_17 : pr_Itg_bitCount[17]? = some (23, 1, .istore_n 0, []) := rfl
theorem pa_Itg_bitCount_18 : pr_Itg_bitCount[18]? = some (24, 1, .iload_n 0, []) := rfl
theorem pa_Itg_bitCount_19 : pr_Itg_bitCount[19]? = some (25, 1, .iload_n 0, []) := rfl
theorem pa_Itg_bitCount_20 : pr_Itg_bitCount[20]? = some (26, 1, .iconst 4, [4, 0]) := rfl
theorem pa_Itg_bitCount_21 : pr_Itg_bitCount[21]? = some (27, 1, .iushr, []) := rfl
theorem pa_Itg_bitCount_22 : pr_Itg_bitCount[22]? = some (28, 1, .iadd, []) := rfl
theorem pa_Itg_bitCount_23 : pr_Itg_bitCount[23]? = some (29, 3, .ldc_w 267, [252645135, 0, 519]) := rfl
theorem pa_Itg_bitCount_24 : pr_Itg_bitCount[24]? = some (32, 1, .iand, []) := rfl
theorem pa_Itg_bitCount_25 : pr_Itg_bitCount[25]? = some (33, 1, .istore_n 0, []) := rfl
theorem pa_Itg_bitCount_26 : pr_Itg_bitCount[26]? = some (34, 1, .iload_n 0, []) := rfl
theorem pa_Itg_bitCount_27 : pr_Itg_bitCount[27]? = some (35, 1, .iload_n 0, []) := rfl
theorem pa_Itg_bitCount_28 : pr_Itg_bitCount[28]? = some (36, 2, .bipush 8, [8, 0]) := rfl
theorem pa_Itg_bitCount_29 : pr_Itg_bitCount[29]? = some (38, 1, .iushr, []) := rfl
theorem pa_Itg_bitCount_30 : pr_Itg_bitCount[30]? = some (39, 1, .iadd, []) := rfl
theorem pa_Itg_bitCount_31 : pr_Itg_bitCount[31]? = some (40, 1, .istore_n 0, []) := rfl
theorem pa_Itg_bitCount_32 : pr_Itg_bitCount[32]? = some (41, 1, .iload_n 0, []) := rfl
theorem pa_Itg_bitCount_33 : pr_Itg_bitCount[33]? = some (42, 1, .iload_n 0, []) := rfl
theorem pa_Itg_bitCount_34 : pr_Itg_bitCount[34]? = some (43, 2, .bipush 16, [16, 0]) := rfl
theorem pa_Itg_bitCount_35 : pr_Itg_bitCount[35]? = some (45, 1, .iushr, []) := rfl
theorem pa_Itg_bitCount_36 : pr_Itg_bitCount[36]? = some (46, 1, .iadd, []) := rfl
theorem pa_Itg_bitCount_37 : pr_Itg_bitCount[37]? = some (47, 1, .istore_n 0, []) := rfl
theorem pa_Itg_bitCount_38 : pr_Itg_bitCount[38]? = some (48, 1, .iload_n 0, []) := rfl
theorem pa_Itg_bitCount_39 : pr_Itg_bitCount[39]? = some (49, 2, .bipush 63, [63, 0]) := rfl
theorem pa_Itg_bitCount_40 : pr_Itg_bitCount[40]? = some (51, 1, .iand, []) := rfl
theorem pa_Itg_bitCount_41 : pr_Itg_bitCount[41]? = some (52, 1, .ireturn, [0]) := rfl
def pa_Itg_bitCount := And.intro pa_Itg_bitCount_0 (And.intro pa_Itg_bitCount_1 (And.intro pa_Itg_bitCount_2 (And.intro pa_Itg_bitCount_3 (And.intro pa_Itg_bitCount_4 (And.intro pa_Itg_bitCount_5 (And.intro pa_Itg_bitCount_6 (And.intro pa_Itg_bitCount_7 (And.intro pa_Itg_bitCount_8 (And.intro pa_Itg_bitCount_9 (And.intro pa_Itg_bitCount_10 (And.intro pa_Itg_bitCount_11 (And.intro pa_Itg_bitCount_12 (And.intro pa_Itg_bitCount_13 (And.intro pa_Itg_bitCount_14 (And.intro pa_Itg_bitCount_15 (And.intro pa_Itg_bitCount_16 (And.intro pa_Itg_bitCount_17 (And.intro pa_Itg_bitCount_18 (And.intro pa_Itg_bitCount_19 (And.intro pa_Itg_bitCount_20 (And.intro pa_Itg_bitCount_21 (And.intro pa_Itg_bitCount_22 (And.intro pa_Itg_bitCount_23 (And.intro pa_Itg_bitCount_24 (And.intro pa_Itg_bitCount_25 (And.intro pa_Itg_bitCount_26 (And.intro pa_Itg_bitCount_27 (And.intro pa_Itg_bitCount_28 (And.intro pa_Itg_bitCount_29 (And.intro pa_Itg_bitCount_30 (And.intro pa_Itg_bitCount_31 (And.intro pa_Itg_bitCount_32 (And.intro pa_Itg_bitCount_33 (And.intro pa_Itg_bitCount_34 (And.intro pa_Itg_bitCount_35 (And.intro pa_Itg_bitCount_36 (And.intro pa_Itg_bitCount_37 (And.intro pa_Itg_bitCount_38 (And.intro pa_Itg_bitCount_39 (And.intro pa_Itg_bitCount_40 (pa_Itg_bitCount_41)))))))))))))))))))))))))))))))))))))))))
def pr_Arr_fill : List ma_E := [(0, 1, .iconst 0, [0, 0]),
  (1, 1, .istore_n 2, []),
  (2, 1, .aload_n 0, []),
  (3, 1, .arraylength, []),
  (4, 1, .istore_n 3, []),
  (5, 1, .iload_n 2, []),
  (6, 1, .iload_n 3, []),
  (7, 3, .if_icmp .ge (13), [14]),
  (10, 1, .aload_n 0, []),
  (11, 1, .iload_n 2, []),
  (12, 1, .iload_n 1, []),
  (13, 1, .iastore, []),
  (14, 3, .iinc 2 (1), [1, 0]),
  (17, 3, .goto (-12), [5]),
  (20, 1, .return_, [])]
theorem po_Arr_fill : ma_ok me_Arr_fill pr_Arr_fill := ma_ok_of (by decide +kernel)
theorem pa_Arr_fill_0 : pr_Arr_fill[0]? = some (0, 1, .iconst 0, [0, 0]) := rfl
theorem pa_Arr_fill_1 : pr_Arr_fill[1]? = some (1, 1, .istore_n 2, []) := rfl
theorem pa_Arr_fill_2 : pr_Arr_fill[2]? = some (2, 1, .aload_n 0, []) := rfl
theorem pa_Arr_fill_3 : pr_Arr_fill[3]? = some (3, 1, .arraylength, []) := rfl
theorem pa_Arr_fill_4 : pr_Arr_fill[4]? = some (4, 1, .istore_n 3, []) := rfl
theorem pa_Arr_fill_5 : pr_Arr_fill[5]? = some (5, 1, .iload_n 2, []) := rfl
theorem pa_Arr_fill_6 : pr_Arr_fill[6]? = some (6, 1, .iload_n 3, []) := rfl
theorem pa_Arr_fill_7 : pr_Arr_fill[7]? = some (7, 3, .if_icmp .ge (13), [14]) := rfl
theorem pa_Arr_fill_8 : pr_Arr_fill[8]? = some (10, 1, .aload_n 0, []) := rfl
theorem pa_Arr_fill_9 : pr_Arr_fill[9]? = some (11, 1, .iload_n 2, []) := rfl
theorem pa_Arr_fill_10 : pr_Arr_fill[10]? = some (12, 1, .iload_n 1, []) := rfl
theorem pa_Arr_fill_11 : pr_Arr_fill[11]? = some (13, 1, .iastore, []) := rfl
theorem pa_Arr_fill_12 : pr_Arr_fill[12]? = some (14, 3, .iinc 2 (1), [1, 0]) := rfl
theorem pa_Arr_fill_13 : pr_Arr_fill[13]? = some (17, 3, .goto (-12), [5]) := rfl
theorem pa_Arr_fill_14 : pr_Arr_fill[14]? = some (20, 1, .return_, []) := rfl
def pa_Arr_fill := And.intro pa_Arr_fill_0 (And.intro pa_Arr_fill_1 (And.intro pa_Arr_fill_2 (And.intro pa_Arr_fill_3 (And.intro pa_Arr_fill_4 (And.intro pa_Arr_fill_5 (And.intro pa_Arr_fill_6 (And.intro pa_Arr_fill_7 (And.intro pa_Arr_fill_8 (And.intro pa_Arr_fill_9 (And.intro pa_Arr_fill_10 (And.intro pa_Arr_fill_11 (And.intro pa_Arr_fill_12 (And.intro pa_Arr_fill_13 (pa_Arr_fill_14))))))))))))))
def pr_Mth_floorMod : List ma_E := [(0, 1, .iload_n 0, []),
  (1, 1, .iload_n 1, []),
  (2, 1, .irem, []),
  (3, 1, .istore_n 2, []),
  (4, 1, .iload_n 0, []),
  (5, 1, .iload_n 1, []),
  (6, 1, .ixor, []),
  (7, 3, .ifCond .ge (11), [14]),
  (10, 1, .iload_n 2, []),
  (11, 3, .ifCond .eq (7), [14]),
  (14, 1, .iload_n 2, []),
  (15, 1, .iload_n 1, []),
  (16, 1, .iadd, []),
  (17, 1, .ireturn, [0]),
  (18, 1, .iload_n 2, []),
  (19, 1, .ireturn, [0])]
theorem po_Mth_floorMod : ma_ok me_Mth_floorMod pr_Mth_floorMod := ma_ok_of (by decide +kernel)
theorem pa_Mth_floorMod_0 : pr_Mth_floorMod[0]? = some (0, 1, .iload_n 0, []) := rfl
theorem pa_Mth_floorMod_1 : pr_Mth_floorMod[1]? = some (1, 1, .iload_n 1, []) := rfl
theorem pa_Mth_floorMod_2 : pr_Mth_floorMod[2]? = some (2, 1, .irem, []) := rfl
theorem pa_Mth_floorMod_3 : pr_Mth_floorMod[3]? = some (3, 1, .istore_n 2, []) := rfl
theorem pa_Mth_floorMod_4 : pr_Mth_floorMod[4]? = some (4, 1, .iload_n 0, []) := rfl
theorem pa_Mth_floorMod_5 : pr_Mth_floorMod[5]? = some (5, 1, .iload_n 1, []) := rfl
theorem pa_Mth_floorMod_6 : pr_Mth_floorMod[6]? = some (6, 1, .ixor, []) := rfl
theorem pa_Mth_floorMod_7 : pr_Mth_floorMod[7]? = some (7, 3, .ifCond .ge (11), [14]) := rfl
theorem pa_Mth_floorMod_8 : pr_Mth_floorMod[8]? = some (10, 1, .iload_n 2, []) := rfl
theorem pa_Mth_floorMod_9 : pr_Mth_floorMod[9]? = some (11, 3, .ifCond .eq (7), [14]) := rfl
theorem pa_Mth_floorMod_10 : pr_Mth_floorMod[10]? = some (14, 1, .iload_n 2, []) := rfl
theorem pa_Mth_floorMod_11 : pr_Mth_floorMod[11]? = some (15, 1, .iload_n 1, []) := rfl
theorem pa_Mth_floorMod_12 : pr_Mth_floorMod[12]? = some (16, 1, .iadd, []) := rfl
theorem pa_Mth_floorMod_13 : pr_Mth_floorMod[13]? = some (17, 1, .ireturn, [0]) := rfl
theorem pa_Mth_floorMod_14 : pr_Mth_floorMod[14]? = some (18, 1, .iload_n 2, []) := rfl
theorem pa_Mth_floorMod_15 : pr_Mth_floorMod[15]? = some (19, 1, .ireturn, [0]) := rfl
def pa_Mth_floorMod := And.intro pa_Mth_floorMod_0 (And.intro pa_Mth_floorMod_1 (And.intro pa_Mth_floorMod_2 (And.intro pa_Mth_floorMod_3 (And.intro pa_Mth_floorMod_4 (And.intro pa_Mth_floorMod_5 (And.intro pa_Mth_floorMod_6 (And.intro pa_Mth_floorMod_7 (And.intro pa_Mth_floorMod_8 (And.intro pa_Mth_floorMod_9 (And.intro pa_Mth_floorMod_10 (And.intro pa_Mth_floorMod_11 (And.intro pa_Mth_floorMod_12 (And.intro pa_Mth_floorMod_13 (And.intro pa_Mth_floorMod_14 (pa_Mth_floorMod_15)))))))))))))))
def pr_Row_init : List ma_E := [(0, 1, .aload_n 0, []),
  (1, 3, .invokespecial 1, [0, 73, 62, 63]),
  (4, 1, .aload_n 0, []),
  (5, 1, .lconst 0, [0]),
  (6, 3, .putfield 7, [0, 0, 1, 0, 74]),
  (9, 1, .aload_n 0, []),
  (10, 1, .lconst 0, [0]),
  (11, 3, .putfield 13, [0, 1, 1, 0, 76]),
  (14, 1, .aload_n 0, []),
  (15, 1, .iconst 0, [0, 0]),
  (16, 3, .putfield 16, [0, 2, 0, 0, 78]),
  (19, 1, .return_, [])]
theorem po_Row_init : ma_ok me_Row_init pr_Row_init := ma_ok_of (by decide +kernel)
theorem pa_Row_init_0 : pr_Row_init[0]? = some (0, 1, .aload_n 0, []) := rfl
theorem pa_Row_init_1 : pr_Row_init[1]? = some (1, 3, .invokespecial 1, [0, 73, 62, 63]) := rfl
theorem pa_Row_init_2 : pr_Row_init[2]? = some (4, 1, .aload_n 0, []) := rfl
theorem pa_Row_init_3 : pr_Row_init[3]? = some (5, 1, .lconst 0, [0]) := rfl
theorem pa_Row_init_4 : pr_Row_init[4]? = some (6, 3, .putfield 7, [0, 0, 1, 0, 74]) := rfl
theorem pa_Row_init_5 : pr_Row_init[5]? = some (9, 1, .aload_n 0, []) := rfl
theorem pa_Row_init_6 : pr_Row_init[6]? = some (10, 1, .lconst 0, [0]) := rfl
theorem pa_Row_init_7 : pr_Row_init[7]? = some (11, 3, .putfield 13, [0, 1, 1, 0, 76]) := rfl
theorem pa_Row_init_8 : pr_Row_init[8]? = some (14, 1, .aload_n 0, []) := rfl
theorem pa_Row_init_9 : pr_Row_init[9]? = some (15, 1, .iconst 0, [0, 0]) := rfl
theorem pa_Row_init_10 : pr_Row_init[10]? = some (16, 3, .putfield 16, [0, 2, 0, 0, 78]) := rfl
theorem pa_Row_init_11 : pr_Row_init[11]? = some (19, 1, .return_, []) := rfl
def pa_Row_init := And.intro pa_Row_init_0 (And.intro pa_Row_init_1 (And.intro pa_Row_init_2 (And.intro pa_Row_init_3 (And.intro pa_Row_init_4 (And.intro pa_Row_init_5 (And.intro pa_Row_init_6 (And.intro pa_Row_init_7 (And.intro pa_Row_init_8 (And.intro pa_Row_init_9 (And.intro pa_Row_init_10 (pa_Row_init_11)))))))))))
def pr_Row_appendPart : List ma_E := [(0, 1, .iload_n 2, []),
  (1, 2, .istore 4, []),
  (3, 2, .iload 4, []),
  (5, 1, .iload_n 3, []),
  (6, 3, .if_icmp .ge (19), [12]),
  (9, 1, .aload_n 0, []),
  (10, 1, .aload_n 1, []),
  (11, 2, .iload 4, []),
  (13, 3, .invokevirtual 22, [2, 1, 0, 0, 418, 390, 391, 41]),
  (16, 3, .invokevirtual 26, [1, 1, 0, 0, 419, 367, 368, 41]),
  (19, 3, .iinc 4 (1), [1, 0]),
  (22, 3, .goto (-19), [2]),
  (25, 1, .return_, [])]
theorem po_Row_appendPart : ma_ok me_Row_appendPart pr_Row_appendPart := ma_ok_of (by decide +kernel)
theorem pa_Row_appendPart_0 : pr_Row_appendPart[0]? = some (0, 1, .iload_n 2, []) := rfl
theorem pa_Row_appendPart_1 : pr_Row_appendPart[1]? = some (1, 2, .istore 4, []) := rfl
theorem pa_Row_appendPart_2 : pr_Row_appendPart[2]? = some (3, 2, .iload 4, []) := rfl
theorem pa_Row_appendPart_3 : pr_Row_appendPart[3]? = some (5, 1, .iload_n 3, []) := rfl
theorem pa_Row_appendPart_4 : pr_Row_appendPart[4]? = some (6, 3, .if_icmp .ge (19), [12]) := rfl
theorem pa_Row_appendPart_5 : pr_Row_appendPart[5]? = some (9, 1, .aload_n 0, []) := rfl
theorem pa_Row_appendPart_6 : pr_Row_appendPart[6]? = some (10, 1, .aload_n 1, []) := rfl
theorem pa_Row_appendPart_7 : pr_Row_appendPart[7]? = some (11, 2, .iload 4, []) := rfl
theorem pa_Row_appendPart_8 : pr_Row_appendPart[8]? = some (13, 3, .invokevirtual 22, [2, 1, 0, 0, 418, 390, 391, 41]) := rfl
theorem pa_Row_appendPart_9 : pr_Row_appendPart[9]? = some (16, 3, .invokevirtual 26, [1, 1, 0, 0, 419, 367, 368, 41]) := rfl
theorem pa_Row_appendPart_10 : pr_Row_appendPart[10]? = some (19, 3, .iinc 4 (1), [1, 0]) := rfl
theorem pa_Row_appendPart_11 : pr_Row_appendPart[11]? = some (22, 3, .goto (-19), [2]) := rfl
theorem pa_Row_appendPart_12 : pr_Row_appendPart[12]? = some (25, 1, .return_, []) := rfl
def pa_Row_appendPart := And.intro pa_Row_appendPart_0 (And.intro pa_Row_appendPart_1 (And.intro pa_Row_appendPart_2 (And.intro pa_Row_appendPart_3 (And.intro pa_Row_appendPart_4 (And.intro pa_Row_appendPart_5 (And.intro pa_Row_appendPart_6 (And.intro pa_Row_appendPart_7 (And.intro pa_Row_appendPart_8 (And.intro pa_Row_appendPart_9 (And.intro pa_Row_appendPart_10 (And.intro pa_Row_appendPart_11 (pa_Row_appendPart_12))))))))))))
def pr_Fld_init : List ma_E := [(0, 1, .aload_n 0, []),
  (1, 3, .invokespecial 1, [0, 95, 62, 63]),
  (4, 1, .aload_n 0, []),
  (5, 3, .sipush 255, [255, 0]),
  (8, 2, .newarray .int, [89]),
  (10, 3, .putfield 9, [1, 0, 2, 0, 96]),
  (13, 1, .aload_n 0, []),
  (14, 3, .sipush 256, [256, 0]),
  (17, 2, .newarray .int, [89]),
  (19, 3, .putfield 13, [1, 1, 2, 0, 97]),
  (22, 1, .iconst 1, [1, 0]),
  (23, 1, .istore_n 1, []),
  (24, 1, .iconst 0, [0, 0]),
  (25, 1, .istore_n 2, []),
  (26, 1, .iload_n 2, []),
  (27, 3, .sipush 255, [255, 0]),
  (30, 3, .if_icmp .ge (44), [42]),
  (33, 1, .aload_n 0, []),
  (34, 3, .getfield 9, [1, 0, 2, 0, 96]),
  (37, 1, .iload_n 2, []),
  (38, 1, .iload_n 1, []),
  (39, 1, .iastore, []),
  (40, 1, .aload_n 0, []),
  (41, 3, .getfield 13, [1, 1, 2, 0, 97]),
  (44, 1, .iload_n 1, []),
  (45, 1, .iload_n 2, []),
  (46, 1, .iastore, []),
  (47, 1, .iload_n 1, []),
  (48, 3, .sipush 128, [128, 0]),
  (51, 3, .if_icmp .ge (9), [34]),
  (54, 1, .iconst 2, [2, 0]),
  (55, 1, .iload_n 1, []),
  (56, 1, .imul, []),
  (57, 3, .goto (10), [39]),
  (60, 1, .iconst 2, [2, 0]),
  (61, 1, .iload_n 1, []),
  (62, 1, .imul, []),
  (63, 3, .sipush 285, [285, 0]),
  (66, 1, .ixor, []),
  (67, 1, .istore_n 1, []),
  (68, 3, .iinc 2 (1), [1, 0]),
  (71, 3, .goto (-45), [14]),
  (74, 1, .return_, [])]
theorem po_Fld_init : ma_ok me_Fld_init pr_Fld_init := ma_ok_of (by decide +kernel)
theorem pa_Fld_init_0 : pr_Fld_init[0]? = some (0, 1, .aload_n 0, []) := rfl
theorem pa_Fld_init_1 : pr_Fld_init[1]? = some (1, 3, .invokespecial 1, [0, 95, 62, 63]) := rfl
theorem pa_Fld_init_2 : pr_Fld_init[2]? = some (4, 1, .aload_n 0, []) := rfl
theorem pa_Fld_init_3 : pr_Fld_init[3]? = some (5, 3, .sipush 255, [255, 0]) := rfl
theorem pa_Fld_init_4 : pr_Fld_init[4]? = some (8, 2, .newarray .int, [89]) := rfl
theorem pa_Fld_init_5 : pr_Fld_init[5]? = some (10, 3, .putfield 9, [1, 0, 2, 0, 96]) := rfl
theorem pa_Fld_init_6 : pr_Fld_init[6]? = some (13, 1, .aload_n 0, []) := rfl
theorem pa_Fld_init_7 : pr_Fld_init[7]? = some (14, 3, .sipush 256, [256, 0]) := rfl
theorem pa_Fld_init_8 : pr_Fld_init[8]? = some (17, 2, .newarray .int, [89]) := rfl
theorem pa_Fld_init_9 : pr_Fld_init[9]? = some (19, 3, .putfield 13, [1, 1, 2, 0, 97]) := rfl
theorem pa_Fld_init_10 : pr_Fld_init[10]? = some (22, 1, .iconst 1, [1, 0]) := rfl
theorem pa_Fld_init_11 : pr_Fld_init[11]? = some (23, 1, .istore_n 1, []) := rfl
theorem pa_Fld_init_12 : pr_Fld_init[12]? = some (24, 1, .iconst 0, [0, 0]) := rfl
theorem pa_Fld_init_13 : pr_Fld_init[13]? = some (25, 1, .istore_n 2, []) := rfl
theorem pa_Fld_init_14 : pr_Fld_init[14]? = some (26, 1, .iload_n 2, []) := rfl
theorem pa_Fld_init_15 : pr_Fld_init[15]? = some (27, 3, .sipush 255, [255, 0]) := rfl
theorem pa_Fld_init_16 : pr_Fld_init[16]? = some (30, 3, .if_icmp .ge (44), [42]) := rfl
theorem pa_Fld_init_17 : pr_Fld_init[17]? = some (33, 1, .aload_n 0, []) := rfl
theorem pa_Fld_init_18 : pr_Fld_init[18]? = some (34, 3, .getfield 9, [1, 0, 2, 0, 96]) := rfl
theorem pa_Fld_init_19 : pr_Fld_init[19]? = some (37, 1, .iload_n 2, []) := rfl
theorem pa_Fld_init_20 : pr_Fld_init[20]? = some (38, 1, .iload_n 1, []) := rfl
theorem pa_Fld_init_21 : pr_Fld_init[21]? = some (39, 1, .iastore, []) := rfl
theorem pa_Fld_init_22 : pr_Fld_init[22]? = some (40, 1, .aload_n 0, []) := rfl
theorem pa_Fld_init_23 : pr_Fld_init[23]? = some (41, 3, .getfield 13, [1, 1, 2, 0, 97]) := rfl
theorem pa_Fld_init_24 : pr_Fld_init[24]? = some (44, 1, .iload_n 1, []) := rfl
theorem pa_Fld_init_25 : pr_Fld_init[25]? = some (45, 1, .iload_n 2, []) := rfl
theorem pa_Fld_init_26 : pr_Fld_init[26]? = some (46, 1, .iastore, []) := rfl
theorem pa_Fld_init_27 : pr_Fld_init[27]? = some (47, 1, .iload_n 1, []) := rfl
theorem pa_Fld_init_28 : pr_Fld_init[28]? = some (48, 3, .sipush 128, [128, 0]) := rfl
theorem pa_Fld_init_29 : pr_Fld_init[29]? = some (51, 3, .if_icmp .ge (9), [34]) := rfl
theorem pa_Fld_init_30 : pr_Fld_init[30]? = some (54, 1, .iconst 2, [2, 0]) := rfl
theorem pa_Fld_init_31 : pr_Fld_init[31]? = some (55, 1, .iload_n 1, []) := rfl
theorem pa_Fld_init_32 : pr_Fld_init[32]? = some (56, 1, .imul, []) := rfl
theorem pa_Fld_init_33 : pr_Fld_init[33]? = some (57, 3, .goto (10), [39]) := rfl
theorem pa_Fld_init_34 : pr_Fld_init[34]? = some (60, 1, .iconst 2, [2, 0]) := rfl
theorem pa_Fld_init_35 : pr_Fld_init[35]? = some (61, 1, .iload_n 1, []) := rfl
theorem pa_Fld_init_36 : pr_Fld_init[36]? = some (62, 1, .imul, []) := rfl
theorem pa_Fld_init_37 : pr_Fld_init[37]? = some (63, 3, .sipush 285, [285, 0]) := rfl
theorem pa_Fld_init_38 : pr_Fld_init[38]? = some (66, 1, .ixor, []) := rfl
theorem pa_Fld_init_39 : pr_Fld_init[39]? = some (67, 1, .istore_n 1, []) := rfl
theorem pa_Fld_init_40 : pr_Fld_init[40]? = some (68, 3, .iinc 2 (1), [1, 0]) := rfl
theorem pa_Fld_init_41 : pr_Fld_init[41]? = some (71, 3, .goto (-45), [14]) := rfl
theorem pa_Fld_init_42 : pr_Fld_init[42]? = some (74, 1, .return_, []) := rfl
def pa_Fld_init := And.intro pa_Fld_init_0 (And.intro pa_Fld_init_1 (And.intro pa_Fld_init_2 (And.intro pa_Fld_init_3 (And.intro pa_Fld_init_4 (And.intro pa_Fld_init_5 (And.intro pa_Fld_init_6 (And.intro pa_Fld_init_7 (And.intro pa_Fld_init_8 (And.intro pa_Fld_init_9 (And.intro pa_Fld_init_10 (And.intro pa_Fld_init_11 (And.intro pa_Fld_init_12 (And.intro pa_Fld_init_13 (And.intro pa_Fld_init_14 (And.intro pa_Fld_init_15 (And.intro pa_Fld_init_16 (And.intro pa_Fld_init_17 (And.intro pa_Fld_init_18 (And.intro pa_Fld_init_19 (And.intro pa_Fld_init_20 (And.intro pa_Fld_init_21 (And.intro pa_Fld_init_22 (And.intro pa_Fld_init_23 (And.intro pa_Fld_init_24 (And.intro pa_Fld_init_25 (And.intro pa_Fld_init_26 (And.intro pa_Fld_init_27 (And.intro pa_Fld_init_28 (And.intro pa_Fld_init_29 (And.intro pa_Fld_init_30 (And.intro pa_Fld_init_31 (And.intro pa_Fld_init_32 (And.intro pa_Fld_init_33 (And.intro pa_Fld_init_34 (And.intro pa_Fld_init_35 (And.intro pa_Fld_init_36 (And.intro pa_Fld_init_37 (And.intro pa_Fld_init_38 (And.intro pa_Fld_init_39 (And.intro pa_Fld_init_40 (And.intro pa_Fld_init_41 (pa_Fld_init_42))))))))))))))))))))))))))))))))))))))))))
def pr_Bod_init : List ma_E := [(0, 1, .aload_n 0, []),
  (1, 3, .invokespecial 3, [0, 145, 62, 63]),
  (4, 1, .aload_n 0, []),
  (5, 2, .bipush 33, [33, 0]),
  (7, 2, .newarray .int, [89]),
  (9, 3, .putfield 9, [2, 0, 2, 0, 146]),
  (12, 1, .aload_n 0, []),
  (13, 1, .iconst 0, [0, 0]),
  (14, 3, .putfield 15, [2, 1, 0, 0, 148]),
  (17, 1, .aload_n 0, []),
  (18, 1, .iconst 0, [0, 0]),
  (19, 3, .putfield 19, [2, 2, 0, 0, 149]),
  (22, 1, .iconst 1, [1, 0]),
  (23, 1, .istore_n 1, []),
  (24, 1, .iload_n 1, []),
  (25, 2, .bipush 33, [33, 0]),
  (27, 3, .if_icmp .ge (19), [25]),
  (30, 1, .aload_n 0, []),
  (31, 1, .dup, []),
  (32, 3, .getfield 19, [2, 2, 0, 0, 149]),
  (35, 1, .iload_n 1, []),
  (36, 1, .iadd, []),
  (37, 3, .putfield 19, [2, 2, 0, 0, 149]),
  (40, 3, .iinc 1 (1), [1, 0]),
  (43, 3, .goto (-19), [14]),
  (46, 1, .return_, [])]
theorem po_Bod_init : ma_ok me_Bod_init pr_Bod_init := ma_ok_of (by decide +kernel)
theorem pa_Bod_init_0 : pr_Bod_init[0]? = some (0, 1, .aload_n 0, []) := rfl
theorem pa_Bod_init_1 : pr_Bod_init[1]? = some (1, 3, .invokespecial 3, [0, 145, 62, 63]) := rfl
theorem pa_Bod_init_2 : pr_Bod_init[2]? = some (4, 1, .aload_n 0, []) := rfl
theorem pa_Bod_init_3 : pr_Bod_init[3]? = some (5, 2, .bipush 33, [33, 0]) := rfl
theorem pa_Bod_init_4 : pr_Bod_init[4]? = some (7, 2, .newarray .int, [89]) := rfl
theorem pa_Bod_init_5 : pr_Bod_init[5]? = some (9, 3, .putfield 9, [2, 0, 2, 0, 146]) := rfl
theorem pa_Bod_init_6 : pr_Bod_init[6]? = some (12, 1, .aload_n 0, []) := rfl
theorem pa_Bod_init_7 : pr_Bod_init[7]? = some (13, 1, .iconst 0, [0, 0]) := rfl
theorem pa_Bod_init_8 : pr_Bod_init[8]? = some (14, 3, .putfield 15, [2, 1, 0, 0, 148]) := rfl
theorem pa_Bod_init_9 : pr_Bod_init[9]? = some (17, 1, .aload_n 0, []) := rfl
theorem pa_Bod_init_10 : pr_Bod_init[10]? = some (18, 1, .iconst 0, [0, 0]) := rfl
theorem pa_Bod_init_11 : pr_Bod_init[11]? = some (19, 3, .putfield 19, [2, 2, 0, 0, 149]) := rfl
theorem pa_Bod_init_12 : pr_Bod_init[12]? = some (22, 1, .iconst 1, [1, 0]) := rfl
theorem pa_Bod_init_13 : pr_Bod_init[13]? = some (23, 1, .istore_n 1, []) := rfl
theorem pa_Bod_init_14 : pr_Bod_init[14]? = some (24, 1, .iload_n 1, []) := rfl
theorem pa_Bod_init_15 : pr_Bod_init[15]? = some (25, 2, .bipush 33, [33, 0]) := rfl
theorem pa_Bod_init_16 : pr_Bod_init[16]? = some (27, 3, .if_icmp .ge (19), [25]) := rfl
theorem pa_Bod_init_17 : pr_Bod_init[17]? = some (30, 1, .aload_n 0, []) := rfl
theorem pa_Bod_init_18 : pr_Bod_init[18]? = some (31, 1, .dup, []) := rfl
theorem pa_Bod_init_19 : pr_Bod_init[19]? = some (32, 3, .getfield 19, [2, 2, 0, 0, 149]) := rfl
theorem pa_Bod_init_20 : pr_Bod_init[20]? = some (35, 1, .iload_n 1, []) := rfl
theorem pa_Bod_init_21 : pr_Bod_init[21]? = some (36, 1, .iadd, []) := rfl
theorem pa_Bod_init_22 : pr_Bod_init[22]? = some (37, 3, .putfield 19, [2, 2, 0, 0, 149]) := rfl
theorem pa_Bod_init_23 : pr_Bod_init[23]? = some (40, 3, .iinc 1 (1), [1, 0]) := rfl
theorem pa_Bod_init_24 : pr_Bod_init[24]? = some (43, 3, .goto (-19), [14]) := rfl
theorem pa_Bod_init_25 : pr_Bod_init[25]? = some (46, 1, .return_, []) := rfl
def pa_Bod_init := And.intro pa_Bod_init_0 (And.intro pa_Bod_init_1 (And.intro pa_Bod_init_2 (And.intro pa_Bod_init_3 (And.intro pa_Bod_init_4 (And.intro pa_Bod_init_5 (And.intro pa_Bod_init_6 (And.intro pa_Bod_init_7 (And.intro pa_Bod_init_8 (And.intro pa_Bod_init_9 (And.intro pa_Bod_init_10 (And.intro pa_Bod_init_11 (And.intro pa_Bod_init_12 (And.intro pa_Bod_init_13 (And.intro pa_Bod_init_14 (And.intro pa_Bod_init_15 (And.intro pa_Bod_init_16 (And.intro pa_Bod_init_17 (And.intro pa_Bod_init_18 (And.intro pa_Bod_init_19 (And.intro pa_Bod_init_20 (And.intro pa_Bod_init_21 (And.intro pa_Bod_init_22 (And.intro pa_Bod_init_23 (And.intro pa_Bod_init_24 (pa_Bod_init_25)))))))))))))))))))))))))
def pr_Bod_put : List ma_E := [(0, 1, .aload_n 0, []),
  (1, 1, .dup, []),
  (2, 3, .getfield 19, [2, 2, 0, 0, 149]),
  (5, 1, .aload_n 0, []),
  (6, 1, .iload_n 1, []),
  (7, 3, .invokevirtual 22, [8, 1, 2, 0, 358, 360, 14, 44]),
  (10, 1, .aload_n 0, []),
  (11, 1, .iload_n 1, []),
  (12, 1, .iconst 1, [1, 0]),
  (13, 1, .iadd, []),
  (14, 3, .invokevirtual 22, [8, 1, 2, 0, 358, 360, 14, 44]),
  (17, 1, .iadd, []),
  (18, 1, .isub, []),
  (19, 3, .putfield 19, [2, 2, 0, 0, 149]),
  (22, 1, .aload_n 0, []),
  (23, 1, .dup, []),
  (24, 3, .getfield 15, [2, 1, 0, 0, 148]),
  (27, 1, .aload_n 0, []),
  (28, 3, .getfield 9, [2, 0, 2, 0, 146]),
  (31, 1, .iload_n 1, []),
  (32, 1, .iaload, []),
  (33, 1, .isub, []),
  (34, 3, .putfield 15, [2, 1, 0, 0, 148]),
  (37, 1, .aload_n 0, []),
  (38, 3, .getfield 9, [2, 0, 2, 0, 146]),
  (41, 1, .iload_n 1, []),
  (42, 1, .iload_n 2, []),
  (43, 1, .iastore, []),
  (44, 1, .aload_n 0, []),
  (45, 1, .dup, []),
  (46, 3, .getfield 15, [2, 1, 0, 0, 148]),
  (49, 1, .iload_n 2, []),
  (50, 1, .iadd, []),
  (51, 3, .putfield 15, [2, 1, 0, 0, 148]),
  (54, 1, .aload_n 0, []),
  (55, 1, .dup, []),
  (56, 3, .getfield 19, [2, 2, 0, 0, 149]),
  (59, 1, .aload_n 0, []),
  (60, 1, .iload_n 1, []),
  (61, 3, .invokevirtual 22, [8, 1, 2, 0, 358, 360, 14, 44]),
  (64, 1, .aload_n 0, []),
  (65, 1, .iload_n 1, []),
  (66, 1, .iconst 1, [1, 0]),
  (67, 1, .iadd, []),
  (68, 3, .invokevirtual 22, [8, 1, 2, 0, 358, 360, 14, 44]),
  (71, 1, .iadd, []),
  (72, 1, .iadd, []),
  (73, 3, .putfield 19, [2, 2, 0, 0, 149]),
  (76, 1, .return_, [])]
theorem po_Bod_put : ma_ok me_Bod_put pr_Bod_put := ma_ok_of (by decide +kernel)
theorem pa_Bod_put_0 : pr_Bod_put[0]? = some (0, 1, .aload_n 0, []) := rfl
theorem pa_Bod_put_1 : pr_Bod_put[1]? = some (1, 1, .dup, []) := rfl
theorem pa_Bod_put_2 : pr_Bod_put[2]? = some (2, 3, .getfield 19, [2, 2, 0, 0, 149]) := rfl
theorem pa_Bod_put_3 : pr_Bod_put[3]? = some (5, 1, .aload_n 0, []) := rfl
theorem pa_Bod_put_4 : pr_Bod_put[4]? = some (6, 1, .iload_n 1, []) := rfl
theorem pa_Bod_put_5 : pr_Bod_put[5]? = some (7, 3, .invokevirtual 22, [8, 1, 2, 0, 358, 360, 14, 44]) := rfl
theorem pa_Bod_put_6 : pr_Bod_put[6]? = some (10, 1, .aload_n 0, []) := rfl
theorem pa_Bod_put_7 : pr_Bod_put[7]? = some (11, 1, .iload_n 1, []) := rfl
theorem pa_Bod_put_8 : pr_Bod_put[8]? = some (12, 1, .iconst 1, [1, 0]) := rfl
theorem pa_Bod_put_9 : pr_Bod_put[9]? = some (13, 1, .iadd, []) := rfl
theorem pa_Bod_put_10 : pr_Bod_put[10]? = some (14, 3, .invokevirtual 22, [8, 1, 2, 0, 358, 360, 14, 44]) := rfl
theorem pa_Bod_put_11 : pr_Bod_put[11]? = some (17, 1, .iadd, []) := rfl
theorem pa_Bod_put_12 : pr_Bod_put[12]? = some (18, 1, .isub, []) := rfl
theorem pa_Bod_put_13 : pr_Bod_put[13]? = some (19, 3, .putfield 19, [2, 2, 0, 0, 149]) := rfl
theorem pa_Bod_put_14 : pr_Bod_put[14]? = some (22, 1, .aload_n 0, []) := rfl
theorem pa_Bod_put_15 : pr_Bod_put[15]? = some (23, 1, .dup, []) := rfl
theorem pa_Bod_put_16 : pr_Bod_put[16]? = some (24, 3, .getfield 15, [2, 1, 0, 0, 148]) := rfl
theorem pa_Bod_put_17 : pr_Bod_put[17]? = some (27, 1, .aload_n 0, []) := rfl
theorem pa_Bod_put_18 : pr_Bod_put[18]? = some (28, 3, .getfield 9, [2, 0, 2, 0, 146]) := rfl
theorem pa_Bod_put_19 : pr_Bod_put[19]? = some (31, 1, .iload_n 1, []) := rfl
theorem pa_Bod_put_20 : pr_Bod_put[20]? = some (32, 1, .iaload, []) := rfl
theorem pa_Bod_put_21 : pr_Bod_put[21]? = some (33, 1, .isub, []) := rfl
theorem pa_Bod_put_22 : pr_Bod_put[22]? = some (34, 3, .putfield 15, [2, 1, 0, 0, 148]) := rfl
theorem pa_Bod_put_23 : pr_Bod_put[23]? = some (37, 1, .aload_n 0, []) := rfl
theorem pa_Bod_put_24 : pr_Bod_put[24]? = some (38, 3, .getfield 9, [2, 0, 2, 0, 146]) := rfl
theorem pa_Bod_put_25 : pr_Bod_put[25]? = some (41, 1, .iload_n 1, []) := rfl
theorem pa_Bod_put_26 : pr_Bod_put[26]? = some (42, 1, .iload_n 2, []) := rfl
theorem pa_Bod_put_27 : pr_Bod_put[27]? = some (43, 1, .iastore, []) := rfl
theorem pa_Bod_put_28 : pr_Bod_put[28]? = some (44, 1, .aload_n 0, []) := rfl
theorem pa_Bod_put_29 : pr_Bod_put[29]? = some (45, 1, .dup, []) := rfl
theorem pa_Bod_put_30 : pr_Bod_put[30]? = some (46, 3, .getfield 15, [2, 1, 0, 0, 148]) := rfl
theorem pa_Bod_put_31 : pr_Bod_put[31]? = some (49, 1, .iload_n 2, []) := rfl
theorem pa_Bod_put_32 : pr_Bod_put[32]? = some (50, 1, .iadd, []) := rfl
theorem pa_Bod_put_33 : pr_Bod_put[33]? = some (51, 3, .putfield 15, [2, 1, 0, 0, 148]) := rfl
theorem pa_Bod_put_34 : pr_Bod_put[34]? = some (54, 1, .aload_n 0, []) := rfl
theorem pa_Bod_put_35 : pr_Bod_put[35]? = some (55, 1, .dup, []) := rfl
theorem pa_Bod_put_36 : pr_Bod_put[36]? = some (56, 3, .getfield 19, [2, 2, 0, 0, 149]) := rfl
theorem pa_Bod_put_37 : pr_Bod_put[37]? = some (59, 1, .aload_n 0, []) := rfl
theorem pa_Bod_put_38 : pr_Bod_put[38]? = some (60, 1, .iload_n 1, []) := rfl
theorem pa_Bod_put_39 : pr_Bod_put[39]? = some (61, 3, .invokevirtual 22, [8, 1, 2, 0, 358, 360, 14, 44]) := rfl
theorem pa_Bod_put_40 : pr_Bod_put[40]? = some (64, 1, .aload_n 0, []) := rfl
theorem pa_Bod_put_41 : pr_Bod_put[41]? = some (65, 1, .iload_n 1, []) := rfl
theorem pa_Bod_put_42 : pr_Bod_put[42]? = some (66, 1, .iconst 1, [1, 0]) := rfl
theorem pa_Bod_put_43 : pr_Bod_put[43]? = some (67, 1, .iadd, []) := rfl
theorem pa_Bod_put_44 : pr_Bod_put[44]? = some (68, 3, .invokevirtual 22, [8, 1, 2, 0, 358, 360, 14, 44]) := rfl
theorem pa_Bod_put_45 : pr_Bod_put[45]? = some (71, 1, .iadd, []) := rfl
theorem pa_Bod_put_46 : pr_Bod_put[46]? = some (72, 1, .iadd, []) := rfl
theorem pa_Bod_put_47 : pr_Bod_put[47]? = some (73, 3, .putfield 19, [2, 2, 0, 0, 149]) := rfl
theorem pa_Bod_put_48 : pr_Bod_put[48]? = some (76, 1, .return_, []) := rfl
def pa_Bod_put := And.intro pa_Bod_put_0 (And.intro pa_Bod_put_1 (And.intro pa_Bod_put_2 (And.intro pa_Bod_put_3 (And.intro pa_Bod_put_4 (And.intro pa_Bod_put_5 (And.intro pa_Bod_put_6 (And.intro pa_Bod_put_7 (And.intro pa_Bod_put_8 (And.intro pa_Bod_put_9 (And.intro pa_Bod_put_10 (And.intro pa_Bod_put_11 (And.intro pa_Bod_put_12 (And.intro pa_Bod_put_13 (And.intro pa_Bod_put_14 (And.intro pa_Bod_put_15 (And.intro pa_Bod_put_16 (And.intro pa_Bod_put_17 (And.intro pa_Bod_put_18 (And.intro pa_Bod_put_19 (And.intro pa_Bod_put_20 (And.intro pa_Bod_put_21 (And.intro pa_Bod_put_22 (And.intro pa_Bod_put_23 (And.intro pa_Bod_put_24 (And.intro pa_Bod_put_25 (And.intro pa_Bod_put_26 (And.intro pa_Bod_put_27 (And.intro pa_Bod_put_28 (And.intro pa_Bod_put_29 (And.intro pa_Bod_put_30 (And.intro pa_Bod_put_31 (And.intro pa_Bod_put_32 (And.intro pa_Bod_put_33 (And.intro pa_Bod_put_34 (And.intro pa_Bod_put_35 (And.intro pa_Bod_put_36 (And.intro pa_Bod_put_37 (And.intro pa_Bod_put_38 (And.intro pa_Bod_put_39 (And.intro pa_Bod_put_40 (And.intro pa_Bod_put_41 (And.intro pa_Bod_put_42 (And.intro pa_Bod_put_43 (And.intro pa_Bod_put_44 (And.intro pa_Bod_put_45 (And.intro pa_Bod_put_46 (And.intro pa_Bod_put_47 (pa_Bod_put_48))))))))))))))))))))))))))))))))))))))))))))))))
end
section
/-! the methods as tables -/
def pr_Bod_spelled : List ma_E := [(0, 1, .iconst 0, [0, 0]),
  (1, 1, .istore_n 2, []),
  (2, 1, .iload_n 1, []),
  (3, 2, .bipush 11, [11, 0]),
  (5, 1, .imul, []),
  (6, 1, .istore_n 3, []),
  (7, 1, .iload_n 3, []),
  (8, 2, .istore 4, []),
  (10, 2, .iload 4, []),
  (12, 1, .iload_n 3, []),
  (13, 2, .bipush 11, [11, 0]),
  (15, 1, .iadd, []),
  (16, 3, .if_icmp .ge (56), [42]),
  (19, 1, .aload_n 0, []),
  (20, 3, .getfield 9, [2, 0, 2, 0, 146]),
  (23, 2, .iload 4, []),
  (25, 1, .iaload, []),
  (26, 2, .istore 5, []),
  (28, 2, .iload 5, []),
  (30, 1, .aload_n 0, []),
  (31, 2, .iload 4, []),
  (33, 3, .invokevirtual 27, [7, 1, 2, 0, 350, 352, 13, 44]),
  (36, 3, .if_icmp .ne (5), [25]),
  (39, 1, .iconst (-1), [1, 1]),
  (40, 1, .ireturn, [0]),
  (41, 1, .iconst 3, [3, 0]),
  (42, 1, .iload_n 2, []),
  (43, 1, .imul, []),
  (44, 2, .iload 5, []),
  (46, 1, .aload_n 0, []),
  (47, 2, .iload 4, []),
  (49, 3, .invokevirtual 27, [7, 1, 2, 0, 350, 352, 13, 44]),
  (52, 3, .if_icmp .ge (8), [35]),
  (55, 2, .iload 5, []),
  (57, 3, .goto (7), [38]),
  (60, 2, .iload 5, []),
  (62, 1, .iconst 1, [1, 0]),
  (63, 1, .isub, []),
  (64, 1, .iadd, []),
  (65, 1, .istore_n 2, []),
  (66, 3, .iinc 4 (1), [1, 0]),
  (69, 3, .goto (-59), [8]),
  (72, 1, .iload_n 2, []),
  (73, 2, .ldc 34, [65536, 0, 490]),
  (75, 3, .if_icmp .ge (7), [47]),
  (78, 1, .iload_n 2, []),
  (79, 3, .goto (4), [48]),
  (82, 1, .iconst (-1), [1, 1]),
  (83, 1, .ireturn, [0])]
theorem po_Bod_spelled : ma_ok me_Bod_spelled pr_Bod_spelled := ma_ok_of (by decide +kernel)
theorem pa_Bod_spelled_0 : pr_Bod_spelled[0]? = some (0, 1, .iconst 0, [0, 0]) := rfl
theorem pa_Bod_spelled_1 : pr_Bod_spelled[1]? = some (1, 1, .istore_n 2, []) := rfl
theorem pa_Bod_spelled_2 : pr_Bod_spelled[2]? = some (2, 1, .iload_n 1, []) := rfl
theorem pa_Bod_spelled_3 : pr_Bod_spelled[3]? = some (3, 2, .bipush 11, [11, 0]) := rfl
theorem pa_Bod_spelled_4 : pr_Bod_spelled[4]? = some (5, 1, .imul, []) := rfl
theorem pa_Bod_spelled_5 : pr_Bod_spelled[5]? = some (6, 1, .istore_n 3, []) := rfl
theorem pa_Bod_spelled_6 : pr_Bod_spelled[6]? = some (7, 1, .iload_n 3, []) := rfl
theorem pa_Bod_spelled_7 : pr_Bod_spelled[7]? = some (8, 2, .istore 4, []) := rfl
theorem pa_Bod_spelled_8 : pr_Bod_spelled[8]? = some (10, 2, .iload 4, []) := rfl
theorem pa_Bod_spelled_9 : pr_Bod_spelled[9]? = some (12, 1, .iload_n 3, []) := rfl
theorem pa_Bod_spelled_10 : pr_Bod_spelled[10]? = some (13, 2, .bipush 11, [11, 0]) := rfl
theorem pa_Bod_spelled_11 : pr_Bod_spelled[11]? = some (15, 1, .iadd, []) := rfl
theorem pa_Bod_spelled_12 : pr_Bod_spelled[12]? = some (16, 3, .if_icmp .ge (56), [42]) := rfl
theorem pa_Bod_spelled_13 : pr_Bod_spelled[13]? = some (19, 1, .aload_n 0, []) := rfl
theorem pa_Bod_spelled_14 : pr_Bod_spelled[14]? = some (20, 3, .getfield 9, [2, 0, 2, 0, 146]) := rfl
theorem pa_Bod_spelled_15 : pr_Bod_spelled[15]? = some (23, 2, .iload 4, []) := rfl
theorem pa_Bod_spelled_16 : pr_Bod_spelled[16]? = some (25, 1, .iaload, []) := rfl
theorem pa_Bod_spelled_17 : pr_Bod_spelled[17]? = some (26, 2, .istore 5, []) := rfl
theorem pa_Bod_spelled_18 : pr_Bod_spelled[18]? = some (28, 2, .iload 5, []) := rfl
theorem pa_Bod_spelled_19 : pr_Bod_spelled[19]? = some (30, 1, .aload_n 0, []) := rfl
theorem pa_Bod_spelled_20 : pr_Bod_spelled[20]? = some (31, 2, .iload 4, []) := rfl
theorem pa_Bod_spelled_21 : pr_Bod_spelled[21]? = some (33, 3, .invokevirtual 27, [7, 1, 2, 0, 350, 352, 13, 44]) := rfl
theorem pa_Bod_spelled_22 : pr_Bod_spelled[22]? = some (36, 3, .if_icmp .ne (5), [25]) := rfl
theorem pa_Bod_spelled_23 : pr_Bod_spelled[23]? = some (39, 1, .iconst (-1), [1, 1]) := rfl
theorem pa_Bod_spelled_24 : pr_Bod_spelled[24]? = some (40, 1, .ireturn, [0]) := rfl
theorem pa_Bod_spelled_25 : pr_Bod_spelled[25]? = some (41, 1, .iconst 3, [3, 0]) := rfl
theorem pa_Bod_spelled_26 : pr_Bod_spelled[26]? = some (42, 1, .iload_n 2, []) := rfl
theorem pa_Bod_spelled_27 : pr_Bod_spelled[27]? = some (43, 1, .imul, []) := rfl
theorem pa_Bod_spelled_28 : pr_Bod_spelled[28]? = some (44, 2, .iload 5, []) := rfl
theorem pa_Bod_spelled_29 : pr_Bod_spelled[29]? = some (46, 1, .aload_n 0, []) := rfl
theorem pa_Bod_spelled_30 : pr_Bod_spelled[30]? = some (47, 2, .iload 4, []) := rfl
theorem pa_Bod_spelled_31 : pr_Bod_spelled[31]? = some (49, 3, .invokevirtual 27, [7, 1, 2, 0, 350, 352, 13, 44]) := rfl
theorem pa_Bod_spelled_32 : pr_Bod_spelled[32]? = some (52, 3, .if_icmp .ge (8), [35]) := rfl
theorem pa_Bod_spelled_33 : pr_Bod_spelled[33]? = some (55, 2, .iload 5, []) := rfl
theorem pa_Bod_spelled_34 : pr_Bod_spelled[34]? = some (57, 3, .goto (7), [38]) := rfl
theorem pa_Bod_spelled_35 : pr_Bod_spelled[35]? = some (60, 2, .iload 5, []) := rfl
theorem pa_Bod_spelled_36 : pr_Bod_spelled[36]? = some (62, 1, .iconst 1, [1, 0]) := rfl
theorem pa_Bod_spelled_37 : pr_Bod_spelled[37]? = some (63, 1, .isub, []) := rfl
theorem pa_Bod_spelled_38 : pr_Bod_spelled[38]? = some (64, 1, .iadd, []) := rfl
theorem pa_Bod_spelled_39 : pr_Bod_spelled[39]? = some (65, 1, .istore_n 2, []) := rfl
theorem pa_Bod_spelled_40 : pr_Bod_spelled[40]? = some (66, 3, .iinc 4 (1), [1, 0]) := rfl
theorem pa_Bod_spelled_41 : pr_Bod_spelled[41]? = some (69, 3, .goto (-59), [8]) := rfl
theorem pa_Bod_spelled_42 : pr_Bod_spelled[42]? = some (72, 1, .iload_n 2, []) := rfl
theorem pa_Bod_spelled_43 : pr_Bod_spelled[43]? = some (73, 2, .ldc 34, [65536, 0, 490]) := rfl
theorem pa_Bod_spelled_44 : pr_Bod_spelled[44]? = some (75, 3, .if_icmp .ge (7), [47]) := rfl
theorem pa_Bod_spelled_45 : pr_Bod_spelled[45]? = some (78, 1, .iload_n 2, []) := rfl
theorem pa_Bod_spelled_46 : pr_Bod_spelled[46]? = some (79, 3, .goto (4), [48]) := rfl
theorem pa_Bod_spelled_47 : pr_Bod_spelled[47]? = some (82, 1, .iconst (-1), [1, 1]) := rfl
theorem pa_Bod_spelled_48 : pr_Bod_spelled[48]? = some (83, 1, .ireturn, [0]) := rfl
def pa_Bod_spelled := And.intro pa_Bod_spelled_0 (And.intro pa_Bod_spelled_1 (And.intro pa_Bod_spelled_2 (And.intro pa_Bod_spelled_3 (And.intro pa_Bod_spelled_4 (And.intro pa_Bod_spelled_5 (And.intro pa_Bod_spelled_6 (And.intro pa_Bod_spelled_7 (And.intro pa_Bod_spelled_8 (And.intro pa_Bod_spelled_9 (And.intro pa_Bod_spelled_10 (And.intro pa_Bod_spelled_11 (And.intro pa_Bod_spelled_12 (And.intro pa_Bod_spelled_13 (And.intro pa_Bod_spelled_14 (And.intro pa_Bod_spelled_15 (And.intro pa_Bod_spelled_16 (And.intro pa_Bod_spelled_17 (And.intro pa_Bod_spelled_18 (And.intro pa_Bod_spelled_19 (And.intro pa_Bod_spelled_20 (And.intro pa_Bod_spelled_21 (And.intro pa_Bod_spelled_22 (And.intro pa_Bod_spelled_23 (And.intro pa_Bod_spelled_24 (And.intro pa_Bod_spelled_25 (And.intro pa_Bod_spelled_26 (And.intro pa_Bod_spelled_27 (And.intro pa_Bod_spelled_28 (And.intro pa_Bod_spelled_29 (And.intro pa_Bod_spelled_30 (And.intro pa_Bod_spelled_31 (And.intro pa_Bod_spelled_32 (And.intro pa_Bod_spelled_33 (And.intro pa_Bod_spelled_34 (And.intro pa_Bod_spelled_35 (And.intro pa_Bod_spelled_36 (And.intro pa_Bod_spelled_37 (And.intro pa_Bod_spelled_38 (And.intro pa_Bod_spelled_39 (And.intro pa_Bod_spelled_40 (And.intro pa_Bod_spelled_41 (And.intro pa_Bod_spelled_42 (And.intro pa_Bod_spelled_43 (And.intro pa_Bod_spelled_44 (And.intro pa_Bod_spelled_45 (And.intro pa_Bod_spelled_46 (And.intro pa_Bod_spelled_47 (pa_Bod_spelled_48))))))))))))))))))))))))))))))))))))))))))))))))
def pr_Rdr_isDue : List ma_E := [(0, 1, .aload_n 0, []),
  (1, 3, .getfield 12, [3, 0, 2, 0, 171]),
  (4, 3, .invokevirtual 51, [10, 0, 2, 0, 476, 375, 376, 44]),
  (7, 1, .aload_n 0, []),
  (8, 3, .getfield 18, [3, 1, 0, 0, 173]),
  (11, 3, .if_icmp .ne (21), [14]),
  (14, 1, .aload_n 0, []),
  (15, 3, .getfield 12, [3, 0, 2, 0, 171]),
  (18, 3, .invokevirtual 55, [9, 0, 2, 0, 477, 371, 372, 44]),
  (21, 1, .aload_n 0, []),
  (22, 3, .getfield 22, [3, 2, 0, 0, 174]),
  (25, 3, .if_icmp .ne (7), [14]),
  (28, 1, .iconst 1, [1, 0]),
  (29, 3, .goto (4), [15]),
  (32, 1, .iconst 0, [0, 0]),
  (33, 1, .ireturn, [1])]
theorem po_Rdr_isDue : ma_ok me_Rdr_isDue pr_Rdr_isDue := ma_ok_of (by decide +kernel)
theorem pa_Rdr_isDue_0 : pr_Rdr_isDue[0]? = some (0, 1, .aload_n 0, []) := rfl
theorem pa_Rdr_isDue_1 : pr_Rdr_isDue[1]? = some (1, 3, .getfield 12, [3, 0, 2, 0, 171]) := rfl
theorem pa_Rdr_isDue_2 : pr_Rdr_isDue[2]? = some (4, 3, .invokevirtual 51, [10, 0, 2, 0, 476, 375, 376, 44]) := rfl
theorem pa_Rdr_isDue_3 : pr_Rdr_isDue[3]? = some (7, 1, .aload_n 0, []) := rfl
theorem pa_Rdr_isDue_4 : pr_Rdr_isDue[4]? = some (8, 3, .getfield 18, [3, 1, 0, 0, 173]) := rfl
theorem pa_Rdr_isDue_5 : pr_Rdr_isDue[5]? = some (11, 3, .if_icmp .ne (21), [14]) := rfl
theorem pa_Rdr_isDue_6 : pr_Rdr_isDue[6]? = some (14, 1, .aload_n 0, []) := rfl
theorem pa_Rdr_isDue_7 : pr_Rdr_isDue[7]? = some (15, 3, .getfield 12, [3, 0, 2, 0, 171]) := rfl
theorem pa_Rdr_isDue_8 : pr_Rdr_isDue[8]? = some (18, 3, .invokevirtual 55, [9, 0, 2, 0, 477, 371, 372, 44]) := rfl
theorem pa_Rdr_isDue_9 : pr_Rdr_isDue[9]? = some (21, 1, .aload_n 0, []) := rfl
theorem pa_Rdr_isDue_10 : pr_Rdr_isDue[10]? = some (22, 3, .getfield 22, [3, 2, 0, 0, 174]) := rfl
theorem pa_Rdr_isDue_11 : pr_Rdr_isDue[11]? = some (25, 3, .if_icmp .ne (7), [14]) := rfl
theorem pa_Rdr_isDue_12 : pr_Rdr_isDue[12]? = some (28, 1, .iconst 1, [1, 0]) := rfl
theorem pa_Rdr_isDue_13 : pr_Rdr_isDue[13]? = some (29, 3, .goto (4), [15]) := rfl
theorem pa_Rdr_isDue_14 : pr_Rdr_isDue[14]? = some (32, 1, .iconst 0, [0, 0]) := rfl
theorem pa_Rdr_isDue_15 : pr_Rdr_isDue[15]? = some (33, 1, .ireturn, [1]) := rfl
def pa_Rdr_isDue := And.intro pa_Rdr_isDue_0 (And.intro pa_Rdr_isDue_1 (And.intro pa_Rdr_isDue_2 (And.intro pa_Rdr_isDue_3 (And.intro pa_Rdr_isDue_4 (And.intro pa_Rdr_isDue_5 (And.intro pa_Rdr_isDue_6 (And.intro pa_Rdr_isDue_7 (And.intro pa_Rdr_isDue_8 (And.intro pa_Rdr_isDue_9 (And.intro pa_Rdr_isDue_10 (And.intro pa_Rdr_isDue_11 (And.intro pa_Rdr_isDue_12 (And.intro pa_Rdr_isDue_13 (And.intro pa_Rdr_isDue_14 (pa_Rdr_isDue_15)))))))))))))))
def pr_Rdr_majority : List ma_E := [(0, 1, .aload_n 0, []),
  (1, 1, .iload_n 1, []),
  (2, 3, .invokevirtual 47, [2, 1, 0, 0, 463, 390, 391, 41]),
  (5, 1, .istore_n 2, []),
  (6, 1, .aload_n 0, []),
  (7, 1, .iload_n 1, []),
  (8, 1, .iconst 1, [1, 0]),
  (9, 1, .iadd, []),
  (10, 3, .invokevirtual 47, [2, 1, 0, 0, 463, 390, 391, 41]),
  (13, 1, .istore_n 3, []),
  (14, 1, .aload_n 0, []),
  (15, 1, .iload_n 1, []),
  (16, 1, .iconst 2, [2, 0]),
  (17, 1, .iadd, []),
  (18, 3, .invokevirtual 47, [2, 1, 0, 0, 463, 390, 391, 41]),
  (21, 2, .istore 4, []),
  (23, 1, .iload_n 2, []),
  (24, 1, .iload_n 3, []),
  (25, 3, .if_icmp .eq (9), [22]),
  (28, 1, .iload_n 2, []),
  (29, 2, .iload 4, []),
  (31, 3, .if_icmp .ne (5), [24]),
  (34, 1, .iload_n 2, []),
  (35, 1, .ireturn, [0]),
  (36, 1, .iload_n 3, []),
  (37, 2, .iload 4, []),
  (39, 3, .if_icmp .ne (7), [29]),
  (42, 1, .iload_n 3, []),
  (43, 3, .goto (4), [30]),
  (46, 1, .iconst (-1), [1, 1]),
  (47, 1, .ireturn, [0])]
theorem po_Rdr_majority : ma_ok me_Rdr_majority pr_Rdr_majority := ma_ok_of (by decide +kernel)
theorem pa_Rdr_majority_0 : pr_Rdr_majority[0]? = some (0, 1, .aload_n 0, []) := rfl
theorem pa_Rdr_majority_1 : pr_Rdr_majority[1]? = some (1, 1, .iload_n 1, []) := rfl
theorem pa_Rdr_majority_2 : pr_Rdr_majority[2]? = some (2, 3, .invokevirtual 47, [2, 1, 0, 0, 463, 390, 391, 41]) := rfl
theorem pa_Rdr_majority_3 : pr_Rdr_majority[3]? = some (5, 1, .istore_n 2, []) := rfl
theorem pa_Rdr_majority_4 : pr_Rdr_majority[4]? = some (6, 1, .aload_n 0, []) := rfl
theorem pa_Rdr_majority_5 : pr_Rdr_majority[5]? = some (7, 1, .iload_n 1, []) := rfl
theorem pa_Rdr_majority_6 : pr_Rdr_majority[6]? = some (8, 1, .iconst 1, [1, 0]) := rfl
theorem pa_Rdr_majority_7 : pr_Rdr_majority[7]? = some (9, 1, .iadd, []) := rfl
theorem pa_Rdr_majority_8 : pr_Rdr_majority[8]? = some (10, 3, .invokevirtual 47, [2, 1, 0, 0, 463, 390, 391, 41]) := rfl
theorem pa_Rdr_majority_9 : pr_Rdr_majority[9]? = some (13, 1, .istore_n 3, []) := rfl
theorem pa_Rdr_majority_10 : pr_Rdr_majority[10]? = some (14, 1, .aload_n 0, []) := rfl
theorem pa_Rdr_majority_11 : pr_Rdr_majority[11]? = some (15, 1, .iload_n 1, []) := rfl
theorem pa_Rdr_majority_12 : pr_Rdr_majority[12]? = some (16, 1, .iconst 2, [2, 0]) := rfl
theorem pa_Rdr_majority_13 : pr_Rdr_majority[13]? = some (17, 1, .iadd, []) := rfl
theorem pa_Rdr_majority_14 : pr_Rdr_majority[14]? = some (18, 3, .invokevirtual 47, [2, 1, 0, 0, 463, 390, 391, 41]) := rfl
theorem pa_Rdr_majority_15 : pr_Rdr_majority[15]? = some (21, 2, .istore 4, []) := rfl
theorem pa_Rdr_majority_16 : pr_Rdr_majority[16]? = some (23, 1, .iload_n 2, []) := rfl
theorem pa_Rdr_majority_17 : pr_Rdr_majority[17]? = some (24, 1, .iload_n 3, []) := rfl
theorem pa_Rdr_majority_18 : pr_Rdr_majority[18]? = some (25, 3, .if_icmp .eq (9), [22]) := rfl
theorem pa_Rdr_majority_19 : pr_Rdr_majority[19]? = some (28, 1, .iload_n 2, []) := rfl
theorem pa_Rdr_majority_20 : pr_Rdr_majority[20]? = some (29, 2, .iload 4, []) := rfl
theorem pa_Rdr_majority_21 : pr_Rdr_majority[21]? = some (31, 3, .if_icmp .ne (5), [24]) := rfl
theorem pa_Rdr_majority_22 : pr_Rdr_majority[22]? = some (34, 1, .iload_n 2, []) := rfl
theorem pa_Rdr_majority_23 : pr_Rdr_majority[23]? = some (35, 1, .ireturn, [0]) := rfl
theorem pa_Rdr_majority_24 : pr_Rdr_majority[24]? = some (36, 1, .iload_n 3, []) := rfl
theorem pa_Rdr_majority_25 : pr_Rdr_majority[25]? = some (37, 2, .iload 4, []) := rfl
theorem pa_Rdr_majority_26 : pr_Rdr_majority[26]? = some (39, 3, .if_icmp .ne (7), [29]) := rfl
theorem pa_Rdr_majority_27 : pr_Rdr_majority[27]? = some (42, 1, .iload_n 3, []) := rfl
theorem pa_Rdr_majority_28 : pr_Rdr_majority[28]? = some (43, 3, .goto (4), [30]) := rfl
theorem pa_Rdr_majority_29 : pr_Rdr_majority[29]? = some (46, 1, .iconst (-1), [1, 1]) := rfl
theorem pa_Rdr_majority_30 : pr_Rdr_majority[30]? = some (47, 1, .ireturn, [0]) := rfl
def pa_Rdr_majority := And.intro pa_Rdr_majority_0 (And.intro pa_Rdr_majority_1 (And.intro pa_Rdr_majority_2 (And.intro pa_Rdr_majority_3 (And.intro pa_Rdr_majority_4 (And.intro pa_Rdr_majority_5 (And.intro pa_Rdr_majority_6 (And.intro pa_Rdr_majority_7 (And.intro pa_Rdr_majority_8 (And.intro pa_Rdr_majority_9 (And.intro pa_Rdr_majority_10 (And.intro pa_Rdr_majority_11 (And.intro pa_Rdr_majority_12 (And.intro pa_Rdr_majority_13 (And.intro pa_Rdr_majority_14 (And.intro pa_Rdr_majority_15 (And.intro pa_Rdr_majority_16 (And.intro pa_Rdr_majority_17 (And.intro pa_Rdr_majority_18 (And.intro pa_Rdr_majority_19 (And.intro pa_Rdr_majority_20 (And.intro pa_Rdr_majority_21 (And.intro pa_Rdr_majority_22 (And.intro pa_Rdr_majority_23 (And.intro pa_Rdr_majority_24 (And.intro pa_Rdr_majority_25 (And.intro pa_Rdr_majority_26 (And.intro pa_Rdr_majority_27 (And.intro pa_Rdr_majority_28 (And.intro pa_Rdr_majority_29 (pa_Rdr_majority_30))))))))))))))))))))))))))))))
def pr_Col_init : List ma_E := [(0, 1, .aload_n 0, []),
  (1, 3, .invokespecial 3, [0, 108, 62, 63]),
  (4, 1, .aload_n 0, []),
  (5, 2, .bipush 16, [16, 0]),
  (7, 2, .newarray .int, [89]),
  (9, 3, .putfield 9, [4, 1, 2, 0, 110]),
  (12, 1, .aload_n 0, []),
  (13, 2, .bipush 16, [16, 0]),
  (15, 2, .newarray .boolean, [139]),
  (17, 3, .putfield 15, [4, 2, 2, 0, 113]),
  (20, 1, .aload_n 0, []),
  (21, 2, .bipush 6, [6, 0]),
  (23, 2, .newarray .int, [89]),
  (25, 3, .putfield 19, [4, 3, 2, 0, 114]),
  (28, 1, .aload_n 0, []),
  (29, 2, .bipush 6, [6, 0]),
  (31, 2, .newarray .int, [89]),
  (33, 3, .putfield 22, [4, 4, 2, 0, 115]),
  (36, 1, .aload_n 0, []),
  (37, 2, .bipush 7, [7, 0]),
  (39, 2, .newarray .int, [89]),
  (41, 3, .putfield 25, [4, 5, 2, 0, 116]),
  (44, 1, .aload_n 0, []),
  (45, 2, .bipush 7, [7, 0]),
  (47, 2, .newarray .int, [89]),
  (49, 3, .putfield 28, [4, 6, 2, 0, 117]),
  (52, 1, .aload_n 0, []),
  (53, 2, .bipush 7, [7, 0]),
  (55, 2, .newarray .int, [89]),
  (57, 3, .putfield 31, [4, 7, 2, 0, 118]),
  (60, 1, .aload_n 0, []),
  (61, 2, .bipush 7, [7, 0]),
  (63, 2, .newarray .int, [89]),
  (65, 3, .putfield 34, [4, 8, 2, 0, 119]),
  (68, 1, .aload_n 0, []),
  (69, 1, .aload_n 1, []),
  (70, 3, .putfield 37, [4, 0, 2, 0, 109]),
  (73, 1, .return_, [])]
theorem po_Col_init : ma_ok me_Col_init pr_Col_init := ma_ok_of (by decide +kernel)
theorem pa_Col_init_0 : pr_Col_init[0]? = some (0, 1, .aload_n 0, []) := rfl
theorem pa_Col_init_1 : pr_Col_init[1]? = some (1, 3, .invokespecial 3, [0, 108, 62, 63]) := rfl
theorem pa_Col_init_2 : pr_Col_init[2]? = some (4, 1, .aload_n 0, []) := rfl
theorem pa_Col_init_3 : pr_Col_init[3]? = some (5, 2, .bipush 16, [16, 0]) := rfl
theorem pa_Col_init_4 : pr_Col_init[4]? = some (7, 2, .newarray .int, [89]) := rfl
theorem pa_Col_init_5 : pr_Col_init[5]? = some (9, 3, .putfield 9, [4, 1, 2, 0, 110]) := rfl
theorem pa_Col_init_6 : pr_Col_init[6]? = some (12, 1, .aload_n 0, []) := rfl
theorem pa_Col_init_7 : pr_Col_init[7]? = some (13, 2, .bipush 16, [16, 0]) := rfl
theorem pa_Col_init_8 : pr_Col_init[8]? = some (15, 2, .newarray .boolean, [139]) := rfl
theorem pa_Col_init_9 : pr_Col_init[9]? = some (17, 3, .putfield 15, [4, 2, 2, 0, 113]) := rfl
theorem pa_Col_init_10 : pr_Col_init[10]? = some (20, 1, .aload_n 0, []) := rfl
theorem pa_Col_init_11 : pr_Col_init[11]? = some (21, 2, .bipush 6, [6, 0]) := rfl
theorem pa_Col_init_12 : pr_Col_init[12]? = some (23, 2, .newarray .int, [89]) := rfl
theorem pa_Col_init_13 : pr_Col_init[13]? = some (25, 3, .putfield 19, [4, 3, 2, 0, 114]) := rfl
theorem pa_Col_init_14 : pr_Col_init[14]? = some (28, 1, .aload_n 0, []) := rfl
theorem pa_Col_init_15 : pr_Col_init[15]? = some (29, 2, .bipush 6, [6, 0]) := rfl
theorem pa_Col_init_16 : pr_Col_init[16]? = some (31, 2, .newarray .int, [89]) := rfl
theorem pa_Col_init_17 : pr_Col_init[17]? = some (33, 3, .putfield 22, [4, 4, 2, 0, 115]) := rfl
theorem pa_Col_init_18 : pr_Col_init[18]? = some (36, 1, .aload_n 0, []) := rfl
theorem pa_Col_init_19 : pr_Col_init[19]? = some (37, 2, .bipush 7, [7, 0]) := rfl
theorem pa_Col_init_20 : pr_Col_init[20]? = some (39, 2, .newarray .int, [89]) := rfl
theorem pa_Col_init_21 : pr_Col_init[21]? = some (41, 3, .putfield 25, [4, 5, 2, 0, 116]) := rfl
theorem pa_Col_init_22 : pr_Col_init[22]? = some (44, 1, .aload_n 0, []) := rfl
theorem pa_Col_init_23 : pr_Col_init[23]? = some (45, 2, .bipush 7, [7, 0]) := rfl
theorem pa_Col_init_24 : pr_Col_init[24]? = some (47, 2, .newarray .int, [89]) := rfl
theorem pa_Col_init_25 : pr_Col_init[25]? = some (49, 3, .putfield 28, [4, 6, 2, 0, 117]) := rfl
theorem pa_Col_init_26 : pr_Col_init[26]? = some (52, 1, .aload_n 0, []) := rfl
theorem pa_Col_init_27 : pr_Col_init[27]? = some (53, 2, .bipush 7, [7, 0]) := rfl
theorem pa_Col_init_28 : pr_Col_init[28]? = some (55, 2, .newarray .int, [89]) := rfl
theorem pa_Col_init_29 : pr_Col_init[29]? = some (57, 3, .putfield 31, [4, 7, 2, 0, 118]) := rfl
theorem pa_Col_init_30 : pr_Col_init[30]? = some (60, 1, .aload_n 0, []) := rfl
theorem pa_Col_init_31 : pr_Col_init[31]? = some (61, 2, .bipush 7, [7, 0]) := rfl
theorem pa_Col_init_32 : pr_Col_init[32]? = some (63, 2, .newarray .int, [89]) := rfl
theorem pa_Col_init_33 : pr_Col_init[33]? = some (65, 3, .putfield 34, [4, 8, 2, 0, 119]) := rfl
theorem pa_Col_init_34 : pr_Col_init[34]? = some (68, 1, .aload_n 0, []) := rfl
theorem pa_Col_init_35 : pr_Col_init[35]? = some (69, 1, .aload_n 1, []) := rfl
theorem pa_Col_init_36 : pr_Col_init[36]? = some (70, 3, .putfield 37, [4, 0, 2, 0, 109]) := rfl
theorem pa_Col_init_37 : pr_Col_init[37]? = some (73, 1, .return_, []) := rfl
def pa_Col_init := And.intro pa_Col_init_0 (And.intro pa_Col_init_1 (And.intro pa_Col_init_2 (And.intro pa_Col_init_3 (And.intro pa_Col_init_4 (And.intro pa_Col_init_5 (And.intro pa_Col_init_6 (And.intro pa_Col_init_7 (And.intro pa_Col_init_8 (And.intro pa_Col_init_9 (And.intro pa_Col_init_10 (And.intro pa_Col_init_11 (And.intro pa_Col_init_12 (And.intro pa_Col_init_13 (And.intro pa_Col_init_14 (And.intro pa_Col_init_15 (And.intro pa_Col_init_16 (And.intro pa_Col_init_17 (And.intro pa_Col_init_18 (And.intro pa_Col_init_19 (And.intro pa_Col_init_20 (And.intro pa_Col_init_21 (And.intro pa_Col_init_22 (And.intro pa_Col_init_23 (And.intro pa_Col_init_24 (And.intro pa_Col_init_25 (And.intro pa_Col_init_26 (And.intro pa_Col_init_27 (And.intro pa_Col_init_28 (And.intro pa_Col_init_29 (And.intro pa_Col_init_30 (And.intro pa_Col_init_31 (And.intro pa_Col_init_32 (And.intro pa_Col_init_33 (And.intro pa_Col_init_34 (And.intro pa_Col_init_35 (And.intro pa_Col_init_36 (pa_Col_init_37)))))))))))))))))))))))))))))))))))))
def pr_Col_addUp : List ma_E := [(0, 1, .iconst 0, [0, 0]),
  (1, 1, .istore_n 1, []),
  (2, 1, .iload_n 1, []),
  (3, 2, .bipush 6, [6, 0]),
  (5, 3, .if_icmp .ge (58), [37]),
  (8, 1, .iconst 0, [0, 0]),
  (9, 1, .istore_n 2, []),
  (10, 1, .iconst 0, [0, 0]),
  (11, 1, .istore_n 3, []),
  (12, 1, .iload_n 3, []),
  (13, 2, .bipush 16, [16, 0]),
  (15, 3, .if_icmp .ge (35), [30]),
  (18, 1, .iload_n 2, []),
  (19, 1, .aload_n 0, []),
  (20, 3, .getfield 37, [4, 0, 2, 0, 109]),
  (23, 1, .aload_n 0, []),
  (24, 3, .getfield 9, [4, 1, 2, 0, 110]),
  (27, 1, .iload_n 3, []),
  (28, 1, .iaload, []),
  (29, 1, .aload_n 0, []),
  (30, 3, .getfield 37, [4, 0, 2, 0, 109]),
  (33, 1, .iload_n 1, []),
  (34, 1, .iload_n 3, []),
  (35, 1, .imul, []),
  (36, 3, .invokevirtual 62, [5, 1, 1, 0, 287, 288, 289, 42]),
  (39, 3, .invokevirtual 67, [6, 2, 1, 0, 291, 292, 293, 42]),
  (42, 1, .ixor, []),
  (43, 1, .istore_n 2, []),
  (44, 3, .iinc 3 (1), [1, 0]),
  (47, 3, .goto (-35), [9]),
  (50, 1, .aload_n 0, []),
  (51, 3, .getfield 19, [4, 3, 2, 0, 114]),
  (54, 1, .iload_n 1, []),
  (55, 1, .iload_n 2, []),
  (56, 1, .iastore, []),
  (57, 3, .iinc 1 (1), [1, 0]),
  (60, 3, .goto (-58), [2]),
  (63, 1, .return_, [])]
theorem po_Col_addUp : ma_ok me_Col_addUp pr_Col_addUp := ma_ok_of (by decide +kernel)
theorem pa_Col_addUp_0 : pr_Col_addUp[0]? = some (0, 1, .iconst 0, [0, 0]) := rfl
theorem pa_Col_addUp_1 : pr_Col_addUp[1]? = some (1, 1, .istore_n 1, []) := rfl
theorem pa_Col_addUp_2 : pr_Col_addUp[2]? = some (2, 1, .iload_n 1, []) := rfl
theorem pa_Col_addUp_3 : pr_Col_addUp[3]? = some (3, 2, .bipush 6, [6, 0]) := rfl
theorem pa_Col_addUp_4 : pr_Col_addUp[4]? = some (5, 3, .if_icmp .ge (58), [37]) := rfl
theorem pa_Col_addUp_5 : pr_Col_addUp[5]? = some (8, 1, .iconst 0, [0, 0]) := rfl
theorem pa_Col_addUp_6 : pr_Col_addUp[6]? = some (9, 1, .istore_n 2, []) := rfl
theorem pa_Col_addUp_7 : pr_Col_addUp[7]? = some (10, 1, .iconst 0, [0, 0]) := rfl
theorem pa_Col_addUp_8 : pr_Col_addUp[8]? = some (11, 1, .istore_n 3, []) := rfl
theorem pa_Col_addUp_9 : pr_Col_addUp[9]? = some (12, 1, .iload_n 3, []) := rfl
theorem pa_Col_addUp_10 : pr_Col_addUp[10]? = some (13, 2, .bipush 16, [16, 0]) := rfl
theorem pa_Col_addUp_11 : pr_Col_addUp[11]? = some (15, 3, .if_icmp .ge (35), [30]) := rfl
theorem pa_Col_addUp_12 : pr_Col_addUp[12]? = some (18, 1, .iload_n 2, []) := rfl
theorem pa_Col_addUp_13 : pr_Col_addUp[13]? = some (19, 1, .aload_n 0, []) := rfl
theorem pa_Col_addUp_14 : pr_Col_addUp[14]? = some (20, 3, .getfield 37, [4, 0, 2, 0, 109]) := rfl
theorem pa_Col_addUp_15 : pr_Col_addUp[15]? = some (23, 1, .aload_n 0, []) := rfl
theorem pa_Col_addUp_16 : pr_Col_addUp[16]? = some (24, 3, .getfield 9, [4, 1, 2, 0, 110]) := rfl
theorem pa_Col_addUp_17 : pr_Col_addUp[17]? = some (27, 1, .iload_n 3, []) := rfl
theorem pa_Col_addUp_18 : pr_Col_addUp[18]? = some (28, 1, .iaload, []) := rfl
theorem pa_Col_addUp_19 : pr_Col_addUp[19]? = some (29, 1, .aload_n 0, []) := rfl
theorem pa_Col_addUp_20 : pr_Col_addUp[20]? = some (30, 3, .getfield 37, [4, 0, 2, 0, 109]) := rfl
theorem pa_Col_addUp_21 : pr_Col_addUp[21]? = some (33, 1, .iload_n 1, []) := rfl
theorem pa_Col_addUp_22 : pr_Col_addUp[22]? = some (34, 1, .iload_n 3, []) := rfl
theorem pa_Col_addUp_23 : pr_Col_addUp[23]? = some (35, 1, .imul, []) := rfl
theorem pa_Col_addUp_24 : pr_Col_addUp[24]? = some (36, 3, .invokevirtual 62, [5, 1, 1, 0, 287, 288, 289, 42]) := rfl
theorem pa_Col_addUp_25 : pr_Col_addUp[25]? = some (39, 3, .invokevirtual 67, [6, 2, 1, 0, 291, 292, 293, 42]) := rfl
theorem pa_Col_addUp_26 : pr_Col_addUp[26]? = some (42, 1, .ixor, []) := rfl
theorem pa_Col_addUp_27 : pr_Col_addUp[27]? = some (43, 1, .istore_n 2, []) := rfl
theorem pa_Col_addUp_28 : pr_Col_addUp[28]? = some (44, 3, .iinc 3 (1), [1, 0]) := rfl
theorem pa_Col_addUp_29 : pr_Col_addUp[29]? = some (47, 3, .goto (-35), [9]) := rfl
theorem pa_Col_addUp_30 : pr_Col_addUp[30]? = some (50, 1, .aload_n 0, []) := rfl
theorem pa_Col_addUp_31 : pr_Col_addUp[31]? = some (51, 3, .getfield 19, [4, 3, 2, 0, 114]) := rfl
theorem pa_Col_addUp_32 : pr_Col_addUp[32]? = some (54, 1, .iload_n 1, []) := rfl
theorem pa_Col_addUp_33 : pr_Col_addUp[33]? = some (55, 1, .iload_n 2, []) := rfl
theorem pa_Col_addUp_34 : pr_Col_addUp[34]? = some (56, 1, .iastore, []) := rfl
theorem pa_Col_addUp_35 : pr_Col_addUp[35]? = some (57, 3, .iinc 1 (1), [1, 0]) := rfl
theorem pa_Col_addUp_36 : pr_Col_addUp[36]? = some (60, 3, .goto (-58), [2]) := rfl
theorem pa_Col_addUp_37 : pr_Col_addUp[37]? = some (63, 1, .return_, []) := rfl
def pa_Col_addUp := And.intro pa_Col_addUp_0 (And.intro pa_Col_addUp_1 (And.intro pa_Col_addUp_2 (And.intro pa_Col_addUp_3 (And.intro pa_Col_addUp_4 (And.intro pa_Col_addUp_5 (And.intro pa_Col_addUp_6 (And.intro pa_Col_addUp_7 (And.intro pa_Col_addUp_8 (And.intro pa_Col_addUp_9 (And.intro pa_Col_addUp_10 (And.intro pa_Col_addUp_11 (And.intro pa_Col_addUp_12 (And.intro pa_Col_addUp_13 (And.intro pa_Col_addUp_14 (And.intro pa_Col_addUp_15 (And.intro pa_Col_addUp_16 (And.intro pa_Col_addUp_17 (And.intro pa_Col_addUp_18 (And.intro pa_Col_addUp_19 (And.intro pa_Col_addUp_20 (And.intro pa_Col_addUp_21 (And.intro pa_Col_addUp_22 (And.intro pa_Col_addUp_23 (And.intro pa_Col_addUp_24 (And.intro pa_Col_addUp_25 (And.intro pa_Col_addUp_26 (And.intro pa_Col_addUp_27 (And.intro pa_Col_addUp_28 (And.intro pa_Col_addUp_29 (And.intro pa_Col_addUp_30 (And.intro pa_Col_addUp_31 (And.intro pa_Col_addUp_32 (And.intro pa_Col_addUp_33 (And.intro pa_Col_addUp_34 (And.intro pa_Col_addUp_35 (And.intro pa_Col_addUp_36 (pa_Col_addUp_37)))))))))))))))))))))))))))))))))))))
def pr_Col_missAt : List ma_E := [(0, 1, .iconst 0, [0, 0]),
  (1, 1, .istore_n 3, []),
  (2, 1, .iconst 0, [0, 0]),
  (3, 2, .istore 4, []),
  (5, 2, .iload 4, []),
  (7, 1, .iload_n 2, []),
  (8, 3, .if_icmp .gt (41), [28]),
  (11, 2, .iload 4, []),
  (13, 1, .iload_n 1, []),
  (14, 3, .if_icmp .gt (35), [28]),
  (17, 1, .iload_n 3, []),
  (18, 1, .aload_n 0, []),
  (19, 3, .getfield 37, [4, 0, 2, 0, 109]),
  (22, 1, .aload_n 0, []),
  (23, 3, .getfield 28, [4, 6, 2, 0, 117]),
  (26, 2, .iload 4, []),
  (28, 1, .iaload, []),
  (29, 1, .aload_n 0, []),
  (30, 3, .getfield 22, [4, 4, 2, 0, 115]),
  (33, 1, .iload_n 1, []),
  (34, 2, .iload 4, []),
  (36, 1, .isub, []),
  (37, 1, .iaload, []),
  (38, 3, .invokevirtual 67, [6, 2, 1, 0, 291, 292, 293, 42]),
  (41, 1, .ixor, []),
  (42, 1, .istore_n 3, []),
  (43, 3, .iinc 4 (1), [1, 0]),
  (46, 3, .goto (-41), [4]),
  (49, 1, .iload_n 3, []),
  (50, 1, .ireturn, [0])]
theorem po_Col_missAt : ma_ok me_Col_missAt pr_Col_missAt := ma_ok_of (by decide +kernel)
theorem pa_Col_missAt_0 : pr_Col_missAt[0]? = some (0, 1, .iconst 0, [0, 0]) := rfl
theorem pa_Col_missAt_1 : pr_Col_missAt[1]? = some (1, 1, .istore_n 3, []) := rfl
theorem pa_Col_missAt_2 : pr_Col_missAt[2]? = some (2, 1, .iconst 0, [0, 0]) := rfl
theorem pa_Col_missAt_3 : pr_Col_missAt[3]? = some (3, 2, .istore 4, []) := rfl
theorem pa_Col_missAt_4 : pr_Col_missAt[4]? = some (5, 2, .iload 4, []) := rfl
theorem pa_Col_missAt_5 : pr_Col_missAt[5]? = some (7, 1, .iload_n 2, []) := rfl
theorem pa_Col_missAt_6 : pr_Col_missAt[6]? = some (8, 3, .if_icmp .gt (41), [28]) := rfl
theorem pa_Col_missAt_7 : pr_Col_missAt[7]? = some (11, 2, .iload 4, []) := rfl
theorem pa_Col_missAt_8 : pr_Col_missAt[8]? = some (13, 1, .iload_n 1, []) := rfl
theorem pa_Col_missAt_9 : pr_Col_missAt[9]? = some (14, 3, .if_icmp .gt (35), [28]) := rfl
theorem pa_Col_missAt_10 : pr_Col_missAt[10]? = some (17, 1, .iload_n 3, []) := rfl
theorem pa_Col_missAt_11 : pr_Col_missAt[11]? = some (18, 1, .aload_n 0, []) := rfl
theorem pa_Col_missAt_12 : pr_Col_missAt[12]? = some (19, 3, .getfield 37, [4, 0, 2, 0, 109]) := rfl
theorem pa_Col_missAt_13 : pr_Col_missAt[13]? = some (22, 1, .aload_n 0, []) := rfl
theorem pa_Col_missAt_14 : pr_Col_missAt[14]? = some (23, 3, .getfield 28, [4, 6, 2, 0, 117]) := rfl
theorem pa_Col_missAt_15 : pr_Col_missAt[15]? = some (26, 2, .iload 4, []) := rfl
theorem pa_Col_missAt_16 : pr_Col_missAt[16]? = some (28, 1, .iaload, []) := rfl
theorem pa_Col_missAt_17 : pr_Col_missAt[17]? = some (29, 1, .aload_n 0, []) := rfl
theorem pa_Col_missAt_18 : pr_Col_missAt[18]? = some (30, 3, .getfield 22, [4, 4, 2, 0, 115]) := rfl
theorem pa_Col_missAt_19 : pr_Col_missAt[19]? = some (33, 1, .iload_n 1, []) := rfl
theorem pa_Col_missAt_20 : pr_Col_missAt[20]? = some (34, 2, .iload 4, []) := rfl
theorem pa_Col_missAt_21 : pr_Col_missAt[21]? = some (36, 1, .isub, []) := rfl
theorem pa_Col_missAt_22 : pr_Col_missAt[22]? = some (37, 1, .iaload, []) := rfl
theorem pa_Col_missAt_23 : pr_Col_missAt[23]? = some (38, 3, .invokevirtual 67, [6, 2, 1, 0, 291, 292, 293, 42]) := rfl
theorem pa_Col_missAt_24 : pr_Col_missAt[24]? = some (41, 1, .ixor, []) := rfl
theorem pa_Col_missAt_25 : pr_Col_missAt[25]? = some (42, 1, .istore_n 3, []) := rfl
theorem pa_Col_missAt_26 : pr_Col_missAt[26]? = some (43, 3, .iinc 4 (1), [1, 0]) := rfl
theorem pa_Col_missAt_27 : pr_Col_missAt[27]? = some (46, 3, .goto (-41), [4]) := rfl
theorem pa_Col_missAt_28 : pr_Col_missAt[28]? = some (49, 1, .iload_n 3, []) := rfl
theorem pa_Col_missAt_29 : pr_Col_missAt[29]? = some (50, 1, .ireturn, [0]) := rfl
def pa_Col_missAt := And.intro pa_Col_missAt_0 (And.intro pa_Col_missAt_1 (And.intro pa_Col_missAt_2 (And.intro pa_Col_missAt_3 (And.intro pa_Col_missAt_4 (And.intro pa_Col_missAt_5 (And.intro pa_Col_missAt_6 (And.intro pa_Col_missAt_7 (And.intro pa_Col_missAt_8 (And.intro pa_Col_missAt_9 (And.intro pa_Col_missAt_10 (And.intro pa_Col_missAt_11 (And.intro pa_Col_missAt_12 (And.intro pa_Col_missAt_13 (And.intro pa_Col_missAt_14 (And.intro pa_Col_missAt_15 (And.intro pa_Col_missAt_16 (And.intro pa_Col_missAt_17 (And.intro pa_Col_missAt_18 (And.intro pa_Col_missAt_19 (And.intro pa_Col_missAt_20 (And.intro pa_Col_missAt_21 (And.intro pa_Col_missAt_22 (And.intro pa_Col_missAt_23 (And.intro pa_Col_missAt_24 (And.intro pa_Col_missAt_25 (And.intro pa_Col_missAt_26 (And.intro pa_Col_missAt_27 (And.intro pa_Col_missAt_28 (pa_Col_missAt_29)))))))))))))))))))))))))))))
def pr_Col_polynomialAt : List ma_E := [(0, 1, .iconst 0, [0, 0]),
  (1, 1, .istore_n 3, []),
  (2, 1, .iload_n 2, []),
  (3, 2, .istore 4, []),
  (5, 2, .iload 4, []),
  (7, 3, .ifCond .lt (27), [19]),
  (10, 1, .aload_n 0, []),
  (11, 3, .getfield 37, [4, 0, 2, 0, 109]),
  (14, 1, .iload_n 3, []),
  (15, 1, .iload_n 1, []),
  (16, 3, .invokevirtual 67, [6, 2, 1, 0, 291, 292, 293, 42]),
  (19, 1, .aload_n 0, []),
  (20, 3, .getfield 25, [4, 5, 2, 0, 116]),
  (23, 2, .iload 4, []),
  (25, 1, .iaload, []),
  (26, 1, .ixor, []),
  (27, 1, .istore_n 3, []),
  (28, 3, .iinc 4 (-1), [1, 1]),
  (31, 3, .goto (-26), [4]),
  (34, 1, .iload_n 3, []),
  (35, 1, .ireturn, [0])]
theorem po_Col_polynomialAt : ma_ok me_Col_polynomialAt pr_Col_polynomialAt := ma_ok_of (by decide +kernel)
theorem pa_Col_polynomialAt_0 : pr_Col_polynomialAt[0]? = some (0, 1, .iconst 0, [0, 0]) := rfl
theorem pa_Col_polynomialAt_1 : pr_Col_polynomialAt[1]? = some (1, 1, .istore_n 3, []) := rfl
theorem pa_Col_polynomialAt_2 : pr_Col_polynomialAt[2]? = some (2, 1, .iload_n 2, []) := rfl
theorem pa_Col_polynomialAt_3 : pr_Col_polynomialAt[3]? = some (3, 2, .istore 4, []) := rfl
theorem pa_Col_polynomialAt_4 : pr_Col_polynomialAt[4]? = some (5, 2, .iload 4, []) := rfl
theorem pa_Col_polynomialAt_5 : pr_Col_polynomialAt[5]? = some (7, 3, .ifCond .lt (27), [19]) := rfl
theorem pa_Col_polynomialAt_6 : pr_Col_polynomialAt[6]? = some (10, 1, .aload_n 0, []) := rfl
theorem pa_Col_polynomialAt_7 : pr_Col_polynomialAt[7]? = some (11, 3, .getfield 37, [4, 0, 2, 0, 109]) := rfl
theorem pa_Col_polynomialAt_8 : pr_Col_polynomialAt[8]? = some (14, 1, .iload_n 3, []) := rfl
theorem pa_Col_polynomialAt_9 : pr_Col_polynomialAt[9]? = some (15, 1, .iload_n 1, []) := rfl
theorem pa_Col_polynomialAt_10 : pr_Col_polynomialAt[10]? = some (16, 3, .invokevirtual 67, [6, 2, 1, 0, 291, 292, 293, 42]) := rfl
theorem pa_Col_polynomialAt_11 : pr_Col_polynomialAt[11]? = some (19, 1, .aload_n 0, []) := rfl
theorem pa_Col_polynomialAt_12 : pr_Col_polynomialAt[12]? = some (20, 3, .getfield 25, [4, 5, 2, 0, 116]) := rfl
theorem pa_Col_polynomialAt_13 : pr_Col_polynomialAt[13]? = some (23, 2, .iload 4, []) := rfl
theorem pa_Col_polynomialAt_14 : pr_Col_polynomialAt[14]? = some (25, 1, .iaload, []) := rfl
theorem pa_Col_polynomialAt_15 : pr_Col_polynomialAt[15]? = some (26, 1, .ixor, []) := rfl
theorem pa_Col_polynomialAt_16 : pr_Col_polynomialAt[16]? = some (27, 1, .istore_n 3, []) := rfl
theorem pa_Col_polynomialAt_17 : pr_Col_polynomialAt[17]? = some (28, 3, .iinc 4 (-1), [1, 1]) := rfl
theorem pa_Col_polynomialAt_18 : pr_Col_polynomialAt[18]? = some (31, 3, .goto (-26), [4]) := rfl
theorem pa_Col_polynomialAt_19 : pr_Col_polynomialAt[19]? = some (34, 1, .iload_n 3, []) := rfl
theorem pa_Col_polynomialAt_20 : pr_Col_polynomialAt[20]? = some (35, 1, .ireturn, [0]) := rfl
def pa_Col_polynomialAt := And.intro pa_Col_polynomialAt_0 (And.intro pa_Col_polynomialAt_1 (And.intro pa_Col_polynomialAt_2 (And.intro pa_Col_polynomialAt_3 (And.intro pa_Col_polynomialAt_4 (And.intro pa_Col_polynomialAt_5 (And.intro pa_Col_polynomialAt_6 (And.intro pa_Col_polynomialAt_7 (And.intro pa_Col_polynomialAt_8 (And.intro pa_Col_polynomialAt_9 (And.intro pa_Col_polynomialAt_10 (And.intro pa_Col_polynomialAt_11 (And.intro pa_Col_polynomialAt_12 (And.intro pa_Col_polynomialAt_13 (And.intro pa_Col_polynomialAt_14 (And.intro pa_Col_polynomialAt_15 (And.intro pa_Col_polynomialAt_16 (And.intro pa_Col_polynomialAt_17 (And.intro pa_Col_polynomialAt_18 (And.intro pa_Col_polynomialAt_19 (pa_Col_polynomialAt_20))))))))))))))))))))
def pr_Col_recurrenceAt : List ma_E := [(0, 1, .iconst 0, [0, 0]),
  (1, 1, .istore_n 3, []),
  (2, 1, .iconst 0, [0, 0]),
  (3, 2, .istore 4, []),
  (5, 2, .iload 4, []),
  (7, 1, .iload_n 2, []),
  (8, 3, .if_icmp .gt (27), [20]),
  (11, 1, .aload_n 0, []),
  (12, 3, .getfield 37, [4, 0, 2, 0, 109]),
  (15, 1, .iload_n 3, []),
  (16, 1, .iload_n 1, []),
  (17, 3, .invokevirtual 67, [6, 2, 1, 0, 291, 292, 293, 42]),
  (20, 1, .aload_n 0, []),
  (21, 3, .getfield 28, [4, 6, 2, 0, 117]),
  (24, 2, .iload 4, []),
  (26, 1, .iaload, []),
  (27, 1, .ixor, []),
  (28, 1, .istore_n 3, []),
  (29, 3, .iinc 4 (1), [1, 0]),
  (32, 3, .goto (-27), [4]),
  (35, 1, .iload_n 3, []),
  (36, 1, .ireturn, [0])]
theorem po_Col_recurrenceAt : ma_ok me_Col_recurrenceAt pr_Col_recurrenceAt := ma_ok_of (by decide +kernel)
theorem pa_Col_recurrenceAt_0 : pr_Col_recurrenceAt[0]? = some (0, 1, .iconst 0, [0, 0]) := rfl
theorem pa_Col_recurrenceAt_1 : pr_Col_recurrenceAt[1]? = some (1, 1, .istore_n 3, []) := rfl
theorem pa_Col_recurrenceAt_2 : pr_Col_recurrenceAt[2]? = some (2, 1, .iconst 0, [0, 0]) := rfl
theorem pa_Col_recurrenceAt_3 : pr_Col_recurrenceAt[3]? = some (3, 2, .istore 4, []) := rfl
theorem pa_Col_recurrenceAt_4 : pr_Col_recurrenceAt[4]? = some (5, 2, .iload 4, []) := rfl
theorem pa_Col_recurrenceAt_5 : pr_Col_recurrenceAt[5]? = some (7, 1, .iload_n 2, []) := rfl
theorem pa_Col_recurrenceAt_6 : pr_Col_recurrenceAt[6]? = some (8, 3, .if_icmp .gt (27), [20]) := rfl
theorem pa_Col_recurrenceAt_7 : pr_Col_recurrenceAt[7]? = some (11, 1, .aload_n 0, []) := rfl
theorem pa_Col_recurrenceAt_8 : pr_Col_recurrenceAt[8]? = some (12, 3, .getfield 37, [4, 0, 2, 0, 109]) := rfl
theorem pa_Col_recurrenceAt_9 : pr_Col_recurrenceAt[9]? = some (15, 1, .iload_n 3, []) := rfl
theorem pa_Col_recurrenceAt_10 : pr_Col_recurrenceAt[10]? = some (16, 1, .iload_n 1, []) := rfl
theorem pa_Col_recurrenceAt_11 : pr_Col_recurrenceAt[11]? = some (17, 3, .invokevirtual 67, [6, 2, 1, 0, 291, 292, 293, 42]) := rfl
theorem pa_Col_recurrenceAt_12 : pr_Col_recurrenceAt[12]? = some (20, 1, .aload_n 0, []) := rfl
theorem pa_Col_recurrenceAt_13 : pr_Col_recurrenceAt[13]? = some (21, 3, .getfield 28, [4, 6, 2, 0, 117]) := rfl
theorem pa_Col_recurrenceAt_14 : pr_Col_recurrenceAt[14]? = some (24, 2, .iload 4, []) := rfl
theorem pa_Col_recurrenceAt_15 : pr_Col_recurrenceAt[15]? = some (26, 1, .iaload, []) := rfl
theorem pa_Col_recurrenceAt_16 : pr_Col_recurrenceAt[16]? = some (27, 1, .ixor, []) := rfl
theorem pa_Col_recurrenceAt_17 : pr_Col_recurrenceAt[17]? = some (28, 1, .istore_n 3, []) := rfl
theorem pa_Col_recurrenceAt_18 : pr_Col_recurrenceAt[18]? = some (29, 3, .iinc 4 (1), [1, 0]) := rfl
theorem pa_Col_recurrenceAt_19 : pr_Col_recurrenceAt[19]? = some (32, 3, .goto (-27), [4]) := rfl
theorem pa_Col_recurrenceAt_20 : pr_Col_recurrenceAt[20]? = some (35, 1, .iload_n 3, []) := rfl
theorem pa_Col_recurrenceAt_21 : pr_Col_recurrenceAt[21]? = some (36, 1, .ireturn, [0]) := rfl
def pa_Col_recurrenceAt := And.intro pa_Col_recurrenceAt_0 (And.intro pa_Col_recurrenceAt_1 (And.intro pa_Col_recurrenceAt_2 (And.intro pa_Col_recurrenceAt_3 (And.intro pa_Col_recurrenceAt_4 (And.intro pa_Col_recurrenceAt_5 (And.intro pa_Col_recurrenceAt_6 (And.intro pa_Col_recurrenceAt_7 (And.intro pa_Col_recurrenceAt_8 (And.intro pa_Col_recurrenceAt_9 (And.intro pa_Col_recurrenceAt_10 (And.intro pa_Col_recurrenceAt_11 (And.intro pa_Col_recurrenceAt_12 (And.intro pa_Col_recurrenceAt_13 (And.intro pa_Col_recurrenceAt_14 (And.intro pa_Col_recurrenceAt_15 (And.intro pa_Col_recurrenceAt_16 (And.intro pa_Col_recurrenceAt_17 (And.intro pa_Col_recurrenceAt_18 (And.intro pa_Col_recurrenceAt_19 (And.intro pa_Col_recurrenceAt_20 (pa_Col_recurrenceAt_21)))))))))))))))))))))
def pr_Col_spanUnknown : List ma_E := [(0, 1, .aload_n 0, []),
  (1, 3, .getfield 25, [4, 5, 2, 0, 116]),
  (4, 1, .iconst 0, [0, 0]),
  (5, 3, .invokestatic 77, [38, 2, 0, 303, 304, 48]),
  (8, 1, .aload_n 0, []),
  (9, 3, .getfield 25, [4, 5, 2, 0, 116]),
  (12, 1, .iconst 0, [0, 0]),
  (13, 1, .iconst 1, [1, 0]),
  (14, 1, .iastore, []),
  (15, 1, .iconst 0, [0, 0]),
  (16, 1, .istore_n 2, []),
  (17, 1, .iconst 0, [0, 0]),
  (18, 1, .istore_n 3, []),
  (19, 1, .iload_n 3, []),
  (20, 2, .bipush 16, [16, 0]),
  (22, 3, .if_icmp .ge (111), [73]),
  (25, 1, .aload_n 0, []),
  (26, 3, .getfield 15, [4, 2, 2, 0, 113]),
  (29, 1, .iload_n 3, []),
  (30, 1, .baload, [1]),
  (31, 3, .ifCond .eq (96), [71]),
  (34, 1, .iload_n 3, []),
  (35, 1, .iload_n 1, []),
  (36, 3, .if_icmp .eq (91), [71]),
  (39, 1, .iload_n 2, []),
  (40, 2, .bipush 6, [6, 0]),
  (42, 3, .if_icmp .ge (85), [71]),
  (45, 3, .iinc 2 (1), [1, 0]),
  (48, 1, .aload_n 0, []),
  (49, 3, .getfield 37, [4, 0, 2, 0, 109]),
  (52, 1, .iload_n 3, []),
  (53, 3, .invokevirtual 62, [5, 1, 1, 0, 287, 288, 289, 42]),
  (56, 2, .istore 4, []),
  (58, 1, .iload_n 2, []),
  (59, 2, .istore 5, []),
  (61, 2, .iload 5, []),
  (63, 1, .iconst 1, [1, 0]),
  (64, 3, .if_icmp .lt (42), [59]),
  (67, 1, .aload_n 0, []),
  (68, 3, .getfield 25, [4, 5, 2, 0, 116]),
  (71, 2, .iload 5, []),
  (73, 1, .aload_n 0, []),
  (74, 3, .getfield 25, [4, 5, 2, 0, 116]),
  (77, 2, .iload 5, []),
  (79, 1, .iconst 1, [1, 0]),
  (80, 1, .isub, []),
  (81, 1, .iaload, []),
  (82, 1, .aload_n 0, []),
  (83, 3, .getfield 37, [4, 0, 2, 0, 109]),
  (86, 2, .iload 4, []),
  (88, 1, .aload_n 0, []),
  (89, 3, .getfield 25, [4, 5, 2, 0, 116]),
  (92, 2, .iload 5, []),
  (94, 1, .iaload, []),
  (95, 3, .invokevirtual 67, [6, 2, 1, 0, 291, 292, 293, 42]),
  (98, 1, .ixor, []),
  (99, 1, .iastore, []),
  (100, 3, .iinc 5 (-1), [1, 1]),
  (103, 3, .goto (-42), [35]),
  (106, 1, .aload_n 0, []),
  (107, 3, .getfield 25, [4, 5, 2, 0, 116]),
  (110, 1, .iconst 0, [0, 0]),
  (111, 1, .aload_n 0, []),
  (112, 3, .getfield 37, [4, 0, 2, 0, 109]),
  (115, 2, .iload 4, []),
  (117, 1, .aload_n 0, []),
  (118, 3, .getfield 25, [4, 5, 2, 0, 116]),
  (121, 1, .iconst 0, [0, 0]),
  (122, 1, .iaload, []),
  (123, 3, .invokevirtual 67, [6, 2, 1, 0, 291, 292, 293, 42]),
  (126, 1, .iastore, []),
  (127, 3, .iinc 3 (1), [1, 0]),
  (130, 3, .goto (-111), [13]),
  (133, 1, .iload_n 2, []),
  (134, 1, .ireturn, [0])]
theorem po_Col_spanUnknown : ma_ok me_Col_spanUnknown pr_Col_spanUnknown := ma_ok_of (by decide +kernel)
theorem pa_Col_spanUnknown_0 : pr_Col_spanUnknown[0]? = some (0, 1, .aload_n 0, []) := rfl
theorem pa_Col_spanUnknown_1 : pr_Col_spanUnknown[1]? = some (1, 3, .getfield 25, [4, 5, 2, 0, 116]) := rfl
theorem pa_Col_spanUnknown_2 : pr_Col_spanUnknown[2]? = some (4, 1, .iconst 0, [0, 0]) := rfl
theorem pa_Col_spanUnknown_3 : pr_Col_spanUnknown[3]? = some (5, 3, .invokestatic 77, [38, 2, 0, 303, 304, 48]) := rfl
theorem pa_Col_spanUnknown_4 : pr_Col_spanUnknown[4]? = some (8, 1, .aload_n 0, []) := rfl
theorem pa_Col_spanUnknown_5 : pr_Col_spanUnknown[5]? = some (9, 3, .getfield 25, [4, 5, 2, 0, 116]) := rfl
theorem pa_Col_spanUnknown_6 : pr_Col_spanUnknown[6]? = some (12, 1, .iconst 0, [0, 0]) := rfl
theorem pa_Col_spanUnknown_7 : pr_Col_spanUnknown[7]? = some (13, 1, .iconst 1, [1, 0]) := rfl
theorem pa_Col_spanUnknown_8 : pr_Col_spanUnknown[8]? = some (14, 1, .iastore, []) := rfl
theorem pa_Col_spanUnknown_9 : pr_Col_spanUnknown[9]? = some (15, 1, .iconst 0, [0, 0]) := rfl
theorem pa_Col_spanUnknown_10 : pr_Col_spanUnknown[10]? = some (16, 1, .istore_n 2, []) := rfl
theorem pa_Col_spanUnknown_11 : pr_Col_spanUnknown[11]? = some (17, 1, .iconst 0, [0, 0]) := rfl
theorem pa_Col_spanUnknown_12 : pr_Col_spanUnknown[12]? = some (18, 1, .istore_n 3, []) := rfl
theorem pa_Col_spanUnknown_13 : pr_Col_spanUnknown[13]? = some (19, 1, .iload_n 3, []) := rfl
theorem pa_Col_spanUnknown_14 : pr_Col_spanUnknown[14]? = some (20, 2, .bipush 16, [16, 0]) := rfl
theorem pa_Col_spanUnknown_15 : pr_Col_spanUnknown[15]? = some (22, 3, .if_icmp .ge (111), [73]) := rfl
theorem pa_Col_spanUnknown_16 : pr_Col_spanUnknown[16]? = some (25, 1, .aload_n 0, []) := rfl
theorem pa_Col_spanUnknown_17 : pr_Col_spanUnknown[17]? = some (26, 3, .getfield 15, [4, 2, 2, 0, 113]) := rfl
theorem pa_Col_spanUnknown_18 : pr_Col_spanUnknown[18]? = some (29, 1, .iload_n 3, []) := rfl
theorem pa_Col_spanUnknown_19 : pr_Col_spanUnknown[19]? = some (30, 1, .baload, [1]) := rfl
theorem pa_Col_spanUnknown_20 : pr_Col_spanUnknown[20]? = some (31, 3, .ifCond .eq (96), [71]) := rfl
theorem pa_Col_spanUnknown_21 : pr_Col_spanUnknown[21]? = some (34, 1, .iload_n 3, []) := rfl
theorem pa_Col_spanUnknown_22 : pr_Col_spanUnknown[22]? = some (35, 1, .iload_n 1, []) := rfl
theorem pa_Col_spanUnknown_23 : pr_Col_spanUnknown[23]? = some (36, 3, .if_icmp .eq (91), [71]) := rfl
theorem pa_Col_spanUnknown_24 : pr_Col_spanUnknown[24]? = some (39, 1, .iload_n 2, []) := rfl
theorem pa_Col_spanUnknown_25 : pr_Col_spanUnknown[25]? = some (40, 2, .bipush 6, [6, 0]) := rfl
theorem pa_Col_spanUnknown_26 : pr_Col_spanUnknown[26]? = some (42, 3, .if_icmp .ge (85), [71]) := rfl
theorem pa_Col_spanUnknown_27 : pr_Col_spanUnknown[27]? = some (45, 3, .iinc 2 (1), [1, 0]) := rfl
theorem pa_Col_spanUnknown_28 : pr_Col_spanUnknown[28]? = some (48, 1, .aload_n 0, []) := rfl
theorem pa_Col_spanUnknown_29 : pr_Col_spanUnknown[29]? = some (49, 3, .getfield 37, [4, 0, 2, 0, 109]) := rfl
theorem pa_Col_spanUnknown_30 : pr_Col_spanUnknown[30]? = some (52, 1, .iload_n 3, []) := rfl
theorem pa_Col_spanUnknown_31 : pr_Col_spanUnknown[31]? = some (53, 3, .invokevirtual 62, [5, 1, 1, 0, 287, 288, 289, 42]) := rfl
theorem pa_Col_spanUnknown_32 : pr_Col_spanUnknown[32]? = some (56, 2, .istore 4, []) := rfl
theorem pa_Col_spanUnknown_33 : pr_Col_spanUnknown[33]? = some (58, 1, .iload_n 2, []) := rfl
theorem pa_Col_spanUnknown_34 : pr_Col_spanUnknown[34]? = some (59, 2, .istore 5, []) := rfl
theorem pa_Col_spanUnknown_35 : pr_Col_spanUnknown[35]? = some (61, 2, .iload 5, []) := rfl
theorem pa_Col_spanUnknown_36 : pr_Col_spanUnknown[36]? = some (63, 1, .iconst 1, [1, 0]) := rfl
theorem pa_Col_spanUnknown_37 : pr_Col_spanUnknown[37]? = some (64, 3, .if_icmp .lt (42), [59]) := rfl
theorem pa_Col_spanUnknown_38 : pr_Col_spanUnknown[38]? = some (67, 1, .aload_n 0, []) := rfl
theorem pa_Col_spanUnknown_39 : pr_Col_spanUnknown[39]? = some (68, 3, .getfield 25, [4, 5, 2, 0, 116]) := rfl
theorem pa_Col_spanUnknown_40 : pr_Col_spanUnknown[40]? = some (71, 2, .iload 5, []) := rfl
theorem pa_Col_spanUnknown_41 : pr_Col_spanUnknown[41]? = some (73, 1, .aload_n 0, []) := rfl
theorem pa_Col_spanUnknown_42 : pr_Col_spanUnknown[42]? = some (74, 3, .getfield 25, [4, 5, 2, 0, 116]) := rfl
theorem pa_Col_spanUnknown_43 : pr_Col_spanUnknown[43]? = some (77, 2, .iload 5, []) := rfl
theorem pa_Col_spanUnknown_44 : pr_Col_spanUnknown[44]? = some (79, 1, .iconst 1, [1, 0]) := rfl
theorem pa_Col_spanUnknown_45 : pr_Col_spanUnknown[45]? = some (80, 1, .isub, []) := rfl
theorem pa_Col_spanUnknown_46 : pr_Col_spanUnknown[46]? = some (81, 1, .iaload, []) := rfl
theorem pa_Col_spanUnknown_47 : pr_Col_spanUnknown[47]? = some (82, 1, .aload_n 0, []) := rfl
theorem pa_Col_spanUnknown_48 : pr_Col_spanUnknown[48]? = some (83, 3, .getfield 37, [4, 0, 2, 0, 109]) := rfl
theorem pa_Col_spanUnknown_49 : pr_Col_spanUnknown[49]? = some (86, 2, .iload 4, []) := rfl
theorem pa_Col_spanUnknown_50 : pr_Col_spanUnknown[50]? = some (88, 1, .aload_n 0, []) := rfl
theorem pa_Col_spanUnknown_51 : pr_Col_spanUnknown[51]? = some (89, 3, .getfield 25, [4, 5, 2, 0, 116]) := rfl
theorem pa_Col_spanUnknown_52 : pr_Col_spanUnknown[52]? = some (92, 2, .iload 5, []) := rfl
theorem pa_Col_spanUnknown_53 : pr_Col_spanUnknown[53]? = some (94, 1, .iaload, []) := rfl
theorem pa_Col_spanUnknown_54 : pr_Col_spanUnknown[54]? = some (95, 3, .invokevirtual 67, [6, 2, 1, 0, 291, 292, 293, 42]) := rfl
theorem pa_Col_spanUnknown_55 : pr_Col_spanUnknown[55]? = some (98, 1, .ixor, []) := rfl
theorem pa_Col_spanUnknown_56 : pr_Col_spanUnknown[56]? = some (99, 1, .iastore, []) := rfl
theorem pa_Col_spanUnknown_57 : pr_Col_spanUnknown[57]? = some (100, 3, .iinc 5 (-1), [1, 1]) := rfl
theorem pa_Col_spanUnknown_58 : pr_Col_spanUnknown[58]? = some (103, 3, .goto (-42), [35]) := rfl
theorem pa_Col_spanUnknown_59 : pr_Col_spanUnknown[59]? = some (106, 1, .aload_n 0, []) := rfl
theorem pa_Col_spanUnknown_60 : pr_Col_spanUnknown[60]? = some (107, 3, .getfield 25, [4, 5, 2, 0, 116]) := rfl
theorem pa_Col_spanUnknown_61 : pr_Col_spanUnknown[61]? = some (110, 1, .iconst 0, [0, 0]) := rfl
theorem pa_Col_spanUnknown_62 : pr_Col_spanUnknown[62]? = some (111, 1, .aload_n 0, []) := rfl
theorem pa_Col_spanUnknown_63 : pr_Col_spanUnknown[63]? = some (112, 3, .getfield 37, [4, 0, 2, 0, 109]) := rfl
theorem pa_Col_spanUnknown_64 : pr_Col_spanUnknown[64]? = some (115, 2, .iload 4, []) := rfl
theorem pa_Col_spanUnknown_65 : pr_Col_spanUnknown[65]? = some (117, 1, .aload_n 0, []) := rfl
theorem pa_Col_spanUnknown_66 : pr_Col_spanUnknown[66]? = some (118, 3, .getfield 25, [4, 5, 2, 0, 116]) := rfl
theorem pa_Col_spanUnknown_67 : pr_Col_spanUnknown[67]? = some (121, 1, .iconst 0, [0, 0]) := rfl
theorem pa_Col_spanUnknown_68 : pr_Col_spanUnknown[68]? = some (122, 1, .iaload, []) := rfl
theorem pa_Col_spanUnknown_69 : pr_Col_spanUnknown[69]? = some (123, 3, .invokevirtual 67, [6, 2, 1, 0, 291, 292, 293, 42]) := rfl
theorem pa_Col_spanUnknown_70 : pr_Col_spanUnknown[70]? = some (126, 1, .iastore, []) := rfl
theorem pa_Col_spanUnknown_71 : pr_Col_spanUnknown[71]? = some (127, 3, .iinc 3 (1), [1, 0]) := rfl
theorem pa_Col_spanUnknown_72 : pr_Col_spanUnknown[72]? = some (130, 3, .goto (-111), [13]) := rfl
theorem pa_Col_spanUnknown_73 : pr_Col_spanUnknown[73]? = some (133, 1, .iload_n 2, []) := rfl
theorem pa_Col_spanUnknown_74 : pr_Col_spanUnknown[74]? = some (134, 1, .ireturn, [0]) := rfl
def pa_Col_spanUnknown := And.intro pa_Col_spanUnknown_0 (And.intro pa_Col_spanUnknown_1 (And.intro pa_Col_spanUnknown_2 (And.intro pa_Col_spanUnknown_3 (And.intro pa_Col_spanUnknown_4 (And.intro pa_Col_spanUnknown_5 (And.intro pa_Col_spanUnknown_6 (And.intro pa_Col_spanUnknown_7 (And.intro pa_Col_spanUnknown_8 (And.intro pa_Col_spanUnknown_9 (And.intro pa_Col_spanUnknown_10 (And.intro pa_Col_spanUnknown_11 (And.intro pa_Col_spanUnknown_12 (And.intro pa_Col_spanUnknown_13 (And.intro pa_Col_spanUnknown_14 (And.intro pa_Col_spanUnknown_15 (And.intro pa_Col_spanUnknown_16 (And.intro pa_Col_spanUnknown_17 (And.intro pa_Col_spanUnknown_18 (And.intro pa_Col_spanUnknown_19 (And.intro pa_Col_spanUnknown_20 (And.intro pa_Col_spanUnknown_21 (And.intro pa_Col_spanUnknown_22 (And.intro pa_Col_spanUnknown_23 (And.intro pa_Col_spanUnknown_24 (And.intro pa_Col_spanUnknown_25 (And.intro pa_Col_spanUnknown_26 (And.intro pa_Col_spanUnknown_27 (And.intro pa_Col_spanUnknown_28 (And.intro pa_Col_spanUnknown_29 (And.intro pa_Col_spanUnknown_30 (And.intro pa_Col_spanUnknown_31 (And.intro pa_Col_spanUnknown_32 (And.intro pa_Col_spanUnknown_33 (And.intro pa_Col_spanUnknown_34 (And.intro pa_Col_spanUnknown_35 (And.intro pa_Col_spanUnknown_36 (And.intro pa_Col_spanUnknown_37 (And.intro pa_Col_spanUnknown_38 (And.intro pa_Col_spanUnknown_39 (And.intro pa_Col_spanUnknown_40 (And.intro pa_Col_spanUnknown_41 (And.intro pa_Col_spanUnknown_42 (And.intro pa_Col_spanUnknown_43 (And.intro pa_Col_spanUnknown_44 (And.intro pa_Col_spanUnknown_45 (And.intro pa_Col_spanUnknown_46 (And.intro pa_Col_spanUnknown_47 (And.intro pa_Col_spanUnknown_48 (And.intro pa_Col_spanUnknown_49 (And.intro pa_Col_spanUnknown_50 (And.intro pa_Col_spanUnknown_51 (And.intro pa_Col_spanUnknown_52 (And.intro pa_Col_spanUnknown_53 (And.intro pa_Col_spanUnknown_54 (And.intro pa_Col_spanUnknown_55 (And.intro pa_Col_spanUnknown_56 (And.intro pa_Col_spanUnknown_57 (And.intro pa_Col_spanUnknown_58 (And.intro pa_Col_spanUnknown_59 (And.intro pa_Col_spanUnknown_60 (And.intro pa_Col_spanUnknown_61 (And.intro pa_Col_spanUnknown_62 (And.intro pa_Col_spanUnknown_63 (And.intro pa_Col_spanUnknown_64 (And.intro pa_Col_spanUnknown_65 (And.intro pa_Col_spanUnknown_66 (And.intro pa_Col_spanUnknown_67 (And.intro pa_Col_spanUnknown_68 (And.intro pa_Col_spanUnknown_69 (And.intro pa_Col_spanUnknown_70 (And.intro pa_Col_spanUnknown_71 (And.intro pa_Col_spanUnknown_72 (And.intro pa_Col_spanUnknown_73 (pa_Col_spanUnknown_74))))))))))))))))))))))))))))))))))))))))))))))))))))))))))))))))))))))))))
def pr_Col_weigh : List ma_E := [(0, 1, .iconst 0, [0, 0]),
  (1, 1, .istore_n 3, []),
  (2, 1, .iconst 0, [0, 0]),
  (3, 2, .istore 4, []),
  (5, 2, .iload 4, []),
  (7, 1, .iload_n 2, []),
  (8, 3, .if_icmp .gt (44), [30]),
  (11, 1, .iload_n 1, []),
  (12, 2, .iload 4, []),
  (14, 1, .iadd, []),
  (15, 2, .bipush 6, [6, 0]),
  (17, 3, .if_icmp .ge (35), [30]),
  (20, 1, .iload_n 3, []),
  (21, 1, .aload_n 0, []),
  (22, 3, .getfield 37, [4, 0, 2, 0, 109]),
  (25, 1, .aload_n 0, []),
  (26, 3, .getfield 25, [4, 5, 2, 0, 116]),
  (29, 2, .iload 4, []),
  (31, 1, .iaload, []),
  (32, 1, .aload_n 0, []),
  (33, 3, .getfield 19, [4, 3, 2, 0, 114]),
  (36, 1, .iload_n 1, []),
  (37, 2, .iload 4, []),
  (39, 1, .iadd, []),
  (40, 1, .iaload, []),
  (41, 3, .invokevirtual 67, [6, 2, 1, 0, 291, 292, 293, 42]),
  (44, 1, .ixor, []),
  (45, 1, .istore_n 3, []),
  (46, 3, .iinc 4 (1), [1, 0]),
  (49, 3, .goto (-44), [4]),
  (52, 1, .iload_n 3, []),
  (53, 1, .ireturn, [0])]
theorem po_Col_weigh : ma_ok me_Col_weigh pr_Col_weigh := ma_ok_of (by decide +kernel)
theorem pa_Col_weigh_0 : pr_Col_weigh[0]? = some (0, 1, .iconst 0, [0, 0]) := rfl
theorem pa_Col_weigh_1 : pr_Col_weigh[1]? = some (1, 1, .istore_n 3, []) := rfl
theorem pa_Col_weigh_2 : pr_Col_weigh[2]? = some (2, 1, .iconst 0, [0, 0]) := rfl
theorem pa_Col_weigh_3 : pr_Col_weigh[3]? = some (3, 2, .istore 4, []) := rfl
theorem pa_Col_weigh_4 : pr_Col_weigh[4]? = some (5, 2, .iload 4, []) := rfl
theorem pa_Col_weigh_5 : pr_Col_weigh[5]? = some (7, 1, .iload_n 2, []) := rfl
theorem pa_Col_weigh_6 : pr_Col_weigh[6]? = some (8, 3, .if_icmp .gt (44), [30]) := rfl
theorem pa_Col_weigh_7 : pr_Col_weigh[7]? = some (11, 1, .iload_n 1, []) := rfl
theorem pa_Col_weigh_8 : pr_Col_weigh[8]? = some (12, 2, .iload 4, []) := rfl
theorem pa_Col_weigh_9 : pr_Col_weigh[9]? = some (14, 1, .iadd, []) := rfl
theorem pa_Col_weigh_10 : pr_Col_weigh[10]? = some (15, 2, .bipush 6, [6, 0]) := rfl
theorem pa_Col_weigh_11 : pr_Col_weigh[11]? = some (17, 3, .if_icmp .ge (35), [30]) := rfl
theorem pa_Col_weigh_12 : pr_Col_weigh[12]? = some (20, 1, .iload_n 3, []) := rfl
theorem pa_Col_weigh_13 : pr_Col_weigh[13]? = some (21, 1, .aload_n 0, []) := rfl
theorem pa_Col_weigh_14 : pr_Col_weigh[14]? = some (22, 3, .getfield 37, [4, 0, 2, 0, 109]) := rfl
theorem pa_Col_weigh_15 : pr_Col_weigh[15]? = some (25, 1, .aload_n 0, []) := rfl
theorem pa_Col_weigh_16 : pr_Col_weigh[16]? = some (26, 3, .getfield 25, [4, 5, 2, 0, 116]) := rfl
theorem pa_Col_weigh_17 : pr_Col_weigh[17]? = some (29, 2, .iload 4, []) := rfl
theorem pa_Col_weigh_18 : pr_Col_weigh[18]? = some (31, 1, .iaload, []) := rfl
theorem pa_Col_weigh_19 : pr_Col_weigh[19]? = some (32, 1, .aload_n 0, []) := rfl
theorem pa_Col_weigh_20 : pr_Col_weigh[20]? = some (33, 3, .getfield 19, [4, 3, 2, 0, 114]) := rfl
theorem pa_Col_weigh_21 : pr_Col_weigh[21]? = some (36, 1, .iload_n 1, []) := rfl
theorem pa_Col_weigh_22 : pr_Col_weigh[22]? = some (37, 2, .iload 4, []) := rfl
theorem pa_Col_weigh_23 : pr_Col_weigh[23]? = some (39, 1, .iadd, []) := rfl
theorem pa_Col_weigh_24 : pr_Col_weigh[24]? = some (40, 1, .iaload, []) := rfl
theorem pa_Col_weigh_25 : pr_Col_weigh[25]? = some (41, 3, .invokevirtual 67, [6, 2, 1, 0, 291, 292, 293, 42]) := rfl
theorem pa_Col_weigh_26 : pr_Col_weigh[26]? = some (44, 1, .ixor, []) := rfl
theorem pa_Col_weigh_27 : pr_Col_weigh[27]? = some (45, 1, .istore_n 3, []) := rfl
theorem pa_Col_weigh_28 : pr_Col_weigh[28]? = some (46, 3, .iinc 4 (1), [1, 0]) := rfl
theorem pa_Col_weigh_29 : pr_Col_weigh[29]? = some (49, 3, .goto (-44), [4]) := rfl
theorem pa_Col_weigh_30 : pr_Col_weigh[30]? = some (52, 1, .iload_n 3, []) := rfl
theorem pa_Col_weigh_31 : pr_Col_weigh[31]? = some (53, 1, .ireturn, [0]) := rfl
def pa_Col_weigh := And.intro pa_Col_weigh_0 (And.intro pa_Col_weigh_1 (And.intro pa_Col_weigh_2 (And.intro pa_Col_weigh_3 (And.intro pa_Col_weigh_4 (And.intro pa_Col_weigh_5 (And.intro pa_Col_weigh_6 (And.intro pa_Col_weigh_7 (And.intro pa_Col_weigh_8 (And.intro pa_Col_weigh_9 (And.intro pa_Col_weigh_10 (And.intro pa_Col_weigh_11 (And.intro pa_Col_weigh_12 (And.intro pa_Col_weigh_13 (And.intro pa_Col_weigh_14 (And.intro pa_Col_weigh_15 (And.intro pa_Col_weigh_16 (And.intro pa_Col_weigh_17 (And.intro pa_Col_weigh_18 (And.intro pa_Col_weigh_19 (And.intro pa_Col_weigh_20 (And.intro pa_Col_weigh_21 (And.intro pa_Col_weigh_22 (And.intro pa_Col_weigh_23 (And.intro pa_Col_weigh_24 (And.intro pa_Col_weigh_25 (And.intro pa_Col_weigh_26 (And.intro pa_Col_weigh_27 (And.intro pa_Col_weigh_28 (And.intro pa_Col_weigh_29 (And.intro pa_Col_weigh_30 (pa_Col_weigh_31)))))))))))))))))))))))))))))))
def pr_Dec_begin : List ma_E := [(0, 1, .aload_n 0, []),
  (1, 1, .iload_n 1, []),
  (2, 3, .putfield 29, [5, 5, 0, 0, 187]),
  (5, 1, .aload_n 0, []),
  (6, 1, .iconst 0, [0, 0]),
  (7, 3, .putfield 32, [5, 6, 0, 0, 189]),
  (10, 1, .aload_n 0, []),
  (11, 1, .iconst 0, [0, 0]),
  (12, 3, .putfield 35, [5, 7, 0, 0, 191]),
  (15, 1, .aload_n 0, []),
  (16, 3, .getfield 18, [5, 2, 2, 0, 184]),
  (19, 1, .iconst 0, [0, 0]),
  (20, 3, .invokestatic 51, [38, 2, 0, 447, 304, 48]),
  (23, 1, .return_, [])]
theorem po_Dec_begin : ma_ok me_Dec_begin pr_Dec_begin := ma_ok_of (by decide +kernel)
theorem pa_Dec_begin_0 : pr_Dec_begin[0]? = some (0, 1, .aload_n 0, []) := rfl
theorem pa_Dec_begin_1 : pr_Dec_begin[1]? = some (1, 1, .iload_n 1, []) := rfl
theorem pa_Dec_begin_2 : pr_Dec_begin[2]? = some (2, 3, .putfield 29, [5, 5, 0, 0, 187]) := rfl
theorem pa_Dec_begin_3 : pr_Dec_begin[3]? = some (5, 1, .aload_n 0, []) := rfl
theorem pa_Dec_begin_4 : pr_Dec_begin[4]? = some (6, 1, .iconst 0, [0, 0]) := rfl
theorem pa_Dec_begin_5 : pr_Dec_begin[5]? = some (7, 3, .putfield 32, [5, 6, 0, 0, 189]) := rfl
theorem pa_Dec_begin_6 : pr_Dec_begin[6]? = some (10, 1, .aload_n 0, []) := rfl
theorem pa_Dec_begin_7 : pr_Dec_begin[7]? = some (11, 1, .iconst 0, [0, 0]) := rfl
theorem pa_Dec_begin_8 : pr_Dec_begin[8]? = some (12, 3, .putfield 35, [5, 7, 0, 0, 191]) := rfl
theorem pa_Dec_begin_9 : pr_Dec_begin[9]? = some (15, 1, .aload_n 0, []) := rfl
theorem pa_Dec_begin_10 : pr_Dec_begin[10]? = some (16, 3, .getfield 18, [5, 2, 2, 0, 184]) := rfl
theorem pa_Dec_begin_11 : pr_Dec_begin[11]? = some (19, 1, .iconst 0, [0, 0]) := rfl
theorem pa_Dec_begin_12 : pr_Dec_begin[12]? = some (20, 3, .invokestatic 51, [38, 2, 0, 447, 304, 48]) := rfl
theorem pa_Dec_begin_13 : pr_Dec_begin[13]? = some (23, 1, .return_, []) := rfl
def pa_Dec_begin := And.intro pa_Dec_begin_0 (And.intro pa_Dec_begin_1 (And.intro pa_Dec_begin_2 (And.intro pa_Dec_begin_3 (And.intro pa_Dec_begin_4 (And.intro pa_Dec_begin_5 (And.intro pa_Dec_begin_6 (And.intro pa_Dec_begin_7 (And.intro pa_Dec_begin_8 (And.intro pa_Dec_begin_9 (And.intro pa_Dec_begin_10 (And.intro pa_Dec_begin_11 (And.intro pa_Dec_begin_12 (pa_Dec_begin_13)))))))))))))
def pr_Dec_slotOf : List ma_E := [(0, 1, .iload_n 1, []),
  (1, 3, .sipush 256, [256, 0]),
  (4, 1, .idiv, []),
  (5, 1, .istore_n 2, []),
  (6, 1, .iload_n 1, []),
  (7, 3, .sipush 256, [256, 0]),
  (10, 1, .irem, []),
  (11, 1, .istore_n 3, []),
  (12, 1, .iload_n 1, []),
  (13, 1, .iconst (-1), [1, 1]),
  (14, 3, .if_icmp .eq (24), [21]),
  (17, 1, .iload_n 2, []),
  (18, 1, .aload_n 0, []),
  (19, 3, .getfield 29, [5, 5, 0, 0, 187]),
  (22, 3, .invokestatic 95, [15, 1, 1, 2, 265, 40]),
  (25, 3, .if_icmp .ge (13), [21]),
  (28, 1, .iload_n 3, []),
  (29, 2, .bipush 16, [16, 0]),
  (31, 3, .if_icmp .ge (7), [21]),
  (34, 1, .iconst 1, [1, 0]),
  (35, 3, .goto (4), [22]),
  (38, 1, .iconst 0, [0, 0]),
  (39, 2, .istore 4, []),
  (41, 2, .iload 4, []),
  (43, 3, .ifCond .eq (12), [31]),
  (46, 1, .iload_n 2, []),
  (47, 2, .bipush 16, [16, 0]),
  (49, 1, .imul, []),
  (50, 1, .iload_n 3, []),
  (51, 1, .iadd, []),
  (52, 3, .goto (4), [32]),
  (55, 1, .iconst (-1), [1, 1]),
  (56, 1, .ireturn, [0])]
theorem po_Dec_slotOf : ma_ok me_Dec_slotOf pr_Dec_slotOf := ma_ok_of (by decide +kernel)
theorem pa_Dec_slotOf_0 : pr_Dec_slotOf[0]? = some (0, 1, .iload_n 1, []) := rfl
theorem pa_Dec_slotOf_1 : pr_Dec_slotOf[1]? = some (1, 3, .sipush 256, [256, 0]) := rfl
theorem pa_Dec_slotOf_2 : pr_Dec_slotOf[2]? = some (4, 1, .idiv, []) := rfl
theorem pa_Dec_slotOf_3 : pr_Dec_slotOf[3]? = some (5, 1, .istore_n 2, []) := rfl
theorem pa_Dec_slotOf_4 : pr_Dec_slotOf[4]? = some (6, 1, .iload_n 1, []) := rfl
theorem pa_Dec_slotOf_5 : pr_Dec_slotOf[5]? = some (7, 3, .sipush 256, [256, 0]) := rfl
theorem pa_Dec_slotOf_6 : pr_Dec_slotOf[6]? = some (10, 1, .irem, []) := rfl
theorem pa_Dec_slotOf_7 : pr_Dec_slotOf[7]? = some (11, 1, .istore_n 3, []) := rfl
theorem pa_Dec_slotOf_8 : pr_Dec_slotOf[8]? = some (12, 1, .iload_n 1, []) := rfl
theorem pa_Dec_slotOf_9 : pr_Dec_slotOf[9]? = some (13, 1, .iconst (-1), [1, 1]) := rfl
theorem pa_Dec_slotOf_10 : pr_Dec_slotOf[10]? = some (14, 3, .if_icmp .eq (24), [21]) := rfl
theorem pa_Dec_slotOf_11 : pr_Dec_slotOf[11]? = some (17, 1, .iload_n 2, []) := rfl
theorem pa_Dec_slotOf_12 : pr_Dec_slotOf[12]? = some (18, 1, .aload_n 0, []) := rfl
theorem pa_Dec_slotOf_13 : pr_Dec_slotOf[13]? = some (19, 3, .getfield 29, [5, 5, 0, 0, 187]) := rfl
theorem pa_Dec_slotOf_14 : pr_Dec_slotOf[14]? = some (22, 3, .invokestatic 95, [15, 1, 1, 2, 265, 40]) := rfl
theorem pa_Dec_slotOf_15 : pr_Dec_slotOf[15]? = some (25, 3, .if_icmp .ge (13), [21]) := rfl
theorem pa_Dec_slotOf_16 : pr_Dec_slotOf[16]? = some (28, 1, .iload_n 3, []) := rfl
theorem pa_Dec_slotOf_17 : pr_Dec_slotOf[17]? = some (29, 2, .bipush 16, [16, 0]) := rfl
theorem pa_Dec_slotOf_18 : pr_Dec_slotOf[18]? = some (31, 3, .if_icmp .ge (7), [21]) := rfl
theorem pa_Dec_slotOf_19 : pr_Dec_slotOf[19]? = some (34, 1, .iconst 1, [1, 0]) := rfl
theorem pa_Dec_slotOf_20 : pr_Dec_slotOf[20]? = some (35, 3, .goto (4), [22]) := rfl
theorem pa_Dec_slotOf_21 : pr_Dec_slotOf[21]? = some (38, 1, .iconst 0, [0, 0]) := rfl
theorem pa_Dec_slotOf_22 : pr_Dec_slotOf[22]? = some (39, 2, .istore 4, []) := rfl
theorem pa_Dec_slotOf_23 : pr_Dec_slotOf[23]? = some (41, 2, .iload 4, []) := rfl
theorem pa_Dec_slotOf_24 : pr_Dec_slotOf[24]? = some (43, 3, .ifCond .eq (12), [31]) := rfl
theorem pa_Dec_slotOf_25 : pr_Dec_slotOf[25]? = some (46, 1, .iload_n 2, []) := rfl
theorem pa_Dec_slotOf_26 : pr_Dec_slotOf[26]? = some (47, 2, .bipush 16, [16, 0]) := rfl
theorem pa_Dec_slotOf_27 : pr_Dec_slotOf[27]? = some (49, 1, .imul, []) := rfl
theorem pa_Dec_slotOf_28 : pr_Dec_slotOf[28]? = some (50, 1, .iload_n 3, []) := rfl
theorem pa_Dec_slotOf_29 : pr_Dec_slotOf[29]? = some (51, 1, .iadd, []) := rfl
theorem pa_Dec_slotOf_30 : pr_Dec_slotOf[30]? = some (52, 3, .goto (4), [32]) := rfl
theorem pa_Dec_slotOf_31 : pr_Dec_slotOf[31]? = some (55, 1, .iconst (-1), [1, 1]) := rfl
theorem pa_Dec_slotOf_32 : pr_Dec_slotOf[32]? = some (56, 1, .ireturn, [0]) := rfl
def pa_Dec_slotOf := And.intro pa_Dec_slotOf_0 (And.intro pa_Dec_slotOf_1 (And.intro pa_Dec_slotOf_2 (And.intro pa_Dec_slotOf_3 (And.intro pa_Dec_slotOf_4 (And.intro pa_Dec_slotOf_5 (And.intro pa_Dec_slotOf_6 (And.intro pa_Dec_slotOf_7 (And.intro pa_Dec_slotOf_8 (And.intro pa_Dec_slotOf_9 (And.intro pa_Dec_slotOf_10 (And.intro pa_Dec_slotOf_11 (And.intro pa_Dec_slotOf_12 (And.intro pa_Dec_slotOf_13 (And.intro pa_Dec_slotOf_14 (And.intro pa_Dec_slotOf_15 (And.intro pa_Dec_slotOf_16 (And.intro pa_Dec_slotOf_17 (And.intro pa_Dec_slotOf_18 (And.intro pa_Dec_slotOf_19 (And.intro pa_Dec_slotOf_20 (And.intro pa_Dec_slotOf_21 (And.intro pa_Dec_slotOf_22 (And.intro pa_Dec_slotOf_23 (And.intro pa_Dec_slotOf_24 (And.intro pa_Dec_slotOf_25 (And.intro pa_Dec_slotOf_26 (And.intro pa_Dec_slotOf_27 (And.intro pa_Dec_slotOf_28 (And.intro pa_Dec_slotOf_29 (And.intro pa_Dec_slotOf_30 (And.intro pa_Dec_slotOf_31 (pa_Dec_slotOf_32))))))))))))))))))))))))))))))))
def pr_Arc_appendCopies : List ma_E := [(0, 1, .iconst 0, [0, 0]),
  (1, 1, .istore_n 2, []),
  (2, 1, .iload_n 2, []),
  (3, 1, .iconst 3, [3, 0]),
  (4, 3, .if_icmp .ge (14), [10]),
  (7, 1, .aload_n 0, []),
  (8, 1, .iload_n 1, []),
  (9, 3, .invokevirtual 115, [1, 1, 0, 0, 366, 367, 368, 41]),
  (12, 3, .iinc 2 (1), [1, 0]),
  (15, 3, .goto (-13), [2]),
  (18, 1, .return_, [])]
theorem po_Arc_appendCopies : ma_ok me_Arc_appendCopies pr_Arc_appendCopies := ma_ok_of (by decide +kernel)
theorem pa_Arc_appendCopies_0 : pr_Arc_appendCopies[0]? = some (0, 1, .iconst 0, [0, 0]) := rfl
theorem pa_Arc_appendCopies_1 : pr_Arc_appendCopies[1]? = some (1, 1, .istore_n 2, []) := rfl
theorem pa_Arc_appendCopies_2 : pr_Arc_appendCopies[2]? = some (2, 1, .iload_n 2, []) := rfl
theorem pa_Arc_appendCopies_3 : pr_Arc_appendCopies[3]? = some (3, 1, .iconst 3, [3, 0]) := rfl
theorem pa_Arc_appendCopies_4 : pr_Arc_appendCopies[4]? = some (4, 3, .if_icmp .ge (14), [10]) := rfl
theorem pa_Arc_appendCopies_5 : pr_Arc_appendCopies[5]? = some (7, 1, .aload_n 0, []) := rfl
theorem pa_Arc_appendCopies_6 : pr_Arc_appendCopies[6]? = some (8, 1, .iload_n 1, []) := rfl
theorem pa_Arc_appendCopies_7 : pr_Arc_appendCopies[7]? = some (9, 3, .invokevirtual 115, [1, 1, 0, 0, 366, 367, 368, 41]) := rfl
theorem pa_Arc_appendCopies_8 : pr_Arc_appendCopies[8]? = some (12, 3, .iinc 2 (1), [1, 0]) := rfl
theorem pa_Arc_appendCopies_9 : pr_Arc_appendCopies[9]? = some (15, 3, .goto (-13), [2]) := rfl
theorem pa_Arc_appendCopies_10 : pr_Arc_appendCopies[10]? = some (18, 1, .return_, []) := rfl
def pa_Arc_appendCopies := And.intro pa_Arc_appendCopies_0 (And.intro pa_Arc_appendCopies_1 (And.intro pa_Arc_appendCopies_2 (And.intro pa_Arc_appendCopies_3 (And.intro pa_Arc_appendCopies_4 (And.intro pa_Arc_appendCopies_5 (And.intro pa_Arc_appendCopies_6 (And.intro pa_Arc_appendCopies_7 (And.intro pa_Arc_appendCopies_8 (And.intro pa_Arc_appendCopies_9 (pa_Arc_appendCopies_10))))))))))
def pr_Arc_forge : List ma_E := [(0, 1, .aload_n 0, []),
  (1, 3, .invokevirtual 89, [19, 0, 6, 0, 402, 404, 16, 40]),
  (4, 3, .ifCond .ne (15), [8]),
  (7, 2, .iload 5, []),
  (9, 3, .ifCond .lt (10), [8]),
  (12, 2, .iload 5, []),
  (14, 2, .bipush 60, [60, 0]),
  (16, 3, .if_icmp .le (5), [10]),
  (19, 1, .iconst 0, [0, 0]),
  (20, 1, .ireturn, [1]),
  (21, 1, .aload_n 0, []),
  (22, 3, .invokevirtual 93, [23, 0, 6, 0, 406, 408, 17, 40]),
  (25, 1, .lload_n 1, []),
  (26, 1, .lload_n 3, []),
  (27, 2, .iload 5, []),
  (29, 3, .invokevirtual 107, [3, 3, 0, 0, 362, 363, 364, 41]),
  (32, 1, .iconst 1, [1, 0]),
  (33, 1, .ireturn, [1])]
theorem po_Arc_forge : ma_ok me_Arc_forge pr_Arc_forge := ma_ok_of (by decide +kernel)
theorem pa_Arc_forge_0 : pr_Arc_forge[0]? = some (0, 1, .aload_n 0, []) := rfl
theorem pa_Arc_forge_1 : pr_Arc_forge[1]? = some (1, 3, .invokevirtual 89, [19, 0, 6, 0, 402, 404, 16, 40]) := rfl
theorem pa_Arc_forge_2 : pr_Arc_forge[2]? = some (4, 3, .ifCond .ne (15), [8]) := rfl
theorem pa_Arc_forge_3 : pr_Arc_forge[3]? = some (7, 2, .iload 5, []) := rfl
theorem pa_Arc_forge_4 : pr_Arc_forge[4]? = some (9, 3, .ifCond .lt (10), [8]) := rfl
theorem pa_Arc_forge_5 : pr_Arc_forge[5]? = some (12, 2, .iload 5, []) := rfl
theorem pa_Arc_forge_6 : pr_Arc_forge[6]? = some (14, 2, .bipush 60, [60, 0]) := rfl
theorem pa_Arc_forge_7 : pr_Arc_forge[7]? = some (16, 3, .if_icmp .le (5), [10]) := rfl
theorem pa_Arc_forge_8 : pr_Arc_forge[8]? = some (19, 1, .iconst 0, [0, 0]) := rfl
theorem pa_Arc_forge_9 : pr_Arc_forge[9]? = some (20, 1, .ireturn, [1]) := rfl
theorem pa_Arc_forge_10 : pr_Arc_forge[10]? = some (21, 1, .aload_n 0, []) := rfl
theorem pa_Arc_forge_11 : pr_Arc_forge[11]? = some (22, 3, .invokevirtual 93, [23, 0, 6, 0, 406, 408, 17, 40]) := rfl
theorem pa_Arc_forge_12 : pr_Arc_forge[12]? = some (25, 1, .lload_n 1, []) := rfl
theorem pa_Arc_forge_13 : pr_Arc_forge[13]? = some (26, 1, .lload_n 3, []) := rfl
theorem pa_Arc_forge_14 : pr_Arc_forge[14]? = some (27, 2, .iload 5, []) := rfl
theorem pa_Arc_forge_15 : pr_Arc_forge[15]? = some (29, 3, .invokevirtual 107, [3, 3, 0, 0, 362, 363, 364, 41]) := rfl
theorem pa_Arc_forge_16 : pr_Arc_forge[16]? = some (32, 1, .iconst 1, [1, 0]) := rfl
theorem pa_Arc_forge_17 : pr_Arc_forge[17]? = some (33, 1, .ireturn, [1]) := rfl
def pa_Arc_forge := And.intro pa_Arc_forge_0 (And.intro pa_Arc_forge_1 (And.intro pa_Arc_forge_2 (And.intro pa_Arc_forge_3 (And.intro pa_Arc_forge_4 (And.intro pa_Arc_forge_5 (And.intro pa_Arc_forge_6 (And.intro pa_Arc_forge_7 (And.intro pa_Arc_forge_8 (And.intro pa_Arc_forge_9 (And.intro pa_Arc_forge_10 (And.intro pa_Arc_forge_11 (And.intro pa_Arc_forge_12 (And.intro pa_Arc_forge_13 (And.intro pa_Arc_forge_14 (And.intro pa_Arc_forge_15 (And.intro pa_Arc_forge_16 (pa_Arc_forge_17)))))))))))))))))
def pr_Arc_letter : List ma_E := [(0, 1, .aload_n 0, []),
  (1, 1, .iload_n 1, []),
  (2, 3, .invokevirtual 81, [21, 1, 6, 0, 385, 387, 15, 40]),
  (5, 3, .ifCond .eq (13), [9]),
  (8, 1, .iload_n 2, []),
  (9, 3, .ifCond .lt (9), [9]),
  (12, 1, .iload_n 2, []),
  (13, 2, .bipush 45, [45, 0]),
  (15, 3, .if_icmp .lt (5), [11]),
  (18, 1, .iconst (-1), [1, 1]),
  (19, 1, .ireturn, [0]),
  (20, 1, .aload_n 0, []),
  (21, 3, .getfield 17, [6, 1, 2, 0, 223]),
  (24, 1, .iload_n 1, []),
  (25, 1, .aaload, []),
  (26, 1, .iload_n 2, []),
  (27, 3, .invokevirtual 84, [2, 1, 0, 0, 389, 390, 391, 41]),
  (30, 1, .ireturn, [0])]
theorem po_Arc_letter : ma_ok me_Arc_letter pr_Arc_letter := ma_ok_of (by decide +kernel)
theorem pa_Arc_letter_0 : pr_Arc_letter[0]? = some (0, 1, .aload_n 0, []) := rfl
theorem pa_Arc_letter_1 : pr_Arc_letter[1]? = some (1, 1, .iload_n 1, []) := rfl
theorem pa_Arc_letter_2 : pr_Arc_letter[2]? = some (2, 3, .invokevirtual 81, [21, 1, 6, 0, 385, 387, 15, 40]) := rfl
theorem pa_Arc_letter_3 : pr_Arc_letter[3]? = some (5, 3, .ifCond .eq (13), [9]) := rfl
theorem pa_Arc_letter_4 : pr_Arc_letter[4]? = some (8, 1, .iload_n 2, []) := rfl
theorem pa_Arc_letter_5 : pr_Arc_letter[5]? = some (9, 3, .ifCond .lt (9), [9]) := rfl
theorem pa_Arc_letter_6 : pr_Arc_letter[6]? = some (12, 1, .iload_n 2, []) := rfl
theorem pa_Arc_letter_7 : pr_Arc_letter[7]? = some (13, 2, .bipush 45, [45, 0]) := rfl
theorem pa_Arc_letter_8 : pr_Arc_letter[8]? = some (15, 3, .if_icmp .lt (5), [11]) := rfl
theorem pa_Arc_letter_9 : pr_Arc_letter[9]? = some (18, 1, .iconst (-1), [1, 1]) := rfl
theorem pa_Arc_letter_10 : pr_Arc_letter[10]? = some (19, 1, .ireturn, [0]) := rfl
theorem pa_Arc_letter_11 : pr_Arc_letter[11]? = some (20, 1, .aload_n 0, []) := rfl
theorem pa_Arc_letter_12 : pr_Arc_letter[12]? = some (21, 3, .getfield 17, [6, 1, 2, 0, 223]) := rfl
theorem pa_Arc_letter_13 : pr_Arc_letter[13]? = some (24, 1, .iload_n 1, []) := rfl
theorem pa_Arc_letter_14 : pr_Arc_letter[14]? = some (25, 1, .aaload, []) := rfl
theorem pa_Arc_letter_15 : pr_Arc_letter[15]? = some (26, 1, .iload_n 2, []) := rfl
theorem pa_Arc_letter_16 : pr_Arc_letter[16]? = some (27, 3, .invokevirtual 84, [2, 1, 0, 0, 389, 390, 391, 41]) := rfl
theorem pa_Arc_letter_17 : pr_Arc_letter[17]? = some (30, 1, .ireturn, [0]) := rfl
def pa_Arc_letter := And.intro pa_Arc_letter_0 (And.intro pa_Arc_letter_1 (And.intro pa_Arc_letter_2 (And.intro pa_Arc_letter_3 (And.intro pa_Arc_letter_4 (And.intro pa_Arc_letter_5 (And.intro pa_Arc_letter_6 (And.intro pa_Arc_letter_7 (And.intro pa_Arc_letter_8 (And.intro pa_Arc_letter_9 (And.intro pa_Arc_letter_10 (And.intro pa_Arc_letter_11 (And.intro pa_Arc_letter_12 (And.intro pa_Arc_letter_13 (And.intro pa_Arc_letter_14 (And.intro pa_Arc_letter_15 (And.intro pa_Arc_letter_16 (pa_Arc_letter_17)))))))))))))))))
def pr_Arc_product : List ma_E := [(0, 1, .aload_n 0, []),
  (1, 3, .getfield 34, [6, 5, 2, 0, 227]),
  (4, 1, .iload_n 1, []),
  (5, 3, .sipush 255, [255, 0]),
  (8, 1, .iand, []),
  (9, 1, .iload_n 2, []),
  (10, 3, .sipush 255, [255, 0]),
  (13, 1, .iand, []),
  (14, 3, .invokevirtual 151, [6, 2, 1, 0, 528, 292, 293, 42]),
  (17, 1, .ireturn, [0])]
theorem po_Arc_product : ma_ok me_Arc_product pr_Arc_product := ma_ok_of (by decide +kernel)
theorem pa_Arc_product_0 : pr_Arc_product[0]? = some (0, 1, .aload_n 0, []) := rfl
theorem pa_Arc_product_1 : pr_Arc_product[1]? = some (1, 3, .getfield 34, [6, 5, 2, 0, 227]) := rfl
theorem pa_Arc_product_2 : pr_Arc_product[2]? = some (4, 1, .iload_n 1, []) := rfl
theorem pa_Arc_product_3 : pr_Arc_product[3]? = some (5, 3, .sipush 255, [255, 0]) := rfl
theorem pa_Arc_product_4 : pr_Arc_product[4]? = some (8, 1, .iand, []) := rfl
theorem pa_Arc_product_5 : pr_Arc_product[5]? = some (9, 1, .iload_n 2, []) := rfl
theorem pa_Arc_product_6 : pr_Arc_product[6]? = some (10, 3, .sipush 255, [255, 0]) := rfl
theorem pa_Arc_product_7 : pr_Arc_product[7]? = some (13, 1, .iand, []) := rfl
theorem pa_Arc_product_8 : pr_Arc_product[8]? = some (14, 3, .invokevirtual 151, [6, 2, 1, 0, 528, 292, 293, 42]) := rfl
theorem pa_Arc_product_9 : pr_Arc_product[9]? = some (17, 1, .ireturn, [0]) := rfl
def pa_Arc_product := And.intro pa_Arc_product_0 (And.intro pa_Arc_product_1 (And.intro pa_Arc_product_2 (And.intro pa_Arc_product_3 (And.intro pa_Arc_product_4 (And.intro pa_Arc_product_5 (And.intro pa_Arc_product_6 (And.intro pa_Arc_product_7 (And.intro pa_Arc_product_8 (pa_Arc_product_9)))))))))
end
section
/-! the methods as tables -/
def pr_Arc_read : List ma_E := [(0, 1, .aload_n 0, []),
  (1, 1, .iload_n 1, []),
  (2, 3, .invokevirtual 81, [21, 1, 6, 0, 385, 387, 15, 40]),
  (5, 3, .ifCond .eq (10), [7]),
  (8, 1, .aload_n 0, []),
  (9, 3, .invokevirtual 89, [19, 0, 6, 0, 402, 404, 16, 40]),
  (12, 3, .ifCond .eq (5), [9]),
  (15, 1, .iconst 0, [0, 0]),
  (16, 1, .ireturn, [1]),
  (17, 1, .aload_n 0, []),
  (18, 3, .getfield 17, [6, 1, 2, 0, 223]),
  (21, 1, .iload_n 1, []),
  (22, 1, .aaload, []),
  (23, 1, .astore_n 2, []),
  (24, 1, .aload_n 0, []),
  (25, 3, .invokevirtual 93, [23, 0, 6, 0, 406, 408, 17, 40]),
  (28, 1, .aload_n 2, []),
  (29, 3, .getfield 97, [0, 0, 1, 1, 0]),
  (32, 1, .aload_n 2, []),
  (33, 3, .getfield 101, [0, 1, 1, 1, 1]),
  (36, 1, .aload_n 2, []),
  (37, 3, .getfield 104, [0, 2, 0, 1, 4]),
  (40, 3, .invokevirtual 107, [3, 3, 0, 0, 362, 363, 364, 41]),
  (43, 1, .iconst 1, [1, 0]),
  (44, 1, .ireturn, [1])]
theorem po_Arc_read : ma_ok me_Arc_read pr_Arc_read := ma_ok_of (by decide +kernel)
theorem pa_Arc_read_0 : pr_Arc_read[0]? = some (0, 1, .aload_n 0, []) := rfl
theorem pa_Arc_read_1 : pr_Arc_read[1]? = some (1, 1, .iload_n 1, []) := rfl
theorem pa_Arc_read_2 : pr_Arc_read[2]? = some (2, 3, .invokevirtual 81, [21, 1, 6, 0, 385, 387, 15, 40]) := rfl
theorem pa_Arc_read_3 : pr_Arc_read[3]? = some (5, 3, .ifCond .eq (10), [7]) := rfl
theorem pa_Arc_read_4 : pr_Arc_read[4]? = some (8, 1, .aload_n 0, []) := rfl
theorem pa_Arc_read_5 : pr_Arc_read[5]? = some (9, 3, .invokevirtual 89, [19, 0, 6, 0, 402, 404, 16, 40]) := rfl
theorem pa_Arc_read_6 : pr_Arc_read[6]? = some (12, 3, .ifCond .eq (5), [9]) := rfl
theorem pa_Arc_read_7 : pr_Arc_read[7]? = some (15, 1, .iconst 0, [0, 0]) := rfl
theorem pa_Arc_read_8 : pr_Arc_read[8]? = some (16, 1, .ireturn, [1]) := rfl
theorem pa_Arc_read_9 : pr_Arc_read[9]? = some (17, 1, .aload_n 0, []) := rfl
theorem pa_Arc_read_10 : pr_Arc_read[10]? = some (18, 3, .getfield 17, [6, 1, 2, 0, 223]) := rfl
theorem pa_Arc_read_11 : pr_Arc_read[11]? = some (21, 1, .iload_n 1, []) := rfl
theorem pa_Arc_read_12 : pr_Arc_read[12]? = some (22, 1, .aaload, []) := rfl
theorem pa_Arc_read_13 : pr_Arc_read[13]? = some (23, 1, .astore_n 2, []) := rfl
theorem pa_Arc_read_14 : pr_Arc_read[14]? = some (24, 1, .aload_n 0, []) := rfl
theorem pa_Arc_read_15 : pr_Arc_read[15]? = some (25, 3, .invokevirtual 93, [23, 0, 6, 0, 406, 408, 17, 40]) := rfl
theorem pa_Arc_read_16 : pr_Arc_read[16]? = some (28, 1, .aload_n 2, []) := rfl
theorem pa_Arc_read_17 : pr_Arc_read[17]? = some (29, 3, .getfield 97, [0, 0, 1, 1, 0]) := rfl
theorem pa_Arc_read_18 : pr_Arc_read[18]? = some (32, 1, .aload_n 2, []) := rfl
theorem pa_Arc_read_19 : pr_Arc_read[19]? = some (33, 3, .getfield 101, [0, 1, 1, 1, 1]) := rfl
theorem pa_Arc_read_20 : pr_Arc_read[20]? = some (36, 1, .aload_n 2, []) := rfl
theorem pa_Arc_read_21 : pr_Arc_read[21]? = some (37, 3, .getfield 104, [0, 2, 0, 1, 4]) := rfl
theorem pa_Arc_read_22 : pr_Arc_read[22]? = some (40, 3, .invokevirtual 107, [3, 3, 0, 0, 362, 363, 364, 41]) := rfl
theorem pa_Arc_read_23 : pr_Arc_read[23]? = some (43, 1, .iconst 1, [1, 0]) := rfl
theorem pa_Arc_read_24 : pr_Arc_read[24]? = some (44, 1, .ireturn, [1]) := rfl
def pa_Arc_read := And.intro pa_Arc_read_0 (And.intro pa_Arc_read_1 (And.intro pa_Arc_read_2 (And.intro pa_Arc_read_3 (And.intro pa_Arc_read_4 (And.intro pa_Arc_read_5 (And.intro pa_Arc_read_6 (And.intro pa_Arc_read_7 (And.intro pa_Arc_read_8 (And.intro pa_Arc_read_9 (And.intro pa_Arc_read_10 (And.intro pa_Arc_read_11 (And.intro pa_Arc_read_12 (And.intro pa_Arc_read_13 (And.intro pa_Arc_read_14 (And.intro pa_Arc_read_15 (And.intro pa_Arc_read_16 (And.intro pa_Arc_read_17 (And.intro pa_Arc_read_18 (And.intro pa_Arc_read_19 (And.intro pa_Arc_read_20 (And.intro pa_Arc_read_21 (And.intro pa_Arc_read_22 (And.intro pa_Arc_read_23 (pa_Arc_read_24))))))))))))))))))))))))
def pr_Mod_block : List ma_E := [(0, 1, .aload_n 0, []),
  (1, 1, .iload_n 1, []),
  (2, 3, .ifCond .lt (30), [18]),
  (5, 1, .iload_n 1, []),
  (6, 1, .aload_n 0, []),
  (7, 3, .getfield 121, [7, 7, 0, 0, 627]),
  (10, 2, .bipush 39, [39, 0]),
  (12, 1, .iadd, []),
  (13, 2, .bipush 40, [40, 0]),
  (15, 1, .idiv, []),
  (16, 3, .if_icmp .ge (16), [18]),
  (19, 1, .iload_n 2, []),
  (20, 1, .iconst 0, [0, 0]),
  (21, 1, .iconst 1, [1, 0]),
  (22, 3, .invokestatic 74, [29, 3, 0, 700, 701, 47]),
  (25, 3, .ifCond .eq (7), [18]),
  (28, 1, .iconst 0, [0, 0]),
  (29, 3, .goto (4), [19]),
  (32, 1, .iconst 1, [1, 0]),
  (33, 3, .putfield 66, [7, 0, 0, 0, 620]),
  (36, 1, .aload_n 0, []),
  (37, 3, .getfield 66, [7, 0, 0, 0, 620]),
  (40, 1, .iconst 1, [1, 0]),
  (41, 3, .if_icmp .ne (7), [26]),
  (44, 1, .iconst 0, [0, 0]),
  (45, 3, .goto (22), [37]),
  (48, 1, .iload_n 2, []),
  (49, 3, .ifCond .ne (12), [33]),
  (52, 1, .aload_n 0, []),
  (53, 3, .getfield 26, [7, 11, 2, 0, 631]),
  (56, 1, .iload_n 1, []),
  (57, 1, .iaload, []),
  (58, 3, .goto (9), [37]),
  (61, 1, .aload_n 0, []),
  (62, 3, .getfield 29, [7, 12, 2, 0, 632]),
  (65, 1, .iload_n 1, []),
  (66, 1, .iaload, []),
  (67, 1, .ireturn, [0])]
theorem po_Mod_block : ma_ok me_Mod_block pr_Mod_block := ma_ok_of (by decide +kernel)
theorem pa_Mod_block_0 : pr_Mod_block[0]? = some (0, 1, .aload_n 0, []) := rfl
theorem pa_Mod_block_1 : pr_Mod_block[1]? = some (1, 1, .iload_n 1, []) := rfl
theorem pa_Mod_block_2 : pr_Mod_block[2]? = some (2, 3, .ifCond .lt (30), [18]) := rfl
theorem pa_Mod_block_3 : pr_Mod_block[3]? = some (5, 1, .iload_n 1, []) := rfl
theorem pa_Mod_block_4 : pr_Mod_block[4]? = some (6, 1, .aload_n 0, []) := rfl
theorem pa_Mod_block_5 : pr_Mod_block[5]? = some (7, 3, .getfield 121, [7, 7, 0, 0, 627]) := rfl
theorem pa_Mod_block_6 : pr_Mod_block[6]? = some (10, 2, .bipush 39, [39, 0]) := rfl
theorem pa_Mod_block_7 : pr_Mod_block[7]? = some (12, 1, .iadd, []) := rfl
theorem pa_Mod_block_8 : pr_Mod_block[8]? = some (13, 2, .bipush 40, [40, 0]) := rfl
theorem pa_Mod_block_9 : pr_Mod_block[9]? = some (15, 1, .idiv, []) := rfl
theorem pa_Mod_block_10 : pr_Mod_block[10]? = some (16, 3, .if_icmp .ge (16), [18]) := rfl
theorem pa_Mod_block_11 : pr_Mod_block[11]? = some (19, 1, .iload_n 2, []) := rfl
theorem pa_Mod_block_12 : pr_Mod_block[12]? = some (20, 1, .iconst 0, [0, 0]) := rfl
theorem pa_Mod_block_13 : pr_Mod_block[13]? = some (21, 1, .iconst 1, [1, 0]) := rfl
theorem pa_Mod_block_14 : pr_Mod_block[14]? = some (22, 3, .invokestatic 74, [29, 3, 0, 700, 701, 47]) := rfl
theorem pa_Mod_block_15 : pr_Mod_block[15]? = some (25, 3, .ifCond .eq (7), [18]) := rfl
theorem pa_Mod_block_16 : pr_Mod_block[16]? = some (28, 1, .iconst 0, [0, 0]) := rfl
theorem pa_Mod_block_17 : pr_Mod_block[17]? = some (29, 3, .goto (4), [19]) := rfl
theorem pa_Mod_block_18 : pr_Mod_block[18]? = some (32, 1, .iconst 1, [1, 0]) := rfl
theorem pa_Mod_block_19 : pr_Mod_block[19]? = some (33, 3, .putfield 66, [7, 0, 0, 0, 620]) := rfl
theorem pa_Mod_block_20 : pr_Mod_block[20]? = some (36, 1, .aload_n 0, []) := rfl
theorem pa_Mod_block_21 : pr_Mod_block[21]? = some (37, 3, .getfield 66, [7, 0, 0, 0, 620]) := rfl
theorem pa_Mod_block_22 : pr_Mod_block[22]? = some (40, 1, .iconst 1, [1, 0]) := rfl
theorem pa_Mod_block_23 : pr_Mod_block[23]? = some (41, 3, .if_icmp .ne (7), [26]) := rfl
theorem pa_Mod_block_24 : pr_Mod_block[24]? = some (44, 1, .iconst 0, [0, 0]) := rfl
theorem pa_Mod_block_25 : pr_Mod_block[25]? = some (45, 3, .goto (22), [37]) := rfl
theorem pa_Mod_block_26 : pr_Mod_block[26]? = some (48, 1, .iload_n 2, []) := rfl
theorem pa_Mod_block_27 : pr_Mod_block[27]? = some (49, 3, .ifCond .ne (12), [33]) := rfl
theorem pa_Mod_block_28 : pr_Mod_block[28]? = some (52, 1, .aload_n 0, []) := rfl
theorem pa_Mod_block_29 : pr_Mod_block[29]? = some (53, 3, .getfield 26, [7, 11, 2, 0, 631]) := rfl
theorem pa_Mod_block_30 : pr_Mod_block[30]? = some (56, 1, .iload_n 1, []) := rfl
theorem pa_Mod_block_31 : pr_Mod_block[31]? = some (57, 1, .iaload, []) := rfl
theorem pa_Mod_block_32 : pr_Mod_block[32]? = some (58, 3, .goto (9), [37]) := rfl
theorem pa_Mod_block_33 : pr_Mod_block[33]? = some (61, 1, .aload_n 0, []) := rfl
theorem pa_Mod_block_34 : pr_Mod_block[34]? = some (62, 3, .getfield 29, [7, 12, 2, 0, 632]) := rfl
theorem pa_Mod_block_35 : pr_Mod_block[35]? = some (65, 1, .iload_n 1, []) := rfl
theorem pa_Mod_block_36 : pr_Mod_block[36]? = some (66, 1, .iaload, []) := rfl
theorem pa_Mod_block_37 : pr_Mod_block[37]? = some (67, 1, .ireturn, [0]) := rfl
def pa_Mod_block := And.intro pa_Mod_block_0 (And.intro pa_Mod_block_1 (And.intro pa_Mod_block_2 (And.intro pa_Mod_block_3 (And.intro pa_Mod_block_4 (And.intro pa_Mod_block_5 (And.intro pa_Mod_block_6 (And.intro pa_Mod_block_7 (And.intro pa_Mod_block_8 (And.intro pa_Mod_block_9 (And.intro pa_Mod_block_10 (And.intro pa_Mod_block_11 (And.intro pa_Mod_block_12 (And.intro pa_Mod_block_13 (And.intro pa_Mod_block_14 (And.intro pa_Mod_block_15 (And.intro pa_Mod_block_16 (And.intro pa_Mod_block_17 (And.intro pa_Mod_block_18 (And.intro pa_Mod_block_19 (And.intro pa_Mod_block_20 (And.intro pa_Mod_block_21 (And.intro pa_Mod_block_22 (And.intro pa_Mod_block_23 (And.intro pa_Mod_block_24 (And.intro pa_Mod_block_25 (And.intro pa_Mod_block_26 (And.intro pa_Mod_block_27 (And.intro pa_Mod_block_28 (And.intro pa_Mod_block_29 (And.intro pa_Mod_block_30 (And.intro pa_Mod_block_31 (And.intro pa_Mod_block_32 (And.intro pa_Mod_block_33 (And.intro pa_Mod_block_34 (And.intro pa_Mod_block_35 (And.intro pa_Mod_block_36 (pa_Mod_block_37)))))))))))))))))))))))))))))))))))))
def pr_Mod_come : List ma_E := [(0, 1, .iload_n 1, []),
  (1, 1, .iconst 0, [0, 0]),
  (2, 1, .aload_n 0, []),
  (3, 3, .getfield 94, [7, 2, 0, 0, 622]),
  (6, 1, .iconst 1, [1, 0]),
  (7, 1, .isub, []),
  (8, 3, .invokestatic 74, [29, 3, 0, 700, 701, 47]),
  (11, 3, .ifCond .eq (12), [12]),
  (14, 1, .aload_n 0, []),
  (15, 3, .getfield 97, [7, 4, 0, 0, 624]),
  (18, 2, .bipush 90, [90, 0]),
  (20, 3, .if_icmp .ne (5), [14]),
  (23, 1, .iconst 0, [0, 0]),
  (24, 1, .ireturn, [1]),
  (25, 1, .iconst 0, [0, 0]),
  (26, 2, .istore 5, []),
  (28, 1, .iconst 0, [0, 0]),
  (29, 2, .istore 6, []),
  (31, 2, .iload 6, []),
  (33, 2, .bipush 45, [45, 0]),
  (35, 3, .if_icmp .ge (75), [60]),
  (38, 2, .iload 6, []),
  (40, 1, .iload_n 3, []),
  (41, 3, .if_icmp .ne (24), [36]),
  (44, 1, .aload_n 0, []),
  (45, 3, .getfield 17, [7, 5, 2, 0, 625]),
  (48, 2, .bipush 60, [60, 0]),
  (50, 1, .aload_n 0, []),
  (51, 3, .getfield 97, [7, 4, 0, 0, 624]),
  (54, 1, .imul, []),
  (55, 2, .iload 5, []),
  (57, 1, .iadd, []),
  (58, 2, .iload 4, []),
  (60, 1, .i2b, []),
  (61, 1, .bastore, [0]),
  (62, 3, .iinc 5 (1), [1, 0]),
  (65, 2, .iload 6, []),
  (67, 1, .iload_n 2, []),
  (68, 3, .if_icmp .ne (6), [40]),
  (71, 3, .goto (33), [58]),
  (74, 1, .aload_n 0, []),
  (75, 3, .getfield 17, [7, 5, 2, 0, 625]),
  (78, 2, .bipush 60, [60, 0]),
  (80, 1, .aload_n 0, []),
  (81, 3, .getfield 97, [7, 4, 0, 0, 624]),
  (84, 1, .imul, []),
  (85, 2, .iload 5, []),
  (87, 1, .iadd, []),
  (88, 1, .aload_n 0, []),
  (89, 3, .getfield 13, [7, 3, 2, 0, 623]),
  (92, 2, .bipush 45, [45, 0]),
  (94, 1, .iload_n 1, []),
  (95, 1, .imul, []),
  (96, 2, .iload 6, []),
  (98, 1, .iadd, []),
  (99, 1, .baload, [0]),
  (100, 1, .bastore, [0]),
  (101, 3, .iinc 5 (1), [1, 0]),
  (104, 3, .iinc 6 (1), [1, 0]),
  (107, 3, .goto (-76), [18]),
  (110, 1, .aload_n 0, []),
  (111, 3, .getfield 20, [7, 6, 2, 0, 626]),
  (114, 1, .aload_n 0, []),
  (115, 3, .getfield 97, [7, 4, 0, 0, 624]),
  (118, 2, .iload 5, []),
  (120, 1, .iastore, []),
  (121, 1, .aload_n 0, []),
  (122, 1, .dup, []),
  (123, 3, .getfield 97, [7, 4, 0, 0, 624]),
  (126, 1, .iconst 1, [1, 0]),
  (127, 1, .iadd, []),
  (128, 3, .putfield 97, [7, 4, 0, 0, 624]),
  (131, 1, .iconst 1, [1, 0]),
  (132, 1, .ireturn, [1])]
theorem po_Mod_come : ma_ok me_Mod_come pr_Mod_come := ma_ok_of (by decide +kernel)
theorem pa_Mod_come_0 : pr_Mod_come[0]? = some (0, 1, .iload_n 1, []) := rfl
theorem pa_Mod_come_1 : pr_Mod_come[1]? = some (1, 1, .iconst 0, [0, 0]) := rfl
theorem pa_Mod_come_2 : pr_Mod_come[2]? = some (2, 1, .aload_n 0, []) := rfl
theorem pa_Mod_come_3 : pr_Mod_come[3]? = some (3, 3, .getfield 94, [7, 2, 0, 0, 622]) := rfl
theorem pa_Mod_come_4 : pr_Mod_come[4]? = some (6, 1, .iconst 1, [1, 0]) := rfl
theorem pa_Mod_come_5 : pr_Mod_come[5]? = some (7, 1, .isub, []) := rfl
theorem pa_Mod_come_6 : pr_Mod_come[6]? = some (8, 3, .invokestatic 74, [29, 3, 0, 700, 701, 47]) := rfl
theorem pa_Mod_come_7 : pr_Mod_come[7]? = some (11, 3, .ifCond .eq (12), [12]) := rfl
theorem pa_Mod_come_8 : pr_Mod_come[8]? = some (14, 1, .aload_n 0, []) := rfl
theorem pa_Mod_come_9 : pr_Mod_come[9]? = some (15, 3, .getfield 97, [7, 4, 0, 0, 624]) := rfl
theorem pa_Mod_come_10 : pr_Mod_come[10]? = some (18, 2, .bipush 90, [90, 0]) := rfl
theorem pa_Mod_come_11 : pr_Mod_come[11]? = some (20, 3, .if_icmp .ne (5), [14]) := rfl
theorem pa_Mod_come_12 : pr_Mod_come[12]? = some (23, 1, .iconst 0, [0, 0]) := rfl
theorem pa_Mod_come_13 : pr_Mod_come[13]? = some (24, 1, .ireturn, [1]) := rfl
theorem pa_Mod_come_14 : pr_Mod_come[14]? = some (25, 1, .iconst 0, [0, 0]) := rfl
theorem pa_Mod_come_15 : pr_Mod_come[15]? = some (26, 2, .istore 5, []) := rfl
theorem pa_Mod_come_16 : pr_Mod_come[16]? = some (28, 1, .iconst 0, [0, 0]) := rfl
theorem pa_Mod_come_17 : pr_Mod_come[17]? = some (29, 2, .istore 6, []) := rfl
theorem pa_Mod_come_18 : pr_Mod_come[18]? = some (31, 2, .iload 6, []) := rfl
theorem pa_Mod_come_19 : pr_Mod_come[19]? = some (33, 2, .bipush 45, [45, 0]) := rfl
theorem pa_Mod_come_20 : pr_Mod_come[20]? = some (35, 3, .if_icmp .ge (75), [60]) := rfl
theorem pa_Mod_come_21 : pr_Mod_come[21]? = some (38, 2, .iload 6, []) := rfl
theorem pa_Mod_come_22 : pr_Mod_come[22]? = some (40, 1, .iload_n 3, []) := rfl
theorem pa_Mod_come_23 : pr_Mod_come[23]? = some (41, 3, .if_icmp .ne (24), [36]) := rfl
theorem pa_Mod_come_24 : pr_Mod_come[24]? = some (44, 1, .aload_n 0, []) := rfl
theorem pa_Mod_come_25 : pr_Mod_come[25]? = some (45, 3, .getfield 17, [7, 5, 2, 0, 625]) := rfl
theorem pa_Mod_come_26 : pr_Mod_come[26]? = some (48, 2, .bipush 60, [60, 0]) := rfl
theorem pa_Mod_come_27 : pr_Mod_come[27]? = some (50, 1, .aload_n 0, []) := rfl
theorem pa_Mod_come_28 : pr_Mod_come[28]? = some (51, 3, .getfield 97, [7, 4, 0, 0, 624]) := rfl
theorem pa_Mod_come_29 : pr_Mod_come[29]? = some (54, 1, .imul, []) := rfl
theorem pa_Mod_come_30 : pr_Mod_come[30]? = some (55, 2, .iload 5, []) := rfl
theorem pa_Mod_come_31 : pr_Mod_come[31]? = some (57, 1, .iadd, []) := rfl
theorem pa_Mod_come_32 : pr_Mod_come[32]? = some (58, 2, .iload 4, []) := rfl
theorem pa_Mod_come_33 : pr_Mod_come[33]? = some (60, 1, .i2b, []) := rfl
theorem pa_Mod_come_34 : pr_Mod_come[34]? = some (61, 1, .bastore, [0]) := rfl
theorem pa_Mod_come_35 : pr_Mod_come[35]? = some (62, 3, .iinc 5 (1), [1, 0]) := rfl
theorem pa_Mod_come_36 : pr_Mod_come[36]? = some (65, 2, .iload 6, []) := rfl
theorem pa_Mod_come_37 : pr_Mod_come[37]? = some (67, 1, .iload_n 2, []) := rfl
theorem pa_Mod_come_38 : pr_Mod_come[38]? = some (68, 3, .if_icmp .ne (6), [40]) := rfl
theorem pa_Mod_come_39 : pr_Mod_come[39]? = some (71, 3, .goto (33), [58]) := rfl
theorem pa_Mod_come_40 : pr_Mod_come[40]? = some (74, 1, .aload_n 0, []) := rfl
theorem pa_Mod_come_41 : pr_Mod_come[41]? = some (75, 3, .getfield 17, [7, 5, 2, 0, 625]) := rfl
theorem pa_Mod_come_42 : pr_Mod_come[42]? = some (78, 2, .bipush 60, [60, 0]) := rfl
theorem pa_Mod_come_43 : pr_Mod_come[43]? = some (80, 1, .aload_n 0, []) := rfl
theorem pa_Mod_come_44 : pr_Mod_come[44]? = some (81, 3, .getfield 97, [7, 4, 0, 0, 624]) := rfl
theorem pa_Mod_come_45 : pr_Mod_come[45]? = some (84, 1, .imul, []) := rfl
theorem pa_Mod_come_46 : pr_Mod_come[46]? = some (85, 2, .iload 5, []) := rfl
theorem pa_Mod_come_47 : pr_Mod_come[47]? = some (87, 1, .iadd, []) := rfl
theorem pa_Mod_come_48 : pr_Mod_come[48]? = some (88, 1, .aload_n 0, []) := rfl
theorem pa_Mod_come_49 : pr_Mod_come[49]? = some (89, 3, .getfield 13, [7, 3, 2, 0, 623]) := rfl
theorem pa_Mod_come_50 : pr_Mod_come[50]? = some (92, 2, .bipush 45, [45, 0]) := rfl
theorem pa_Mod_come_51 : pr_Mod_come[51]? = some (94, 1, .iload_n 1, []) := rfl
theorem pa_Mod_come_52 : pr_Mod_come[52]? = some (95, 1, .imul, []) := rfl
theorem pa_Mod_come_53 : pr_Mod_come[53]? = some (96, 2, .iload 6, []) := rfl
theorem pa_Mod_come_54 : pr_Mod_come[54]? = some (98, 1, .iadd, []) := rfl
theorem pa_Mod_come_55 : pr_Mod_come[55]? = some (99, 1, .baload, [0]) := rfl
theorem pa_Mod_come_56 : pr_Mod_come[56]? = some (100, 1, .bastore, [0]) := rfl
theorem pa_Mod_come_57 : pr_Mod_come[57]? = some (101, 3, .iinc 5 (1), [1, 0]) := rfl
theorem pa_Mod_come_58 : pr_Mod_come[58]? = some (104, 3, .iinc 6 (1), [1, 0]) := rfl
theorem pa_Mod_come_59 : pr_Mod_come[59]? = some (107, 3, .goto (-76), [18]) := rfl
theorem pa_Mod_come_60 : pr_Mod_come[60]? = some (110, 1, .aload_n 0, []) := rfl
theorem pa_Mod_come_61 : pr_Mod_come[61]? = some (111, 3, .getfield 20, [7, 6, 2, 0, 626]) := rfl
theorem pa_Mod_come_62 : pr_Mod_come[62]? = some (114, 1, .aload_n 0, []) := rfl
theorem pa_Mod_come_63 : pr_Mod_come[63]? = some (115, 3, .getfield 97, [7, 4, 0, 0, 624]) := rfl
theorem pa_Mod_come_64 : pr_Mod_come[64]? = some (118, 2, .iload 5, []) := rfl
theorem pa_Mod_come_65 : pr_Mod_come[65]? = some (120, 1, .iastore, []) := rfl
theorem pa_Mod_come_66 : pr_Mod_come[66]? = some (121, 1, .aload_n 0, []) := rfl
theorem pa_Mod_come_67 : pr_Mod_come[67]? = some (122, 1, .dup, []) := rfl
theorem pa_Mod_come_68 : pr_Mod_come[68]? = some (123, 3, .getfield 97, [7, 4, 0, 0, 624]) := rfl
theorem pa_Mod_come_69 : pr_Mod_come[69]? = some (126, 1, .iconst 1, [1, 0]) := rfl
theorem pa_Mod_come_70 : pr_Mod_come[70]? = some (127, 1, .iadd, []) := rfl
theorem pa_Mod_come_71 : pr_Mod_come[71]? = some (128, 3, .putfield 97, [7, 4, 0, 0, 624]) := rfl
theorem pa_Mod_come_72 : pr_Mod_come[72]? = some (131, 1, .iconst 1, [1, 0]) := rfl
theorem pa_Mod_come_73 : pr_Mod_come[73]? = some (132, 1, .ireturn, [1]) := rfl
def pa_Mod_come := And.intro pa_Mod_come_0 (And.intro pa_Mod_come_1 (And.intro pa_Mod_come_2 (And.intro pa_Mod_come_3 (And.intro pa_Mod_come_4 (And.intro pa_Mod_come_5 (And.intro pa_Mod_come_6 (And.intro pa_Mod_come_7 (And.intro pa_Mod_come_8 (And.intro pa_Mod_come_9 (And.intro pa_Mod_come_10 (And.intro pa_Mod_come_11 (And.intro pa_Mod_come_12 (And.intro pa_Mod_come_13 (And.intro pa_Mod_come_14 (And.intro pa_Mod_come_15 (And.intro pa_Mod_come_16 (And.intro pa_Mod_come_17 (And.intro pa_Mod_come_18 (And.intro pa_Mod_come_19 (And.intro pa_Mod_come_20 (And.intro pa_Mod_come_21 (And.intro pa_Mod_come_22 (And.intro pa_Mod_come_23 (And.intro pa_Mod_come_24 (And.intro pa_Mod_come_25 (And.intro pa_Mod_come_26 (And.intro pa_Mod_come_27 (And.intro pa_Mod_come_28 (And.intro pa_Mod_come_29 (And.intro pa_Mod_come_30 (And.intro pa_Mod_come_31 (And.intro pa_Mod_come_32 (And.intro pa_Mod_come_33 (And.intro pa_Mod_come_34 (And.intro pa_Mod_come_35 (And.intro pa_Mod_come_36 (And.intro pa_Mod_come_37 (And.intro pa_Mod_come_38 (And.intro pa_Mod_come_39 (And.intro pa_Mod_come_40 (And.intro pa_Mod_come_41 (And.intro pa_Mod_come_42 (And.intro pa_Mod_come_43 (And.intro pa_Mod_come_44 (And.intro pa_Mod_come_45 (And.intro pa_Mod_come_46 (And.intro pa_Mod_come_47 (And.intro pa_Mod_come_48 (And.intro pa_Mod_come_49 (And.intro pa_Mod_come_50 (And.intro pa_Mod_come_51 (And.intro pa_Mod_come_52 (And.intro pa_Mod_come_53 (And.intro pa_Mod_come_54 (And.intro pa_Mod_come_55 (And.intro pa_Mod_come_56 (And.intro pa_Mod_come_57 (And.intro pa_Mod_come_58 (And.intro pa_Mod_come_59 (And.intro pa_Mod_come_60 (And.intro pa_Mod_come_61 (And.intro pa_Mod_come_62 (And.intro pa_Mod_come_63 (And.intro pa_Mod_come_64 (And.intro pa_Mod_come_65 (And.intro pa_Mod_come_66 (And.intro pa_Mod_come_67 (And.intro pa_Mod_come_68 (And.intro pa_Mod_come_69 (And.intro pa_Mod_come_70 (And.intro pa_Mod_come_71 (And.intro pa_Mod_come_72 (pa_Mod_come_73)))))))))))))))))))))))))))))))))))))))))))))))))))))))))))))))))))))))))
def pr_Mod_forge : List ma_E := [(0, 1, .aload_n 0, []),
  (1, 1, .iconst 0, [0, 0]),
  (2, 3, .putfield 66, [7, 0, 0, 0, 620]),
  (5, 2, .iload 5, []),
  (7, 1, .iconst 0, [0, 0]),
  (8, 2, .bipush 60, [60, 0]),
  (10, 3, .invokestatic 74, [29, 3, 0, 700, 701, 47]),
  (13, 3, .ifCond .eq (12), [12]),
  (16, 1, .aload_n 0, []),
  (17, 3, .getfield 97, [7, 4, 0, 0, 624]),
  (20, 2, .bipush 90, [90, 0]),
  (22, 3, .if_icmp .ne (5), [14]),
  (25, 1, .iconst 0, [0, 0]),
  (26, 1, .ireturn, [1]),
  (27, 1, .iconst 0, [0, 0]),
  (28, 2, .istore 6, []),
  (30, 2, .iload 6, []),
  (32, 2, .iload 5, []),
  (34, 3, .if_icmp .ge (59), [52]),
  (37, 1, .aload_n 0, []),
  (38, 3, .getfield 17, [7, 5, 2, 0, 625]),
  (41, 2, .bipush 60, [60, 0]),
  (43, 1, .aload_n 0, []),
  (44, 3, .getfield 97, [7, 4, 0, 0, 624]),
  (47, 1, .imul, []),
  (48, 2, .iload 6, []),
  (50, 1, .iadd, []),
  (51, 2, .iload 6, []),
  (53, 2, .bipush 32, [32, 0]),
  (55, 3, .if_icmp .ge (16), [38]),
  (58, 1, .lload_n 1, []),
  (59, 1, .iconst 2, [2, 0]),
  (60, 2, .iload 6, []),
  (62, 1, .imul, []),
  (63, 1, .lushr, []),
  (64, 3, .ldc2_w 104, [3, 0, 752]),
  (67, 1, .land, []),
  (68, 3, .goto (16), [47]),
  (71, 1, .lload_n 3, []),
  (72, 1, .iconst 2, [2, 0]),
  (73, 2, .iload 6, []),
  (75, 2, .bipush 32, [32, 0]),
  (77, 1, .isub, []),
  (78, 1, .imul, []),
  (79, 1, .lushr, []),
  (80, 3, .ldc2_w 104, [3, 0, 752]),
  (83, 1, .land, []),
  (84, 1, .l2i, []),
  (85, 1, .i2b, []),
  (86, 1, .bastore, [0]),
  (87, 3, .iinc 6 (1), [1, 0]),
  (90, 3, .goto (-60), [16]),
  (93, 1, .aload_n 0, []),
  (94, 3, .getfield 20, [7, 6, 2, 0, 626]),
  (97, 1, .aload_n 0, []),
  (98, 3, .getfield 97, [7, 4, 0, 0, 624]),
  (101, 2, .iload 5, []),
  (103, 1, .iastore, []),
  (104, 1, .aload_n 0, []),
  (105, 1, .dup, []),
  (106, 3, .getfield 97, [7, 4, 0, 0, 624]),
  (109, 1, .iconst 1, [1, 0]),
  (110, 1, .iadd, []),
  (111, 3, .putfield 97, [7, 4, 0, 0, 624]),
  (114, 1, .iconst 1, [1, 0]),
  (115, 1, .ireturn, [1])]
theorem po_Mod_forge : ma_ok me_Mod_forge pr_Mod_forge := ma_ok_of (by decide +kernel)
theorem pa_Mod_forge_0 : pr_Mod_forge[0]? = some (0, 1, .aload_n 0, []) := rfl
theorem pa_Mod_forge_1 : pr_Mod_forge[1]? = some (1, 1, .iconst 0, [0, 0]) := rfl
theorem pa_Mod_forge_2 : pr_Mod_forge[2]? = some (2, 3, .putfield 66, [7, 0, 0, 0, 620]) := rfl
theorem pa_Mod_forge_3 : pr_Mod_forge[3]? = some (5, 2, .iload 5, []) := rfl
theorem pa_Mod_forge_4 : pr_Mod_forge[4]? = some (7, 1, .iconst 0, [0, 0]) := rfl
theorem pa_Mod_forge_5 : pr_Mod_forge[5]? = some (8, 2, .bipush 60, [60, 0]) := rfl
theorem pa_Mod_forge_6 : pr_Mod_forge[6]? = some (10, 3, .invokestatic 74, [29, 3, 0, 700, 701, 47]) := rfl
theorem pa_Mod_forge_7 : pr_Mod_forge[7]? = some (13, 3, .ifCond .eq (12), [12]) := rfl
theorem pa_Mod_forge_8 : pr_Mod_forge[8]? = some (16, 1, .aload_n 0, []) := rfl
theorem pa_Mod_forge_9 : pr_Mod_forge[9]? = some (17, 3, .getfield 97, [7, 4, 0, 0, 624]) := rfl
theorem pa_Mod_forge_10 : pr_Mod_forge[10]? = some (20, 2, .bipush 90, [90, 0]) := rfl
theorem pa_Mod_forge_11 : pr_Mod_forge[11]? = some (22, 3, .if_icmp .ne (5), [14]) := rfl
theorem pa_Mod_forge_12 : pr_Mod_forge[12]? = some (25, 1, .iconst 0, [0, 0]) := rfl
theorem pa_Mod_forge_13 : pr_Mod_forge[13]? = some (26, 1, .ireturn, [1]) := rfl
theorem pa_Mod_forge_14 : pr_Mod_forge[14]? = some (27, 1, .iconst 0, [0, 0]) := rfl
theorem pa_Mod_forge_15 : pr_Mod_forge[15]? = some (28, 2, .istore 6, []) := rfl
theorem pa_Mod_forge_16 : pr_Mod_forge[16]? = some (30, 2, .iload 6, []) := rfl
theorem pa_Mod_forge_17 : pr_Mod_forge[17]? = some (32, 2, .iload 5, []) := rfl
theorem pa_Mod_forge_18 : pr_Mod_forge[18]? = some (34, 3, .if_icmp .ge (59), [52]) := rfl
theorem pa_Mod_forge_19 : pr_Mod_forge[19]? = some (37, 1, .aload_n 0, []) := rfl
theorem pa_Mod_forge_20 : pr_Mod_forge[20]? = some (38, 3, .getfield 17, [7, 5, 2, 0, 625]) := rfl
theorem pa_Mod_forge_21 : pr_Mod_forge[21]? = some (41, 2, .bipush 60, [60, 0]) := rfl
theorem pa_Mod_forge_22 : pr_Mod_forge[22]? = some (43, 1, .aload_n 0, []) := rfl
theorem pa_Mod_forge_23 : pr_Mod_forge[23]? = some (44, 3, .getfield 97, [7, 4, 0, 0, 624]) := rfl
theorem pa_Mod_forge_24 : pr_Mod_forge[24]? = some (47, 1, .imul, []) := rfl
theorem pa_Mod_forge_25 : pr_Mod_forge[25]? = some (48, 2, .iload 6, []) := rfl
theorem pa_Mod_forge_26 : pr_Mod_forge[26]? = some (50, 1, .iadd, []) := rfl
theorem pa_Mod_forge_27 : pr_Mod_forge[27]? = some (51, 2, .iload 6, []) := rfl
theorem pa_Mod_forge_28 : pr_Mod_forge[28]? = some (53, 2, .bipush 32, [32, 0]) := rfl
theorem pa_Mod_forge_29 : pr_Mod_forge[29]? = some (55, 3, .if_icmp .ge (16), [38]) := rfl
theorem pa_Mod_forge_30 : pr_Mod_forge[30]? = some (58, 1, .lload_n 1, []) := rfl
theorem pa_Mod_forge_31 : pr_Mod_forge[31]? = some (59, 1, .iconst 2, [2, 0]) := rfl
theorem pa_Mod_forge_32 : pr_Mod_forge[32]? = some (60, 2, .iload 6, []) := rfl
theorem pa_Mod_forge_33 : pr_Mod_forge[33]? = some (62, 1, .imul, []) := rfl
theorem pa_Mod_forge_34 : pr_Mod_forge[34]? = some (63, 1, .lushr, []) := rfl
theorem pa_Mod_forge_35 : pr_Mod_forge[35]? = some (64, 3, .ldc2_w 104, [3, 0, 752]) := rfl
theorem pa_Mod_forge_36 : pr_Mod_forge[36]? = some (67, 1, .land, []) := rfl
theorem pa_Mod_forge_37 : pr_Mod_forge[37]? = some (68, 3, .goto (16), [47]) := rfl
theorem pa_Mod_forge_38 : pr_Mod_forge[38]? = some (71, 1, .lload_n 3, []) := rfl
theorem pa_Mod_forge_39 : pr_Mod_forge[39]? = some (72, 1, .iconst 2, [2, 0]) := rfl
theorem pa_Mod_forge_40 : pr_Mod_forge[40]? = some (73, 2, .iload 6, []) := rfl
theorem pa_Mod_forge_41 : pr_Mod_forge[41]? = some (75, 2, .bipush 32, [32, 0]) := rfl
theorem pa_Mod_forge_42 : pr_Mod_forge[42]? = some (77, 1, .isub, []) := rfl
theorem pa_Mod_forge_43 : pr_Mod_forge[43]? = some (78, 1, .imul, []) := rfl
theorem pa_Mod_forge_44 : pr_Mod_forge[44]? = some (79, 1, .lushr, []) := rfl
theorem pa_Mod_forge_45 : pr_Mod_forge[45]? = some (80, 3, .ldc2_w 104, [3, 0, 752]) := rfl
theorem pa_Mod_forge_46 : pr_Mod_forge[46]? = some (83, 1, .land, []) := rfl
theorem pa_Mod_forge_47 : pr_Mod_forge[47]? = some (84, 1, .l2i, []) := rfl
theorem pa_Mod_forge_48 : pr_Mod_forge[48]? = some (85, 1, .i2b, []) := rfl
theorem pa_Mod_forge_49 : pr_Mod_forge[49]? = some (86, 1, .bastore, [0]) := rfl
theorem pa_Mod_forge_50 : pr_Mod_forge[50]? = some (87, 3, .iinc 6 (1), [1, 0]) := rfl
theorem pa_Mod_forge_51 : pr_Mod_forge[51]? = some (90, 3, .goto (-60), [16]) := rfl
theorem pa_Mod_forge_52 : pr_Mod_forge[52]? = some (93, 1, .aload_n 0, []) := rfl
theorem pa_Mod_forge_53 : pr_Mod_forge[53]? = some (94, 3, .getfield 20, [7, 6, 2, 0, 626]) := rfl
theorem pa_Mod_forge_54 : pr_Mod_forge[54]? = some (97, 1, .aload_n 0, []) := rfl
theorem pa_Mod_forge_55 : pr_Mod_forge[55]? = some (98, 3, .getfield 97, [7, 4, 0, 0, 624]) := rfl
theorem pa_Mod_forge_56 : pr_Mod_forge[56]? = some (101, 2, .iload 5, []) := rfl
theorem pa_Mod_forge_57 : pr_Mod_forge[57]? = some (103, 1, .iastore, []) := rfl
theorem pa_Mod_forge_58 : pr_Mod_forge[58]? = some (104, 1, .aload_n 0, []) := rfl
theorem pa_Mod_forge_59 : pr_Mod_forge[59]? = some (105, 1, .dup, []) := rfl
theorem pa_Mod_forge_60 : pr_Mod_forge[60]? = some (106, 3, .getfield 97, [7, 4, 0, 0, 624]) := rfl
theorem pa_Mod_forge_61 : pr_Mod_forge[61]? = some (109, 1, .iconst 1, [1, 0]) := rfl
theorem pa_Mod_forge_62 : pr_Mod_forge[62]? = some (110, 1, .iadd, []) := rfl
theorem pa_Mod_forge_63 : pr_Mod_forge[63]? = some (111, 3, .putfield 97, [7, 4, 0, 0, 624]) := rfl
theorem pa_Mod_forge_64 : pr_Mod_forge[64]? = some (114, 1, .iconst 1, [1, 0]) := rfl
theorem pa_Mod_forge_65 : pr_Mod_forge[65]? = some (115, 1, .ireturn, [1]) := rfl
def pa_Mod_forge := And.intro pa_Mod_forge_0 (And.intro pa_Mod_forge_1 (And.intro pa_Mod_forge_2 (And.intro pa_Mod_forge_3 (And.intro pa_Mod_forge_4 (And.intro pa_Mod_forge_5 (And.intro pa_Mod_forge_6 (And.intro pa_Mod_forge_7 (And.intro pa_Mod_forge_8 (And.intro pa_Mod_forge_9 (And.intro pa_Mod_forge_10 (And.intro pa_Mod_forge_11 (And.intro pa_Mod_forge_12 (And.intro pa_Mod_forge_13 (And.intro pa_Mod_forge_14 (And.intro pa_Mod_forge_15 (And.intro pa_Mod_forge_16 (And.intro pa_Mod_forge_17 (And.intro pa_Mod_forge_18 (And.intro pa_Mod_forge_19 (And.intro pa_Mod_forge_20 (And.intro pa_Mod_forge_21 (And.intro pa_Mod_forge_22 (And.intro pa_Mod_forge_23 (And.intro pa_Mod_forge_24 (And.intro pa_Mod_forge_25 (And.intro pa_Mod_forge_26 (And.intro pa_Mod_forge_27 (And.intro pa_Mod_forge_28 (And.intro pa_Mod_forge_29 (And.intro pa_Mod_forge_30 (And.intro pa_Mod_forge_31 (And.intro pa_Mod_forge_32 (And.intro pa_Mod_forge_33 (And.intro pa_Mod_forge_34 (And.intro pa_Mod_forge_35 (And.intro pa_Mod_forge_36 (And.intro pa_Mod_forge_37 (And.intro pa_Mod_forge_38 (And.intro pa_Mod_forge_39 (And.intro pa_Mod_forge_40 (And.intro pa_Mod_forge_41 (And.intro pa_Mod_forge_42 (And.intro pa_Mod_forge_43 (And.intro pa_Mod_forge_44 (And.intro pa_Mod_forge_45 (And.intro pa_Mod_forge_46 (And.intro pa_Mod_forge_47 (And.intro pa_Mod_forge_48 (And.intro pa_Mod_forge_49 (And.intro pa_Mod_forge_50 (And.intro pa_Mod_forge_51 (And.intro pa_Mod_forge_52 (And.intro pa_Mod_forge_53 (And.intro pa_Mod_forge_54 (And.intro pa_Mod_forge_55 (And.intro pa_Mod_forge_56 (And.intro pa_Mod_forge_57 (And.intro pa_Mod_forge_58 (And.intro pa_Mod_forge_59 (And.intro pa_Mod_forge_60 (And.intro pa_Mod_forge_61 (And.intro pa_Mod_forge_62 (And.intro pa_Mod_forge_63 (And.intro pa_Mod_forge_64 (pa_Mod_forge_65)))))))))))))))))))))))))))))))))))))))))))))))))))))))))))))))))
def pr_Mod_inverse : List ma_E := [(0, 1, .iconst 1, [1, 0]),
  (1, 1, .istore_n 1, []),
  (2, 1, .iload_n 0, []),
  (3, 1, .iload_n 1, []),
  (4, 3, .invokestatic 70, [36, 2, 0, 614, 615, 47]),
  (7, 1, .iconst 1, [1, 0]),
  (8, 3, .if_icmp .eq (9), [9]),
  (11, 3, .iinc 1 (1), [1, 0]),
  (14, 3, .goto (-12), [2]),
  (17, 1, .iload_n 1, []),
  (18, 1, .ireturn, [0])]
theorem po_Mod_inverse : ma_ok me_Mod_inverse pr_Mod_inverse := ma_ok_of (by decide +kernel)
theorem pa_Mod_inverse_0 : pr_Mod_inverse[0]? = some (0, 1, .iconst 1, [1, 0]) := rfl
theorem pa_Mod_inverse_1 : pr_Mod_inverse[1]? = some (1, 1, .istore_n 1, []) := rfl
theorem pa_Mod_inverse_2 : pr_Mod_inverse[2]? = some (2, 1, .iload_n 0, []) := rfl
theorem pa_Mod_inverse_3 : pr_Mod_inverse[3]? = some (3, 1, .iload_n 1, []) := rfl
theorem pa_Mod_inverse_4 : pr_Mod_inverse[4]? = some (4, 3, .invokestatic 70, [36, 2, 0, 614, 615, 47]) := rfl
theorem pa_Mod_inverse_5 : pr_Mod_inverse[5]? = some (7, 1, .iconst 1, [1, 0]) := rfl
theorem pa_Mod_inverse_6 : pr_Mod_inverse[6]? = some (8, 3, .if_icmp .eq (9), [9]) := rfl
theorem pa_Mod_inverse_7 : pr_Mod_inverse[7]? = some (11, 3, .iinc 1 (1), [1, 0]) := rfl
theorem pa_Mod_inverse_8 : pr_Mod_inverse[8]? = some (14, 3, .goto (-12), [2]) := rfl
theorem pa_Mod_inverse_9 : pr_Mod_inverse[9]? = some (17, 1, .iload_n 1, []) := rfl
theorem pa_Mod_inverse_10 : pr_Mod_inverse[10]? = some (18, 1, .ireturn, [0]) := rfl
def pa_Mod_inverse := And.intro pa_Mod_inverse_0 (And.intro pa_Mod_inverse_1 (And.intro pa_Mod_inverse_2 (And.intro pa_Mod_inverse_3 (And.intro pa_Mod_inverse_4 (And.intro pa_Mod_inverse_5 (And.intro pa_Mod_inverse_6 (And.intro pa_Mod_inverse_7 (And.intro pa_Mod_inverse_8 (And.intro pa_Mod_inverse_9 (pa_Mod_inverse_10))))))))))
def pr_Mod_isFound : List ma_E := [(0, 1, .iload_n 1, []),
  (1, 2, .bipush 12, [12, 0]),
  (3, 1, .isub, []),
  (4, 1, .istore_n 2, []),
  (5, 1, .aload_n 0, []),
  (6, 1, .iload_n 2, []),
  (7, 3, .invokevirtual 114, [30, 1, 7, 0, 773, 775, 34, 47]),
  (10, 1, .istore_n 3, []),
  (11, 1, .aload_n 0, []),
  (12, 1, .iload_n 2, []),
  (13, 1, .iconst 3, [3, 0]),
  (14, 1, .iadd, []),
  (15, 3, .invokevirtual 114, [30, 1, 7, 0, 773, 775, 34, 47]),
  (18, 2, .istore 4, []),
  (20, 1, .aload_n 0, []),
  (21, 1, .iload_n 2, []),
  (22, 2, .bipush 6, [6, 0]),
  (24, 1, .iadd, []),
  (25, 3, .invokevirtual 114, [30, 1, 7, 0, 773, 775, 34, 47]),
  (28, 2, .istore 5, []),
  (30, 1, .aload_n 0, []),
  (31, 1, .iload_n 2, []),
  (32, 2, .bipush 9, [9, 0]),
  (34, 1, .iadd, []),
  (35, 3, .invokevirtual 114, [30, 1, 7, 0, 773, 775, 34, 47]),
  (38, 2, .istore 6, []),
  (40, 2, .bipush 16, [16, 0]),
  (42, 2, .iload 4, []),
  (44, 1, .imul, []),
  (45, 1, .iconst 4, [4, 0]),
  (46, 2, .iload 5, []),
  (48, 1, .imul, []),
  (49, 1, .iadd, []),
  (50, 2, .iload 6, []),
  (52, 1, .iadd, []),
  (53, 2, .istore 7, []),
  (55, 1, .iload_n 3, []),
  (56, 3, .ifCond .lt (25), [47]),
  (59, 2, .iload 4, []),
  (61, 3, .ifCond .lt (20), [47]),
  (64, 2, .iload 5, []),
  (66, 3, .ifCond .lt (15), [47]),
  (69, 2, .iload 6, []),
  (71, 3, .ifCond .lt (10), [47]),
  (74, 2, .iload 7, []),
  (76, 2, .bipush 32, [32, 0]),
  (78, 3, .if_icmp .le (5), [49]),
  (81, 1, .iconst 0, [0, 0]),
  (82, 1, .ireturn, [1]),
  (83, 1, .iconst 0, [0, 0]),
  (84, 2, .istore 8, []),
  (86, 2, .iload 8, []),
  (88, 1, .iload_n 2, []),
  (89, 2, .bipush 33, [33, 0]),
  (91, 3, .if_icmp .ne (7), [57]),
  (94, 1, .iconst 1, [1, 0]),
  (95, 3, .goto (16), [63]),
  (98, 1, .iload_n 2, []),
  (99, 2, .bipush 32, [32, 0]),
  (101, 3, .if_icmp .ne (8), [62]),
  (104, 2, .bipush 33, [33, 0]),
  (106, 3, .goto (5), [63]),
  (109, 2, .bipush 34, [34, 0]),
  (111, 3, .if_icmp .ge (165), [144]),
  (114, 1, .iconst 0, [0, 0]),
  (115, 2, .istore 9, []),
  (117, 2, .iload 9, []),
  (119, 1, .iload_n 2, []),
  (120, 2, .bipush 32, [32, 0]),
  (122, 3, .if_icmp .ne (7), [72]),
  (125, 1, .iconst 4, [4, 0]),
  (126, 3, .goto (4), [73]),
  (129, 1, .iconst 1, [1, 0]),
  (130, 3, .if_icmp .ge (140), [142]),
  (133, 1, .iconst 0, [0, 0]),
  (134, 2, .istore 10, []),
  (136, 2, .iload 10, []),
  (138, 2, .bipush 33, [33, 0]),
  (140, 3, .if_icmp .ge (105), [130]),
  (143, 1, .aload_n 0, []),
  (144, 3, .getfield 32, [7, 13, 2, 0, 633]),
  (147, 2, .iload 10, []),
  (149, 1, .iload_n 2, []),
  (150, 2, .bipush 33, [33, 0]),
  (152, 3, .if_icmp .ne (13), [90]),
  (155, 1, .aload_n 0, []),
  (156, 3, .getfield 35, [7, 14, 2, 0, 634]),
  (159, 2, .iload 10, []),
  (161, 1, .iaload, []),
  (162, 3, .goto (76), [127]),
  (165, 1, .iload_n 2, []),
  (166, 2, .bipush 32, [32, 0]),
  (168, 3, .if_icmp .ne (44), [113]),
  (171, 2, .iload 10, []),
  (173, 2, .iload 8, []),
  (175, 3, .if_icmp .ge (13), [101]),
  (178, 1, .aload_n 0, []),
  (179, 3, .getfield 35, [7, 14, 2, 0, 634]),
  (182, 2, .iload 10, []),
  (184, 1, .iaload, []),
  (185, 3, .goto (53), [127]),
  (188, 2, .iload 10, []),
  (190, 2, .iload 8, []),
  (192, 3, .if_icmp .ne (8), [106]),
  (195, 2, .iload 9, []),
  (197, 3, .goto (41), [127]),
  (200, 1, .aload_n 0, []),
  (201, 3, .getfield 35, [7, 14, 2, 0, 634]),
  (204, 2, .iload 10, []),
  (206, 1, .iconst 1, [1, 0]),
  (207, 1, .isub, []),
  (208, 1, .iaload, []),
  (209, 3, .goto (29), [127]),
  (212, 2, .iload 10, []),
  (214, 2, .iload 8, []),
  (216, 3, .if_icmp .ge (13), [121]),
  (219, 1, .aload_n 0, []),
  (220, 3, .getfield 35, [7, 14, 2, 0, 634]),
  (223, 2, .iload 10, []),
  (225, 1, .iaload, []),
  (226, 3, .goto (12), [127]),
  (229, 1, .aload_n 0, []),
  (230, 3, .getfield 35, [7, 14, 2, 0, 634]),
  (233, 2, .iload 10, []),
  (235, 1, .iconst 1, [1, 0]),
  (236, 1, .iadd, []),
  (237, 1, .iaload, []),
  (238, 1, .iastore, []),
  (239, 3, .iinc 10 (1), [1, 0]),
  (242, 3, .goto (-106), [76]),
  (245, 1, .aload_n 0, []),
  (246, 3, .invokevirtual 83, [34, 0, 7, 0, 720, 722, 31, 47]),
  (249, 1, .iload_n 3, []),
  (250, 3, .if_icmp .ne (14), [140]),
  (253, 1, .aload_n 0, []),
  (254, 3, .invokevirtual 79, [33, 0, 7, 0, 716, 718, 30, 47]),
  (257, 2, .iload 7, []),
  (259, 3, .if_icmp .ne (5), [140]),
  (262, 1, .iconst 1, [1, 0]),
  (263, 1, .ireturn, [1]),
  (264, 3, .iinc 9 (1), [1, 0]),
  (267, 3, .goto (-150), [66]),
  (270, 3, .iinc 8 (1), [1, 0]),
  (273, 3, .goto (-187), [51]),
  (276, 1, .iconst 0, [0, 0]),
  (277, 1, .ireturn, [1])]
theorem po_Mod_isFound : ma_ok me_Mod_isFound pr_Mod_isFound := ma_ok_of (by decide +kernel)
theorem pa_Mod_isFound_0 : pr_Mod_isFound[0]? = some (0, 1, .iload_n 1, []) := rfl
theorem pa_Mod_isFound_1 : pr_Mod_isFound[1]? = some (1, 2, .bipush 12, [12, 0]) := rfl
theorem pa_Mod_isFound_2 : pr_Mod_isFound[2]? = some (3, 1, .isub, []) := rfl
theorem pa_Mod_isFound_3 : pr_Mod_isFound[3]? = some (4, 1, .istore_n 2, []) := rfl
theorem pa_Mod_isFound_4 : pr_Mod_isFound[4]? = some (5, 1, .aload_n 0, []) := rfl
theorem pa_Mod_isFound_5 : pr_Mod_isFound[5]? = some (6, 1, .iload_n 2, []) := rfl
theorem pa_Mod_isFound_6 : pr_Mod_isFound[6]? = some (7, 3, .invokevirtual 114, [30, 1, 7, 0, 773, 775, 34, 47]) := rfl
theorem pa_Mod_isFound_7 : pr_Mod_isFound[7]? = some (10, 1, .istore_n 3, []) := rfl
theorem pa_Mod_isFound_8 : pr_Mod_isFound[8]? = some (11, 1, .aload_n 0, []) := rfl
theorem pa_Mod_isFound_9 : pr_Mod_isFound[9]? = some (12, 1, .iload_n 2, []) := rfl
theorem pa_Mod_isFound_10 : pr_Mod_isFound[10]? = some (13, 1, .iconst 3, [3, 0]) := rfl
theorem pa_Mod_isFound_11 : pr_Mod_isFound[11]? = some (14, 1, .iadd, []) := rfl
theorem pa_Mod_isFound_12 : pr_Mod_isFound[12]? = some (15, 3, .invokevirtual 114, [30, 1, 7, 0, 773, 775, 34, 47]) := rfl
theorem pa_Mod_isFound_13 : pr_Mod_isFound[13]? = some (18, 2, .istore 4, []) := rfl
theorem pa_Mod_isFound_14 : pr_Mod_isFound[14]? = some (20, 1, .aload_n 0, []) := rfl
theorem pa_Mod_isFound_15 : pr_Mod_isFound[15]? = some (21, 1, .iload_n 2, []) := rfl
theorem pa_Mod_isFound_16 : pr_Mod_isFound[16]? = some (22, 2, .bipush 6, [6, 0]) := rfl
theorem pa_Mod_isFound_17 : pr_Mod_isFound[17]? = some (24, 1, .iadd, []) := rfl
theorem pa_Mod_isFound_18 : pr_Mod_isFound[18]? = some (25, 3, .invokevirtual 114, [30, 1, 7, 0, 773, 775, 34, 47]) := rfl
theorem pa_Mod_isFound_19 : pr_Mod_isFound[19]? = some (28, 2, .istore 5, []) := rfl
theorem pa_Mod_isFound_20 : pr_Mod_isFound[20]? = some (30, 1, .aload_n 0, []) := rfl
theorem pa_Mod_isFound_21 : pr_Mod_isFound[21]? = some (31, 1, .iload_n 2, []) := rfl
theorem pa_Mod_isFound_22 : pr_Mod_isFound[22]? = some (32, 2, .bipush 9, [9, 0]) := rfl
theorem pa_Mod_isFound_23 : pr_Mod_isFound[23]? = some (34, 1, .iadd, []) := rfl
theorem pa_Mod_isFound_24 : pr_Mod_isFound[24]? = some (35, 3, .invokevirtual 114, [30, 1, 7, 0, 773, 775, 34, 47]) := rfl
theorem pa_Mod_isFound_25 : pr_Mod_isFound[25]? = some (38, 2, .istore 6, []) := rfl
theorem pa_Mod_isFound_26 : pr_Mod_isFound[26]? = some (40, 2, .bipush 16, [16, 0]) := rfl
theorem pa_Mod_isFound_27 : pr_Mod_isFound[27]? = some (42, 2, .iload 4, []) := rfl
theorem pa_Mod_isFound_28 : pr_Mod_isFound[28]? = some (44, 1, .imul, []) := rfl
theorem pa_Mod_isFound_29 : pr_Mod_isFound[29]? = some (45, 1, .iconst 4, [4, 0]) := rfl
theorem pa_Mod_isFound_30 : pr_Mod_isFound[30]? = some (46, 2, .iload 5, []) := rfl
theorem pa_Mod_isFound_31 : pr_Mod_isFound[31]? = some (48, 1, .imul, []) := rfl
theorem pa_Mod_isFound_32 : pr_Mod_isFound[32]? = some (49, 1, .iadd, []) := rfl
theorem pa_Mod_isFound_33 : pr_Mod_isFound[33]? = some (50, 2, .iload 6, []) := rfl
theorem pa_Mod_isFound_34 : pr_Mod_isFound[34]? = some (52, 1, .iadd, []) := rfl
theorem pa_Mod_isFound_35 : pr_Mod_isFound[35]? = some (53, 2, .istore 7, []) := rfl
theorem pa_Mod_isFound_36 : pr_Mod_isFound[36]? = some (55, 1, .iload_n 3, []) := rfl
theorem pa_Mod_isFound_37 : pr_Mod_isFound[37]? = some (56, 3, .ifCond .lt (25), [47]) := rfl
theorem pa_Mod_isFound_38 : pr_Mod_isFound[38]? = some (59, 2, .iload 4, []) := rfl
theorem pa_Mod_isFound_39 : pr_Mod_isFound[39]? = some (61, 3, .ifCond .lt (20), [47]) := rfl
theorem pa_Mod_isFound_40 : pr_Mod_isFound[40]? = some (64, 2, .iload 5, []) := rfl
theorem pa_Mod_isFound_41 : pr_Mod_isFound[41]? = some (66, 3, .ifCond .lt (15), [47]) := rfl
theorem pa_Mod_isFound_42 : pr_Mod_isFound[42]? = some (69, 2, .iload 6, []) := rfl
theorem pa_Mod_isFound_43 : pr_Mod_isFound[43]? = some (71, 3, .ifCond .lt (10), [47]) := rfl
theorem pa_Mod_isFound_44 : pr_Mod_isFound[44]? = some (74, 2, .iload 7, []) := rfl
theorem pa_Mod_isFound_45 : pr_Mod_isFound[45]? = some (76, 2, .bipush 32, [32, 0]) := rfl
theorem pa_Mod_isFound_46 : pr_Mod_isFound[46]? = some (78, 3, .if_icmp .le (5), [49]) := rfl
theorem pa_Mod_isFound_47 : pr_Mod_isFound[47]? = some (81, 1, .iconst 0, [0, 0]) := rfl
theorem pa_Mod_isFound_48 : pr_Mod_isFound[48]? = some (82, 1, .ireturn, [1]) := rfl
theorem pa_Mod_isFound_49 : pr_Mod_isFound[49]? = some (83, 1, .iconst 0, [0, 0]) := rfl
theorem pa_Mod_isFound_50 : pr_Mod_isFound[50]? = some (84, 2, .istore 8, []) := rfl
theorem pa_Mod_isFound_51 : pr_Mod_isFound[51]? = some (86, 2, .iload 8, []) := rfl
theorem pa_Mod_isFound_52 : pr_Mod_isFound[52]? = some (88, 1, .iload_n 2, []) := rfl
theorem pa_Mod_isFound_53 : pr_Mod_isFound[53]? = some (89, 2, .bipush 33, [33, 0]) := rfl
theorem pa_Mod_isFound_54 : pr_Mod_isFound[54]? = some (91, 3, .if_icmp .ne (7), [57]) := rfl
theorem pa_Mod_isFound_55 : pr_Mod_isFound[55]? = some (94, 1, .iconst 1, [1, 0]) := rfl
theorem pa_Mod_isFound_56 : pr_Mod_isFound[56]? = some (95, 3, .goto (16), [63]) := rfl
theorem pa_Mod_isFound_57 : pr_Mod_isFound[57]? = some (98, 1, .iload_n 2, []) := rfl
theorem pa_Mod_isFound_58 : pr_Mod_isFound[58]? = some (99, 2, .bipush 32, [32, 0]) := rfl
theorem pa_Mod_isFound_59 : pr_Mod_isFound[59]? = some (101, 3, .if_icmp .ne (8), [62]) := rfl
theorem pa_Mod_isFound_60 : pr_Mod_isFound[60]? = some (104, 2, .bipush 33, [33, 0]) := rfl
theorem pa_Mod_isFound_61 : pr_Mod_isFound[61]? = some (106, 3, .goto (5), [63]) := rfl
theorem pa_Mod_isFound_62 : pr_Mod_isFound[62]? = some (109, 2, .bipush 34, [34, 0]) := rfl
theorem pa_Mod_isFound_63 : pr_Mod_isFound[63]? = some (111, 3, .if_icmp .ge (165), [144]) := rfl
theorem pa_Mod_isFound_64 : pr_Mod_isFound[64]? = some (114, 1, .iconst 0, [0, 0]) := rfl
theorem pa_Mod_isFound_65 : pr_Mod_isFound[65]? = some (115, 2, .istore 9, []) := rfl
theorem pa_Mod_isFound_66 : pr_Mod_isFound[66]? = some (117, 2, .iload 9, []) := rfl
theorem pa_Mod_isFound_67 : pr_Mod_isFound[67]? = some (119, 1, .iload_n 2, []) := rfl
theorem pa_Mod_isFound_68 : pr_Mod_isFound[68]? = some (120, 2, .bipush 32, [32, 0]) := rfl
theorem pa_Mod_isFound_69 : pr_Mod_isFound[69]? = some (122, 3, .if_icmp .ne (7), [72]) := rfl
theorem pa_Mod_isFound_70 : pr_Mod_isFound[70]? = some (125, 1, .iconst 4, [4, 0]) := rfl
theorem pa_Mod_isFound_71 : pr_Mod_isFound[71]? = some (126, 3, .goto (4), [73]) := rfl
theorem pa_Mod_isFound_72 : pr_Mod_isFound[72]? = some (129, 1, .iconst 1, [1, 0]) := rfl
theorem pa_Mod_isFound_73 : pr_Mod_isFound[73]? = some (130, 3, .if_icmp .ge (140), [142]) := rfl
theorem pa_Mod_isFound_74 : pr_Mod_isFound[74]? = some (133, 1, .iconst 0, [0, 0]) := rfl
theorem pa_Mod_isFound_75 : pr_Mod_isFound[75]? = some (134, 2, .istore 10, []) := rfl
theorem pa_Mod_isFound_76 : pr_Mod_isFound[76]? = some (136, 2, .iload 10, []) := rfl
theorem pa_Mod_isFound_77 : pr_Mod_isFound[77]? = some (138, 2, .bipush 33, [33, 0]) := rfl
theorem pa_Mod_isFound_78 : pr_Mod_isFound[78]? = some (140, 3, .if_icmp .ge (105), [130]) := rfl
theorem pa_Mod_isFound_79 : pr_Mod_isFound[79]? = some (143, 1, .aload_n 0, []) := rfl
theorem pa_Mod_isFound_80 : pr_Mod_isFound[80]? = some (144, 3, .getfield 32, [7, 13, 2, 0, 633]) := rfl
theorem pa_Mod_isFound_81 : pr_Mod_isFound[81]? = some (147, 2, .iload 10, []) := rfl
theorem pa_Mod_isFound_82 : pr_Mod_isFound[82]? = some (149, 1, .iload_n 2, []) := rfl
theorem pa_Mod_isFound_83 : pr_Mod_isFound[83]? = some (150, 2, .bipush 33, [33, 0]) := rfl
theorem pa_Mod_isFound_84 : pr_Mod_isFound[84]? = some (152, 3, .if_icmp .ne (13), [90]) := rfl
theorem pa_Mod_isFound_85 : pr_Mod_isFound[85]? = some (155, 1, .aload_n 0, []) := rfl
theorem pa_Mod_isFound_86 : pr_Mod_isFound[86]? = some (156, 3, .getfield 35, [7, 14, 2, 0, 634]) := rfl
theorem pa_Mod_isFound_87 : pr_Mod_isFound[87]? = some (159, 2, .iload 10, []) := rfl
theorem pa_Mod_isFound_88 : pr_Mod_isFound[88]? = some (161, 1, .iaload, []) := rfl
theorem pa_Mod_isFound_89 : pr_Mod_isFound[89]? = some (162, 3, .goto (76), [127]) := rfl
theorem pa_Mod_isFound_90 : pr_Mod_isFound[90]? = some (165, 1, .iload_n 2, []) := rfl
theorem pa_Mod_isFound_91 : pr_Mod_isFound[91]? = some (166, 2, .bipush 32, [32, 0]) := rfl
theorem pa_Mod_isFound_92 : pr_Mod_isFound[92]? = some (168, 3, .if_icmp .ne (44), [113]) := rfl
theorem pa_Mod_isFound_93 : pr_Mod_isFound[93]? = some (171, 2, .iload 10, []) := rfl
theorem pa_Mod_isFound_94 : pr_Mod_isFound[94]? = some (173, 2, .iload 8, []) := rfl
theorem pa_Mod_isFound_95 : pr_Mod_isFound[95]? = some (175, 3, .if_icmp .ge (13), [101]) := rfl
theorem pa_Mod_isFound_96 : pr_Mod_isFound[96]? = some (178, 1, .aload_n 0, []) := rfl
theorem pa_Mod_isFound_97 : pr_Mod_isFound[97]? = some (179, 3, .getfield 35, [7, 14, 2, 0, 634]) := rfl
theorem pa_Mod_isFound_98 : pr_Mod_isFound[98]? = some (182, 2, .iload 10, []) := rfl
theorem pa_Mod_isFound_99 : pr_Mod_isFound[99]? = some (184, 1, .iaload, []) := rfl
theorem pa_Mod_isFound_100 : pr_Mod_isFound[100]? = some (185, 3, .goto (53), [127]) := rfl
theorem pa_Mod_isFound_101 : pr_Mod_isFound[101]? = some (188, 2, .iload 10, []) := rfl
theorem pa_Mod_isFound_102 : pr_Mod_isFound[102]? = some (190, 2, .iload 8, []) := rfl
theorem pa_Mod_isFound_103 : pr_Mod_isFound[103]? = some (192, 3, .if_icmp .ne (8), [106]) := rfl
theorem pa_Mod_isFound_104 : pr_Mod_isFound[104]? = some (195, 2, .iload 9, []) := rfl
theorem pa_Mod_isFound_105 : pr_Mod_isFound[105]? = some (197, 3, .goto (41), [127]) := rfl
theorem pa_Mod_isFound_106 : pr_Mod_isFound[106]? = some (200, 1, .aload_n 0, []) := rfl
theorem pa_Mod_isFound_107 : pr_Mod_isFound[107]? = some (201, 3, .getfield 35, [7, 14, 2, 0, 634]) := rfl
theorem pa_Mod_isFound_108 : pr_Mod_isFound[108]? = some (204, 2, .iload 10, []) := rfl
theorem pa_Mod_isFound_109 : pr_Mod_isFound[109]? = some (206, 1, .iconst 1, [1, 0]) := rfl
theorem pa_Mod_isFound_110 : pr_Mod_isFound[110]? = some (207, 1, .isub, []) := rfl
theorem pa_Mod_isFound_111 : pr_Mod_isFound[111]? = some (208, 1, .iaload, []) := rfl
theorem pa_Mod_isFound_112 : pr_Mod_isFound[112]? = some (209, 3, .goto (29), [127]) := rfl
theorem pa_Mod_isFound_113 : pr_Mod_isFound[113]? = some (212, 2, .iload 10, []) := rfl
theorem pa_Mod_isFound_114 : pr_Mod_isFound[114]? = some (214, 2, .iload 8, []) := rfl
theorem pa_Mod_isFound_115 : pr_Mod_isFound[115]? = some (216, 3, .if_icmp .ge (13), [121]) := rfl
theorem pa_Mod_isFound_116 : pr_Mod_isFound[116]? = some (219, 1, .aload_n 0, []) := rfl
theorem pa_Mod_isFound_117 : pr_Mod_isFound[117]? = some (220, 3, .getfield 35, [7, 14, 2, 0, 634]) := rfl
theorem pa_Mod_isFound_118 : pr_Mod_isFound[118]? = some (223, 2, .iload 10, []) := rfl
theorem pa_Mod_isFound_119 : pr_Mod_isFound[119]? = some (225, 1, .iaload, []) := rfl
theorem pa_Mod_isFound_120 : pr_Mod_isFound[120]? = some (226, 3, .goto (12), [127]) := rfl
theorem pa_Mod_isFound_121 : pr_Mod_isFound[121]? = some (229, 1, .aload_n 0, []) := rfl
theorem pa_Mod_isFound_122 : pr_Mod_isFound[122]? = some (230, 3, .getfield 35, [7, 14, 2, 0, 634]) := rfl
theorem pa_Mod_isFound_123 : pr_Mod_isFound[123]? = some (233, 2, .iload 10, []) := rfl
theorem pa_Mod_isFound_124 : pr_Mod_isFound[124]? = some (235, 1, .iconst 1, [1, 0]) := rfl
theorem pa_Mod_isFound_125 : pr_Mod_isFound[125]? = some (236, 1, .iadd, []) := rfl
theorem pa_Mod_isFound_126 : pr_Mod_isFound[126]? = some (237, 1, .iaload, []) := rfl
theorem pa_Mod_isFound_127 : pr_Mod_isFound[127]? = some (238, 1, .iastore, []) := rfl
theorem pa_Mod_isFound_128 : pr_Mod_isFound[128]? = some (239, 3, .iinc 10 (1), [1, 0]) := rfl
theorem pa_Mod_isFound_129 : pr_Mod_isFound[129]? = some (242, 3, .goto (-106), [76]) := rfl
theorem pa_Mod_isFound_130 : pr_Mod_isFound[130]? = some (245, 1, .aload_n 0, []) := rfl
theorem pa_Mod_isFound_131 : pr_Mod_isFound[131]? = some (246, 3, .invokevirtual 83, [34, 0, 7, 0, 720, 722, 31, 47]) := rfl
theorem pa_Mod_isFound_132 : pr_Mod_isFound[132]? = some (249, 1, .iload_n 3, []) := rfl
theorem pa_Mod_isFound_133 : pr_Mod_isFound[133]? = some (250, 3, .if_icmp .ne (14), [140]) := rfl
theorem pa_Mod_isFound_134 : pr_Mod_isFound[134]? = some (253, 1, .aload_n 0, []) := rfl
theorem pa_Mod_isFound_135 : pr_Mod_isFound[135]? = some (254, 3, .invokevirtual 79, [33, 0, 7, 0, 716, 718, 30, 47]) := rfl
theorem pa_Mod_isFound_136 : pr_Mod_isFound[136]? = some (257, 2, .iload 7, []) := rfl
theorem pa_Mod_isFound_137 : pr_Mod_isFound[137]? = some (259, 3, .if_icmp .ne (5), [140]) := rfl
theorem pa_Mod_isFound_138 : pr_Mod_isFound[138]? = some (262, 1, .iconst 1, [1, 0]) := rfl
theorem pa_Mod_isFound_139 : pr_Mod_isFound[139]? = some (263, 1, .ireturn, [1]) := rfl
theorem pa_Mod_isFound_140 : pr_Mod_isFound[140]? = some (264, 3, .iinc 9 (1), [1, 0]) := rfl
theorem pa_Mod_isFound_141 : pr_Mod_isFound[141]? = some (267, 3, .goto (-150), [66]) := rfl
theorem pa_Mod_isFound_142 : pr_Mod_isFound[142]? = some (270, 3, .iinc 8 (1), [1, 0]) := rfl
theorem pa_Mod_isFound_143 : pr_Mod_isFound[143]? = some (273, 3, .goto (-187), [51]) := rfl
theorem pa_Mod_isFound_144 : pr_Mod_isFound[144]? = some (276, 1, .iconst 0, [0, 0]) := rfl
theorem pa_Mod_isFound_145 : pr_Mod_isFound[145]? = some (277, 1, .ireturn, [1]) := rfl
def pa_Mod_isFound := And.intro pa_Mod_isFound_0 (And.intro pa_Mod_isFound_1 (And.intro pa_Mod_isFound_2 (And.intro pa_Mod_isFound_3 (And.intro pa_Mod_isFound_4 (And.intro pa_Mod_isFound_5 (And.intro pa_Mod_isFound_6 (And.intro pa_Mod_isFound_7 (And.intro pa_Mod_isFound_8 (And.intro pa_Mod_isFound_9 (And.intro pa_Mod_isFound_10 (And.intro pa_Mod_isFound_11 (And.intro pa_Mod_isFound_12 (And.intro pa_Mod_isFound_13 (And.intro pa_Mod_isFound_14 (And.intro pa_Mod_isFound_15 (And.intro pa_Mod_isFound_16 (And.intro pa_Mod_isFound_17 (And.intro pa_Mod_isFound_18 (And.intro pa_Mod_isFound_19 (And.intro pa_Mod_isFound_20 (And.intro pa_Mod_isFound_21 (And.intro pa_Mod_isFound_22 (And.intro pa_Mod_isFound_23 (And.intro pa_Mod_isFound_24 (And.intro pa_Mod_isFound_25 (And.intro pa_Mod_isFound_26 (And.intro pa_Mod_isFound_27 (And.intro pa_Mod_isFound_28 (And.intro pa_Mod_isFound_29 (And.intro pa_Mod_isFound_30 (And.intro pa_Mod_isFound_31 (And.intro pa_Mod_isFound_32 (And.intro pa_Mod_isFound_33 (And.intro pa_Mod_isFound_34 (And.intro pa_Mod_isFound_35 (And.intro pa_Mod_isFound_36 (And.intro pa_Mod_isFound_37 (And.intro pa_Mod_isFound_38 (And.intro pa_Mod_isFound_39 (And.intro pa_Mod_isFound_40 (And.intro pa_Mod_isFound_41 (And.intro pa_Mod_isFound_42 (And.intro pa_Mod_isFound_43 (And.intro pa_Mod_isFound_44 (And.intro pa_Mod_isFound_45 (And.intro pa_Mod_isFound_46 (And.intro pa_Mod_isFound_47 (And.intro pa_Mod_isFound_48 (And.intro pa_Mod_isFound_49 (And.intro pa_Mod_isFound_50 (And.intro pa_Mod_isFound_51 (And.intro pa_Mod_isFound_52 (And.intro pa_Mod_isFound_53 (And.intro pa_Mod_isFound_54 (And.intro pa_Mod_isFound_55 (And.intro pa_Mod_isFound_56 (And.intro pa_Mod_isFound_57 (And.intro pa_Mod_isFound_58 (And.intro pa_Mod_isFound_59 (And.intro pa_Mod_isFound_60 (And.intro pa_Mod_isFound_61 (And.intro pa_Mod_isFound_62 (And.intro pa_Mod_isFound_63 (And.intro pa_Mod_isFound_64 (And.intro pa_Mod_isFound_65 (And.intro pa_Mod_isFound_66 (And.intro pa_Mod_isFound_67 (And.intro pa_Mod_isFound_68 (And.intro pa_Mod_isFound_69 (And.intro pa_Mod_isFound_70 (And.intro pa_Mod_isFound_71 (And.intro pa_Mod_isFound_72 (And.intro pa_Mod_isFound_73 (And.intro pa_Mod_isFound_74 (And.intro pa_Mod_isFound_75 (And.intro pa_Mod_isFound_76 (And.intro pa_Mod_isFound_77 (And.intro pa_Mod_isFound_78 (And.intro pa_Mod_isFound_79 (And.intro pa_Mod_isFound_80 (And.intro pa_Mod_isFound_81 (And.intro pa_Mod_isFound_82 (And.intro pa_Mod_isFound_83 (And.intro pa_Mod_isFound_84 (And.intro pa_Mod_isFound_85 (And.intro pa_Mod_isFound_86 (And.intro pa_Mod_isFound_87 (And.intro pa_Mod_isFound_88 (And.intro pa_Mod_isFound_89 (And.intro pa_Mod_isFound_90 (And.intro pa_Mod_isFound_91 (And.intro pa_Mod_isFound_92 (And.intro pa_Mod_isFound_93 (And.intro pa_Mod_isFound_94 (And.intro pa_Mod_isFound_95 (And.intro pa_Mod_isFound_96 (And.intro pa_Mod_isFound_97 (And.intro pa_Mod_isFound_98 (And.intro pa_Mod_isFound_99 (And.intro pa_Mod_isFound_100 (And.intro pa_Mod_isFound_101 (And.intro pa_Mod_isFound_102 (And.intro pa_Mod_isFound_103 (And.intro pa_Mod_isFound_104 (And.intro pa_Mod_isFound_105 (And.intro pa_Mod_isFound_106 (And.intro pa_Mod_isFound_107 (And.intro pa_Mod_isFound_108 (And.intro pa_Mod_isFound_109 (And.intro pa_Mod_isFound_110 (And.intro pa_Mod_isFound_111 (And.intro pa_Mod_isFound_112 (And.intro pa_Mod_isFound_113 (And.intro pa_Mod_isFound_114 (And.intro pa_Mod_isFound_115 (And.intro pa_Mod_isFound_116 (And.intro pa_Mod_isFound_117 (And.intro pa_Mod_isFound_118 (And.intro pa_Mod_isFound_119 (And.intro pa_Mod_isFound_120 (And.intro pa_Mod_isFound_121 (And.intro pa_Mod_isFound_122 (And.intro pa_Mod_isFound_123 (And.intro pa_Mod_isFound_124 (And.intro pa_Mod_isFound_125 (And.intro pa_Mod_isFound_126 (And.intro pa_Mod_isFound_127 (And.intro pa_Mod_isFound_128 (And.intro pa_Mod_isFound_129 (And.intro pa_Mod_isFound_130 (And.intro pa_Mod_isFound_131 (And.intro pa_Mod_isFound_132 (And.intro pa_Mod_isFound_133 (And.intro pa_Mod_isFound_134 (And.intro pa_Mod_isFound_135 (And.intro pa_Mod_isFound_136 (And.intro pa_Mod_isFound_137 (And.intro pa_Mod_isFound_138 (And.intro pa_Mod_isFound_139 (And.intro pa_Mod_isFound_140 (And.intro pa_Mod_isFound_141 (And.intro pa_Mod_isFound_142 (And.intro pa_Mod_isFound_143 (And.intro pa_Mod_isFound_144 (pa_Mod_isFound_145)))))))))))))))))))))))))))))))))))))))))))))))))))))))))))))))))))))))))))))))))))))))))))))))))))))))))))))))))))))))))))))))))))))))))))))))))
def pr_Mod_lay : List ma_E := [(0, 2, .bipush 45, [45, 0]),
  (2, 1, .iload_n 1, []),
  (3, 1, .imul, []),
  (4, 2, .istore 4, []),
  (6, 1, .iconst 3, [3, 0]),
  (7, 2, .istore 5, []),
  (9, 1, .iconst 0, [0, 0]),
  (10, 2, .istore 6, []),
  (12, 2, .iload 6, []),
  (14, 1, .iconst 3, [3, 0]),
  (15, 3, .if_icmp .ge (131), [86]),
  (18, 2, .iload 6, []),
  (20, 3, .ifCond .ne (13), [19]),
  (23, 3, .sipush 256, [256, 0]),
  (26, 1, .iload_n 2, []),
  (27, 1, .imul, []),
  (28, 1, .iload_n 3, []),
  (29, 1, .iadd, []),
  (30, 3, .goto (38), [46]),
  (33, 3, .sipush 256, [256, 0]),
  (36, 1, .aload_n 0, []),
  (37, 3, .getfield 41, [7, 16, 2, 0, 636]),
  (40, 1, .iconst 4, [4, 0]),
  (41, 1, .iload_n 3, []),
  (42, 1, .imul, []),
  (43, 1, .iconst 2, [2, 0]),
  (44, 2, .iload 6, []),
  (46, 1, .imul, []),
  (47, 1, .iadd, []),
  (48, 1, .iconst 2, [2, 0]),
  (49, 1, .isub, []),
  (50, 1, .iaload, []),
  (51, 1, .imul, []),
  (52, 1, .aload_n 0, []),
  (53, 3, .getfield 41, [7, 16, 2, 0, 636]),
  (56, 1, .iconst 4, [4, 0]),
  (57, 1, .iload_n 3, []),
  (58, 1, .imul, []),
  (59, 1, .iconst 2, [2, 0]),
  (60, 2, .iload 6, []),
  (62, 1, .imul, []),
  (63, 1, .iadd, []),
  (64, 1, .iconst 1, [1, 0]),
  (65, 1, .isub, []),
  (66, 1, .iaload, []),
  (67, 1, .iadd, []),
  (68, 2, .istore 7, []),
  (70, 2, .ldc 78, [59049, 0, 715]),
  (72, 2, .istore 8, []),
  (74, 1, .iconst 0, [0, 0]),
  (75, 2, .istore 9, []),
  (77, 2, .iload 9, []),
  (79, 2, .bipush 11, [11, 0]),
  (81, 3, .if_icmp .ge (59), [84]),
  (84, 2, .iload 7, []),
  (86, 2, .iload 8, []),
  (88, 1, .idiv, []),
  (89, 1, .iconst 3, [3, 0]),
  (90, 1, .irem, []),
  (91, 2, .istore 10, []),
  (93, 2, .iload 10, []),
  (95, 2, .iload 5, []),
  (97, 3, .if_icmp .ge (8), [65]),
  (100, 2, .iload 10, []),
  (102, 3, .goto (7), [68]),
  (105, 2, .iload 10, []),
  (107, 1, .iconst 1, [1, 0]),
  (108, 1, .iadd, []),
  (109, 2, .istore 11, []),
  (111, 1, .aload_n 0, []),
  (112, 3, .getfield 13, [7, 3, 2, 0, 623]),
  (115, 2, .iload 4, []),
  (117, 2, .iload 11, []),
  (119, 1, .i2b, []),
  (120, 1, .bastore, [0]),
  (121, 3, .iinc 4 (1), [1, 0]),
  (124, 2, .iload 11, []),
  (126, 2, .istore 5, []),
  (128, 2, .iload 8, []),
  (130, 1, .iconst 3, [3, 0]),
  (131, 1, .idiv, []),
  (132, 2, .istore 8, []),
  (134, 3, .iinc 9 (1), [1, 0]),
  (137, 3, .goto (-60), [51]),
  (140, 3, .iinc 6 (1), [1, 0]),
  (143, 3, .goto (-131), [8]),
  (146, 1, .iconst 0, [0, 0]),
  (147, 2, .istore 6, []),
  (149, 2, .iload 6, []),
  (151, 2, .bipush 33, [33, 0]),
  (153, 3, .if_icmp .ge (28), [105]),
  (156, 1, .aload_n 0, []),
  (157, 3, .getfield 32, [7, 13, 2, 0, 633]),
  (160, 2, .iload 6, []),
  (162, 1, .aload_n 0, []),
  (163, 3, .getfield 13, [7, 3, 2, 0, 623]),
  (166, 2, .bipush 45, [45, 0]),
  (168, 1, .iload_n 1, []),
  (169, 1, .imul, []),
  (170, 2, .iload 6, []),
  (172, 1, .iadd, []),
  (173, 1, .baload, [0]),
  (174, 1, .iastore, []),
  (175, 3, .iinc 6 (1), [1, 0]),
  (178, 3, .goto (-29), [88]),
  (181, 1, .aload_n 0, []),
  (182, 3, .invokevirtual 79, [33, 0, 7, 0, 716, 718, 30, 47]),
  (185, 2, .istore 6, []),
  (187, 1, .iconst 0, [0, 0]),
  (188, 2, .istore 7, []),
  (190, 2, .iload 7, []),
  (192, 2, .bipush 12, [12, 0]),
  (194, 3, .if_icmp .ge (72), [149]),
  (197, 2, .iload 7, []),
  (199, 1, .iconst 3, [3, 0]),
  (200, 3, .if_icmp .ge (10), [119]),
  (203, 1, .aload_n 0, []),
  (204, 3, .invokevirtual 83, [34, 0, 7, 0, 720, 722, 31, 47]),
  (207, 3, .goto (38), [138]),
  (210, 2, .iload 7, []),
  (212, 2, .bipush 6, [6, 0]),
  (214, 3, .if_icmp .ge (11), [126]),
  (217, 2, .iload 6, []),
  (219, 2, .bipush 16, [16, 0]),
  (221, 1, .idiv, []),
  (222, 3, .goto (23), [138]),
  (225, 2, .iload 7, []),
  (227, 2, .bipush 9, [9, 0]),
  (229, 3, .if_icmp .ge (12), [135]),
  (232, 2, .iload 6, []),
  (234, 1, .iconst 4, [4, 0]),
  (235, 1, .idiv, []),
  (236, 1, .iconst 4, [4, 0]),
  (237, 1, .irem, []),
  (238, 3, .goto (7), [138]),
  (241, 2, .iload 6, []),
  (243, 1, .iconst 4, [4, 0]),
  (244, 1, .irem, []),
  (245, 2, .istore 8, []),
  (247, 1, .aload_n 0, []),
  (248, 3, .getfield 13, [7, 3, 2, 0, 623]),
  (251, 2, .iload 4, []),
  (253, 2, .iload 7, []),
  (255, 1, .iadd, []),
  (256, 2, .iload 8, []),
  (258, 1, .i2b, []),
  (259, 1, .bastore, [0]),
  (260, 3, .iinc 7 (1), [1, 0]),
  (263, 3, .goto (-73), [110]),
  (266, 1, .return_, [])]
theorem po_Mod_lay : ma_ok me_Mod_lay pr_Mod_lay := ma_ok_of (by decide +kernel)
theorem pa_Mod_lay_0 : pr_Mod_lay[0]? = some (0, 2, .bipush 45, [45, 0]) := rfl
theorem pa_Mod_lay_1 : pr_Mod_lay[1]? = some (2, 1, .iload_n 1, []) := rfl
theorem pa_Mod_lay_2 : pr_Mod_lay[2]? = some (3, 1, .imul, []) := rfl
theorem pa_Mod_lay_3 : pr_Mod_lay[3]? = some (4, 2, .istore 4, []) := rfl
theorem pa_Mod_lay_4 : pr_Mod_lay[4]? = some (6, 1, .iconst 3, [3, 0]) := rfl
theorem pa_Mod_lay_5 : pr_Mod_lay[5]? = some (7, 2, .istore 5, []) := rfl
theorem pa_Mod_lay_6 : pr_Mod_lay[6]? = some (9, 1, .iconst 0, [0, 0]) := rfl
theorem pa_Mod_lay_7 : pr_Mod_lay[7]? = some (10, 2, .istore 6, []) := rfl
theorem pa_Mod_lay_8 : pr_Mod_lay[8]? = some (12, 2, .iload 6, []) := rfl
theorem pa_Mod_lay_9 : pr_Mod_lay[9]? = some (14, 1, .iconst 3, [3, 0]) := rfl
theorem pa_Mod_lay_10 : pr_Mod_lay[10]? = some (15, 3, .if_icmp .ge (131), [86]) := rfl
theorem pa_Mod_lay_11 : pr_Mod_lay[11]? = some (18, 2, .iload 6, []) := rfl
theorem pa_Mod_lay_12 : pr_Mod_lay[12]? = some (20, 3, .ifCond .ne (13), [19]) := rfl
theorem pa_Mod_lay_13 : pr_Mod_lay[13]? = some (23, 3, .sipush 256, [256, 0]) := rfl
theorem pa_Mod_lay_14 : pr_Mod_lay[14]? = some (26, 1, .iload_n 2, []) := rfl
theorem pa_Mod_lay_15 : pr_Mod_lay[15]? = some (27, 1, .imul, []) := rfl
theorem pa_Mod_lay_16 : pr_Mod_lay[16]? = some (28, 1, .iload_n 3, []) := rfl
theorem pa_Mod_lay_17 : pr_Mod_lay[17]? = some (29, 1, .iadd, []) := rfl
theorem pa_Mod_lay_18 : pr_Mod_lay[18]? = some (30, 3, .goto (38), [46]) := rfl
theorem pa_Mod_lay_19 : pr_Mod_lay[19]? = some (33, 3, .sipush 256, [256, 0]) := rfl
theorem pa_Mod_lay_20 : pr_Mod_lay[20]? = some (36, 1, .aload_n 0, []) := rfl
theorem pa_Mod_lay_21 : pr_Mod_lay[21]? = some (37, 3, .getfield 41, [7, 16, 2, 0, 636]) := rfl
theorem pa_Mod_lay_22 : pr_Mod_lay[22]? = some (40, 1, .iconst 4, [4, 0]) := rfl
theorem pa_Mod_lay_23 : pr_Mod_lay[23]? = some (41, 1, .iload_n 3, []) := rfl
theorem pa_Mod_lay_24 : pr_Mod_lay[24]? = some (42, 1, .imul, []) := rfl
theorem pa_Mod_lay_25 : pr_Mod_lay[25]? = some (43, 1, .iconst 2, [2, 0]) := rfl
theorem pa_Mod_lay_26 : pr_Mod_lay[26]? = some (44, 2, .iload 6, []) := rfl
theorem pa_Mod_lay_27 : pr_Mod_lay[27]? = some (46, 1, .imul, []) := rfl
theorem pa_Mod_lay_28 : pr_Mod_lay[28]? = some (47, 1, .iadd, []) := rfl
theorem pa_Mod_lay_29 : pr_Mod_lay[29]? = some (48, 1, .iconst 2, [2, 0]) := rfl
theorem pa_Mod_lay_30 : pr_Mod_lay[30]? = some (49, 1, .isub, []) := rfl
theorem pa_Mod_lay_31 : pr_Mod_lay[31]? = some (50, 1, .iaload, []) := rfl
theorem pa_Mod_lay_32 : pr_Mod_lay[32]? = some (51, 1, .imul, []) := rfl
theorem pa_Mod_lay_33 : pr_Mod_lay[33]? = some (52, 1, .aload_n 0, []) := rfl
theorem pa_Mod_lay_34 : pr_Mod_lay[34]? = some (53, 3, .getfield 41, [7, 16, 2, 0, 636]) := rfl
theorem pa_Mod_lay_35 : pr_Mod_lay[35]? = some (56, 1, .iconst 4, [4, 0]) := rfl
theorem pa_Mod_lay_36 : pr_Mod_lay[36]? = some (57, 1, .iload_n 3, []) := rfl
theorem pa_Mod_lay_37 : pr_Mod_lay[37]? = some (58, 1, .imul, []) := rfl
theorem pa_Mod_lay_38 : pr_Mod_lay[38]? = some (59, 1, .iconst 2, [2, 0]) := rfl
theorem pa_Mod_lay_39 : pr_Mod_lay[39]? = some (60, 2, .iload 6, []) := rfl
theorem pa_Mod_lay_40 : pr_Mod_lay[40]? = some (62, 1, .imul, []) := rfl
theorem pa_Mod_lay_41 : pr_Mod_lay[41]? = some (63, 1, .iadd, []) := rfl
theorem pa_Mod_lay_42 : pr_Mod_lay[42]? = some (64, 1, .iconst 1, [1, 0]) := rfl
theorem pa_Mod_lay_43 : pr_Mod_lay[43]? = some (65, 1, .isub, []) := rfl
theorem pa_Mod_lay_44 : pr_Mod_lay[44]? = some (66, 1, .iaload, []) := rfl
theorem pa_Mod_lay_45 : pr_Mod_lay[45]? = some (67, 1, .iadd, []) := rfl
theorem pa_Mod_lay_46 : pr_Mod_lay[46]? = some (68, 2, .istore 7, []) := rfl
theorem pa_Mod_lay_47 : pr_Mod_lay[47]? = some (70, 2, .ldc 78, [59049, 0, 715]) := rfl
theorem pa_Mod_lay_48 : pr_Mod_lay[48]? = some (72, 2, .istore 8, []) := rfl
theorem pa_Mod_lay_49 : pr_Mod_lay[49]? = some (74, 1, .iconst 0, [0, 0]) := rfl
theorem pa_Mod_lay_50 : pr_Mod_lay[50]? = some (75, 2, .istore 9, []) := rfl
theorem pa_Mod_lay_51 : pr_Mod_lay[51]? = some (77, 2, .iload 9, []) := rfl
theorem pa_Mod_lay_52 : pr_Mod_lay[52]? = some (79, 2, .bipush 11, [11, 0]) := rfl
theorem pa_Mod_lay_53 : pr_Mod_lay[53]? = some (81, 3, .if_icmp .ge (59), [84]) := rfl
theorem pa_Mod_lay_54 : pr_Mod_lay[54]? = some (84, 2, .iload 7, []) := rfl
theorem pa_Mod_lay_55 : pr_Mod_lay[55]? = some (86, 2, .iload 8, []) := rfl
theorem pa_Mod_lay_56 : pr_Mod_lay[56]? = some (88, 1, .idiv, []) := rfl
theorem pa_Mod_lay_57 : pr_Mod_lay[57]? = some (89, 1, .iconst 3, [3, 0]) := rfl
theorem pa_Mod_lay_58 : pr_Mod_lay[58]? = some (90, 1, .irem, []) := rfl
theorem pa_Mod_lay_59 : pr_Mod_lay[59]? = some (91, 2, .istore 10, []) := rfl
theorem pa_Mod_lay_60 : pr_Mod_lay[60]? = some (93, 2, .iload 10, []) := rfl
theorem pa_Mod_lay_61 : pr_Mod_lay[61]? = some (95, 2, .iload 5, []) := rfl
theorem pa_Mod_lay_62 : pr_Mod_lay[62]? = some (97, 3, .if_icmp .ge (8), [65]) := rfl
theorem pa_Mod_lay_63 : pr_Mod_lay[63]? = some (100, 2, .iload 10, []) := rfl
theorem pa_Mod_lay_64 : pr_Mod_lay[64]? = some (102, 3, .goto (7), [68]) := rfl
theorem pa_Mod_lay_65 : pr_Mod_lay[65]? = some (105, 2, .iload 10, []) := rfl
theorem pa_Mod_lay_66 : pr_Mod_lay[66]? = some (107, 1, .iconst 1, [1, 0]) := rfl
theorem pa_Mod_lay_67 : pr_Mod_lay[67]? = some (108, 1, .iadd, []) := rfl
theorem pa_Mod_lay_68 : pr_Mod_lay[68]? = some (109, 2, .istore 11, []) := rfl
theorem pa_Mod_lay_69 : pr_Mod_lay[69]? = some (111, 1, .aload_n 0, []) := rfl
theorem pa_Mod_lay_70 : pr_Mod_lay[70]? = some (112, 3, .getfield 13, [7, 3, 2, 0, 623]) := rfl
theorem pa_Mod_lay_71 : pr_Mod_lay[71]? = some (115, 2, .iload 4, []) := rfl
theorem pa_Mod_lay_72 : pr_Mod_lay[72]? = some (117, 2, .iload 11, []) := rfl
theorem pa_Mod_lay_73 : pr_Mod_lay[73]? = some (119, 1, .i2b, []) := rfl
theorem pa_Mod_lay_74 : pr_Mod_lay[74]? = some (120, 1, .bastore, [0]) := rfl
theorem pa_Mod_lay_75 : pr_Mod_lay[75]? = some (121, 3, .iinc 4 (1), [1, 0]) := rfl
theorem pa_Mod_lay_76 : pr_Mod_lay[76]? = some (124, 2, .iload 11, []) := rfl
theorem pa_Mod_lay_77 : pr_Mod_lay[77]? = some (126, 2, .istore 5, []) := rfl
theorem pa_Mod_lay_78 : pr_Mod_lay[78]? = some (128, 2, .iload 8, []) := rfl
theorem pa_Mod_lay_79 : pr_Mod_lay[79]? = some (130, 1, .iconst 3, [3, 0]) := rfl
theorem pa_Mod_lay_80 : pr_Mod_lay[80]? = some (131, 1, .idiv, []) := rfl
theorem pa_Mod_lay_81 : pr_Mod_lay[81]? = some (132, 2, .istore 8, []) := rfl
theorem pa_Mod_lay_82 : pr_Mod_lay[82]? = some (134, 3, .iinc 9 (1), [1, 0]) := rfl
theorem pa_Mod_lay_83 : pr_Mod_lay[83]? = some (137, 3, .goto (-60), [51]) := rfl
theorem pa_Mod_lay_84 : pr_Mod_lay[84]? = some (140, 3, .iinc 6 (1), [1, 0]) := rfl
theorem pa_Mod_lay_85 : pr_Mod_lay[85]? = some (143, 3, .goto (-131), [8]) := rfl
theorem pa_Mod_lay_86 : pr_Mod_lay[86]? = some (146, 1, .iconst 0, [0, 0]) := rfl
theorem pa_Mod_lay_87 : pr_Mod_lay[87]? = some (147, 2, .istore 6, []) := rfl
theorem pa_Mod_lay_88 : pr_Mod_lay[88]? = some (149, 2, .iload 6, []) := rfl
theorem pa_Mod_lay_89 : pr_Mod_lay[89]? = some (151, 2, .bipush 33, [33, 0]) := rfl
theorem pa_Mod_lay_90 : pr_Mod_lay[90]? = some (153, 3, .if_icmp .ge (28), [105]) := rfl
theorem pa_Mod_lay_91 : pr_Mod_lay[91]? = some (156, 1, .aload_n 0, []) := rfl
theorem pa_Mod_lay_92 : pr_Mod_lay[92]? = some (157, 3, .getfield 32, [7, 13, 2, 0, 633]) := rfl
theorem pa_Mod_lay_93 : pr_Mod_lay[93]? = some (160, 2, .iload 6, []) := rfl
theorem pa_Mod_lay_94 : pr_Mod_lay[94]? = some (162, 1, .aload_n 0, []) := rfl
theorem pa_Mod_lay_95 : pr_Mod_lay[95]? = some (163, 3, .getfield 13, [7, 3, 2, 0, 623]) := rfl
theorem pa_Mod_lay_96 : pr_Mod_lay[96]? = some (166, 2, .bipush 45, [45, 0]) := rfl
theorem pa_Mod_lay_97 : pr_Mod_lay[97]? = some (168, 1, .iload_n 1, []) := rfl
theorem pa_Mod_lay_98 : pr_Mod_lay[98]? = some (169, 1, .imul, []) := rfl
theorem pa_Mod_lay_99 : pr_Mod_lay[99]? = some (170, 2, .iload 6, []) := rfl
theorem pa_Mod_lay_100 : pr_Mod_lay[100]? = some (172, 1, .iadd, []) := rfl
theorem pa_Mod_lay_101 : pr_Mod_lay[101]? = some (173, 1, .baload, [0]) := rfl
theorem pa_Mod_lay_102 : pr_Mod_lay[102]? = some (174, 1, .iastore, []) := rfl
theorem pa_Mod_lay_103 : pr_Mod_lay[103]? = some (175, 3, .iinc 6 (1), [1, 0]) := rfl
theorem pa_Mod_lay_104 : pr_Mod_lay[104]? = some (178, 3, .goto (-29), [88]) := rfl
theorem pa_Mod_lay_105 : pr_Mod_lay[105]? = some (181, 1, .aload_n 0, []) := rfl
theorem pa_Mod_lay_106 : pr_Mod_lay[106]? = some (182, 3, .invokevirtual 79, [33, 0, 7, 0, 716, 718, 30, 47]) := rfl
theorem pa_Mod_lay_107 : pr_Mod_lay[107]? = some (185, 2, .istore 6, []) := rfl
theorem pa_Mod_lay_108 : pr_Mod_lay[108]? = some (187, 1, .iconst 0, [0, 0]) := rfl
theorem pa_Mod_lay_109 : pr_Mod_lay[109]? = some (188, 2, .istore 7, []) := rfl
theorem pa_Mod_lay_110 : pr_Mod_lay[110]? = some (190, 2, .iload 7, []) := rfl
theorem pa_Mod_lay_111 : pr_Mod_lay[111]? = some (192, 2, .bipush 12, [12, 0]) := rfl
theorem pa_Mod_lay_112 : pr_Mod_lay[112]? = some (194, 3, .if_icmp .ge (72), [149]) := rfl
theorem pa_Mod_lay_113 : pr_Mod_lay[113]? = some (197, 2, .iload 7, []) := rfl
theorem pa_Mod_lay_114 : pr_Mod_lay[114]? = some (199, 1, .iconst 3, [3, 0]) := rfl
theorem pa_Mod_lay_115 : pr_Mod_lay[115]? = some (200, 3, .if_icmp .ge (10), [119]) := rfl
theorem pa_Mod_lay_116 : pr_Mod_lay[116]? = some (203, 1, .aload_n 0, []) := rfl
theorem pa_Mod_lay_117 : pr_Mod_lay[117]? = some (204, 3, .invokevirtual 83, [34, 0, 7, 0, 720, 722, 31, 47]) := rfl
theorem pa_Mod_lay_118 : pr_Mod_lay[118]? = some (207, 3, .goto (38), [138]) := rfl
theorem pa_Mod_lay_119 : pr_Mod_lay[119]? = some (210, 2, .iload 7, []) := rfl
theorem pa_Mod_lay_120 : pr_Mod_lay[120]? = some (212, 2, .bipush 6, [6, 0]) := rfl
theorem pa_Mod_lay_121 : pr_Mod_lay[121]? = some (214, 3, .if_icmp .ge (11), [126]) := rfl
theorem pa_Mod_lay_122 : pr_Mod_lay[122]? = some (217, 2, .iload 6, []) := rfl
theorem pa_Mod_lay_123 : pr_Mod_lay[123]? = some (219, 2, .bipush 16, [16, 0]) := rfl
theorem pa_Mod_lay_124 : pr_Mod_lay[124]? = some (221, 1, .idiv, []) := rfl
theorem pa_Mod_lay_125 : pr_Mod_lay[125]? = some (222, 3, .goto (23), [138]) := rfl
theorem pa_Mod_lay_126 : pr_Mod_lay[126]? = some (225, 2, .iload 7, []) := rfl
theorem pa_Mod_lay_127 : pr_Mod_lay[127]? = some (227, 2, .bipush 9, [9, 0]) := rfl
theorem pa_Mod_lay_128 : pr_Mod_lay[128]? = some (229, 3, .if_icmp .ge (12), [135]) := rfl
theorem pa_Mod_lay_129 : pr_Mod_lay[129]? = some (232, 2, .iload 6, []) := rfl
theorem pa_Mod_lay_130 : pr_Mod_lay[130]? = some (234, 1, .iconst 4, [4, 0]) := rfl
theorem pa_Mod_lay_131 : pr_Mod_lay[131]? = some (235, 1, .idiv, []) := rfl
theorem pa_Mod_lay_132 : pr_Mod_lay[132]? = some (236, 1, .iconst 4, [4, 0]) := rfl
theorem pa_Mod_lay_133 : pr_Mod_lay[133]? = some (237, 1, .irem, []) := rfl
theorem pa_Mod_lay_134 : pr_Mod_lay[134]? = some (238, 3, .goto (7), [138]) := rfl
theorem pa_Mod_lay_135 : pr_Mod_lay[135]? = some (241, 2, .iload 6, []) := rfl
theorem pa_Mod_lay_136 : pr_Mod_lay[136]? = some (243, 1, .iconst 4, [4, 0]) := rfl
theorem pa_Mod_lay_137 : pr_Mod_lay[137]? = some (244, 1, .irem, []) := rfl
theorem pa_Mod_lay_138 : pr_Mod_lay[138]? = some (245, 2, .istore 8, []) := rfl
theorem pa_Mod_lay_139 : pr_Mod_lay[139]? = some (247, 1, .aload_n 0, []) := rfl
theorem pa_Mod_lay_140 : pr_Mod_lay[140]? = some (248, 3, .getfield 13, [7, 3, 2, 0, 623]) := rfl
theorem pa_Mod_lay_141 : pr_Mod_lay[141]? = some (251, 2, .iload 4, []) := rfl
theorem pa_Mod_lay_142 : pr_Mod_lay[142]? = some (253, 2, .iload 7, []) := rfl
theorem pa_Mod_lay_143 : pr_Mod_lay[143]? = some (255, 1, .iadd, []) := rfl
theorem pa_Mod_lay_144 : pr_Mod_lay[144]? = some (256, 2, .iload 8, []) := rfl
theorem pa_Mod_lay_145 : pr_Mod_lay[145]? = some (258, 1, .i2b, []) := rfl
theorem pa_Mod_lay_146 : pr_Mod_lay[146]? = some (259, 1, .bastore, [0]) := rfl
theorem pa_Mod_lay_147 : pr_Mod_lay[147]? = some (260, 3, .iinc 7 (1), [1, 0]) := rfl
theorem pa_Mod_lay_148 : pr_Mod_lay[148]? = some (263, 3, .goto (-73), [110]) := rfl
theorem pa_Mod_lay_149 : pr_Mod_lay[149]? = some (266, 1, .return_, []) := rfl
def pa_Mod_lay := And.intro pa_Mod_lay_0 (And.intro pa_Mod_lay_1 (And.intro pa_Mod_lay_2 (And.intro pa_Mod_lay_3 (And.intro pa_Mod_lay_4 (And.intro pa_Mod_lay_5 (And.intro pa_Mod_lay_6 (And.intro pa_Mod_lay_7 (And.intro pa_Mod_lay_8 (And.intro pa_Mod_lay_9 (And.intro pa_Mod_lay_10 (And.intro pa_Mod_lay_11 (And.intro pa_Mod_lay_12 (And.intro pa_Mod_lay_13 (And.intro pa_Mod_lay_14 (And.intro pa_Mod_lay_15 (And.intro pa_Mod_lay_16 (And.intro pa_Mod_lay_17 (And.intro pa_Mod_lay_18 (And.intro pa_Mod_lay_19 (And.intro pa_Mod_lay_20 (And.intro pa_Mod_lay_21 (And.intro pa_Mod_lay_22 (And.intro pa_Mod_lay_23 (And.intro pa_Mod_lay_24 (And.intro pa_Mod_lay_25 (And.intro pa_Mod_lay_26 (And.intro pa_Mod_lay_27 (And.intro pa_Mod_lay_28 (And.intro pa_Mod_lay_29 (And.intro pa_Mod_lay_30 (And.intro pa_Mod_lay_31 (And.intro pa_Mod_lay_32 (And.intro pa_Mod_lay_33 (And.intro pa_Mod_lay_34 (And.intro pa_Mod_lay_35 (And.intro pa_Mod_lay_36 (And.intro pa_Mod_lay_37 (And.intro pa_Mod_lay_38 (And.intro pa_Mod_lay_39 (And.intro pa_Mod_lay_40 (And.intro pa_Mod_lay_41 (And.intro pa_Mod_lay_42 (And.intro pa_Mod_lay_43 (And.intro pa_Mod_lay_44 (And.intro pa_Mod_lay_45 (And.intro pa_Mod_lay_46 (And.intro pa_Mod_lay_47 (And.intro pa_Mod_lay_48 (And.intro pa_Mod_lay_49 (And.intro pa_Mod_lay_50 (And.intro pa_Mod_lay_51 (And.intro pa_Mod_lay_52 (And.intro pa_Mod_lay_53 (And.intro pa_Mod_lay_54 (And.intro pa_Mod_lay_55 (And.intro pa_Mod_lay_56 (And.intro pa_Mod_lay_57 (And.intro pa_Mod_lay_58 (And.intro pa_Mod_lay_59 (And.intro pa_Mod_lay_60 (And.intro pa_Mod_lay_61 (And.intro pa_Mod_lay_62 (And.intro pa_Mod_lay_63 (And.intro pa_Mod_lay_64 (And.intro pa_Mod_lay_65 (And.intro pa_Mod_lay_66 (And.intro pa_Mod_lay_67 (And.intro pa_Mod_lay_68 (And.intro pa_Mod_lay_69 (And.intro pa_Mod_lay_70 (And.intro pa_Mod_lay_71 (And.intro pa_Mod_lay_72 (And.intro pa_Mod_lay_73 (And.intro pa_Mod_lay_74 (And.intro pa_Mod_lay_75 (And.intro pa_Mod_lay_76 (And.intro pa_Mod_lay_77 (And.intro pa_Mod_lay_78 (And.intro pa_Mod_lay_79 (And.intro pa_Mod_lay_80 (And.intro pa_Mod_lay_81 (And.intro pa_Mod_lay_82 (And.intro pa_Mod_lay_83 (And.intro pa_Mod_lay_84 (And.intro pa_Mod_lay_85 (And.intro pa_Mod_lay_86 (And.intro pa_Mod_lay_87 (And.intro pa_Mod_lay_88 (And.intro pa_Mod_lay_89 (And.intro pa_Mod_lay_90 (And.intro pa_Mod_lay_91 (And.intro pa_Mod_lay_92 (And.intro pa_Mod_lay_93 (And.intro pa_Mod_lay_94 (And.intro pa_Mod_lay_95 (And.intro pa_Mod_lay_96 (And.intro pa_Mod_lay_97 (And.intro pa_Mod_lay_98 (And.intro pa_Mod_lay_99 (And.intro pa_Mod_lay_100 (And.intro pa_Mod_lay_101 (And.intro pa_Mod_lay_102 (And.intro pa_Mod_lay_103 (And.intro pa_Mod_lay_104 (And.intro pa_Mod_lay_105 (And.intro pa_Mod_lay_106 (And.intro pa_Mod_lay_107 (And.intro pa_Mod_lay_108 (And.intro pa_Mod_lay_109 (And.intro pa_Mod_lay_110 (And.intro pa_Mod_lay_111 (And.intro pa_Mod_lay_112 (And.intro pa_Mod_lay_113 (And.intro pa_Mod_lay_114 (And.intro pa_Mod_lay_115 (And.intro pa_Mod_lay_116 (And.intro pa_Mod_lay_117 (And.intro pa_Mod_lay_118 (And.intro pa_Mod_lay_119 (And.intro pa_Mod_lay_120 (And.intro pa_Mod_lay_121 (And.intro pa_Mod_lay_122 (And.intro pa_Mod_lay_123 (And.intro pa_Mod_lay_124 (And.intro pa_Mod_lay_125 (And.intro pa_Mod_lay_126 (And.intro pa_Mod_lay_127 (And.intro pa_Mod_lay_128 (And.intro pa_Mod_lay_129 (And.intro pa_Mod_lay_130 (And.intro pa_Mod_lay_131 (And.intro pa_Mod_lay_132 (And.intro pa_Mod_lay_133 (And.intro pa_Mod_lay_134 (And.intro pa_Mod_lay_135 (And.intro pa_Mod_lay_136 (And.intro pa_Mod_lay_137 (And.intro pa_Mod_lay_138 (And.intro pa_Mod_lay_139 (And.intro pa_Mod_lay_140 (And.intro pa_Mod_lay_141 (And.intro pa_Mod_lay_142 (And.intro pa_Mod_lay_143 (And.intro pa_Mod_lay_144 (And.intro pa_Mod_lay_145 (And.intro pa_Mod_lay_146 (And.intro pa_Mod_lay_147 (And.intro pa_Mod_lay_148 (pa_Mod_lay_149)))))))))))))))))))))))))))))))))))))))))))))))))))))))))))))))))))))))))))))))))))))))))))))))))))))))))))))))))))))))))))))))))))))))))))))))))))))
end
section
/-! the methods as tables -/
def pr_Mod_letter : List ma_E := [(0, 1, .aload_n 0, []),
  (1, 1, .iconst 0, [0, 0]),
  (2, 3, .putfield 66, [7, 0, 0, 0, 620]),
  (5, 1, .iload_n 1, []),
  (6, 1, .iconst 0, [0, 0]),
  (7, 1, .aload_n 0, []),
  (8, 3, .getfield 94, [7, 2, 0, 0, 622]),
  (11, 1, .iconst 1, [1, 0]),
  (12, 1, .isub, []),
  (13, 3, .invokestatic 74, [29, 3, 0, 700, 701, 47]),
  (16, 3, .ifCond .eq (27), [25]),
  (19, 1, .iload_n 2, []),
  (20, 1, .iconst 0, [0, 0]),
  (21, 2, .bipush 44, [44, 0]),
  (23, 3, .invokestatic 74, [29, 3, 0, 700, 701, 47]),
  (26, 3, .ifCond .eq (17), [25]),
  (29, 1, .aload_n 0, []),
  (30, 3, .getfield 13, [7, 3, 2, 0, 623]),
  (33, 2, .bipush 45, [45, 0]),
  (35, 1, .iload_n 1, []),
  (36, 1, .imul, []),
  (37, 1, .iload_n 2, []),
  (38, 1, .iadd, []),
  (39, 1, .baload, [0]),
  (40, 3, .goto (4), [26]),
  (43, 1, .iconst (-1), [1, 1]),
  (44, 1, .ireturn, [0])]
theorem po_Mod_letter : ma_ok me_Mod_letter pr_Mod_letter := ma_ok_of (by decide +kernel)
theorem pa_Mod_letter_0 : pr_Mod_letter[0]? = some (0, 1, .aload_n 0, []) := rfl
theorem pa_Mod_letter_1 : pr_Mod_letter[1]? = some (1, 1, .iconst 0, [0, 0]) := rfl
theorem pa_Mod_letter_2 : pr_Mod_letter[2]? = some (2, 3, .putfield 66, [7, 0, 0, 0, 620]) := rfl
theorem pa_Mod_letter_3 : pr_Mod_letter[3]? = some (5, 1, .iload_n 1, []) := rfl
theorem pa_Mod_letter_4 : pr_Mod_letter[4]? = some (6, 1, .iconst 0, [0, 0]) := rfl
theorem pa_Mod_letter_5 : pr_Mod_letter[5]? = some (7, 1, .aload_n 0, []) := rfl
theorem pa_Mod_letter_6 : pr_Mod_letter[6]? = some (8, 3, .getfield 94, [7, 2, 0, 0, 622]) := rfl
theorem pa_Mod_letter_7 : pr_Mod_letter[7]? = some (11, 1, .iconst 1, [1, 0]) := rfl
theorem pa_Mod_letter_8 : pr_Mod_letter[8]? = some (12, 1, .isub, []) := rfl
theorem pa_Mod_letter_9 : pr_Mod_letter[9]? = some (13, 3, .invokestatic 74, [29, 3, 0, 700, 701, 47]) := rfl
theorem pa_Mod_letter_10 : pr_Mod_letter[10]? = some (16, 3, .ifCond .eq (27), [25]) := rfl
theorem pa_Mod_letter_11 : pr_Mod_letter[11]? = some (19, 1, .iload_n 2, []) := rfl
theorem pa_Mod_letter_12 : pr_Mod_letter[12]? = some (20, 1, .iconst 0, [0, 0]) := rfl
theorem pa_Mod_letter_13 : pr_Mod_letter[13]? = some (21, 2, .bipush 44, [44, 0]) := rfl
theorem pa_Mod_letter_14 : pr_Mod_letter[14]? = some (23, 3, .invokestatic 74, [29, 3, 0, 700, 701, 47]) := rfl
theorem pa_Mod_letter_15 : pr_Mod_letter[15]? = some (26, 3, .ifCond .eq (17), [25]) := rfl
theorem pa_Mod_letter_16 : pr_Mod_letter[16]? = some (29, 1, .aload_n 0, []) := rfl
theorem pa_Mod_letter_17 : pr_Mod_letter[17]? = some (30, 3, .getfield 13, [7, 3, 2, 0, 623]) := rfl
theorem pa_Mod_letter_18 : pr_Mod_letter[18]? = some (33, 2, .bipush 45, [45, 0]) := rfl
theorem pa_Mod_letter_19 : pr_Mod_letter[19]? = some (35, 1, .iload_n 1, []) := rfl
theorem pa_Mod_letter_20 : pr_Mod_letter[20]? = some (36, 1, .imul, []) := rfl
theorem pa_Mod_letter_21 : pr_Mod_letter[21]? = some (37, 1, .iload_n 2, []) := rfl
theorem pa_Mod_letter_22 : pr_Mod_letter[22]? = some (38, 1, .iadd, []) := rfl
theorem pa_Mod_letter_23 : pr_Mod_letter[23]? = some (39, 1, .baload, [0]) := rfl
theorem pa_Mod_letter_24 : pr_Mod_letter[24]? = some (40, 3, .goto (4), [26]) := rfl
theorem pa_Mod_letter_25 : pr_Mod_letter[25]? = some (43, 1, .iconst (-1), [1, 1]) := rfl
theorem pa_Mod_letter_26 : pr_Mod_letter[26]? = some (44, 1, .ireturn, [0]) := rfl
def pa_Mod_letter := And.intro pa_Mod_letter_0 (And.intro pa_Mod_letter_1 (And.intro pa_Mod_letter_2 (And.intro pa_Mod_letter_3 (And.intro pa_Mod_letter_4 (And.intro pa_Mod_letter_5 (And.intro pa_Mod_letter_6 (And.intro pa_Mod_letter_7 (And.intro pa_Mod_letter_8 (And.intro pa_Mod_letter_9 (And.intro pa_Mod_letter_10 (And.intro pa_Mod_letter_11 (And.intro pa_Mod_letter_12 (And.intro pa_Mod_letter_13 (And.intro pa_Mod_letter_14 (And.intro pa_Mod_letter_15 (And.intro pa_Mod_letter_16 (And.intro pa_Mod_letter_17 (And.intro pa_Mod_letter_18 (And.intro pa_Mod_letter_19 (And.intro pa_Mod_letter_20 (And.intro pa_Mod_letter_21 (And.intro pa_Mod_letter_22 (And.intro pa_Mod_letter_23 (And.intro pa_Mod_letter_24 (And.intro pa_Mod_letter_25 (pa_Mod_letter_26))))))))))))))))))))))))))
def pr_Mod_load : List ma_E := [(0, 1, .aload_n 0, []),
  (1, 1, .iconst 0, [0, 0]),
  (2, 3, .putfield 66, [7, 0, 0, 0, 620]),
  (5, 1, .iload_n 1, []),
  (6, 1, .iconst 0, [0, 0]),
  (7, 3, .sipush 159, [159, 0]),
  (10, 3, .invokestatic 74, [29, 3, 0, 700, 701, 47]),
  (13, 3, .ifCond .ne (5), [10]),
  (16, 1, .iconst 0, [0, 0]),
  (17, 1, .ireturn, [1]),
  (18, 1, .aload_n 0, []),
  (19, 3, .getfield 7, [7, 1, 2, 0, 621]),
  (22, 1, .iload_n 1, []),
  (23, 1, .iload_n 2, []),
  (24, 3, .sipush 255, [255, 0]),
  (27, 1, .iand, []),
  (28, 1, .iastore, []),
  (29, 1, .iconst 1, [1, 0]),
  (30, 1, .ireturn, [1])]
theorem po_Mod_load : ma_ok me_Mod_load pr_Mod_load := ma_ok_of (by decide +kernel)
theorem pa_Mod_load_0 : pr_Mod_load[0]? = some (0, 1, .aload_n 0, []) := rfl
theorem pa_Mod_load_1 : pr_Mod_load[1]? = some (1, 1, .iconst 0, [0, 0]) := rfl
theorem pa_Mod_load_2 : pr_Mod_load[2]? = some (2, 3, .putfield 66, [7, 0, 0, 0, 620]) := rfl
theorem pa_Mod_load_3 : pr_Mod_load[3]? = some (5, 1, .iload_n 1, []) := rfl
theorem pa_Mod_load_4 : pr_Mod_load[4]? = some (6, 1, .iconst 0, [0, 0]) := rfl
theorem pa_Mod_load_5 : pr_Mod_load[5]? = some (7, 3, .sipush 159, [159, 0]) := rfl
theorem pa_Mod_load_6 : pr_Mod_load[6]? = some (10, 3, .invokestatic 74, [29, 3, 0, 700, 701, 47]) := rfl
theorem pa_Mod_load_7 : pr_Mod_load[7]? = some (13, 3, .ifCond .ne (5), [10]) := rfl
theorem pa_Mod_load_8 : pr_Mod_load[8]? = some (16, 1, .iconst 0, [0, 0]) := rfl
theorem pa_Mod_load_9 : pr_Mod_load[9]? = some (17, 1, .ireturn, [1]) := rfl
theorem pa_Mod_load_10 : pr_Mod_load[10]? = some (18, 1, .aload_n 0, []) := rfl
theorem pa_Mod_load_11 : pr_Mod_load[11]? = some (19, 3, .getfield 7, [7, 1, 2, 0, 621]) := rfl
theorem pa_Mod_load_12 : pr_Mod_load[12]? = some (22, 1, .iload_n 1, []) := rfl
theorem pa_Mod_load_13 : pr_Mod_load[13]? = some (23, 1, .iload_n 2, []) := rfl
theorem pa_Mod_load_14 : pr_Mod_load[14]? = some (24, 3, .sipush 255, [255, 0]) := rfl
theorem pa_Mod_load_15 : pr_Mod_load[15]? = some (27, 1, .iand, []) := rfl
theorem pa_Mod_load_16 : pr_Mod_load[16]? = some (28, 1, .iastore, []) := rfl
theorem pa_Mod_load_17 : pr_Mod_load[17]? = some (29, 1, .iconst 1, [1, 0]) := rfl
theorem pa_Mod_load_18 : pr_Mod_load[18]? = some (30, 1, .ireturn, [1]) := rfl
def pa_Mod_load := And.intro pa_Mod_load_0 (And.intro pa_Mod_load_1 (And.intro pa_Mod_load_2 (And.intro pa_Mod_load_3 (And.intro pa_Mod_load_4 (And.intro pa_Mod_load_5 (And.intro pa_Mod_load_6 (And.intro pa_Mod_load_7 (And.intro pa_Mod_load_8 (And.intro pa_Mod_load_9 (And.intro pa_Mod_load_10 (And.intro pa_Mod_load_11 (And.intro pa_Mod_load_12 (And.intro pa_Mod_load_13 (And.intro pa_Mod_load_14 (And.intro pa_Mod_load_15 (And.intro pa_Mod_load_16 (And.intro pa_Mod_load_17 (pa_Mod_load_18))))))))))))))))))
def pr_Mod_out : List ma_E := [(0, 1, .aload_n 0, []),
  (1, 1, .iload_n 1, []),
  (2, 1, .iconst 0, [0, 0]),
  (3, 1, .aload_n 0, []),
  (4, 3, .getfield 121, [7, 7, 0, 0, 627]),
  (7, 1, .iconst 1, [1, 0]),
  (8, 1, .isub, []),
  (9, 3, .invokestatic 74, [29, 3, 0, 700, 701, 47]),
  (12, 3, .ifCond .eq (7), [11]),
  (15, 1, .iconst 0, [0, 0]),
  (16, 3, .goto (4), [12]),
  (19, 1, .iconst 1, [1, 0]),
  (20, 3, .putfield 66, [7, 0, 0, 0, 620]),
  (23, 1, .aload_n 0, []),
  (24, 3, .getfield 66, [7, 0, 0, 0, 620]),
  (27, 1, .iconst 1, [1, 0]),
  (28, 3, .if_icmp .ne (7), [19]),
  (31, 1, .iconst 0, [0, 0]),
  (32, 3, .goto (9), [23]),
  (35, 1, .aload_n 0, []),
  (36, 3, .getfield 23, [7, 10, 2, 0, 630]),
  (39, 1, .iload_n 1, []),
  (40, 1, .iaload, []),
  (41, 1, .ireturn, [0])]
theorem po_Mod_out : ma_ok me_Mod_out pr_Mod_out := ma_ok_of (by decide +kernel)
theorem pa_Mod_out_0 : pr_Mod_out[0]? = some (0, 1, .aload_n 0, []) := rfl
theorem pa_Mod_out_1 : pr_Mod_out[1]? = some (1, 1, .iload_n 1, []) := rfl
theorem pa_Mod_out_2 : pr_Mod_out[2]? = some (2, 1, .iconst 0, [0, 0]) := rfl
theorem pa_Mod_out_3 : pr_Mod_out[3]? = some (3, 1, .aload_n 0, []) := rfl
theorem pa_Mod_out_4 : pr_Mod_out[4]? = some (4, 3, .getfield 121, [7, 7, 0, 0, 627]) := rfl
theorem pa_Mod_out_5 : pr_Mod_out[5]? = some (7, 1, .iconst 1, [1, 0]) := rfl
theorem pa_Mod_out_6 : pr_Mod_out[6]? = some (8, 1, .isub, []) := rfl
theorem pa_Mod_out_7 : pr_Mod_out[7]? = some (9, 3, .invokestatic 74, [29, 3, 0, 700, 701, 47]) := rfl
theorem pa_Mod_out_8 : pr_Mod_out[8]? = some (12, 3, .ifCond .eq (7), [11]) := rfl
theorem pa_Mod_out_9 : pr_Mod_out[9]? = some (15, 1, .iconst 0, [0, 0]) := rfl
theorem pa_Mod_out_10 : pr_Mod_out[10]? = some (16, 3, .goto (4), [12]) := rfl
theorem pa_Mod_out_11 : pr_Mod_out[11]? = some (19, 1, .iconst 1, [1, 0]) := rfl
theorem pa_Mod_out_12 : pr_Mod_out[12]? = some (20, 3, .putfield 66, [7, 0, 0, 0, 620]) := rfl
theorem pa_Mod_out_13 : pr_Mod_out[13]? = some (23, 1, .aload_n 0, []) := rfl
theorem pa_Mod_out_14 : pr_Mod_out[14]? = some (24, 3, .getfield 66, [7, 0, 0, 0, 620]) := rfl
theorem pa_Mod_out_15 : pr_Mod_out[15]? = some (27, 1, .iconst 1, [1, 0]) := rfl
theorem pa_Mod_out_16 : pr_Mod_out[16]? = some (28, 3, .if_icmp .ne (7), [19]) := rfl
theorem pa_Mod_out_17 : pr_Mod_out[17]? = some (31, 1, .iconst 0, [0, 0]) := rfl
theorem pa_Mod_out_18 : pr_Mod_out[18]? = some (32, 3, .goto (9), [23]) := rfl
theorem pa_Mod_out_19 : pr_Mod_out[19]? = some (35, 1, .aload_n 0, []) := rfl
theorem pa_Mod_out_20 : pr_Mod_out[20]? = some (36, 3, .getfield 23, [7, 10, 2, 0, 630]) := rfl
theorem pa_Mod_out_21 : pr_Mod_out[21]? = some (39, 1, .iload_n 1, []) := rfl
theorem pa_Mod_out_22 : pr_Mod_out[22]? = some (40, 1, .iaload, []) := rfl
theorem pa_Mod_out_23 : pr_Mod_out[23]? = some (41, 1, .ireturn, [0]) := rfl
def pa_Mod_out := And.intro pa_Mod_out_0 (And.intro pa_Mod_out_1 (And.intro pa_Mod_out_2 (And.intro pa_Mod_out_3 (And.intro pa_Mod_out_4 (And.intro pa_Mod_out_5 (And.intro pa_Mod_out_6 (And.intro pa_Mod_out_7 (And.intro pa_Mod_out_8 (And.intro pa_Mod_out_9 (And.intro pa_Mod_out_10 (And.intro pa_Mod_out_11 (And.intro pa_Mod_out_12 (And.intro pa_Mod_out_13 (And.intro pa_Mod_out_14 (And.intro pa_Mod_out_15 (And.intro pa_Mod_out_16 (And.intro pa_Mod_out_17 (And.intro pa_Mod_out_18 (And.intro pa_Mod_out_19 (And.intro pa_Mod_out_20 (And.intro pa_Mod_out_21 (And.intro pa_Mod_out_22 (pa_Mod_out_23)))))))))))))))))))))))
def pr_Mod_power : List ma_E := [(0, 1, .iconst 1, [1, 0]),
  (1, 1, .istore_n 1, []),
  (2, 1, .iconst 0, [0, 0]),
  (3, 1, .istore_n 2, []),
  (4, 1, .iload_n 2, []),
  (5, 1, .iload_n 0, []),
  (6, 3, .if_icmp .ge (15), [13]),
  (9, 1, .iload_n 1, []),
  (10, 1, .iconst 2, [2, 0]),
  (11, 3, .invokestatic 70, [36, 2, 0, 614, 615, 47]),
  (14, 1, .istore_n 1, []),
  (15, 3, .iinc 2 (1), [1, 0]),
  (18, 3, .goto (-14), [4]),
  (21, 1, .iload_n 1, []),
  (22, 1, .ireturn, [0])]
theorem po_Mod_power : ma_ok me_Mod_power pr_Mod_power := ma_ok_of (by decide +kernel)
theorem pa_Mod_power_0 : pr_Mod_power[0]? = some (0, 1, .iconst 1, [1, 0]) := rfl
theorem pa_Mod_power_1 : pr_Mod_power[1]? = some (1, 1, .istore_n 1, []) := rfl
theorem pa_Mod_power_2 : pr_Mod_power[2]? = some (2, 1, .iconst 0, [0, 0]) := rfl
theorem pa_Mod_power_3 : pr_Mod_power[3]? = some (3, 1, .istore_n 2, []) := rfl
theorem pa_Mod_power_4 : pr_Mod_power[4]? = some (4, 1, .iload_n 2, []) := rfl
theorem pa_Mod_power_5 : pr_Mod_power[5]? = some (5, 1, .iload_n 0, []) := rfl
theorem pa_Mod_power_6 : pr_Mod_power[6]? = some (6, 3, .if_icmp .ge (15), [13]) := rfl
theorem pa_Mod_power_7 : pr_Mod_power[7]? = some (9, 1, .iload_n 1, []) := rfl
theorem pa_Mod_power_8 : pr_Mod_power[8]? = some (10, 1, .iconst 2, [2, 0]) := rfl
theorem pa_Mod_power_9 : pr_Mod_power[9]? = some (11, 3, .invokestatic 70, [36, 2, 0, 614, 615, 47]) := rfl
theorem pa_Mod_power_10 : pr_Mod_power[10]? = some (14, 1, .istore_n 1, []) := rfl
theorem pa_Mod_power_11 : pr_Mod_power[11]? = some (15, 3, .iinc 2 (1), [1, 0]) := rfl
theorem pa_Mod_power_12 : pr_Mod_power[12]? = some (18, 3, .goto (-14), [4]) := rfl
theorem pa_Mod_power_13 : pr_Mod_power[13]? = some (21, 1, .iload_n 1, []) := rfl
theorem pa_Mod_power_14 : pr_Mod_power[14]? = some (22, 1, .ireturn, [0]) := rfl
def pa_Mod_power := And.intro pa_Mod_power_0 (And.intro pa_Mod_power_1 (And.intro pa_Mod_power_2 (And.intro pa_Mod_power_3 (And.intro pa_Mod_power_4 (And.intro pa_Mod_power_5 (And.intro pa_Mod_power_6 (And.intro pa_Mod_power_7 (And.intro pa_Mod_power_8 (And.intro pa_Mod_power_9 (And.intro pa_Mod_power_10 (And.intro pa_Mod_power_11 (And.intro pa_Mod_power_12 (And.intro pa_Mod_power_13 (pa_Mod_power_14))))))))))))))
def pr_Mod_product : List ma_E := [(0, 1, .aload_n 0, []),
  (1, 1, .iconst 0, [0, 0]),
  (2, 3, .putfield 66, [7, 0, 0, 0, 620]),
  (5, 1, .iload_n 1, []),
  (6, 3, .sipush 255, [255, 0]),
  (9, 1, .iand, []),
  (10, 1, .iload_n 2, []),
  (11, 3, .sipush 255, [255, 0]),
  (14, 1, .iand, []),
  (15, 3, .invokestatic 70, [36, 2, 0, 614, 615, 47]),
  (18, 1, .ireturn, [0])]
theorem po_Mod_product : ma_ok me_Mod_product pr_Mod_product := ma_ok_of (by decide +kernel)
theorem pa_Mod_product_0 : pr_Mod_product[0]? = some (0, 1, .aload_n 0, []) := rfl
theorem pa_Mod_product_1 : pr_Mod_product[1]? = some (1, 1, .iconst 0, [0, 0]) := rfl
theorem pa_Mod_product_2 : pr_Mod_product[2]? = some (2, 3, .putfield 66, [7, 0, 0, 0, 620]) := rfl
theorem pa_Mod_product_3 : pr_Mod_product[3]? = some (5, 1, .iload_n 1, []) := rfl
theorem pa_Mod_product_4 : pr_Mod_product[4]? = some (6, 3, .sipush 255, [255, 0]) := rfl
theorem pa_Mod_product_5 : pr_Mod_product[5]? = some (9, 1, .iand, []) := rfl
theorem pa_Mod_product_6 : pr_Mod_product[6]? = some (10, 1, .iload_n 2, []) := rfl
theorem pa_Mod_product_7 : pr_Mod_product[7]? = some (11, 3, .sipush 255, [255, 0]) := rfl
theorem pa_Mod_product_8 : pr_Mod_product[8]? = some (14, 1, .iand, []) := rfl
theorem pa_Mod_product_9 : pr_Mod_product[9]? = some (15, 3, .invokestatic 70, [36, 2, 0, 614, 615, 47]) := rfl
theorem pa_Mod_product_10 : pr_Mod_product[10]? = some (18, 1, .ireturn, [0]) := rfl
def pa_Mod_product := And.intro pa_Mod_product_0 (And.intro pa_Mod_product_1 (And.intro pa_Mod_product_2 (And.intro pa_Mod_product_3 (And.intro pa_Mod_product_4 (And.intro pa_Mod_product_5 (And.intro pa_Mod_product_6 (And.intro pa_Mod_product_7 (And.intro pa_Mod_product_8 (And.intro pa_Mod_product_9 (pa_Mod_product_10))))))))))
def pr_Mod_slot : List ma_E := [(0, 1, .iconst 0, [0, 0]),
  (1, 1, .istore_n 2, []),
  (2, 1, .iload_n 2, []),
  (3, 2, .bipush 33, [33, 0]),
  (5, 3, .if_icmp .ge (36), [24]),
  (8, 1, .aload_n 0, []),
  (9, 3, .getfield 32, [7, 13, 2, 0, 633]),
  (12, 1, .iload_n 2, []),
  (13, 1, .iaload, []),
  (14, 1, .iload_n 2, []),
  (15, 3, .ifCond .ne (7), [13]),
  (18, 1, .iconst 3, [3, 0]),
  (19, 3, .goto (11), [19]),
  (22, 1, .aload_n 0, []),
  (23, 3, .getfield 32, [7, 13, 2, 0, 633]),
  (26, 1, .iload_n 2, []),
  (27, 1, .iconst 1, [1, 0]),
  (28, 1, .isub, []),
  (29, 1, .iaload, []),
  (30, 3, .if_icmp .ne (5), [22]),
  (33, 1, .iconst (-1), [1, 1]),
  (34, 1, .ireturn, [0]),
  (35, 3, .iinc 2 (1), [1, 0]),
  (38, 3, .goto (-36), [2]),
  (41, 1, .iconst 0, [0, 0]),
  (42, 1, .istore_n 2, []),
  (43, 1, .iload_n 2, []),
  (44, 1, .iconst 3, [3, 0]),
  (45, 3, .if_icmp .ge (21), [38]),
  (48, 1, .aload_n 0, []),
  (49, 1, .iload_n 2, []),
  (50, 3, .invokevirtual 117, [27, 1, 7, 0, 781, 783, 36, 47]),
  (53, 2, .ldc 120, [65535, 0, 785]),
  (55, 3, .if_icmp .le (5), [36]),
  (58, 1, .iconst (-1), [1, 1]),
  (59, 1, .ireturn, [0]),
  (60, 3, .iinc 2 (1), [1, 0]),
  (63, 3, .goto (-20), [26]),
  (66, 1, .aload_n 0, []),
  (67, 1, .iconst 0, [0, 0]),
  (68, 3, .invokevirtual 117, [27, 1, 7, 0, 781, 783, 36, 47]),
  (71, 1, .istore_n 2, []),
  (72, 1, .iload_n 2, []),
  (73, 3, .sipush 256, [256, 0]),
  (76, 1, .idiv, []),
  (77, 1, .iload_n 1, []),
  (78, 3, .if_icmp .ge (30), [62]),
  (81, 1, .iload_n 2, []),
  (82, 3, .sipush 256, [256, 0]),
  (85, 1, .irem, []),
  (86, 2, .bipush 16, [16, 0]),
  (88, 3, .if_icmp .ge (20), [62]),
  (91, 2, .bipush 16, [16, 0]),
  (93, 1, .iload_n 2, []),
  (94, 3, .sipush 256, [256, 0]),
  (97, 1, .idiv, []),
  (98, 1, .imul, []),
  (99, 1, .iload_n 2, []),
  (100, 3, .sipush 256, [256, 0]),
  (103, 1, .irem, []),
  (104, 1, .iadd, []),
  (105, 3, .goto (4), [63]),
  (108, 1, .iconst (-1), [1, 1]),
  (109, 1, .ireturn, [0])]
theorem po_Mod_slot : ma_ok me_Mod_slot pr_Mod_slot := ma_ok_of (by decide +kernel)
theorem pa_Mod_slot_0 : pr_Mod_slot[0]? = some (0, 1, .iconst 0, [0, 0]) := rfl
theorem pa_Mod_slot_1 : pr_Mod_slot[1]? = some (1, 1, .istore_n 2, []) := rfl
theorem pa_Mod_slot_2 : pr_Mod_slot[2]? = some (2, 1, .iload_n 2, []) := rfl
theorem pa_Mod_slot_3 : pr_Mod_slot[3]? = some (3, 2, .bipush 33, [33, 0]) := rfl
theorem pa_Mod_slot_4 : pr_Mod_slot[4]? = some (5, 3, .if_icmp .ge (36), [24]) := rfl
theorem pa_Mod_slot_5 : pr_Mod_slot[5]? = some (8, 1, .aload_n 0, []) := rfl
theorem pa_Mod_slot_6 : pr_Mod_slot[6]? = some (9, 3, .getfield 32, [7, 13, 2, 0, 633]) := rfl
theorem pa_Mod_slot_7 : pr_Mod_slot[7]? = some (12, 1, .iload_n 2, []) := rfl
theorem pa_Mod_slot_8 : pr_Mod_slot[8]? = some (13, 1, .iaload, []) := rfl
theorem pa_Mod_slot_9 : pr_Mod_slot[9]? = some (14, 1, .iload_n 2, []) := rfl
theorem pa_Mod_slot_10 : pr_Mod_slot[10]? = some (15, 3, .ifCond .ne (7), [13]) := rfl
theorem pa_Mod_slot_11 : pr_Mod_slot[11]? = some (18, 1, .iconst 3, [3, 0]) := rfl
theorem pa_Mod_slot_12 : pr_Mod_slot[12]? = some (19, 3, .goto (11), [19]) := rfl
theorem pa_Mod_slot_13 : pr_Mod_slot[13]? = some (22, 1, .aload_n 0, []) := rfl
theorem pa_Mod_slot_14 : pr_Mod_slot[14]? = some (23, 3, .getfield 32, [7, 13, 2, 0, 633]) := rfl
theorem pa_Mod_slot_15 : pr_Mod_slot[15]? = some (26, 1, .iload_n 2, []) := rfl
theorem pa_Mod_slot_16 : pr_Mod_slot[16]? = some (27, 1, .iconst 1, [1, 0]) := rfl
theorem pa_Mod_slot_17 : pr_Mod_slot[17]? = some (28, 1, .isub, []) := rfl
theorem pa_Mod_slot_18 : pr_Mod_slot[18]? = some (29, 1, .iaload, []) := rfl
theorem pa_Mod_slot_19 : pr_Mod_slot[19]? = some (30, 3, .if_icmp .ne (5), [22]) := rfl
theorem pa_Mod_slot_20 : pr_Mod_slot[20]? = some (33, 1, .iconst (-1), [1, 1]) := rfl
theorem pa_Mod_slot_21 : pr_Mod_slot[21]? = some (34, 1, .ireturn, [0]) := rfl
theorem pa_Mod_slot_22 : pr_Mod_slot[22]? = some (35, 3, .iinc 2 (1), [1, 0]) := rfl
theorem pa_Mod_slot_23 : pr_Mod_slot[23]? = some (38, 3, .goto (-36), [2]) := rfl
theorem pa_Mod_slot_24 : pr_Mod_slot[24]? = some (41, 1, .iconst 0, [0, 0]) := rfl
theorem pa_Mod_slot_25 : pr_Mod_slot[25]? = some (42, 1, .istore_n 2, []) := rfl
theorem pa_Mod_slot_26 : pr_Mod_slot[26]? = some (43, 1, .iload_n 2, []) := rfl
theorem pa_Mod_slot_27 : pr_Mod_slot[27]? = some (44, 1, .iconst 3, [3, 0]) := rfl
theorem pa_Mod_slot_28 : pr_Mod_slot[28]? = some (45, 3, .if_icmp .ge (21), [38]) := rfl
theorem pa_Mod_slot_29 : pr_Mod_slot[29]? = some (48, 1, .aload_n 0, []) := rfl
theorem pa_Mod_slot_30 : pr_Mod_slot[30]? = some (49, 1, .iload_n 2, []) := rfl
theorem pa_Mod_slot_31 : pr_Mod_slot[31]? = some (50, 3, .invokevirtual 117, [27, 1, 7, 0, 781, 783, 36, 47]) := rfl
theorem pa_Mod_slot_32 : pr_Mod_slot[32]? = some (53, 2, .ldc 120, [65535, 0, 785]) := rfl
theorem pa_Mod_slot_33 : pr_Mod_slot[33]? = some (55, 3, .if_icmp .le (5), [36]) := rfl
theorem pa_Mod_slot_34 : pr_Mod_slot[34]? = some (58, 1, .iconst (-1), [1, 1]) := rfl
theorem pa_Mod_slot_35 : pr_Mod_slot[35]? = some (59, 1, .ireturn, [0]) := rfl
theorem pa_Mod_slot_36 : pr_Mod_slot[36]? = some (60, 3, .iinc 2 (1), [1, 0]) := rfl
theorem pa_Mod_slot_37 : pr_Mod_slot[37]? = some (63, 3, .goto (-20), [26]) := rfl
theorem pa_Mod_slot_38 : pr_Mod_slot[38]? = some (66, 1, .aload_n 0, []) := rfl
theorem pa_Mod_slot_39 : pr_Mod_slot[39]? = some (67, 1, .iconst 0, [0, 0]) := rfl
theorem pa_Mod_slot_40 : pr_Mod_slot[40]? = some (68, 3, .invokevirtual 117, [27, 1, 7, 0, 781, 783, 36, 47]) := rfl
theorem pa_Mod_slot_41 : pr_Mod_slot[41]? = some (71, 1, .istore_n 2, []) := rfl
theorem pa_Mod_slot_42 : pr_Mod_slot[42]? = some (72, 1, .iload_n 2, []) := rfl
theorem pa_Mod_slot_43 : pr_Mod_slot[43]? = some (73, 3, .sipush 256, [256, 0]) := rfl
theorem pa_Mod_slot_44 : pr_Mod_slot[44]? = some (76, 1, .idiv, []) := rfl
theorem pa_Mod_slot_45 : pr_Mod_slot[45]? = some (77, 1, .iload_n 1, []) := rfl
theorem pa_Mod_slot_46 : pr_Mod_slot[46]? = some (78, 3, .if_icmp .ge (30), [62]) := rfl
theorem pa_Mod_slot_47 : pr_Mod_slot[47]? = some (81, 1, .iload_n 2, []) := rfl
theorem pa_Mod_slot_48 : pr_Mod_slot[48]? = some (82, 3, .sipush 256, [256, 0]) := rfl
theorem pa_Mod_slot_49 : pr_Mod_slot[49]? = some (85, 1, .irem, []) := rfl
theorem pa_Mod_slot_50 : pr_Mod_slot[50]? = some (86, 2, .bipush 16, [16, 0]) := rfl
theorem pa_Mod_slot_51 : pr_Mod_slot[51]? = some (88, 3, .if_icmp .ge (20), [62]) := rfl
theorem pa_Mod_slot_52 : pr_Mod_slot[52]? = some (91, 2, .bipush 16, [16, 0]) := rfl
theorem pa_Mod_slot_53 : pr_Mod_slot[53]? = some (93, 1, .iload_n 2, []) := rfl
theorem pa_Mod_slot_54 : pr_Mod_slot[54]? = some (94, 3, .sipush 256, [256, 0]) := rfl
theorem pa_Mod_slot_55 : pr_Mod_slot[55]? = some (97, 1, .idiv, []) := rfl
theorem pa_Mod_slot_56 : pr_Mod_slot[56]? = some (98, 1, .imul, []) := rfl
theorem pa_Mod_slot_57 : pr_Mod_slot[57]? = some (99, 1, .iload_n 2, []) := rfl
theorem pa_Mod_slot_58 : pr_Mod_slot[58]? = some (100, 3, .sipush 256, [256, 0]) := rfl
theorem pa_Mod_slot_59 : pr_Mod_slot[59]? = some (103, 1, .irem, []) := rfl
theorem pa_Mod_slot_60 : pr_Mod_slot[60]? = some (104, 1, .iadd, []) := rfl
theorem pa_Mod_slot_61 : pr_Mod_slot[61]? = some (105, 3, .goto (4), [63]) := rfl
theorem pa_Mod_slot_62 : pr_Mod_slot[62]? = some (108, 1, .iconst (-1), [1, 1]) := rfl
theorem pa_Mod_slot_63 : pr_Mod_slot[63]? = some (109, 1, .ireturn, [0]) := rfl
def pa_Mod_slot := And.intro pa_Mod_slot_0 (And.intro pa_Mod_slot_1 (And.intro pa_Mod_slot_2 (And.intro pa_Mod_slot_3 (And.intro pa_Mod_slot_4 (And.intro pa_Mod_slot_5 (And.intro pa_Mod_slot_6 (And.intro pa_Mod_slot_7 (And.intro pa_Mod_slot_8 (And.intro pa_Mod_slot_9 (And.intro pa_Mod_slot_10 (And.intro pa_Mod_slot_11 (And.intro pa_Mod_slot_12 (And.intro pa_Mod_slot_13 (And.intro pa_Mod_slot_14 (And.intro pa_Mod_slot_15 (And.intro pa_Mod_slot_16 (And.intro pa_Mod_slot_17 (And.intro pa_Mod_slot_18 (And.intro pa_Mod_slot_19 (And.intro pa_Mod_slot_20 (And.intro pa_Mod_slot_21 (And.intro pa_Mod_slot_22 (And.intro pa_Mod_slot_23 (And.intro pa_Mod_slot_24 (And.intro pa_Mod_slot_25 (And.intro pa_Mod_slot_26 (And.intro pa_Mod_slot_27 (And.intro pa_Mod_slot_28 (And.intro pa_Mod_slot_29 (And.intro pa_Mod_slot_30 (And.intro pa_Mod_slot_31 (And.intro pa_Mod_slot_32 (And.intro pa_Mod_slot_33 (And.intro pa_Mod_slot_34 (And.intro pa_Mod_slot_35 (And.intro pa_Mod_slot_36 (And.intro pa_Mod_slot_37 (And.intro pa_Mod_slot_38 (And.intro pa_Mod_slot_39 (And.intro pa_Mod_slot_40 (And.intro pa_Mod_slot_41 (And.intro pa_Mod_slot_42 (And.intro pa_Mod_slot_43 (And.intro pa_Mod_slot_44 (And.intro pa_Mod_slot_45 (And.intro pa_Mod_slot_46 (And.intro pa_Mod_slot_47 (And.intro pa_Mod_slot_48 (And.intro pa_Mod_slot_49 (And.intro pa_Mod_slot_50 (And.intro pa_Mod_slot_51 (And.intro pa_Mod_slot_52 (And.intro pa_Mod_slot_53 (And.intro pa_Mod_slot_54 (And.intro pa_Mod_slot_55 (And.intro pa_Mod_slot_56 (And.intro pa_Mod_slot_57 (And.intro pa_Mod_slot_58 (And.intro pa_Mod_slot_59 (And.intro pa_Mod_slot_60 (And.intro pa_Mod_slot_61 (And.intro pa_Mod_slot_62 (pa_Mod_slot_63)))))))))))))))))))))))))))))))))))))))))))))))))))))))))))))))
def pr_Mod_solved : List ma_E := [(0, 1, .iconst 0, [0, 0]),
  (1, 1, .istore_n 2, []),
  (2, 1, .iload_n 2, []),
  (3, 2, .bipush 6, [6, 0]),
  (5, 3, .if_icmp .ge (132), [79]),
  (8, 1, .iconst 0, [0, 0]),
  (9, 1, .istore_n 3, []),
  (10, 1, .iconst 0, [0, 0]),
  (11, 2, .istore 4, []),
  (13, 2, .iload 4, []),
  (15, 2, .bipush 16, [16, 0]),
  (17, 3, .if_icmp .ge (31), [28]),
  (20, 1, .iload_n 3, []),
  (21, 1, .aload_n 0, []),
  (22, 3, .getfield 44, [7, 17, 2, 0, 637]),
  (25, 2, .iload 4, []),
  (27, 1, .iaload, []),
  (28, 1, .aload_n 0, []),
  (29, 3, .getfield 53, [7, 20, 2, 0, 640]),
  (32, 1, .iload_n 2, []),
  (33, 2, .iload 4, []),
  (35, 1, .imul, []),
  (36, 1, .iaload, []),
  (37, 3, .invokestatic 70, [36, 2, 0, 614, 615, 47]),
  (40, 1, .ixor, []),
  (41, 1, .istore_n 3, []),
  (42, 3, .iinc 4 (1), [1, 0]),
  (45, 3, .goto (-32), [9]),
  (48, 1, .iconst 0, [0, 0]),
  (49, 2, .istore 4, []),
  (51, 2, .iload 4, []),
  (53, 1, .iload_n 1, []),
  (54, 3, .if_icmp .ge (35), [52]),
  (57, 1, .aload_n 0, []),
  (58, 3, .getfield 47, [7, 18, 2, 0, 638]),
  (61, 2, .bipush 7, [7, 0]),
  (63, 1, .iload_n 2, []),
  (64, 1, .imul, []),
  (65, 2, .iload 4, []),
  (67, 1, .iadd, []),
  (68, 1, .aload_n 0, []),
  (69, 3, .getfield 53, [7, 20, 2, 0, 640]),
  (72, 1, .iload_n 2, []),
  (73, 1, .aload_n 0, []),
  (74, 3, .getfield 50, [7, 19, 2, 0, 639]),
  (77, 2, .iload 4, []),
  (79, 1, .iaload, []),
  (80, 1, .imul, []),
  (81, 1, .iaload, []),
  (82, 1, .iastore, []),
  (83, 3, .iinc 4 (1), [1, 0]),
  (86, 3, .goto (-35), [30]),
  (89, 1, .iload_n 1, []),
  (90, 2, .istore 4, []),
  (92, 2, .iload 4, []),
  (94, 2, .bipush 6, [6, 0]),
  (96, 3, .if_icmp .ge (22), [68]),
  (99, 1, .aload_n 0, []),
  (100, 3, .getfield 47, [7, 18, 2, 0, 638]),
  (103, 2, .bipush 7, [7, 0]),
  (105, 1, .iload_n 2, []),
  (106, 1, .imul, []),
  (107, 2, .iload 4, []),
  (109, 1, .iadd, []),
  (110, 1, .iconst 0, [0, 0]),
  (111, 1, .iastore, []),
  (112, 3, .iinc 4 (1), [1, 0]),
  (115, 3, .goto (-23), [54]),
  (118, 1, .aload_n 0, []),
  (119, 3, .getfield 47, [7, 18, 2, 0, 638]),
  (122, 2, .bipush 7, [7, 0]),
  (124, 1, .iload_n 2, []),
  (125, 1, .imul, []),
  (126, 2, .bipush 6, [6, 0]),
  (128, 1, .iadd, []),
  (129, 1, .iload_n 3, []),
  (130, 1, .iastore, []),
  (131, 3, .iinc 2 (1), [1, 0]),
  (134, 3, .goto (-132), [2]),
  (137, 1, .iconst 0, [0, 0]),
  (138, 1, .istore_n 2, []),
  (139, 1, .iload_n 2, []),
  (140, 1, .iload_n 1, []),
  (141, 3, .if_icmp .ge (261), [232]),
  (144, 1, .iload_n 2, []),
  (145, 1, .istore_n 3, []),
  (146, 1, .iload_n 3, []),
  (147, 2, .bipush 6, [6, 0]),
  (149, 3, .if_icmp .ge (23), [100]),
  (152, 1, .aload_n 0, []),
  (153, 3, .getfield 47, [7, 18, 2, 0, 638]),
  (156, 2, .bipush 7, [7, 0]),
  (158, 1, .iload_n 3, []),
  (159, 1, .imul, []),
  (160, 1, .iload_n 2, []),
  (161, 1, .iadd, []),
  (162, 1, .iaload, []),
  (163, 3, .ifCond .ne (9), [100]),
  (166, 3, .iinc 3 (1), [1, 0]),
  (169, 3, .goto (-23), [86]),
  (172, 1, .iload_n 3, []),
  (173, 2, .bipush 6, [6, 0]),
  (175, 3, .if_icmp .ne (5), [105]),
  (178, 1, .iconst 0, [0, 0]),
  (179, 1, .ireturn, [1]),
  (180, 1, .iconst 0, [0, 0]),
  (181, 2, .istore 4, []),
  (183, 2, .iload 4, []),
  (185, 2, .bipush 7, [7, 0]),
  (187, 3, .if_icmp .ge (61), [146]),
  (190, 1, .aload_n 0, []),
  (191, 3, .getfield 47, [7, 18, 2, 0, 638]),
  (194, 2, .bipush 7, [7, 0]),
  (196, 1, .iload_n 3, []),
  (197, 1, .imul, []),
  (198, 2, .iload 4, []),
  (200, 1, .iadd, []),
  (201, 1, .iaload, []),
  (202, 2, .istore 5, []),
  (204, 1, .aload_n 0, []),
  (205, 3, .getfield 47, [7, 18, 2, 0, 638]),
  (208, 2, .bipush 7, [7, 0]),
  (210, 1, .iload_n 3, []),
  (211, 1, .imul, []),
  (212, 2, .iload 4, []),
  (214, 1, .iadd, []),
  (215, 1, .aload_n 0, []),
  (216, 3, .getfield 47, [7, 18, 2, 0, 638]),
  (219, 2, .bipush 7, [7, 0]),
  (221, 1, .iload_n 2, []),
  (222, 1, .imul, []),
  (223, 2, .iload 4, []),
  (225, 1, .iadd, []),
  (226, 1, .iaload, []),
  (227, 1, .iastore, []),
  (228, 1, .aload_n 0, []),
  (229, 3, .getfield 47, [7, 18, 2, 0, 638]),
  (232, 2, .bipush 7, [7, 0]),
  (234, 1, .iload_n 2, []),
  (235, 1, .imul, []),
  (236, 2, .iload 4, []),
  (238, 1, .iadd, []),
  (239, 2, .iload 5, []),
  (241, 1, .iastore, []),
  (242, 3, .iinc 4 (1), [1, 0]),
  (245, 3, .goto (-62), [107]),
  (248, 1, .aload_n 0, []),
  (249, 3, .getfield 56, [7, 21, 2, 0, 641]),
  (252, 1, .aload_n 0, []),
  (253, 3, .getfield 47, [7, 18, 2, 0, 638]),
  (256, 2, .bipush 7, [7, 0]),
  (258, 1, .iload_n 2, []),
  (259, 1, .imul, []),
  (260, 1, .iload_n 2, []),
  (261, 1, .iadd, []),
  (262, 1, .iaload, []),
  (263, 1, .iaload, []),
  (264, 2, .istore 4, []),
  (266, 1, .iconst 0, [0, 0]),
  (267, 2, .istore 5, []),
  (269, 2, .iload 5, []),
  (271, 2, .bipush 7, [7, 0]),
  (273, 3, .if_icmp .ge (38), [183]),
  (276, 1, .aload_n 0, []),
  (277, 3, .getfield 47, [7, 18, 2, 0, 638]),
  (280, 2, .bipush 7, [7, 0]),
  (282, 1, .iload_n 2, []),
  (283, 1, .imul, []),
  (284, 2, .iload 5, []),
  (286, 1, .iadd, []),
  (287, 1, .aload_n 0, []),
  (288, 3, .getfield 47, [7, 18, 2, 0, 638]),
  (291, 2, .bipush 7, [7, 0]),
  (293, 1, .iload_n 2, []),
  (294, 1, .imul, []),
  (295, 2, .iload 5, []),
  (297, 1, .iadd, []),
  (298, 1, .iaload, []),
  (299, 2, .iload 4, []),
  (301, 3, .invokestatic 70, [36, 2, 0, 614, 615, 47]),
  (304, 1, .iastore, []),
  (305, 3, .iinc 5 (1), [1, 0]),
  (308, 3, .goto (-39), [160]),
  (311, 1, .iconst 0, [0, 0]),
  (312, 2, .istore 5, []),
  (314, 2, .iload 5, []),
  (316, 2, .bipush 6, [6, 0]),
  (318, 3, .if_icmp .ge (78), [230]),
  (321, 1, .aload_n 0, []),
  (322, 3, .getfield 47, [7, 18, 2, 0, 638]),
  (325, 2, .bipush 7, [7, 0]),
  (327, 2, .iload 5, []),
  (329, 1, .imul, []),
  (330, 1, .iload_n 2, []),
  (331, 1, .iadd, []),
  (332, 1, .iaload, []),
  (333, 2, .istore 6, []),
  (335, 1, .iconst 0, [0, 0]),
  (336, 2, .istore 7, []),
  (338, 2, .iload 7, []),
  (340, 2, .bipush 7, [7, 0]),
  (342, 3, .if_icmp .ge (48), [228]),
  (345, 2, .iload 5, []),
  (347, 1, .iload_n 2, []),
  (348, 3, .if_icmp .eq (42), [228]),
  (351, 1, .aload_n 0, []),
  (352, 3, .getfield 47, [7, 18, 2, 0, 638]),
  (355, 2, .bipush 7, [7, 0]),
  (357, 2, .iload 5, []),
  (359, 1, .imul, []),
  (360, 2, .iload 7, []),
  (362, 1, .iadd, []),
  (363, 1, .dup2, []),
  (364, 1, .iaload, []),
  (365, 2, .iload 6, []),
  (367, 1, .aload_n 0, []),
  (368, 3, .getfield 47, [7, 18, 2, 0, 638]),
  (371, 2, .bipush 7, [7, 0]),
  (373, 1, .iload_n 2, []),
  (374, 1, .imul, []),
  (375, 2, .iload 7, []),
  (377, 1, .iadd, []),
  (378, 1, .iaload, []),
  (379, 3, .invokestatic 70, [36, 2, 0, 614, 615, 47]),
  (382, 1, .ixor, []),
  (383, 1, .iastore, []),
  (384, 3, .iinc 7 (1), [1, 0]),
  (387, 3, .goto (-49), [199]),
  (390, 3, .iinc 5 (1), [1, 0]),
  (393, 3, .goto (-79), [185]),
  (396, 3, .iinc 2 (1), [1, 0]),
  (399, 3, .goto (-260), [81]),
  (402, 1, .iload_n 1, []),
  (403, 1, .istore_n 2, []),
  (404, 1, .iload_n 2, []),
  (405, 2, .bipush 6, [6, 0]),
  (407, 3, .if_icmp .ge (26), [250]),
  (410, 1, .aload_n 0, []),
  (411, 3, .getfield 47, [7, 18, 2, 0, 638]),
  (414, 2, .bipush 7, [7, 0]),
  (416, 1, .iload_n 2, []),
  (417, 1, .imul, []),
  (418, 2, .bipush 6, [6, 0]),
  (420, 1, .iadd, []),
  (421, 1, .iaload, []),
  (422, 3, .ifCond .eq (5), [248]),
  (425, 1, .iconst 0, [0, 0]),
  (426, 1, .ireturn, [1]),
  (427, 3, .iinc 2 (1), [1, 0]),
  (430, 3, .goto (-26), [234]),
  (433, 1, .iconst 0, [0, 0]),
  (434, 1, .istore_n 2, []),
  (435, 1, .iload_n 2, []),
  (436, 1, .iload_n 1, []),
  (437, 3, .if_icmp .ge (35), [275]),
  (440, 1, .aload_n 0, []),
  (441, 3, .getfield 44, [7, 17, 2, 0, 637]),
  (444, 1, .aload_n 0, []),
  (445, 3, .getfield 50, [7, 19, 2, 0, 639]),
  (448, 1, .iload_n 2, []),
  (449, 1, .iaload, []),
  (450, 1, .dup2, []),
  (451, 1, .iaload, []),
  (452, 1, .aload_n 0, []),
  (453, 3, .getfield 47, [7, 18, 2, 0, 638]),
  (456, 2, .bipush 7, [7, 0]),
  (458, 1, .iload_n 2, []),
  (459, 1, .imul, []),
  (460, 2, .bipush 6, [6, 0]),
  (462, 1, .iadd, []),
  (463, 1, .iaload, []),
  (464, 1, .ixor, []),
  (465, 1, .iastore, []),
  (466, 3, .iinc 2 (1), [1, 0]),
  (469, 3, .goto (-34), [252]),
  (472, 1, .iconst 1, [1, 0]),
  (473, 1, .ireturn, [1])]
theorem po_Mod_solved : ma_ok me_Mod_solved pr_Mod_solved := ma_ok_of (by decide +kernel)
theorem pa_Mod_solved_0 : pr_Mod_solved[0]? = some (0, 1, .iconst 0, [0, 0]) := rfl
theorem pa_Mod_solved_1 : pr_Mod_solved[1]? = some (1, 1, .istore_n 2, []) := rfl
theorem pa_Mod_solved_2 : pr_Mod_solved[2]? = some (2, 1, .iload_n 2, []) := rfl
theorem pa_Mod_solved_3 : pr_Mod_solved[3]? = some (3, 2, .bipush 6, [6, 0]) := rfl
theorem pa_Mod_solved_4 : pr_Mod_solved[4]? = some (5, 3, .if_icmp .ge (132), [79]) := rfl
theorem pa_Mod_solved_5 : pr_Mod_solved[5]? = some (8, 1, .iconst 0, [0, 0]) := rfl
theorem pa_Mod_solved_6 : pr_Mod_solved[6]? = some (9, 1, .istore_n 3, []) := rfl
theorem pa_Mod_solved_7 : pr_Mod_solved[7]? = some (10, 1, .iconst 0, [0, 0]) := rfl
theorem pa_Mod_solved_8 : pr_Mod_solved[8]? = some (11, 2, .istore 4, []) := rfl
theorem pa_Mod_solved_9 : pr_Mod_solved[9]? = some (13, 2, .iload 4, []) := rfl
theorem pa_Mod_solved_10 : pr_Mod_solved[10]? = some (15, 2, .bipush 16, [16, 0]) := rfl
theorem pa_Mod_solved_11 : pr_Mod_solved[11]? = some (17, 3, .if_icmp .ge (31), [28]) := rfl
theorem pa_Mod_solved_12 : pr_Mod_solved[12]? = some (20, 1, .iload_n 3, []) := rfl
theorem pa_Mod_solved_13 : pr_Mod_solved[13]? = some (21, 1, .aload_n 0, []) := rfl
theorem pa_Mod_solved_14 : pr_Mod_solved[14]? = some (22, 3, .getfield 44, [7, 17, 2, 0, 637]) := rfl
theorem pa_Mod_solved_15 : pr_Mod_solved[15]? = some (25, 2, .iload 4, []) := rfl
theorem pa_Mod_solved_16 : pr_Mod_solved[16]? = some (27, 1, .iaload, []) := rfl
theorem pa_Mod_solved_17 : pr_Mod_solved[17]? = some (28, 1, .aload_n 0, []) := rfl
theorem pa_Mod_solved_18 : pr_Mod_solved[18]? = some (29, 3, .getfield 53, [7, 20, 2, 0, 640]) := rfl
theorem pa_Mod_solved_19 : pr_Mod_solved[19]? = some (32, 1, .iload_n 2, []) := rfl
theorem pa_Mod_solved_20 : pr_Mod_solved[20]? = some (33, 2, .iload 4, []) := rfl
theorem pa_Mod_solved_21 : pr_Mod_solved[21]? = some (35, 1, .imul, []) := rfl
theorem pa_Mod_solved_22 : pr_Mod_solved[22]? = some (36, 1, .iaload, []) := rfl
theorem pa_Mod_solved_23 : pr_Mod_solved[23]? = some (37, 3, .invokestatic 70, [36, 2, 0, 614, 615, 47]) := rfl
theorem pa_Mod_solved_24 : pr_Mod_solved[24]? = some (40, 1, .ixor, []) := rfl
theorem pa_Mod_solved_25 : pr_Mod_solved[25]? = some (41, 1, .istore_n 3, []) := rfl
theorem pa_Mod_solved_26 : pr_Mod_solved[26]? = some (42, 3, .iinc 4 (1), [1, 0]) := rfl
theorem pa_Mod_solved_27 : pr_Mod_solved[27]? = some (45, 3, .goto (-32), [9]) := rfl
theorem pa_Mod_solved_28 : pr_Mod_solved[28]? = some (48, 1, .iconst 0, [0, 0]) := rfl
theorem pa_Mod_solved_29 : pr_Mod_solved[29]? = some (49, 2, .istore 4, []) := rfl
theorem pa_Mod_solved_30 : pr_Mod_solved[30]? = some (51, 2, .iload 4, []) := rfl
theorem pa_Mod_solved_31 : pr_Mod_solved[31]? = some (53, 1, .iload_n 1, []) := rfl
theorem pa_Mod_solved_32 : pr_Mod_solved[32]? = some (54, 3, .if_icmp .ge (35), [52]) := rfl
theorem pa_Mod_solved_33 : pr_Mod_solved[33]? = some (57, 1, .aload_n 0, []) := rfl
theorem pa_Mod_solved_34 : pr_Mod_solved[34]? = some (58, 3, .getfield 47, [7, 18, 2, 0, 638]) := rfl
theorem pa_Mod_solved_35 : pr_Mod_solved[35]? = some (61, 2, .bipush 7, [7, 0]) := rfl
theorem pa_Mod_solved_36 : pr_Mod_solved[36]? = some (63, 1, .iload_n 2, []) := rfl
theorem pa_Mod_solved_37 : pr_Mod_solved[37]? = some (64, 1, .imul, []) := rfl
theorem pa_Mod_solved_38 : pr_Mod_solved[38]? = some (65, 2, .iload 4, []) := rfl
theorem pa_Mod_solved_39 : pr_Mod_solved[39]? = some (67, 1, .iadd, []) := rfl
theorem pa_Mod_solved_40 : pr_Mod_solved[40]? = some (68, 1, .aload_n 0, []) := rfl
theorem pa_Mod_solved_41 : pr_Mod_solved[41]? = some (69, 3, .getfield 53, [7, 20, 2, 0, 640]) := rfl
theorem pa_Mod_solved_42 : pr_Mod_solved[42]? = some (72, 1, .iload_n 2, []) := rfl
theorem pa_Mod_solved_43 : pr_Mod_solved[43]? = some (73, 1, .aload_n 0, []) := rfl
theorem pa_Mod_solved_44 : pr_Mod_solved[44]? = some (74, 3, .getfield 50, [7, 19, 2, 0, 639]) := rfl
theorem pa_Mod_solved_45 : pr_Mod_solved[45]? = some (77, 2, .iload 4, []) := rfl
theorem pa_Mod_solved_46 : pr_Mod_solved[46]? = some (79, 1, .iaload, []) := rfl
theorem pa_Mod_solved_47 : pr_Mod_solved[47]? = some (80, 1, .imul, []) := rfl
theorem pa_Mod_solved_48 : pr_Mod_solved[48]? = some (81, 1, .iaload, []) := rfl
theorem pa_Mod_solved_49 : pr_Mod_solved[49]? = some (82, 1, .iastore, []) := rfl
theorem pa_Mod_solved_50 : pr_Mod_solved[50]? = some (83, 3, .iinc 4 (1), [1, 0]) := rfl
theorem pa_Mod_solved_51 : pr_Mod_solved[51]? = some (86, 3, .goto (-35), [30]) := rfl
theorem pa_Mod_solved_52 : pr_Mod_solved[52]? = some (89, 1, .iload_n 1, []) := rfl
theorem pa_Mod_solved_53 : pr_Mod_solved[53]? = some (90, 2, .istore 4, []) := rfl
theorem pa_Mod_solved_54 : pr_Mod_solved[54]? = some (92, 2, .iload 4, []) := rfl
theorem pa_Mod_solved_55 : pr_Mod_solved[55]? = some (94, 2, .bipush 6, [6, 0]) := rfl
theorem pa_Mod_solved_56 : pr_Mod_solved[56]? = some (96, 3, .if_icmp .ge (22), [68]) := rfl
theorem pa_Mod_solved_57 : pr_Mod_solved[57]? = some (99, 1, .aload_n 0, []) := rfl
theorem pa_Mod_solved_58 : pr_Mod_solved[58]? = some (100, 3, .getfield 47, [7, 18, 2, 0, 638]) := rfl
theorem pa_Mod_solved_59 : pr_Mod_solved[59]? = some (103, 2, .bipush 7, [7, 0]) := rfl
theorem pa_Mod_solved_60 : pr_Mod_solved[60]? = some (105, 1, .iload_n 2, []) := rfl
theorem pa_Mod_solved_61 : pr_Mod_solved[61]? = some (106, 1, .imul, []) := rfl
theorem pa_Mod_solved_62 : pr_Mod_solved[62]? = some (107, 2, .iload 4, []) := rfl
theorem pa_Mod_solved_63 : pr_Mod_solved[63]? = some (109, 1, .iadd, []) := rfl
theorem pa_Mod_solved_64 : pr_Mod_solved[64]? = some (110, 1, .iconst 0, [0, 0]) := rfl
theorem pa_Mod_solved_65 : pr_Mod_solved[65]? = some (111, 1, .iastore, []) := rfl
theorem pa_Mod_solved_66 : pr_Mod_solved[66]? = some (112, 3, .iinc 4 (1), [1, 0]) := rfl
theorem pa_Mod_solved_67 : pr_Mod_solved[67]? = some (115, 3, .goto (-23), [54]) := rfl
theorem pa_Mod_solved_68 : pr_Mod_solved[68]? = some (118, 1, .aload_n 0, []) := rfl
theorem pa_Mod_solved_69 : pr_Mod_solved[69]? = some (119, 3, .getfield 47, [7, 18, 2, 0, 638]) := rfl
theorem pa_Mod_solved_70 : pr_Mod_solved[70]? = some (122, 2, .bipush 7, [7, 0]) := rfl
theorem pa_Mod_solved_71 : pr_Mod_solved[71]? = some (124, 1, .iload_n 2, []) := rfl
theorem pa_Mod_solved_72 : pr_Mod_solved[72]? = some (125, 1, .imul, []) := rfl
theorem pa_Mod_solved_73 : pr_Mod_solved[73]? = some (126, 2, .bipush 6, [6, 0]) := rfl
theorem pa_Mod_solved_74 : pr_Mod_solved[74]? = some (128, 1, .iadd, []) := rfl
theorem pa_Mod_solved_75 : pr_Mod_solved[75]? = some (129, 1, .iload_n 3, []) := rfl
theorem pa_Mod_solved_76 : pr_Mod_solved[76]? = some (130, 1, .iastore, []) := rfl
theorem pa_Mod_solved_77 : pr_Mod_solved[77]? = some (131, 3, .iinc 2 (1), [1, 0]) := rfl
theorem pa_Mod_solved_78 : pr_Mod_solved[78]? = some (134, 3, .goto (-132), [2]) := rfl
theorem pa_Mod_solved_79 : pr_Mod_solved[79]? = some (137, 1, .iconst 0, [0, 0]) := rfl
theorem pa_Mod_solved_80 : pr_Mod_solved[80]? = some (138, 1, .istore_n 2, []) := rfl
theorem pa_Mod_solved_81 : pr_Mod_solved[81]? = some (139, 1, .iload_n 2, []) := rfl
theorem pa_Mod_solved_82 : pr_Mod_solved[82]? = some (140, 1, .iload_n 1, []) := rfl
theorem pa_Mod_solved_83 : pr_Mod_solved[83]? = some (141, 3, .if_icmp .ge (261), [232]) := rfl
theorem pa_Mod_solved_84 : pr_Mod_solved[84]? = some (144, 1, .iload_n 2, []) := rfl
theorem pa_Mod_solved_85 : pr_Mod_solved[85]? = some (145, 1, .istore_n 3, []) := rfl
theorem pa_Mod_solved_86 : pr_Mod_solved[86]? = some (146, 1, .iload_n 3, []) := rfl
theorem pa_Mod_solved_87 : pr_Mod_solved[87]? = some (147, 2, .bipush 6, [6, 0]) := rfl
theorem pa_Mod_solved_88 : pr_Mod_solved[88]? = some (149, 3, .if_icmp .ge (23), [100]) := rfl
theorem pa_Mod_solved_89 : pr_Mod_solved[89]? = some (152, 1, .aload_n 0, []) := rfl
theorem pa_Mod_solved_90 : pr_Mod_solved[90]? = some (153, 3, .getfield 47, [7, 18, 2, 0, 638]) := rfl
theorem pa_Mod_solved_91 : pr_Mod_solved[91]? = some (156, 2, .bipush 7, [7, 0]) := rfl
theorem pa_Mod_solved_92 : pr_Mod_solved[92]? = some (158, 1, .iload_n 3, []) := rfl
theorem pa_Mod_solved_93 : pr_Mod_solved[93]? = some (159, 1, .imul, []) := rfl
theorem pa_Mod_solved_94 : pr_Mod_solved[94]? = some (160, 1, .iload_n 2, []) := rfl
theorem pa_Mod_solved_95 : pr_Mod_solved[95]? = some (161, 1, .iadd, []) := rfl
theorem pa_Mod_solved_96 : pr_Mod_solved[96]? = some (162, 1, .iaload, []) := rfl
theorem pa_Mod_solved_97 : pr_Mod_solved[97]? = some (163, 3, .ifCond .ne (9), [100]) := rfl
theorem pa_Mod_solved_98 : pr_Mod_solved[98]? = some (166, 3, .iinc 3 (1), [1, 0]) := rfl
theorem pa_Mod_solved_99 : pr_Mod_solved[99]? = some (169, 3, .goto (-23), [86]) := rfl
theorem pa_Mod_solved_100 : pr_Mod_solved[100]? = some (172, 1, .iload_n 3, []) := rfl
theorem pa_Mod_solved_101 : pr_Mod_solved[101]? = some (173, 2, .bipush 6, [6, 0]) := rfl
theorem pa_Mod_solved_102 : pr_Mod_solved[102]? = some (175, 3, .if_icmp .ne (5), [105]) := rfl
theorem pa_Mod_solved_103 : pr_Mod_solved[103]? = some (178, 1, .iconst 0, [0, 0]) := rfl
theorem pa_Mod_solved_104 : pr_Mod_solved[104]? = some (179, 1, .ireturn, [1]) := rfl
theorem pa_Mod_solved_105 : pr_Mod_solved[105]? = some (180, 1, .iconst 0, [0, 0]) := rfl
theorem pa_Mod_solved_106 : pr_Mod_solved[106]? = some (181, 2, .istore 4, []) := rfl
theorem pa_Mod_solved_107 : pr_Mod_solved[107]? = some (183, 2, .iload 4, []) := rfl
theorem pa_Mod_solved_108 : pr_Mod_solved[108]? = some (185, 2, .bipush 7, [7, 0]) := rfl
theorem pa_Mod_solved_109 : pr_Mod_solved[109]? = some (187, 3, .if_icmp .ge (61), [146]) := rfl
theorem pa_Mod_solved_110 : pr_Mod_solved[110]? = some (190, 1, .aload_n 0, []) := rfl
theorem pa_Mod_solved_111 : pr_Mod_solved[111]? = some (191, 3, .getfield 47, [7, 18, 2, 0, 638]) := rfl
theorem pa_Mod_solved_112 : pr_Mod_solved[112]? = some (194, 2, .bipush 7, [7, 0]) := rfl
theorem pa_Mod_solved_113 : pr_Mod_solved[113]? = some (196, 1, .iload_n 3, []) := rfl
theorem pa_Mod_solved_114 : pr_Mod_solved[114]? = some (197, 1, .imul, []) := rfl
theorem pa_Mod_solved_115 : pr_Mod_solved[115]? = some (198, 2, .iload 4, []) := rfl
theorem pa_Mod_solved_116 : pr_Mod_solved[116]? = some (200, 1, .iadd, []) := rfl
theorem pa_Mod_solved_117 : pr_Mod_solved[117]? = some (201, 1, .iaload, []) := rfl
theorem pa_Mod_solved_118 : pr_Mod_solved[118]? = some (202, 2, .istore 5, []) := rfl
theorem pa_Mod_solved_119 : pr_Mod_solved[119]? = some (204, 1, .aload_n 0, []) := rfl
theorem pa_Mod_solved_120 : pr_Mod_solved[120]? = some (205, 3, .getfield 47, [7, 18, 2, 0, 638]) := rfl
theorem pa_Mod_solved_121 : pr_Mod_solved[121]? = some (208, 2, .bipush 7, [7, 0]) := rfl
theorem pa_Mod_solved_122 : pr_Mod_solved[122]? = some (210, 1, .iload_n 3, []) := rfl
theorem pa_Mod_solved_123 : pr_Mod_solved[123]? = some (211, 1, .imul, []) := rfl
theorem pa_Mod_solved_124 : pr_Mod_solved[124]? = some (212, 2, .iload 4, []) := rfl
theorem pa_Mod_solved_125 : pr_Mod_solved[125]? = some (214, 1, .iadd, []) := rfl
theorem pa_Mod_solved_126 : pr_Mod_solved[126]? = some (215, 1, .aload_n 0, []) := rfl
theorem pa_Mod_solved_127 : pr_Mod_solved[127]? = some (216, 3, .getfield 47, [7, 18, 2, 0, 638]) := rfl
theorem pa_Mod_solved_128 : pr_Mod_solved[128]? = some (219, 2, .bipush 7, [7, 0]) := rfl
theorem pa_Mod_solved_129 : pr_Mod_solved[129]? = some (221, 1, .iload_n 2, []) := rfl
theorem pa_Mod_solved_130 : pr_Mod_solved[130]? = some (222, 1, .imul, []) := rfl
theorem pa_Mod_solved_131 : pr_Mod_solved[131]? = some (223, 2, .iload 4, []) := rfl
theorem pa_Mod_solved_132 : pr_Mod_solved[132]? = some (225, 1, .iadd, []) := rfl
theorem pa_Mod_solved_133 : pr_Mod_solved[133]? = some (226, 1, .iaload, []) := rfl
theorem pa_Mod_solved_134 : pr_Mod_solved[134]? = some (227, 1, .iastore, []) := rfl
theorem pa_Mod_solved_135 : pr_Mod_solved[135]? = some (228, 1, .aload_n 0, []) := rfl
theorem pa_Mod_solved_136 : pr_Mod_solved[136]? = some (229, 3, .getfield 47, [7, 18, 2, 0, 638]) := rfl
theorem pa_Mod_solved_137 : pr_Mod_solved[137]? = some (232, 2, .bipush 7, [7, 0]) := rfl
theorem pa_Mod_solved_138 : pr_Mod_solved[138]? = some (234, 1, .iload_n 2, []) := rfl
theorem pa_Mod_solved_139 : pr_Mod_solved[139]? = some (235, 1, .imul, []) := rfl
theorem pa_Mod_solved_140 : pr_Mod_solved[140]? = some (236, 2, .iload 4, []) := rfl
theorem pa_Mod_solved_141 : pr_Mod_solved[141]? = some (238, 1, .iadd, []) := rfl
theorem pa_Mod_solved_142 : pr_Mod_solved[142]? = some (239, 2, .iload 5, []) := rfl
theorem pa_Mod_solved_143 : pr_Mod_solved[143]? = some (241, 1, .iastore, []) := rfl
theorem pa_Mod_solved_144 : pr_Mod_solved[144]? = some (242, 3, .iinc 4 (1), [1, 0]) := rfl
theorem pa_Mod_solved_145 : pr_Mod_solved[145]? = some (245, 3, .goto (-62), [107]) := rfl
theorem pa_Mod_solved_146 : pr_Mod_solved[146]? = some (248, 1, .aload_n 0, []) := rfl
theorem pa_Mod_solved_147 : pr_Mod_solved[147]? = some (249, 3, .getfield 56, [7, 21, 2, 0, 641]) := rfl
theorem pa_Mod_solved_148 : pr_Mod_solved[148]? = some (252, 1, .aload_n 0, []) := rfl
theorem pa_Mod_solved_149 : pr_Mod_solved[149]? = some (253, 3, .getfield 47, [7, 18, 2, 0, 638]) := rfl
theorem pa_Mod_solved_150 : pr_Mod_solved[150]? = some (256, 2, .bipush 7, [7, 0]) := rfl
theorem pa_Mod_solved_151 : pr_Mod_solved[151]? = some (258, 1, .iload_n 2, []) := rfl
theorem pa_Mod_solved_152 : pr_Mod_solved[152]? = some (259, 1, .imul, []) := rfl
theorem pa_Mod_solved_153 : pr_Mod_solved[153]? = some (260, 1, .iload_n 2, []) := rfl
theorem pa_Mod_solved_154 : pr_Mod_solved[154]? = some (261, 1, .iadd, []) := rfl
theorem pa_Mod_solved_155 : pr_Mod_solved[155]? = some (262, 1, .iaload, []) := rfl
theorem pa_Mod_solved_156 : pr_Mod_solved[156]? = some (263, 1, .iaload, []) := rfl
theorem pa_Mod_solved_157 : pr_Mod_solved[157]? = some (264, 2, .istore 4, []) := rfl
theorem pa_Mod_solved_158 : pr_Mod_solved[158]? = some (266, 1, .iconst 0, [0, 0]) := rfl
theorem pa_Mod_solved_159 : pr_Mod_solved[159]? = some (267, 2, .istore 5, []) := rfl
theorem pa_Mod_solved_160 : pr_Mod_solved[160]? = some (269, 2, .iload 5, []) := rfl
theorem pa_Mod_solved_161 : pr_Mod_solved[161]? = some (271, 2, .bipush 7, [7, 0]) := rfl
theorem pa_Mod_solved_162 : pr_Mod_solved[162]? = some (273, 3, .if_icmp .ge (38), [183]) := rfl
theorem pa_Mod_solved_163 : pr_Mod_solved[163]? = some (276, 1, .aload_n 0, []) := rfl
theorem pa_Mod_solved_164 : pr_Mod_solved[164]? = some (277, 3, .getfield 47, [7, 18, 2, 0, 638]) := rfl
theorem pa_Mod_solved_165 : pr_Mod_solved[165]? = some (280, 2, .bipush 7, [7, 0]) := rfl
theorem pa_Mod_solved_166 : pr_Mod_solved[166]? = some (282, 1, .iload_n 2, []) := rfl
theorem pa_Mod_solved_167 : pr_Mod_solved[167]? = some (283, 1, .imul, []) := rfl
theorem pa_Mod_solved_168 : pr_Mod_solved[168]? = some (284, 2, .iload 5, []) := rfl
theorem pa_Mod_solved_169 : pr_Mod_solved[169]? = some (286, 1, .iadd, []) := rfl
theorem pa_Mod_solved_170 : pr_Mod_solved[170]? = some (287, 1, .aload_n 0, []) := rfl
theorem pa_Mod_solved_171 : pr_Mod_solved[171]? = some (288, 3, .getfield 47, [7, 18, 2, 0, 638]) := rfl
theorem pa_Mod_solved_172 : pr_Mod_solved[172]? = some (291, 2, .bipush 7, [7, 0]) := rfl
theorem pa_Mod_solved_173 : pr_Mod_solved[173]? = some (293, 1, .iload_n 2, []) := rfl
theorem pa_Mod_solved_174 : pr_Mod_solved[174]? = some (294, 1, .imul, []) := rfl
theorem pa_Mod_solved_175 : pr_Mod_solved[175]? = some (295, 2, .iload 5, []) := rfl
theorem pa_Mod_solved_176 : pr_Mod_solved[176]? = some (297, 1, .iadd, []) := rfl
theorem pa_Mod_solved_177 : pr_Mod_solved[177]? = some (298, 1, .iaload, []) := rfl
theorem pa_Mod_solved_178 : pr_Mod_solved[178]? = some (299, 2, .iload 4, []) := rfl
theorem pa_Mod_solved_179 : pr_Mod_solved[179]? = some (301, 3, .invokestatic 70, [36, 2, 0, 614, 615, 47]) := rfl
theorem pa_Mod_solved_180 : pr_Mod_solved[180]? = some (304, 1, .iastore, []) := rfl
theorem pa_Mod_solved_181 : pr_Mod_solved[181]? = some (305, 3, .iinc 5 (1), [1, 0]) := rfl
theorem pa_Mod_solved_182 : pr_Mod_solved[182]? = some (308, 3, .goto (-39), [160]) := rfl
theorem pa_Mod_solved_183 : pr_Mod_solved[183]? = some (311, 1, .iconst 0, [0, 0]) := rfl
theorem pa_Mod_solved_184 : pr_Mod_solved[184]? = some (312, 2, .istore 5, []) := rfl
theorem pa_Mod_solved_185 : pr_Mod_solved[185]? = some (314, 2, .iload 5, []) := rfl
theorem pa_Mod_solved_186 : pr_Mod_solved[186]? = some (316, 2, .bipush 6, [6, 0]) := rfl
theorem pa_Mod_solved_187 : pr_Mod_solved[187]? = some (318, 3, .if_icmp .ge (78), [230]) := rfl
theorem pa_Mod_solved_188 : pr_Mod_solved[188]? = some (321, 1, .aload_n 0, []) := rfl
theorem pa_Mod_solved_189 : pr_Mod_solved[189]? = some (322, 3, .getfield 47, [7, 18, 2, 0, 638]) := rfl
theorem pa_Mod_solved_190 : pr_Mod_solved[190]? = some (325, 2, .bipush 7, [7, 0]) := rfl
theorem pa_Mod_solved_191 : pr_Mod_solved[191]? = some (327, 2, .iload 5, []) := rfl
theorem pa_Mod_solved_192 : pr_Mod_solved[192]? = some (329, 1, .imul, []) := rfl
theorem pa_Mod_solved_193 : pr_Mod_solved[193]? = some (330, 1, .iload_n 2, []) := rfl
theorem pa_Mod_solved_194 : pr_Mod_solved[194]? = some (331, 1, .iadd, []) := rfl
theorem pa_Mod_solved_195 : pr_Mod_solved[195]? = some (332, 1, .iaload, []) := rfl
theorem pa_Mod_solved_196 : pr_Mod_solved[196]? = some (333, 2, .istore 6, []) := rfl
theorem pa_Mod_solved_197 : pr_Mod_solved[197]? = some (335, 1, .iconst 0, [0, 0]) := rfl
theorem pa_Mod_solved_198 : pr_Mod_solved[198]? = some (336, 2, .istore 7, []) := rfl
theorem pa_Mod_solved_199 : pr_Mod_solved[199]? = some (338, 2, .iload 7, []) := rfl
theorem pa_Mod_solved_200 : pr_Mod_solved[200]? = some (340, 2, .bipush 7, [7, 0]) := rfl
set_option maxRecDepth 5000 in
theorem pa_Mod_solved_201 : pr_Mod_solved[201]? = some (342, 3, .if_icmp .ge (48), [228]) := rfl
set_option maxRecDepth 5000 in
theorem pa_Mod_solved_202 : pr_Mod_solved[202]? = some (345, 2, .iload 5, []) := rfl
set_option maxRecDepth 5000 in
theorem pa_Mod_solved_203 : pr_Mod_solved[203]? = some (347, 1, .iload_n 2, []) := rfl
set_option maxRecDepth 5000 in
theorem pa_Mod_solved_204 : pr_Mod_solved[204]? = some (348, 3, .if_icmp .eq (42), [228]) := rfl
set_option maxRecDepth 5000 in
theorem pa_Mod_solved_205 : pr_Mod_solved[205]? = some (351, 1, .aload_n 0, []) := rfl
set_option maxRecDepth 5000 in
theorem pa_Mod_solved_206 : pr_Mod_solved[206]? = some (352, 3, .getfield 47, [7, 18, 2, 0, 638]) := rfl
set_option maxRecDepth 5000 in
theorem pa_Mod_solved_207 : pr_Mod_solved[207]? = some (355, 2, .bipush 7, [7, 0]) := rfl
set_option maxRecDepth 5000 in
theorem pa_Mod_solved_208 : pr_Mod_solved[208]? = some (357, 2, .iload 5, []) := rfl
set_option maxRecDepth 5000 in
theorem pa_Mod_solved_209 : pr_Mod_solved[209]? = some (359, 1, .imul, []) := rfl
set_option maxRecDepth 5000 in
theorem pa_Mod_solved_210 : pr_Mod_solved[210]? = some (360, 2, .iload 7, []) := rfl
set_option maxRecDepth 5000 in
theorem pa_Mod_solved_211 : pr_Mod_solved[211]? = some (362, 1, .iadd, []) := rfl
set_option maxRecDepth 5000 in
theorem pa_Mod_solved_212 : pr_Mod_solved[212]? = some (363, 1, .dup2, []) := rfl
set_option maxRecDepth 5000 in
theorem pa_Mod_solved_213 : pr_Mod_solved[213]? = some (364, 1, .iaload, []) := rfl
set_option maxRecDepth 5000 in
theorem pa_Mod_solved_214 : pr_Mod_solved[214]? = some (365, 2, .iload 6, []) := rfl
set_option maxRecDepth 5000 in
theorem pa_Mod_solved_215 : pr_Mod_solved[215]? = some (367, 1, .aload_n 0, []) := rfl
set_option maxRecDepth 5000 in
theorem pa_Mod_solved_216 : pr_Mod_solved[216]? = some (368, 3, .getfield 47, [7, 18, 2, 0, 638]) := rfl
set_option maxRecDepth 5000 in
theorem pa_Mod_solved_217 : pr_Mod_solved[217]? = some (371, 2, .bipush 7, [7, 0]) := rfl
set_option maxRecDepth 5000 in
theorem pa_Mod_solved_218 : pr_Mod_solved[218]? = some (373, 1, .iload_n 2, []) := rfl
set_option maxRecDepth 5000 in
theorem pa_Mod_solved_219 : pr_Mod_solved[219]? = some (374, 1, .imul, []) := rfl
set_option maxRecDepth 5000 in
theorem pa_Mod_solved_220 : pr_Mod_solved[220]? = some (375, 2, .iload 7, []) := rfl
set_option maxRecDepth 5000 in
theorem pa_Mod_solved_221 : pr_Mod_solved[221]? = some (377, 1, .iadd, []) := rfl
set_option maxRecDepth 5000 in
theorem pa_Mod_solved_222 : pr_Mod_solved[222]? = some (378, 1, .iaload, []) := rfl
set_option maxRecDepth 5000 in
theorem pa_Mod_solved_223 : pr_Mod_solved[223]? = some (379, 3, .invokestatic 70, [36, 2, 0, 614, 615, 47]) := rfl
set_option maxRecDepth 5000 in
theorem pa_Mod_solved_224 : pr_Mod_solved[224]? = some (382, 1, .ixor, []) := rfl
set_option maxRecDepth 5000 in
theorem pa_Mod_solved_225 : pr_Mod_solved[225]? = some (383, 1, .iastore, []) := rfl
set_option maxRecDepth 5000 in
theorem pa_Mod_solved_226 : pr_Mod_solved[226]? = some (384, 3, .iinc 7 (1), [1, 0]) := rfl
set_option maxRecDepth 5000 in
theorem pa_Mod_solved_227 : pr_Mod_solved[227]? = some (387, 3, .goto (-49), [199]) := rfl
set_option maxRecDepth 5000 in
theorem pa_Mod_solved_228 : pr_Mod_solved[228]? = some (390, 3, .iinc 5 (1), [1, 0]) := rfl
set_option maxRecDepth 5000 in
theorem pa_Mod_solved_229 : pr_Mod_solved[229]? = some (393, 3, .goto (-79), [185]) := rfl
set_option maxRecDepth 5000 in
theorem pa_Mod_solved_230 : pr_Mod_solved[230]? = some (396, 3, .iinc 2 (1), [1, 0]) := rfl
set_option maxRecDepth 5000 in
theorem pa_Mod_solved_231 : pr_Mod_solved[231]? = some (399, 3, .goto (-260), [81]) := rfl
set_option maxRecDepth 5000 in
theorem pa_Mod_solved_232 : pr_Mod_solved[232]? = some (402, 1, .iload_n 1, []) := rfl
set_option maxRecDepth 5000 in
theorem pa_Mod_solved_233 : pr_Mod_solved[233]? = some (403, 1, .istore_n 2, []) := rfl
set_option maxRecDepth 5000 in
theorem pa_Mod_solved_234 : pr_Mod_solved[234]? = some (404, 1, .iload_n 2, []) := rfl
set_option maxRecDepth 5000 in
theorem pa_Mod_solved_235 : pr_Mod_solved[235]? = some (405, 2, .bipush 6, [6, 0]) := rfl
set_option maxRecDepth 5000 in
theorem pa_Mod_solved_236 : pr_Mod_solved[236]? = some (407, 3, .if_icmp .ge (26), [250]) := rfl
set_option maxRecDepth 5000 in
theorem pa_Mod_solved_237 : pr_Mod_solved[237]? = some (410, 1, .aload_n 0, []) := rfl
set_option maxRecDepth 5000 in
theorem pa_Mod_solved_238 : pr_Mod_solved[238]? = some (411, 3, .getfield 47, [7, 18, 2, 0, 638]) := rfl
set_option maxRecDepth 5000 in
theorem pa_Mod_solved_239 : pr_Mod_solved[239]? = some (414, 2, .bipush 7, [7, 0]) := rfl
set_option maxRecDepth 5000 in
theorem pa_Mod_solved_240 : pr_Mod_solved[240]? = some (416, 1, .iload_n 2, []) := rfl
set_option maxRecDepth 5000 in
theorem pa_Mod_solved_241 : pr_Mod_solved[241]? = some (417, 1, .imul, []) := rfl
set_option maxRecDepth 5000 in
theorem pa_Mod_solved_242 : pr_Mod_solved[242]? = some (418, 2, .bipush 6, [6, 0]) := rfl
set_option maxRecDepth 5000 in
theorem pa_Mod_solved_243 : pr_Mod_solved[243]? = some (420, 1, .iadd, []) := rfl
set_option maxRecDepth 5000 in
theorem pa_Mod_solved_244 : pr_Mod_solved[244]? = some (421, 1, .iaload, []) := rfl
set_option maxRecDepth 5000 in
theorem pa_Mod_solved_245 : pr_Mod_solved[245]? = some (422, 3, .ifCond .eq (5), [248]) := rfl
set_option maxRecDepth 5000 in
theorem pa_Mod_solved_246 : pr_Mod_solved[246]? = some (425, 1, .iconst 0, [0, 0]) := rfl
set_option maxRecDepth 5000 in
theorem pa_Mod_solved_247 : pr_Mod_solved[247]? = some (426, 1, .ireturn, [1]) := rfl
set_option maxRecDepth 5000 in
theorem pa_Mod_solved_248 : pr_Mod_solved[248]? = some (427, 3, .iinc 2 (1), [1, 0]) := rfl
set_option maxRecDepth 5000 in
theorem pa_Mod_solved_249 : pr_Mod_solved[249]? = some (430, 3, .goto (-26), [234]) := rfl
set_option maxRecDepth 5000 in
theorem pa_Mod_solved_250 : pr_Mod_solved[250]? = some (433, 1, .iconst 0, [0, 0]) := rfl
set_option maxRecDepth 5000 in
theorem pa_Mod_solved_251 : pr_Mod_solved[251]? = some (434, 1, .istore_n 2, []) := rfl
set_option maxRecDepth 5000 in
theorem pa_Mod_solved_252 : pr_Mod_solved[252]? = some (435, 1, .iload_n 2, []) := rfl
set_option maxRecDepth 5000 in
theorem pa_Mod_solved_253 : pr_Mod_solved[253]? = some (436, 1, .iload_n 1, []) := rfl
set_option maxRecDepth 5000 in
theorem pa_Mod_solved_254 : pr_Mod_solved[254]? = some (437, 3, .if_icmp .ge (35), [275]) := rfl
set_option maxRecDepth 5000 in
theorem pa_Mod_solved_255 : pr_Mod_solved[255]? = some (440, 1, .aload_n 0, []) := rfl
set_option maxRecDepth 5000 in
theorem pa_Mod_solved_256 : pr_Mod_solved[256]? = some (441, 3, .getfield 44, [7, 17, 2, 0, 637]) := rfl
set_option maxRecDepth 5000 in
theorem pa_Mod_solved_257 : pr_Mod_solved[257]? = some (444, 1, .aload_n 0, []) := rfl
set_option maxRecDepth 5000 in
theorem pa_Mod_solved_258 : pr_Mod_solved[258]? = some (445, 3, .getfield 50, [7, 19, 2, 0, 639]) := rfl
set_option maxRecDepth 5000 in
theorem pa_Mod_solved_259 : pr_Mod_solved[259]? = some (448, 1, .iload_n 2, []) := rfl
set_option maxRecDepth 5000 in
theorem pa_Mod_solved_260 : pr_Mod_solved[260]? = some (449, 1, .iaload, []) := rfl
set_option maxRecDepth 5000 in
theorem pa_Mod_solved_261 : pr_Mod_solved[261]? = some (450, 1, .dup2, []) := rfl
set_option maxRecDepth 5000 in
theorem pa_Mod_solved_262 : pr_Mod_solved[262]? = some (451, 1, .iaload, []) := rfl
set_option maxRecDepth 5000 in
theorem pa_Mod_solved_263 : pr_Mod_solved[263]? = some (452, 1, .aload_n 0, []) := rfl
set_option maxRecDepth 5000 in
theorem pa_Mod_solved_264 : pr_Mod_solved[264]? = some (453, 3, .getfield 47, [7, 18, 2, 0, 638]) := rfl
set_option maxRecDepth 5000 in
theorem pa_Mod_solved_265 : pr_Mod_solved[265]? = some (456, 2, .bipush 7, [7, 0]) := rfl
set_option maxRecDepth 5000 in
theorem pa_Mod_solved_266 : pr_Mod_solved[266]? = some (458, 1, .iload_n 2, []) := rfl
set_option maxRecDepth 5000 in
theorem pa_Mod_solved_267 : pr_Mod_solved[267]? = some (459, 1, .imul, []) := rfl
set_option maxRecDepth 5000 in
theorem pa_Mod_solved_268 : pr_Mod_solved[268]? = some (460, 2, .bipush 6, [6, 0]) := rfl
set_option maxRecDepth 5000 in
theorem pa_Mod_solved_269 : pr_Mod_solved[269]? = some (462, 1, .iadd, []) := rfl
set_option maxRecDepth 5000 in
theorem pa_Mod_solved_270 : pr_Mod_solved[270]? = some (463, 1, .iaload, []) := rfl
set_option maxRecDepth 5000 in
theorem pa_Mod_solved_271 : pr_Mod_solved[271]? = some (464, 1, .ixor, []) := rfl
set_option maxRecDepth 5000 in
theorem pa_Mod_solved_272 : pr_Mod_solved[272]? = some (465, 1, .iastore, []) := rfl
set_option maxRecDepth 5000 in
theorem pa_Mod_solved_273 : pr_Mod_solved[273]? = some (466, 3, .iinc 2 (1), [1, 0]) := rfl
set_option maxRecDepth 5000 in
theorem pa_Mod_solved_274 : pr_Mod_solved[274]? = some (469, 3, .goto (-34), [252]) := rfl
set_option maxRecDepth 5000 in
theorem pa_Mod_solved_275 : pr_Mod_solved[275]? = some (472, 1, .iconst 1, [1, 0]) := rfl
set_option maxRecDepth 5000 in
theorem pa_Mod_solved_276 : pr_Mod_solved[276]? = some (473, 1, .ireturn, [1]) := rfl
set_option maxRecDepth 30000 in
def pa_Mod_solved := And.intro pa_Mod_solved_0 (And.intro pa_Mod_solved_1 (And.intro pa_Mod_solved_2 (And.intro pa_Mod_solved_3 (And.intro pa_Mod_solved_4 (And.intro pa_Mod_solved_5 (And.intro pa_Mod_solved_6 (And.intro pa_Mod_solved_7 (And.intro pa_Mod_solved_8 (And.intro pa_Mod_solved_9 (And.intro pa_Mod_solved_10 (And.intro pa_Mod_solved_11 (And.intro pa_Mod_solved_12 (And.intro pa_Mod_solved_13 (And.intro pa_Mod_solved_14 (And.intro pa_Mod_solved_15 (And.intro pa_Mod_solved_16 (And.intro pa_Mod_solved_17 (And.intro pa_Mod_solved_18 (And.intro pa_Mod_solved_19 (And.intro pa_Mod_solved_20 (And.intro pa_Mod_solved_21 (And.intro pa_Mod_solved_22 (And.intro pa_Mod_solved_23 (And.intro pa_Mod_solved_24 (And.intro pa_Mod_solved_25 (And.intro pa_Mod_solved_26 (And.intro pa_Mod_solved_27 (And.intro pa_Mod_solved_28 (And.intro pa_Mod_solved_29 (And.intro pa_Mod_solved_30 (And.intro pa_Mod_solved_31 (And.intro pa_Mod_solved_32 (And.intro pa_Mod_solved_33 (And.intro pa_Mod_solved_34 (And.intro pa_Mod_solved_35 (And.intro pa_Mod_solved_36 (And.intro pa_Mod_solved_37 (And.intro pa_Mod_solved_38 (And.intro pa_Mod_solved_39 (And.intro pa_Mod_solved_40 (And.intro pa_Mod_solved_41 (And.intro pa_Mod_solved_42 (And.intro pa_Mod_solved_43 (And.intro pa_Mod_solved_44 (And.intro pa_Mod_solved_45 (And.intro pa_Mod_solved_46 (And.intro pa_Mod_solved_47 (And.intro pa_Mod_solved_48 (And.intro pa_Mod_solved_49 (And.intro pa_Mod_solved_50 (And.intro pa_Mod_solved_51 (And.intro pa_Mod_solved_52 (And.intro pa_Mod_solved_53 (And.intro pa_Mod_solved_54 (And.intro pa_Mod_solved_55 (And.intro pa_Mod_solved_56 (And.intro pa_Mod_solved_57 (And.intro pa_Mod_solved_58 (And.intro pa_Mod_solved_59 (And.intro pa_Mod_solved_60 (And.intro pa_Mod_solved_61 (And.intro pa_Mod_solved_62 (And.intro pa_Mod_solved_63 (And.intro pa_Mod_solved_64 (And.intro pa_Mod_solved_65 (And.intro pa_Mod_solved_66 (And.intro pa_Mod_solved_67 (And.intro pa_Mod_solved_68 (And.intro pa_Mod_solved_69 (And.intro pa_Mod_solved_70 (And.intro pa_Mod_solved_71 (And.intro pa_Mod_solved_72 (And.intro pa_Mod_solved_73 (And.intro pa_Mod_solved_74 (And.intro pa_Mod_solved_75 (And.intro pa_Mod_solved_76 (And.intro pa_Mod_solved_77 (And.intro pa_Mod_solved_78 (And.intro pa_Mod_solved_79 (And.intro pa_Mod_solved_80 (And.intro pa_Mod_solved_81 (And.intro pa_Mod_solved_82 (And.intro pa_Mod_solved_83 (And.intro pa_Mod_solved_84 (And.intro pa_Mod_solved_85 (And.intro pa_Mod_solved_86 (And.intro pa_Mod_solved_87 (And.intro pa_Mod_solved_88 (And.intro pa_Mod_solved_89 (And.intro pa_Mod_solved_90 (And.intro pa_Mod_solved_91 (And.intro pa_Mod_solved_92 (And.intro pa_Mod_solved_93 (And.intro pa_Mod_solved_94 (And.intro pa_Mod_solved_95 (And.intro pa_Mod_solved_96 (And.intro pa_Mod_solved_97 (And.intro pa_Mod_solved_98 (And.intro pa_Mod_solved_99 (And.intro pa_Mod_solved_100 (And.intro pa_Mod_solved_101 (And.intro pa_Mod_solved_102 (And.intro pa_Mod_solved_103 (And.intro pa_Mod_solved_104 (And.intro pa_Mod_solved_105 (And.intro pa_Mod_solved_106 (And.intro pa_Mod_solved_107 (And.intro pa_Mod_solved_108 (And.intro pa_Mod_solved_109 (And.intro pa_Mod_solved_110 (And.intro pa_Mod_solved_111 (And.intro pa_Mod_solved_112 (And.intro pa_Mod_solved_113 (And.intro pa_Mod_solved_114 (And.intro pa_Mod_solved_115 (And.intro pa_Mod_solved_116 (And.intro pa_Mod_solved_117 (And.intro pa_Mod_solved_118 (And.intro pa_Mod_solved_119 (And.intro pa_Mod_solved_120 (And.intro pa_Mod_solved_121 (And.intro pa_Mod_solved_122 (And.intro pa_Mod_solved_123 (And.intro pa_Mod_solved_124 (And.intro pa_Mod_solved_125 (And.intro pa_Mod_solved_126 (And.intro pa_Mod_solved_127 (And.intro pa_Mod_solved_128 (And.intro pa_Mod_solved_129 (And.intro pa_Mod_solved_130 (And.intro pa_Mod_solved_131 (And.intro pa_Mod_solved_132 (And.intro pa_Mod_solved_133 (And.intro pa_Mod_solved_134 (And.intro pa_Mod_solved_135 (And.intro pa_Mod_solved_136 (And.intro pa_Mod_solved_137 (And.intro pa_Mod_solved_138 (And.intro pa_Mod_solved_139 (And.intro pa_Mod_solved_140 (And.intro pa_Mod_solved_141 (And.intro pa_Mod_solved_142 (And.intro pa_Mod_solved_143 (And.intro pa_Mod_solved_144 (And.intro pa_Mod_solved_145 (And.intro pa_Mod_solved_146 (And.intro pa_Mod_solved_147 (And.intro pa_Mod_solved_148 (And.intro pa_Mod_solved_149 (And.intro pa_Mod_solved_150 (And.intro pa_Mod_solved_151 (And.intro pa_Mod_solved_152 (And.intro pa_Mod_solved_153 (And.intro pa_Mod_solved_154 (And.intro pa_Mod_solved_155 (And.intro pa_Mod_solved_156 (And.intro pa_Mod_solved_157 (And.intro pa_Mod_solved_158 (And.intro pa_Mod_solved_159 (And.intro pa_Mod_solved_160 (And.intro pa_Mod_solved_161 (And.intro pa_Mod_solved_162 (And.intro pa_Mod_solved_163 (And.intro pa_Mod_solved_164 (And.intro pa_Mod_solved_165 (And.intro pa_Mod_solved_166 (And.intro pa_Mod_solved_167 (And.intro pa_Mod_solved_168 (And.intro pa_Mod_solved_169 (And.intro pa_Mod_solved_170 (And.intro pa_Mod_solved_171 (And.intro pa_Mod_solved_172 (And.intro pa_Mod_solved_173 (And.intro pa_Mod_solved_174 (And.intro pa_Mod_solved_175 (And.intro pa_Mod_solved_176 (And.intro pa_Mod_solved_177 (And.intro pa_Mod_solved_178 (And.intro pa_Mod_solved_179 (And.intro pa_Mod_solved_180 (And.intro pa_Mod_solved_181 (And.intro pa_Mod_solved_182 (And.intro pa_Mod_solved_183 (And.intro pa_Mod_solved_184 (And.intro pa_Mod_solved_185 (And.intro pa_Mod_solved_186 (And.intro pa_Mod_solved_187 (And.intro pa_Mod_solved_188 (And.intro pa_Mod_solved_189 (And.intro pa_Mod_solved_190 (And.intro pa_Mod_solved_191 (And.intro pa_Mod_solved_192 (And.intro pa_Mod_solved_193 (And.intro pa_Mod_solved_194 (And.intro pa_Mod_solved_195 (And.intro pa_Mod_solved_196 (And.intro pa_Mod_solved_197 (And.intro pa_Mod_solved_198 (And.intro pa_Mod_solved_199 (And.intro pa_Mod_solved_200 (And.intro pa_Mod_solved_201 (And.intro pa_Mod_solved_202 (And.intro pa_Mod_solved_203 (And.intro pa_Mod_solved_204 (And.intro pa_Mod_solved_205 (And.intro pa_Mod_solved_206 (And.intro pa_Mod_solved_207 (And.intro pa_Mod_solved_208 (And.intro pa_Mod_solved_209 (And.intro pa_Mod_solved_210 (And.intro pa_Mod_solved_211 (And.intro pa_Mod_solved_212 (And.intro pa_Mod_solved_213 (And.intro pa_Mod_solved_214 (And.intro pa_Mod_solved_215 (And.intro pa_Mod_solved_216 (And.intro pa_Mod_solved_217 (And.intro pa_Mod_solved_218 (And.intro pa_Mod_solved_219 (And.intro pa_Mod_solved_220 (And.intro pa_Mod_solved_221 (And.intro pa_Mod_solved_222 (And.intro pa_Mod_solved_223 (And.intro pa_Mod_solved_224 (And.intro pa_Mod_solved_225 (And.intro pa_Mod_solved_226 (And.intro pa_Mod_solved_227 (And.intro pa_Mod_solved_228 (And.intro pa_Mod_solved_229 (And.intro pa_Mod_solved_230 (And.intro pa_Mod_solved_231 (And.intro pa_Mod_solved_232 (And.intro pa_Mod_solved_233 (And.intro pa_Mod_solved_234 (And.intro pa_Mod_solved_235 (And.intro pa_Mod_solved_236 (And.intro pa_Mod_solved_237 (And.intro pa_Mod_solved_238 (And.intro pa_Mod_solved_239 (And.intro pa_Mod_solved_240 (And.intro pa_Mod_solved_241 (And.intro pa_Mod_solved_242 (And.intro pa_Mod_solved_243 (And.intro pa_Mod_solved_244 (And.intro pa_Mod_solved_245 (And.intro pa_Mod_solved_246 (And.intro pa_Mod_solved_247 (And.intro pa_Mod_solved_248 (And.intro pa_Mod_solved_249 (And.intro pa_Mod_solved_250 (And.intro pa_Mod_solved_251 (And.intro pa_Mod_solved_252 (And.intro pa_Mod_solved_253 (And.intro pa_Mod_solved_254 (And.intro pa_Mod_solved_255 (And.intro pa_Mod_solved_256 (And.intro pa_Mod_solved_257 (And.intro pa_Mod_solved_258 (And.intro pa_Mod_solved_259 (And.intro pa_Mod_solved_260 (And.intro pa_Mod_solved_261 (And.intro pa_Mod_solved_262 (And.intro pa_Mod_solved_263 (And.intro pa_Mod_solved_264 (And.intro pa_Mod_solved_265 (And.intro pa_Mod_solved_266 (And.intro pa_Mod_solved_267 (And.intro pa_Mod_solved_268 (And.intro pa_Mod_solved_269 (And.intro pa_Mod_solved_270 (And.intro pa_Mod_solved_271 (And.intro pa_Mod_solved_272 (And.intro pa_Mod_solved_273 (And.intro pa_Mod_solved_274 (And.intro pa_Mod_solved_275 (pa_Mod_solved_276))))))))))))))))))))))))))))))))))))))))))))))))))))))))))))))))))))))))))))))))))))))))))))))))))))))))))))))))))))))))))))))))))))))))))))))))))))))))))))))))))))))))))))))))))))))))))))))))))))))))))))))))))))))))))))))))))))))))))))))))))))))))))))))))))))))))))))))))))))
def pr_Bod_spell : List ma_E := [(0, 2, .ldc 26, [59049, 0, 349]),
  (2, 1, .istore_n 3, []),
  (3, 1, .iload_n 1, []),
  (4, 2, .bipush 11, [11, 0]),
  (6, 1, .imul, []),
  (7, 2, .istore 4, []),
  (9, 2, .iload 4, []),
  (11, 2, .istore 5, []),
  (13, 2, .iload 5, []),
  (15, 2, .iload 4, []),
  (17, 2, .bipush 11, [11, 0]),
  (19, 1, .iadd, []),
  (20, 3, .if_icmp .ge (46), [38]),
  (23, 1, .iload_n 2, []),
  (24, 1, .iload_n 3, []),
  (25, 1, .idiv, []),
  (26, 1, .iconst 3, [3, 0]),
  (27, 1, .irem, []),
  (28, 2, .istore 6, []),
  (30, 1, .aload_n 0, []),
  (31, 2, .iload 5, []),
  (33, 2, .iload 6, []),
  (35, 1, .aload_n 0, []),
  (36, 2, .iload 5, []),
  (38, 3, .invokevirtual 27, [7, 1, 2, 0, 350, 352, 13, 44]),
  (41, 3, .if_icmp .ge (8), [28]),
  (44, 2, .iload 6, []),
  (46, 3, .goto (7), [31]),
  (49, 2, .iload 6, []),
  (51, 1, .iconst 1, [1, 0]),
  (52, 1, .iadd, []),
  (53, 3, .invokevirtual 30, [44, 2, 2, 0, 354, 355, 356, 44]),
  (56, 1, .iload_n 3, []),
  (57, 1, .iconst 3, [3, 0]),
  (58, 1, .idiv, []),
  (59, 1, .istore_n 3, []),
  (60, 3, .iinc 5 (1), [1, 0]),
  (63, 3, .goto (-50), [8]),
  (66, 1, .return_, [])]
theorem po_Bod_spell : ma_ok me_Bod_spell pr_Bod_spell := ma_ok_of (by decide +kernel)
theorem pa_Bod_spell_0 : pr_Bod_spell[0]? = some (0, 2, .ldc 26, [59049, 0, 349]) := rfl
theorem pa_Bod_spell_1 : pr_Bod_spell[1]? = some (2, 1, .istore_n 3, []) := rfl
theorem pa_Bod_spell_2 : pr_Bod_spell[2]? = some (3, 1, .iload_n 1, []) := rfl
theorem pa_Bod_spell_3 : pr_Bod_spell[3]? = some (4, 2, .bipush 11, [11, 0]) := rfl
theorem pa_Bod_spell_4 : pr_Bod_spell[4]? = some (6, 1, .imul, []) := rfl
theorem pa_Bod_spell_5 : pr_Bod_spell[5]? = some (7, 2, .istore 4, []) := rfl
theorem pa_Bod_spell_6 : pr_Bod_spell[6]? = some (9, 2, .iload 4, []) := rfl
theorem pa_Bod_spell_7 : pr_Bod_spell[7]? = some (11, 2, .istore 5, []) := rfl
theorem pa_Bod_spell_8 : pr_Bod_spell[8]? = some (13, 2, .iload 5, []) := rfl
theorem pa_Bod_spell_9 : pr_Bod_spell[9]? = some (15, 2, .iload 4, []) := rfl
theorem pa_Bod_spell_10 : pr_Bod_spell[10]? = some (17, 2, .bipush 11, [11, 0]) := rfl
theorem pa_Bod_spell_11 : pr_Bod_spell[11]? = some (19, 1, .iadd, []) := rfl
theorem pa_Bod_spell_12 : pr_Bod_spell[12]? = some (20, 3, .if_icmp .ge (46), [38]) := rfl
theorem pa_Bod_spell_13 : pr_Bod_spell[13]? = some (23, 1, .iload_n 2, []) := rfl
theorem pa_Bod_spell_14 : pr_Bod_spell[14]? = some (24, 1, .iload_n 3, []) := rfl
theorem pa_Bod_spell_15 : pr_Bod_spell[15]? = some (25, 1, .idiv, []) := rfl
theorem pa_Bod_spell_16 : pr_Bod_spell[16]? = some (26, 1, .iconst 3, [3, 0]) := rfl
theorem pa_Bod_spell_17 : pr_Bod_spell[17]? = some (27, 1, .irem, []) := rfl
theorem pa_Bod_spell_18 : pr_Bod_spell[18]? = some (28, 2, .istore 6, []) := rfl
theorem pa_Bod_spell_19 : pr_Bod_spell[19]? = some (30, 1, .aload_n 0, []) := rfl
theorem pa_Bod_spell_20 : pr_Bod_spell[20]? = some (31, 2, .iload 5, []) := rfl
theorem pa_Bod_spell_21 : pr_Bod_spell[21]? = some (33, 2, .iload 6, []) := rfl
theorem pa_Bod_spell_22 : pr_Bod_spell[22]? = some (35, 1, .aload_n 0, []) := rfl
theorem pa_Bod_spell_23 : pr_Bod_spell[23]? = some (36, 2, .iload 5, []) := rfl
theorem pa_Bod_spell_24 : pr_Bod_spell[24]? = some (38, 3, .invokevirtual 27, [7, 1, 2, 0, 350, 352, 13, 44]) := rfl
theorem pa_Bod_spell_25 : pr_Bod_spell[25]? = some (41, 3, .if_icmp .ge (8), [28]) := rfl
theorem pa_Bod_spell_26 : pr_Bod_spell[26]? = some (44, 2, .iload 6, []) := rfl
theorem pa_Bod_spell_27 : pr_Bod_spell[27]? = some (46, 3, .goto (7), [31]) := rfl
theorem pa_Bod_spell_28 : pr_Bod_spell[28]? = some (49, 2, .iload 6, []) := rfl
theorem pa_Bod_spell_29 : pr_Bod_spell[29]? = some (51, 1, .iconst 1, [1, 0]) := rfl
theorem pa_Bod_spell_30 : pr_Bod_spell[30]? = some (52, 1, .iadd, []) := rfl
theorem pa_Bod_spell_31 : pr_Bod_spell[31]? = some (53, 3, .invokevirtual 30, [44, 2, 2, 0, 354, 355, 356, 44]) := rfl
theorem pa_Bod_spell_32 : pr_Bod_spell[32]? = some (56, 1, .iload_n 3, []) := rfl
theorem pa_Bod_spell_33 : pr_Bod_spell[33]? = some (57, 1, .iconst 3, [3, 0]) := rfl
theorem pa_Bod_spell_34 : pr_Bod_spell[34]? = some (58, 1, .idiv, []) := rfl
theorem pa_Bod_spell_35 : pr_Bod_spell[35]? = some (59, 1, .istore_n 3, []) := rfl
theorem pa_Bod_spell_36 : pr_Bod_spell[36]? = some (60, 3, .iinc 5 (1), [1, 0]) := rfl
theorem pa_Bod_spell_37 : pr_Bod_spell[37]? = some (63, 3, .goto (-50), [8]) := rfl
theorem pa_Bod_spell_38 : pr_Bod_spell[38]? = some (66, 1, .return_, []) := rfl
def pa_Bod_spell := And.intro pa_Bod_spell_0 (And.intro pa_Bod_spell_1 (And.intro pa_Bod_spell_2 (And.intro pa_Bod_spell_3 (And.intro pa_Bod_spell_4 (And.intro pa_Bod_spell_5 (And.intro pa_Bod_spell_6 (And.intro pa_Bod_spell_7 (And.intro pa_Bod_spell_8 (And.intro pa_Bod_spell_9 (And.intro pa_Bod_spell_10 (And.intro pa_Bod_spell_11 (And.intro pa_Bod_spell_12 (And.intro pa_Bod_spell_13 (And.intro pa_Bod_spell_14 (And.intro pa_Bod_spell_15 (And.intro pa_Bod_spell_16 (And.intro pa_Bod_spell_17 (And.intro pa_Bod_spell_18 (And.intro pa_Bod_spell_19 (And.intro pa_Bod_spell_20 (And.intro pa_Bod_spell_21 (And.intro pa_Bod_spell_22 (And.intro pa_Bod_spell_23 (And.intro pa_Bod_spell_24 (And.intro pa_Bod_spell_25 (And.intro pa_Bod_spell_26 (And.intro pa_Bod_spell_27 (And.intro pa_Bod_spell_28 (And.intro pa_Bod_spell_29 (And.intro pa_Bod_spell_30 (And.intro pa_Bod_spell_31 (And.intro pa_Bod_spell_32 (And.intro pa_Bod_spell_33 (And.intro pa_Bod_spell_34 (And.intro pa_Bod_spell_35 (And.intro pa_Bod_spell_36 (And.intro pa_Bod_spell_37 (pa_Bod_spell_38))))))))))))))))))))))))))))))))))))))
end
section
/-! the methods as tables -/
def pr_Rdr_init : List ma_E := [(0, 1, .aload_n 0, []),
  (1, 3, .invokespecial 3, [0, 168, 62, 63]),
  (4, 1, .aload_n 0, []),
  (5, 3, .new 9, [2, 3, 169, 141, 44]),
  (8, 1, .dup, []),
  (9, 3, .invokespecial 11, [43, 0, 0, 170, 143, 44]),
  (12, 3, .putfield 12, [3, 0, 2, 0, 171]),
  (15, 1, .aload_n 0, []),
  (16, 1, .iconst 0, [0, 0]),
  (17, 3, .putfield 18, [3, 1, 0, 0, 173]),
  (20, 1, .aload_n 0, []),
  (21, 1, .iconst 0, [0, 0]),
  (22, 3, .putfield 22, [3, 2, 0, 0, 174]),
  (25, 1, .return_, [])]
theorem po_Rdr_init : ma_ok me_Rdr_init pr_Rdr_init := ma_ok_of (by decide +kernel)
theorem pa_Rdr_init_0 : pr_Rdr_init[0]? = some (0, 1, .aload_n 0, []) := rfl
theorem pa_Rdr_init_1 : pr_Rdr_init[1]? = some (1, 3, .invokespecial 3, [0, 168, 62, 63]) := rfl
theorem pa_Rdr_init_2 : pr_Rdr_init[2]? = some (4, 1, .aload_n 0, []) := rfl
theorem pa_Rdr_init_3 : pr_Rdr_init[3]? = some (5, 3, .new 9, [2, 3, 169, 141, 44]) := rfl
theorem pa_Rdr_init_4 : pr_Rdr_init[4]? = some (8, 1, .dup, []) := rfl
theorem pa_Rdr_init_5 : pr_Rdr_init[5]? = some (9, 3, .invokespecial 11, [43, 0, 0, 170, 143, 44]) := rfl
theorem pa_Rdr_init_6 : pr_Rdr_init[6]? = some (12, 3, .putfield 12, [3, 0, 2, 0, 171]) := rfl
theorem pa_Rdr_init_7 : pr_Rdr_init[7]? = some (15, 1, .aload_n 0, []) := rfl
theorem pa_Rdr_init_8 : pr_Rdr_init[8]? = some (16, 1, .iconst 0, [0, 0]) := rfl
theorem pa_Rdr_init_9 : pr_Rdr_init[9]? = some (17, 3, .putfield 18, [3, 1, 0, 0, 173]) := rfl
theorem pa_Rdr_init_10 : pr_Rdr_init[10]? = some (20, 1, .aload_n 0, []) := rfl
theorem pa_Rdr_init_11 : pr_Rdr_init[11]? = some (21, 1, .iconst 0, [0, 0]) := rfl
theorem pa_Rdr_init_12 : pr_Rdr_init[12]? = some (22, 3, .putfield 22, [3, 2, 0, 0, 174]) := rfl
theorem pa_Rdr_init_13 : pr_Rdr_init[13]? = some (25, 1, .return_, []) := rfl
def pa_Rdr_init := And.intro pa_Rdr_init_0 (And.intro pa_Rdr_init_1 (And.intro pa_Rdr_init_2 (And.intro pa_Rdr_init_3 (And.intro pa_Rdr_init_4 (And.intro pa_Rdr_init_5 (And.intro pa_Rdr_init_6 (And.intro pa_Rdr_init_7 (And.intro pa_Rdr_init_8 (And.intro pa_Rdr_init_9 (And.intro pa_Rdr_init_10 (And.intro pa_Rdr_init_11 (And.intro pa_Rdr_init_12 (pa_Rdr_init_13)))))))))))))
def pr_Rdr_restoreCut : List ma_E := [(0, 1, .iconst 0, [0, 0]),
  (1, 1, .istore_n 2, []),
  (2, 1, .iconst 1, [1, 0]),
  (3, 1, .istore_n 3, []),
  (4, 1, .iload_n 3, []),
  (5, 2, .bipush 33, [33, 0]),
  (7, 3, .if_icmp .ge (33), [24]),
  (10, 1, .aload_n 1, []),
  (11, 1, .iload_n 3, []),
  (12, 1, .iconst 1, [1, 0]),
  (13, 1, .isub, []),
  (14, 3, .invokevirtual 47, [2, 1, 0, 0, 463, 390, 391, 41]),
  (17, 2, .istore 4, []),
  (19, 1, .aload_n 0, []),
  (20, 3, .getfield 12, [3, 0, 2, 0, 171]),
  (23, 1, .iload_n 3, []),
  (24, 2, .iload 4, []),
  (26, 3, .invokevirtual 58, [44, 2, 2, 0, 468, 355, 356, 44]),
  (29, 1, .iload_n 2, []),
  (30, 2, .iload 4, []),
  (32, 1, .iadd, []),
  (33, 1, .istore_n 2, []),
  (34, 3, .iinc 3 (1), [1, 0]),
  (37, 3, .goto (-33), [4]),
  (40, 1, .aload_n 0, []),
  (41, 3, .getfield 18, [3, 1, 0, 0, 173]),
  (44, 1, .iload_n 2, []),
  (45, 1, .isub, []),
  (46, 1, .iconst 4, [4, 0]),
  (47, 3, .invokestatic 66, [39, 2, 0, 469, 470, 50]),
  (50, 1, .istore_n 3, []),
  (51, 1, .aload_n 0, []),
  (52, 3, .getfield 12, [3, 0, 2, 0, 171]),
  (55, 1, .iconst 0, [0, 0]),
  (56, 1, .iload_n 3, []),
  (57, 3, .invokevirtual 58, [44, 2, 2, 0, 468, 355, 356, 44]),
  (60, 1, .iconst 0, [0, 0]),
  (61, 2, .istore 4, []),
  (63, 2, .iload 4, []),
  (65, 2, .bipush 32, [32, 0]),
  (67, 3, .if_icmp .ge (43), [60]),
  (70, 1, .aload_n 0, []),
  (71, 3, .invokevirtual 62, [46, 0, 3, 0, 472, 474, 20, 46]),
  (74, 3, .ifCond .ne (36), [60]),
  (77, 1, .aload_n 0, []),
  (78, 3, .getfield 12, [3, 0, 2, 0, 171]),
  (81, 2, .iload 4, []),
  (83, 1, .aload_n 1, []),
  (84, 2, .iload 4, []),
  (86, 3, .invokevirtual 47, [2, 1, 0, 0, 463, 390, 391, 41]),
  (89, 3, .invokevirtual 58, [44, 2, 2, 0, 468, 355, 356, 44]),
  (92, 1, .aload_n 0, []),
  (93, 3, .getfield 12, [3, 0, 2, 0, 171]),
  (96, 2, .iload 4, []),
  (98, 1, .iconst 1, [1, 0]),
  (99, 1, .iadd, []),
  (100, 1, .iload_n 3, []),
  (101, 3, .invokevirtual 58, [44, 2, 2, 0, 468, 355, 356, 44]),
  (104, 3, .iinc 4 (1), [1, 0]),
  (107, 3, .goto (-44), [38]),
  (110, 1, .aload_n 0, []),
  (111, 3, .invokevirtual 62, [46, 0, 3, 0, 472, 474, 20, 46]),
  (114, 1, .ireturn, [1])]
theorem po_Rdr_restoreCut : ma_ok me_Rdr_restoreCut pr_Rdr_restoreCut := ma_ok_of (by decide +kernel)
theorem pa_Rdr_restoreCut_0 : pr_Rdr_restoreCut[0]? = some (0, 1, .iconst 0, [0, 0]) := rfl
theorem pa_Rdr_restoreCut_1 : pr_Rdr_restoreCut[1]? = some (1, 1, .istore_n 2, []) := rfl
theorem pa_Rdr_restoreCut_2 : pr_Rdr_restoreCut[2]? = some (2, 1, .iconst 1, [1, 0]) := rfl
theorem pa_Rdr_restoreCut_3 : pr_Rdr_restoreCut[3]? = some (3, 1, .istore_n 3, []) := rfl
theorem pa_Rdr_restoreCut_4 : pr_Rdr_restoreCut[4]? = some (4, 1, .iload_n 3, []) := rfl
theorem pa_Rdr_restoreCut_5 : pr_Rdr_restoreCut[5]? = some (5, 2, .bipush 33, [33, 0]) := rfl
theorem pa_Rdr_restoreCut_6 : pr_Rdr_restoreCut[6]? = some (7, 3, .if_icmp .ge (33), [24]) := rfl
theorem pa_Rdr_restoreCut_7 : pr_Rdr_restoreCut[7]? = some (10, 1, .aload_n 1, []) := rfl
theorem pa_Rdr_restoreCut_8 : pr_Rdr_restoreCut[8]? = some (11, 1, .iload_n 3, []) := rfl
theorem pa_Rdr_restoreCut_9 : pr_Rdr_restoreCut[9]? = some (12, 1, .iconst 1, [1, 0]) := rfl
theorem pa_Rdr_restoreCut_10 : pr_Rdr_restoreCut[10]? = some (13, 1, .isub, []) := rfl
theorem pa_Rdr_restoreCut_11 : pr_Rdr_restoreCut[11]? = some (14, 3, .invokevirtual 47, [2, 1, 0, 0, 463, 390, 391, 41]) := rfl
theorem pa_Rdr_restoreCut_12 : pr_Rdr_restoreCut[12]? = some (17, 2, .istore 4, []) := rfl
theorem pa_Rdr_restoreCut_13 : pr_Rdr_restoreCut[13]? = some (19, 1, .aload_n 0, []) := rfl
theorem pa_Rdr_restoreCut_14 : pr_Rdr_restoreCut[14]? = some (20, 3, .getfield 12, [3, 0, 2, 0, 171]) := rfl
theorem pa_Rdr_restoreCut_15 : pr_Rdr_restoreCut[15]? = some (23, 1, .iload_n 3, []) := rfl
theorem pa_Rdr_restoreCut_16 : pr_Rdr_restoreCut[16]? = some (24, 2, .iload 4, []) := rfl
theorem pa_Rdr_restoreCut_17 : pr_Rdr_restoreCut[17]? = some (26, 3, .invokevirtual 58, [44, 2, 2, 0, 468, 355, 356, 44]) := rfl
theorem pa_Rdr_restoreCut_18 : pr_Rdr_restoreCut[18]? = some (29, 1, .iload_n 2, []) := rfl
theorem pa_Rdr_restoreCut_19 : pr_Rdr_restoreCut[19]? = some (30, 2, .iload 4, []) := rfl
theorem pa_Rdr_restoreCut_20 : pr_Rdr_restoreCut[20]? = some (32, 1, .iadd, []) := rfl
theorem pa_Rdr_restoreCut_21 : pr_Rdr_restoreCut[21]? = some (33, 1, .istore_n 2, []) := rfl
theorem pa_Rdr_restoreCut_22 : pr_Rdr_restoreCut[22]? = some (34, 3, .iinc 3 (1), [1, 0]) := rfl
theorem pa_Rdr_restoreCut_23 : pr_Rdr_restoreCut[23]? = some (37, 3, .goto (-33), [4]) := rfl
theorem pa_Rdr_restoreCut_24 : pr_Rdr_restoreCut[24]? = some (40, 1, .aload_n 0, []) := rfl
theorem pa_Rdr_restoreCut_25 : pr_Rdr_restoreCut[25]? = some (41, 3, .getfield 18, [3, 1, 0, 0, 173]) := rfl
theorem pa_Rdr_restoreCut_26 : pr_Rdr_restoreCut[26]? = some (44, 1, .iload_n 2, []) := rfl
theorem pa_Rdr_restoreCut_27 : pr_Rdr_restoreCut[27]? = some (45, 1, .isub, []) := rfl
theorem pa_Rdr_restoreCut_28 : pr_Rdr_restoreCut[28]? = some (46, 1, .iconst 4, [4, 0]) := rfl
theorem pa_Rdr_restoreCut_29 : pr_Rdr_restoreCut[29]? = some (47, 3, .invokestatic 66, [39, 2, 0, 469, 470, 50]) := rfl
theorem pa_Rdr_restoreCut_30 : pr_Rdr_restoreCut[30]? = some (50, 1, .istore_n 3, []) := rfl
theorem pa_Rdr_restoreCut_31 : pr_Rdr_restoreCut[31]? = some (51, 1, .aload_n 0, []) := rfl
theorem pa_Rdr_restoreCut_32 : pr_Rdr_restoreCut[32]? = some (52, 3, .getfield 12, [3, 0, 2, 0, 171]) := rfl
theorem pa_Rdr_restoreCut_33 : pr_Rdr_restoreCut[33]? = some (55, 1, .iconst 0, [0, 0]) := rfl
theorem pa_Rdr_restoreCut_34 : pr_Rdr_restoreCut[34]? = some (56, 1, .iload_n 3, []) := rfl
theorem pa_Rdr_restoreCut_35 : pr_Rdr_restoreCut[35]? = some (57, 3, .invokevirtual 58, [44, 2, 2, 0, 468, 355, 356, 44]) := rfl
theorem pa_Rdr_restoreCut_36 : pr_Rdr_restoreCut[36]? = some (60, 1, .iconst 0, [0, 0]) := rfl
theorem pa_Rdr_restoreCut_37 : pr_Rdr_restoreCut[37]? = some (61, 2, .istore 4, []) := rfl
theorem pa_Rdr_restoreCut_38 : pr_Rdr_restoreCut[38]? = some (63, 2, .iload 4, []) := rfl
theorem pa_Rdr_restoreCut_39 : pr_Rdr_restoreCut[39]? = some (65, 2, .bipush 32, [32, 0]) := rfl
theorem pa_Rdr_restoreCut_40 : pr_Rdr_restoreCut[40]? = some (67, 3, .if_icmp .ge (43), [60]) := rfl
theorem pa_Rdr_restoreCut_41 : pr_Rdr_restoreCut[41]? = some (70, 1, .aload_n 0, []) := rfl
theorem pa_Rdr_restoreCut_42 : pr_Rdr_restoreCut[42]? = some (71, 3, .invokevirtual 62, [46, 0, 3, 0, 472, 474, 20, 46]) := rfl
theorem pa_Rdr_restoreCut_43 : pr_Rdr_restoreCut[43]? = some (74, 3, .ifCond .ne (36), [60]) := rfl
theorem pa_Rdr_restoreCut_44 : pr_Rdr_restoreCut[44]? = some (77, 1, .aload_n 0, []) := rfl
theorem pa_Rdr_restoreCut_45 : pr_Rdr_restoreCut[45]? = some (78, 3, .getfield 12, [3, 0, 2, 0, 171]) := rfl
theorem pa_Rdr_restoreCut_46 : pr_Rdr_restoreCut[46]? = some (81, 2, .iload 4, []) := rfl
theorem pa_Rdr_restoreCut_47 : pr_Rdr_restoreCut[47]? = some (83, 1, .aload_n 1, []) := rfl
theorem pa_Rdr_restoreCut_48 : pr_Rdr_restoreCut[48]? = some (84, 2, .iload 4, []) := rfl
theorem pa_Rdr_restoreCut_49 : pr_Rdr_restoreCut[49]? = some (86, 3, .invokevirtual 47, [2, 1, 0, 0, 463, 390, 391, 41]) := rfl
theorem pa_Rdr_restoreCut_50 : pr_Rdr_restoreCut[50]? = some (89, 3, .invokevirtual 58, [44, 2, 2, 0, 468, 355, 356, 44]) := rfl
theorem pa_Rdr_restoreCut_51 : pr_Rdr_restoreCut[51]? = some (92, 1, .aload_n 0, []) := rfl
theorem pa_Rdr_restoreCut_52 : pr_Rdr_restoreCut[52]? = some (93, 3, .getfield 12, [3, 0, 2, 0, 171]) := rfl
theorem pa_Rdr_restoreCut_53 : pr_Rdr_restoreCut[53]? = some (96, 2, .iload 4, []) := rfl
theorem pa_Rdr_restoreCut_54 : pr_Rdr_restoreCut[54]? = some (98, 1, .iconst 1, [1, 0]) := rfl
theorem pa_Rdr_restoreCut_55 : pr_Rdr_restoreCut[55]? = some (99, 1, .iadd, []) := rfl
theorem pa_Rdr_restoreCut_56 : pr_Rdr_restoreCut[56]? = some (100, 1, .iload_n 3, []) := rfl
theorem pa_Rdr_restoreCut_57 : pr_Rdr_restoreCut[57]? = some (101, 3, .invokevirtual 58, [44, 2, 2, 0, 468, 355, 356, 44]) := rfl
theorem pa_Rdr_restoreCut_58 : pr_Rdr_restoreCut[58]? = some (104, 3, .iinc 4 (1), [1, 0]) := rfl
theorem pa_Rdr_restoreCut_59 : pr_Rdr_restoreCut[59]? = some (107, 3, .goto (-44), [38]) := rfl
theorem pa_Rdr_restoreCut_60 : pr_Rdr_restoreCut[60]? = some (110, 1, .aload_n 0, []) := rfl
theorem pa_Rdr_restoreCut_61 : pr_Rdr_restoreCut[61]? = some (111, 3, .invokevirtual 62, [46, 0, 3, 0, 472, 474, 20, 46]) := rfl
theorem pa_Rdr_restoreCut_62 : pr_Rdr_restoreCut[62]? = some (114, 1, .ireturn, [1]) := rfl
def pa_Rdr_restoreCut := And.intro pa_Rdr_restoreCut_0 (And.intro pa_Rdr_restoreCut_1 (And.intro pa_Rdr_restoreCut_2 (And.intro pa_Rdr_restoreCut_3 (And.intro pa_Rdr_restoreCut_4 (And.intro pa_Rdr_restoreCut_5 (And.intro pa_Rdr_restoreCut_6 (And.intro pa_Rdr_restoreCut_7 (And.intro pa_Rdr_restoreCut_8 (And.intro pa_Rdr_restoreCut_9 (And.intro pa_Rdr_restoreCut_10 (And.intro pa_Rdr_restoreCut_11 (And.intro pa_Rdr_restoreCut_12 (And.intro pa_Rdr_restoreCut_13 (And.intro pa_Rdr_restoreCut_14 (And.intro pa_Rdr_restoreCut_15 (And.intro pa_Rdr_restoreCut_16 (And.intro pa_Rdr_restoreCut_17 (And.intro pa_Rdr_restoreCut_18 (And.intro pa_Rdr_restoreCut_19 (And.intro pa_Rdr_restoreCut_20 (And.intro pa_Rdr_restoreCut_21 (And.intro pa_Rdr_restoreCut_22 (And.intro pa_Rdr_restoreCut_23 (And.intro pa_Rdr_restoreCut_24 (And.intro pa_Rdr_restoreCut_25 (And.intro pa_Rdr_restoreCut_26 (And.intro pa_Rdr_restoreCut_27 (And.intro pa_Rdr_restoreCut_28 (And.intro pa_Rdr_restoreCut_29 (And.intro pa_Rdr_restoreCut_30 (And.intro pa_Rdr_restoreCut_31 (And.intro pa_Rdr_restoreCut_32 (And.intro pa_Rdr_restoreCut_33 (And.intro pa_Rdr_restoreCut_34 (And.intro pa_Rdr_restoreCut_35 (And.intro pa_Rdr_restoreCut_36 (And.intro pa_Rdr_restoreCut_37 (And.intro pa_Rdr_restoreCut_38 (And.intro pa_Rdr_restoreCut_39 (And.intro pa_Rdr_restoreCut_40 (And.intro pa_Rdr_restoreCut_41 (And.intro pa_Rdr_restoreCut_42 (And.intro pa_Rdr_restoreCut_43 (And.intro pa_Rdr_restoreCut_44 (And.intro pa_Rdr_restoreCut_45 (And.intro pa_Rdr_restoreCut_46 (And.intro pa_Rdr_restoreCut_47 (And.intro pa_Rdr_restoreCut_48 (And.intro pa_Rdr_restoreCut_49 (And.intro pa_Rdr_restoreCut_50 (And.intro pa_Rdr_restoreCut_51 (And.intro pa_Rdr_restoreCut_52 (And.intro pa_Rdr_restoreCut_53 (And.intro pa_Rdr_restoreCut_54 (And.intro pa_Rdr_restoreCut_55 (And.intro pa_Rdr_restoreCut_56 (And.intro pa_Rdr_restoreCut_57 (And.intro pa_Rdr_restoreCut_58 (And.intro pa_Rdr_restoreCut_59 (And.intro pa_Rdr_restoreCut_60 (And.intro pa_Rdr_restoreCut_61 (pa_Rdr_restoreCut_62))))))))))))))))))))))))))))))))))))))))))))))))))))))))))))))
def pr_Rdr_restoreGrown : List ma_E := [(0, 1, .iconst 0, [0, 0]),
  (1, 1, .istore_n 2, []),
  (2, 1, .iload_n 2, []),
  (3, 2, .bipush 33, [33, 0]),
  (5, 3, .if_icmp .ge (24), [16]),
  (8, 1, .aload_n 0, []),
  (9, 3, .getfield 12, [3, 0, 2, 0, 171]),
  (12, 1, .iload_n 2, []),
  (13, 1, .aload_n 1, []),
  (14, 1, .iload_n 2, []),
  (15, 1, .iconst 1, [1, 0]),
  (16, 1, .iadd, []),
  (17, 3, .invokevirtual 47, [2, 1, 0, 0, 463, 390, 391, 41]),
  (20, 3, .invokevirtual 58, [44, 2, 2, 0, 468, 355, 356, 44]),
  (23, 3, .iinc 2 (1), [1, 0]),
  (26, 3, .goto (-24), [2]),
  (29, 1, .iconst 0, [0, 0]),
  (30, 1, .istore_n 2, []),
  (31, 1, .iload_n 2, []),
  (32, 2, .bipush 33, [33, 0]),
  (34, 3, .if_icmp .ge (29), [33]),
  (37, 1, .aload_n 0, []),
  (38, 3, .invokevirtual 62, [46, 0, 3, 0, 472, 474, 20, 46]),
  (41, 3, .ifCond .ne (22), [33]),
  (44, 1, .aload_n 0, []),
  (45, 3, .getfield 12, [3, 0, 2, 0, 171]),
  (48, 1, .iload_n 2, []),
  (49, 1, .aload_n 1, []),
  (50, 1, .iload_n 2, []),
  (51, 3, .invokevirtual 47, [2, 1, 0, 0, 463, 390, 391, 41]),
  (54, 3, .invokevirtual 58, [44, 2, 2, 0, 468, 355, 356, 44]),
  (57, 3, .iinc 2 (1), [1, 0]),
  (60, 3, .goto (-29), [18]),
  (63, 1, .aload_n 0, []),
  (64, 3, .invokevirtual 62, [46, 0, 3, 0, 472, 474, 20, 46]),
  (67, 1, .ireturn, [1])]
theorem po_Rdr_restoreGrown : ma_ok me_Rdr_restoreGrown pr_Rdr_restoreGrown := ma_ok_of (by decide +kernel)
theorem pa_Rdr_restoreGrown_0 : pr_Rdr_restoreGrown[0]? = some (0, 1, .iconst 0, [0, 0]) := rfl
theorem pa_Rdr_restoreGrown_1 : pr_Rdr_restoreGrown[1]? = some (1, 1, .istore_n 2, []) := rfl
theorem pa_Rdr_restoreGrown_2 : pr_Rdr_restoreGrown[2]? = some (2, 1, .iload_n 2, []) := rfl
theorem pa_Rdr_restoreGrown_3 : pr_Rdr_restoreGrown[3]? = some (3, 2, .bipush 33, [33, 0]) := rfl
theorem pa_Rdr_restoreGrown_4 : pr_Rdr_restoreGrown[4]? = some (5, 3, .if_icmp .ge (24), [16]) := rfl
theorem pa_Rdr_restoreGrown_5 : pr_Rdr_restoreGrown[5]? = some (8, 1, .aload_n 0, []) := rfl
theorem pa_Rdr_restoreGrown_6 : pr_Rdr_restoreGrown[6]? = some (9, 3, .getfield 12, [3, 0, 2, 0, 171]) := rfl
theorem pa_Rdr_restoreGrown_7 : pr_Rdr_restoreGrown[7]? = some (12, 1, .iload_n 2, []) := rfl
theorem pa_Rdr_restoreGrown_8 : pr_Rdr_restoreGrown[8]? = some (13, 1, .aload_n 1, []) := rfl
theorem pa_Rdr_restoreGrown_9 : pr_Rdr_restoreGrown[9]? = some (14, 1, .iload_n 2, []) := rfl
theorem pa_Rdr_restoreGrown_10 : pr_Rdr_restoreGrown[10]? = some (15, 1, .iconst 1, [1, 0]) := rfl
theorem pa_Rdr_restoreGrown_11 : pr_Rdr_restoreGrown[11]? = some (16, 1, .iadd, []) := rfl
theorem pa_Rdr_restoreGrown_12 : pr_Rdr_restoreGrown[12]? = some (17, 3, .invokevirtual 47, [2, 1, 0, 0, 463, 390, 391, 41]) := rfl
theorem pa_Rdr_restoreGrown_13 : pr_Rdr_restoreGrown[13]? = some (20, 3, .invokevirtual 58, [44, 2, 2, 0, 468, 355, 356, 44]) := rfl
theorem pa_Rdr_restoreGrown_14 : pr_Rdr_restoreGrown[14]? = some (23, 3, .iinc 2 (1), [1, 0]) := rfl
theorem pa_Rdr_restoreGrown_15 : pr_Rdr_restoreGrown[15]? = some (26, 3, .goto (-24), [2]) := rfl
theorem pa_Rdr_restoreGrown_16 : pr_Rdr_restoreGrown[16]? = some (29, 1, .iconst 0, [0, 0]) := rfl
theorem pa_Rdr_restoreGrown_17 : pr_Rdr_restoreGrown[17]? = some (30, 1, .istore_n 2, []) := rfl
theorem pa_Rdr_restoreGrown_18 : pr_Rdr_restoreGrown[18]? = some (31, 1, .iload_n 2, []) := rfl
theorem pa_Rdr_restoreGrown_19 : pr_Rdr_restoreGrown[19]? = some (32, 2, .bipush 33, [33, 0]) := rfl
theorem pa_Rdr_restoreGrown_20 : pr_Rdr_restoreGrown[20]? = some (34, 3, .if_icmp .ge (29), [33]) := rfl
theorem pa_Rdr_restoreGrown_21 : pr_Rdr_restoreGrown[21]? = some (37, 1, .aload_n 0, []) := rfl
theorem pa_Rdr_restoreGrown_22 : pr_Rdr_restoreGrown[22]? = some (38, 3, .invokevirtual 62, [46, 0, 3, 0, 472, 474, 20, 46]) := rfl
theorem pa_Rdr_restoreGrown_23 : pr_Rdr_restoreGrown[23]? = some (41, 3, .ifCond .ne (22), [33]) := rfl
theorem pa_Rdr_restoreGrown_24 : pr_Rdr_restoreGrown[24]? = some (44, 1, .aload_n 0, []) := rfl
theorem pa_Rdr_restoreGrown_25 : pr_Rdr_restoreGrown[25]? = some (45, 3, .getfield 12, [3, 0, 2, 0, 171]) := rfl
theorem pa_Rdr_restoreGrown_26 : pr_Rdr_restoreGrown[26]? = some (48, 1, .iload_n 2, []) := rfl
theorem pa_Rdr_restoreGrown_27 : pr_Rdr_restoreGrown[27]? = some (49, 1, .aload_n 1, []) := rfl
theorem pa_Rdr_restoreGrown_28 : pr_Rdr_restoreGrown[28]? = some (50, 1, .iload_n 2, []) := rfl
theorem pa_Rdr_restoreGrown_29 : pr_Rdr_restoreGrown[29]? = some (51, 3, .invokevirtual 47, [2, 1, 0, 0, 463, 390, 391, 41]) := rfl
theorem pa_Rdr_restoreGrown_30 : pr_Rdr_restoreGrown[30]? = some (54, 3, .invokevirtual 58, [44, 2, 2, 0, 468, 355, 356, 44]) := rfl
theorem pa_Rdr_restoreGrown_31 : pr_Rdr_restoreGrown[31]? = some (57, 3, .iinc 2 (1), [1, 0]) := rfl
theorem pa_Rdr_restoreGrown_32 : pr_Rdr_restoreGrown[32]? = some (60, 3, .goto (-29), [18]) := rfl
theorem pa_Rdr_restoreGrown_33 : pr_Rdr_restoreGrown[33]? = some (63, 1, .aload_n 0, []) := rfl
theorem pa_Rdr_restoreGrown_34 : pr_Rdr_restoreGrown[34]? = some (64, 3, .invokevirtual 62, [46, 0, 3, 0, 472, 474, 20, 46]) := rfl
theorem pa_Rdr_restoreGrown_35 : pr_Rdr_restoreGrown[35]? = some (67, 1, .ireturn, [1]) := rfl
def pa_Rdr_restoreGrown := And.intro pa_Rdr_restoreGrown_0 (And.intro pa_Rdr_restoreGrown_1 (And.intro pa_Rdr_restoreGrown_2 (And.intro pa_Rdr_restoreGrown_3 (And.intro pa_Rdr_restoreGrown_4 (And.intro pa_Rdr_restoreGrown_5 (And.intro pa_Rdr_restoreGrown_6 (And.intro pa_Rdr_restoreGrown_7 (And.intro pa_Rdr_restoreGrown_8 (And.intro pa_Rdr_restoreGrown_9 (And.intro pa_Rdr_restoreGrown_10 (And.intro pa_Rdr_restoreGrown_11 (And.intro pa_Rdr_restoreGrown_12 (And.intro pa_Rdr_restoreGrown_13 (And.intro pa_Rdr_restoreGrown_14 (And.intro pa_Rdr_restoreGrown_15 (And.intro pa_Rdr_restoreGrown_16 (And.intro pa_Rdr_restoreGrown_17 (And.intro pa_Rdr_restoreGrown_18 (And.intro pa_Rdr_restoreGrown_19 (And.intro pa_Rdr_restoreGrown_20 (And.intro pa_Rdr_restoreGrown_21 (And.intro pa_Rdr_restoreGrown_22 (And.intro pa_Rdr_restoreGrown_23 (And.intro pa_Rdr_restoreGrown_24 (And.intro pa_Rdr_restoreGrown_25 (And.intro pa_Rdr_restoreGrown_26 (And.intro pa_Rdr_restoreGrown_27 (And.intro pa_Rdr_restoreGrown_28 (And.intro pa_Rdr_restoreGrown_29 (And.intro pa_Rdr_restoreGrown_30 (And.intro pa_Rdr_restoreGrown_31 (And.intro pa_Rdr_restoreGrown_32 (And.intro pa_Rdr_restoreGrown_33 (And.intro pa_Rdr_restoreGrown_34 (pa_Rdr_restoreGrown_35)))))))))))))))))))))))))))))))))))
def pr_Rdr_restoreWhole : List ma_E := [(0, 1, .iconst 0, [0, 0]),
  (1, 1, .istore_n 2, []),
  (2, 1, .iload_n 2, []),
  (3, 2, .bipush 33, [33, 0]),
  (5, 3, .if_icmp .ge (22), [14]),
  (8, 1, .aload_n 0, []),
  (9, 3, .getfield 12, [3, 0, 2, 0, 171]),
  (12, 1, .iload_n 2, []),
  (13, 1, .aload_n 1, []),
  (14, 1, .iload_n 2, []),
  (15, 3, .invokevirtual 47, [2, 1, 0, 0, 463, 390, 391, 41]),
  (18, 3, .invokevirtual 58, [44, 2, 2, 0, 468, 355, 356, 44]),
  (21, 3, .iinc 2 (1), [1, 0]),
  (24, 3, .goto (-22), [2]),
  (27, 1, .aload_n 0, []),
  (28, 3, .invokevirtual 62, [46, 0, 3, 0, 472, 474, 20, 46]),
  (31, 1, .ireturn, [1])]
theorem po_Rdr_restoreWhole : ma_ok me_Rdr_restoreWhole pr_Rdr_restoreWhole := ma_ok_of (by decide +kernel)
theorem pa_Rdr_restoreWhole_0 : pr_Rdr_restoreWhole[0]? = some (0, 1, .iconst 0, [0, 0]) := rfl
theorem pa_Rdr_restoreWhole_1 : pr_Rdr_restoreWhole[1]? = some (1, 1, .istore_n 2, []) := rfl
theorem pa_Rdr_restoreWhole_2 : pr_Rdr_restoreWhole[2]? = some (2, 1, .iload_n 2, []) := rfl
theorem pa_Rdr_restoreWhole_3 : pr_Rdr_restoreWhole[3]? = some (3, 2, .bipush 33, [33, 0]) := rfl
theorem pa_Rdr_restoreWhole_4 : pr_Rdr_restoreWhole[4]? = some (5, 3, .if_icmp .ge (22), [14]) := rfl
theorem pa_Rdr_restoreWhole_5 : pr_Rdr_restoreWhole[5]? = some (8, 1, .aload_n 0, []) := rfl
theorem pa_Rdr_restoreWhole_6 : pr_Rdr_restoreWhole[6]? = some (9, 3, .getfield 12, [3, 0, 2, 0, 171]) := rfl
theorem pa_Rdr_restoreWhole_7 : pr_Rdr_restoreWhole[7]? = some (12, 1, .iload_n 2, []) := rfl
theorem pa_Rdr_restoreWhole_8 : pr_Rdr_restoreWhole[8]? = some (13, 1, .aload_n 1, []) := rfl
theorem pa_Rdr_restoreWhole_9 : pr_Rdr_restoreWhole[9]? = some (14, 1, .iload_n 2, []) := rfl
theorem pa_Rdr_restoreWhole_10 : pr_Rdr_restoreWhole[10]? = some (15, 3, .invokevirtual 47, [2, 1, 0, 0, 463, 390, 391, 41]) := rfl
theorem pa_Rdr_restoreWhole_11 : pr_Rdr_restoreWhole[11]? = some (18, 3, .invokevirtual 58, [44, 2, 2, 0, 468, 355, 356, 44]) := rfl
theorem pa_Rdr_restoreWhole_12 : pr_Rdr_restoreWhole[12]? = some (21, 3, .iinc 2 (1), [1, 0]) := rfl
theorem pa_Rdr_restoreWhole_13 : pr_Rdr_restoreWhole[13]? = some (24, 3, .goto (-22), [2]) := rfl
theorem pa_Rdr_restoreWhole_14 : pr_Rdr_restoreWhole[14]? = some (27, 1, .aload_n 0, []) := rfl
theorem pa_Rdr_restoreWhole_15 : pr_Rdr_restoreWhole[15]? = some (28, 3, .invokevirtual 62, [46, 0, 3, 0, 472, 474, 20, 46]) := rfl
theorem pa_Rdr_restoreWhole_16 : pr_Rdr_restoreWhole[16]? = some (31, 1, .ireturn, [1]) := rfl
def pa_Rdr_restoreWhole := And.intro pa_Rdr_restoreWhole_0 (And.intro pa_Rdr_restoreWhole_1 (And.intro pa_Rdr_restoreWhole_2 (And.intro pa_Rdr_restoreWhole_3 (And.intro pa_Rdr_restoreWhole_4 (And.intro pa_Rdr_restoreWhole_5 (And.intro pa_Rdr_restoreWhole_6 (And.intro pa_Rdr_restoreWhole_7 (And.intro pa_Rdr_restoreWhole_8 (And.intro pa_Rdr_restoreWhole_9 (And.intro pa_Rdr_restoreWhole_10 (And.intro pa_Rdr_restoreWhole_11 (And.intro pa_Rdr_restoreWhole_12 (And.intro pa_Rdr_restoreWhole_13 (And.intro pa_Rdr_restoreWhole_14 (And.intro pa_Rdr_restoreWhole_15 (pa_Rdr_restoreWhole_16))))))))))))))))
def pr_Rdr_takeTail : List ma_E := [(0, 1, .aload_n 1, []),
  (1, 3, .getfield 25, [0, 2, 0, 1, 2]),
  (4, 2, .bipush 12, [12, 0]),
  (6, 1, .isub, []),
  (7, 1, .istore_n 2, []),
  (8, 1, .aload_n 0, []),
  (9, 1, .aload_n 1, []),
  (10, 1, .iload_n 2, []),
  (11, 3, .invokestatic 43, [47, 2, 0, 460, 461, 46]),
  (14, 3, .putfield 18, [3, 1, 0, 0, 173]),
  (17, 1, .aload_n 1, []),
  (18, 1, .iload_n 2, []),
  (19, 1, .iconst 3, [3, 0]),
  (20, 1, .iadd, []),
  (21, 3, .invokestatic 43, [47, 2, 0, 460, 461, 46]),
  (24, 1, .istore_n 3, []),
  (25, 1, .aload_n 1, []),
  (26, 1, .iload_n 2, []),
  (27, 2, .bipush 6, [6, 0]),
  (29, 1, .iadd, []),
  (30, 3, .invokestatic 43, [47, 2, 0, 460, 461, 46]),
  (33, 2, .istore 4, []),
  (35, 1, .aload_n 1, []),
  (36, 1, .iload_n 2, []),
  (37, 2, .bipush 9, [9, 0]),
  (39, 1, .iadd, []),
  (40, 3, .invokestatic 43, [47, 2, 0, 460, 461, 46]),
  (43, 2, .istore 5, []),
  (45, 1, .aload_n 0, []),
  (46, 2, .bipush 16, [16, 0]),
  (48, 1, .iload_n 3, []),
  (49, 1, .imul, []),
  (50, 1, .iconst 4, [4, 0]),
  (51, 2, .iload 4, []),
  (53, 1, .imul, []),
  (54, 1, .iadd, []),
  (55, 2, .iload 5, []),
  (57, 1, .iadd, []),
  (58, 3, .putfield 22, [3, 2, 0, 0, 174]),
  (61, 1, .aload_n 0, []),
  (62, 3, .getfield 18, [3, 1, 0, 0, 173]),
  (65, 1, .iconst (-1), [1, 1]),
  (66, 3, .if_icmp .eq (33), [58]),
  (69, 1, .iload_n 3, []),
  (70, 1, .iconst (-1), [1, 1]),
  (71, 3, .if_icmp .eq (28), [58]),
  (74, 2, .iload 4, []),
  (76, 1, .iconst (-1), [1, 1]),
  (77, 3, .if_icmp .eq (22), [58]),
  (80, 2, .iload 5, []),
  (82, 1, .iconst (-1), [1, 1]),
  (83, 3, .if_icmp .eq (16), [58]),
  (86, 1, .aload_n 0, []),
  (87, 3, .getfield 22, [3, 2, 0, 0, 174]),
  (90, 2, .bipush 33, [33, 0]),
  (92, 3, .if_icmp .ge (7), [58]),
  (95, 1, .iconst 1, [1, 0]),
  (96, 3, .goto (4), [59]),
  (99, 1, .iconst 0, [0, 0]),
  (100, 1, .ireturn, [1])]
theorem po_Rdr_takeTail : ma_ok me_Rdr_takeTail pr_Rdr_takeTail := ma_ok_of (by decide +kernel)
theorem pa_Rdr_takeTail_0 : pr_Rdr_takeTail[0]? = some (0, 1, .aload_n 1, []) := rfl
theorem pa_Rdr_takeTail_1 : pr_Rdr_takeTail[1]? = some (1, 3, .getfield 25, [0, 2, 0, 1, 2]) := rfl
theorem pa_Rdr_takeTail_2 : pr_Rdr_takeTail[2]? = some (4, 2, .bipush 12, [12, 0]) := rfl
theorem pa_Rdr_takeTail_3 : pr_Rdr_takeTail[3]? = some (6, 1, .isub, []) := rfl
theorem pa_Rdr_takeTail_4 : pr_Rdr_takeTail[4]? = some (7, 1, .istore_n 2, []) := rfl
theorem pa_Rdr_takeTail_5 : pr_Rdr_takeTail[5]? = some (8, 1, .aload_n 0, []) := rfl
theorem pa_Rdr_takeTail_6 : pr_Rdr_takeTail[6]? = some (9, 1, .aload_n 1, []) := rfl
theorem pa_Rdr_takeTail_7 : pr_Rdr_takeTail[7]? = some (10, 1, .iload_n 2, []) := rfl
theorem pa_Rdr_takeTail_8 : pr_Rdr_takeTail[8]? = some (11, 3, .invokestatic 43, [47, 2, 0, 460, 461, 46]) := rfl
theorem pa_Rdr_takeTail_9 : pr_Rdr_takeTail[9]? = some (14, 3, .putfield 18, [3, 1, 0, 0, 173]) := rfl
theorem pa_Rdr_takeTail_10 : pr_Rdr_takeTail[10]? = some (17, 1, .aload_n 1, []) := rfl
theorem pa_Rdr_takeTail_11 : pr_Rdr_takeTail[11]? = some (18, 1, .iload_n 2, []) := rfl
theorem pa_Rdr_takeTail_12 : pr_Rdr_takeTail[12]? = some (19, 1, .iconst 3, [3, 0]) := rfl
theorem pa_Rdr_takeTail_13 : pr_Rdr_takeTail[13]? = some (20, 1, .iadd, []) := rfl
theorem pa_Rdr_takeTail_14 : pr_Rdr_takeTail[14]? = some (21, 3, .invokestatic 43, [47, 2, 0, 460, 461, 46]) := rfl
theorem pa_Rdr_takeTail_15 : pr_Rdr_takeTail[15]? = some (24, 1, .istore_n 3, []) := rfl
theorem pa_Rdr_takeTail_16 : pr_Rdr_takeTail[16]? = some (25, 1, .aload_n 1, []) := rfl
theorem pa_Rdr_takeTail_17 : pr_Rdr_takeTail[17]? = some (26, 1, .iload_n 2, []) := rfl
theorem pa_Rdr_takeTail_18 : pr_Rdr_takeTail[18]? = some (27, 2, .bipush 6, [6, 0]) := rfl
theorem pa_Rdr_takeTail_19 : pr_Rdr_takeTail[19]? = some (29, 1, .iadd, []) := rfl
theorem pa_Rdr_takeTail_20 : pr_Rdr_takeTail[20]? = some (30, 3, .invokestatic 43, [47, 2, 0, 460, 461, 46]) := rfl
theorem pa_Rdr_takeTail_21 : pr_Rdr_takeTail[21]? = some (33, 2, .istore 4, []) := rfl
theorem pa_Rdr_takeTail_22 : pr_Rdr_takeTail[22]? = some (35, 1, .aload_n 1, []) := rfl
theorem pa_Rdr_takeTail_23 : pr_Rdr_takeTail[23]? = some (36, 1, .iload_n 2, []) := rfl
theorem pa_Rdr_takeTail_24 : pr_Rdr_takeTail[24]? = some (37, 2, .bipush 9, [9, 0]) := rfl
theorem pa_Rdr_takeTail_25 : pr_Rdr_takeTail[25]? = some (39, 1, .iadd, []) := rfl
theorem pa_Rdr_takeTail_26 : pr_Rdr_takeTail[26]? = some (40, 3, .invokestatic 43, [47, 2, 0, 460, 461, 46]) := rfl
theorem pa_Rdr_takeTail_27 : pr_Rdr_takeTail[27]? = some (43, 2, .istore 5, []) := rfl
theorem pa_Rdr_takeTail_28 : pr_Rdr_takeTail[28]? = some (45, 1, .aload_n 0, []) := rfl
theorem pa_Rdr_takeTail_29 : pr_Rdr_takeTail[29]? = some (46, 2, .bipush 16, [16, 0]) := rfl
theorem pa_Rdr_takeTail_30 : pr_Rdr_takeTail[30]? = some (48, 1, .iload_n 3, []) := rfl
theorem pa_Rdr_takeTail_31 : pr_Rdr_takeTail[31]? = some (49, 1, .imul, []) := rfl
theorem pa_Rdr_takeTail_32 : pr_Rdr_takeTail[32]? = some (50, 1, .iconst 4, [4, 0]) := rfl
theorem pa_Rdr_takeTail_33 : pr_Rdr_takeTail[33]? = some (51, 2, .iload 4, []) := rfl
theorem pa_Rdr_takeTail_34 : pr_Rdr_takeTail[34]? = some (53, 1, .imul, []) := rfl
theorem pa_Rdr_takeTail_35 : pr_Rdr_takeTail[35]? = some (54, 1, .iadd, []) := rfl
theorem pa_Rdr_takeTail_36 : pr_Rdr_takeTail[36]? = some (55, 2, .iload 5, []) := rfl
theorem pa_Rdr_takeTail_37 : pr_Rdr_takeTail[37]? = some (57, 1, .iadd, []) := rfl
theorem pa_Rdr_takeTail_38 : pr_Rdr_takeTail[38]? = some (58, 3, .putfield 22, [3, 2, 0, 0, 174]) := rfl
theorem pa_Rdr_takeTail_39 : pr_Rdr_takeTail[39]? = some (61, 1, .aload_n 0, []) := rfl
theorem pa_Rdr_takeTail_40 : pr_Rdr_takeTail[40]? = some (62, 3, .getfield 18, [3, 1, 0, 0, 173]) := rfl
theorem pa_Rdr_takeTail_41 : pr_Rdr_takeTail[41]? = some (65, 1, .iconst (-1), [1, 1]) := rfl
theorem pa_Rdr_takeTail_42 : pr_Rdr_takeTail[42]? = some (66, 3, .if_icmp .eq (33), [58]) := rfl
theorem pa_Rdr_takeTail_43 : pr_Rdr_takeTail[43]? = some (69, 1, .iload_n 3, []) := rfl
theorem pa_Rdr_takeTail_44 : pr_Rdr_takeTail[44]? = some (70, 1, .iconst (-1), [1, 1]) := rfl
theorem pa_Rdr_takeTail_45 : pr_Rdr_takeTail[45]? = some (71, 3, .if_icmp .eq (28), [58]) := rfl
theorem pa_Rdr_takeTail_46 : pr_Rdr_takeTail[46]? = some (74, 2, .iload 4, []) := rfl
theorem pa_Rdr_takeTail_47 : pr_Rdr_takeTail[47]? = some (76, 1, .iconst (-1), [1, 1]) := rfl
theorem pa_Rdr_takeTail_48 : pr_Rdr_takeTail[48]? = some (77, 3, .if_icmp .eq (22), [58]) := rfl
theorem pa_Rdr_takeTail_49 : pr_Rdr_takeTail[49]? = some (80, 2, .iload 5, []) := rfl
theorem pa_Rdr_takeTail_50 : pr_Rdr_takeTail[50]? = some (82, 1, .iconst (-1), [1, 1]) := rfl
theorem pa_Rdr_takeTail_51 : pr_Rdr_takeTail[51]? = some (83, 3, .if_icmp .eq (16), [58]) := rfl
theorem pa_Rdr_takeTail_52 : pr_Rdr_takeTail[52]? = some (86, 1, .aload_n 0, []) := rfl
theorem pa_Rdr_takeTail_53 : pr_Rdr_takeTail[53]? = some (87, 3, .getfield 22, [3, 2, 0, 0, 174]) := rfl
theorem pa_Rdr_takeTail_54 : pr_Rdr_takeTail[54]? = some (90, 2, .bipush 33, [33, 0]) := rfl
theorem pa_Rdr_takeTail_55 : pr_Rdr_takeTail[55]? = some (92, 3, .if_icmp .ge (7), [58]) := rfl
theorem pa_Rdr_takeTail_56 : pr_Rdr_takeTail[56]? = some (95, 1, .iconst 1, [1, 0]) := rfl
theorem pa_Rdr_takeTail_57 : pr_Rdr_takeTail[57]? = some (96, 3, .goto (4), [59]) := rfl
theorem pa_Rdr_takeTail_58 : pr_Rdr_takeTail[58]? = some (99, 1, .iconst 0, [0, 0]) := rfl
theorem pa_Rdr_takeTail_59 : pr_Rdr_takeTail[59]? = some (100, 1, .ireturn, [1]) := rfl
def pa_Rdr_takeTail := And.intro pa_Rdr_takeTail_0 (And.intro pa_Rdr_takeTail_1 (And.intro pa_Rdr_takeTail_2 (And.intro pa_Rdr_takeTail_3 (And.intro pa_Rdr_takeTail_4 (And.intro pa_Rdr_takeTail_5 (And.intro pa_Rdr_takeTail_6 (And.intro pa_Rdr_takeTail_7 (And.intro pa_Rdr_takeTail_8 (And.intro pa_Rdr_takeTail_9 (And.intro pa_Rdr_takeTail_10 (And.intro pa_Rdr_takeTail_11 (And.intro pa_Rdr_takeTail_12 (And.intro pa_Rdr_takeTail_13 (And.intro pa_Rdr_takeTail_14 (And.intro pa_Rdr_takeTail_15 (And.intro pa_Rdr_takeTail_16 (And.intro pa_Rdr_takeTail_17 (And.intro pa_Rdr_takeTail_18 (And.intro pa_Rdr_takeTail_19 (And.intro pa_Rdr_takeTail_20 (And.intro pa_Rdr_takeTail_21 (And.intro pa_Rdr_takeTail_22 (And.intro pa_Rdr_takeTail_23 (And.intro pa_Rdr_takeTail_24 (And.intro pa_Rdr_takeTail_25 (And.intro pa_Rdr_takeTail_26 (And.intro pa_Rdr_takeTail_27 (And.intro pa_Rdr_takeTail_28 (And.intro pa_Rdr_takeTail_29 (And.intro pa_Rdr_takeTail_30 (And.intro pa_Rdr_takeTail_31 (And.intro pa_Rdr_takeTail_32 (And.intro pa_Rdr_takeTail_33 (And.intro pa_Rdr_takeTail_34 (And.intro pa_Rdr_takeTail_35 (And.intro pa_Rdr_takeTail_36 (And.intro pa_Rdr_takeTail_37 (And.intro pa_Rdr_takeTail_38 (And.intro pa_Rdr_takeTail_39 (And.intro pa_Rdr_takeTail_40 (And.intro pa_Rdr_takeTail_41 (And.intro pa_Rdr_takeTail_42 (And.intro pa_Rdr_takeTail_43 (And.intro pa_Rdr_takeTail_44 (And.intro pa_Rdr_takeTail_45 (And.intro pa_Rdr_takeTail_46 (And.intro pa_Rdr_takeTail_47 (And.intro pa_Rdr_takeTail_48 (And.intro pa_Rdr_takeTail_49 (And.intro pa_Rdr_takeTail_50 (And.intro pa_Rdr_takeTail_51 (And.intro pa_Rdr_takeTail_52 (And.intro pa_Rdr_takeTail_53 (And.intro pa_Rdr_takeTail_54 (And.intro pa_Rdr_takeTail_55 (And.intro pa_Rdr_takeTail_56 (And.intro pa_Rdr_takeTail_57 (And.intro pa_Rdr_takeTail_58 (pa_Rdr_takeTail_59)))))))))))))))))))))))))))))))))))))))))))))))))))))))))))
def pr_Col_fillUnknown : List ma_E := [(0, 1, .iconst 0, [0, 0]),
  (1, 1, .istore_n 1, []),
  (2, 1, .iload_n 1, []),
  (3, 2, .bipush 16, [16, 0]),
  (5, 3, .if_icmp .ge (59), [37]),
  (8, 1, .aload_n 0, []),
  (9, 3, .getfield 15, [4, 2, 2, 0, 113]),
  (12, 1, .iload_n 1, []),
  (13, 1, .baload, [1]),
  (14, 3, .ifCond .eq (44), [35]),
  (17, 1, .aload_n 0, []),
  (18, 1, .iload_n 1, []),
  (19, 3, .invokevirtual 71, [53, 1, 4, 0, 299, 301, 4, 43]),
  (22, 1, .istore_n 2, []),
  (23, 1, .aload_n 0, []),
  (24, 3, .getfield 9, [4, 1, 2, 0, 110]),
  (27, 1, .iload_n 1, []),
  (28, 1, .dup2, []),
  (29, 1, .iaload, []),
  (30, 1, .aload_n 0, []),
  (31, 3, .getfield 37, [4, 0, 2, 0, 109]),
  (34, 1, .aload_n 0, []),
  (35, 1, .iconst 0, [0, 0]),
  (36, 1, .iload_n 2, []),
  (37, 3, .invokevirtual 74, [54, 2, 4, 0, 306, 308, 5, 43]),
  (40, 1, .aload_n 0, []),
  (41, 1, .aload_n 0, []),
  (42, 3, .getfield 37, [4, 0, 2, 0, 109]),
  (45, 1, .iload_n 1, []),
  (46, 3, .invokevirtual 62, [5, 1, 1, 0, 287, 288, 289, 42]),
  (49, 1, .iload_n 2, []),
  (50, 3, .invokevirtual 98, [51, 2, 4, 0, 337, 339, 11, 43]),
  (53, 3, .invokevirtual 92, [4, 2, 1, 0, 321, 322, 323, 42]),
  (56, 1, .ixor, []),
  (57, 1, .iastore, []),
  (58, 3, .iinc 1 (1), [1, 0]),
  (61, 3, .goto (-59), [2]),
  (64, 1, .return_, [])]
theorem po_Col_fillUnknown : ma_ok me_Col_fillUnknown pr_Col_fillUnknown := ma_ok_of (by decide +kernel)
theorem pa_Col_fillUnknown_0 : pr_Col_fillUnknown[0]? = some (0, 1, .iconst 0, [0, 0]) := rfl
theorem pa_Col_fillUnknown_1 : pr_Col_fillUnknown[1]? = some (1, 1, .istore_n 1, []) := rfl
theorem pa_Col_fillUnknown_2 : pr_Col_fillUnknown[2]? = some (2, 1, .iload_n 1, []) := rfl
theorem pa_Col_fillUnknown_3 : pr_Col_fillUnknown[3]? = some (3, 2, .bipush 16, [16, 0]) := rfl
theorem pa_Col_fillUnknown_4 : pr_Col_fillUnknown[4]? = some (5, 3, .if_icmp .ge (59), [37]) := rfl
theorem pa_Col_fillUnknown_5 : pr_Col_fillUnknown[5]? = some (8, 1, .aload_n 0, []) := rfl
theorem pa_Col_fillUnknown_6 : pr_Col_fillUnknown[6]? = some (9, 3, .getfield 15, [4, 2, 2, 0, 113]) := rfl
theorem pa_Col_fillUnknown_7 : pr_Col_fillUnknown[7]? = some (12, 1, .iload_n 1, []) := rfl
theorem pa_Col_fillUnknown_8 : pr_Col_fillUnknown[8]? = some (13, 1, .baload, [1]) := rfl
theorem pa_Col_fillUnknown_9 : pr_Col_fillUnknown[9]? = some (14, 3, .ifCond .eq (44), [35]) := rfl
theorem pa_Col_fillUnknown_10 : pr_Col_fillUnknown[10]? = some (17, 1, .aload_n 0, []) := rfl
theorem pa_Col_fillUnknown_11 : pr_Col_fillUnknown[11]? = some (18, 1, .iload_n 1, []) := rfl
theorem pa_Col_fillUnknown_12 : pr_Col_fillUnknown[12]? = some (19, 3, .invokevirtual 71, [53, 1, 4, 0, 299, 301, 4, 43]) := rfl
theorem pa_Col_fillUnknown_13 : pr_Col_fillUnknown[13]? = some (22, 1, .istore_n 2, []) := rfl
theorem pa_Col_fillUnknown_14 : pr_Col_fillUnknown[14]? = some (23, 1, .aload_n 0, []) := rfl
theorem pa_Col_fillUnknown_15 : pr_Col_fillUnknown[15]? = some (24, 3, .getfield 9, [4, 1, 2, 0, 110]) := rfl
theorem pa_Col_fillUnknown_16 : pr_Col_fillUnknown[16]? = some (27, 1, .iload_n 1, []) := rfl
theorem pa_Col_fillUnknown_17 : pr_Col_fillUnknown[17]? = some (28, 1, .dup2, []) := rfl
theorem pa_Col_fillUnknown_18 : pr_Col_fillUnknown[18]? = some (29, 1, .iaload, []) := rfl
theorem pa_Col_fillUnknown_19 : pr_Col_fillUnknown[19]? = some (30, 1, .aload_n 0, []) := rfl
theorem pa_Col_fillUnknown_20 : pr_Col_fillUnknown[20]? = some (31, 3, .getfield 37, [4, 0, 2, 0, 109]) := rfl
theorem pa_Col_fillUnknown_21 : pr_Col_fillUnknown[21]? = some (34, 1, .aload_n 0, []) := rfl
theorem pa_Col_fillUnknown_22 : pr_Col_fillUnknown[22]? = some (35, 1, .iconst 0, [0, 0]) := rfl
theorem pa_Col_fillUnknown_23 : pr_Col_fillUnknown[23]? = some (36, 1, .iload_n 2, []) := rfl
theorem pa_Col_fillUnknown_24 : pr_Col_fillUnknown[24]? = some (37, 3, .invokevirtual 74, [54, 2, 4, 0, 306, 308, 5, 43]) := rfl
theorem pa_Col_fillUnknown_25 : pr_Col_fillUnknown[25]? = some (40, 1, .aload_n 0, []) := rfl
theorem pa_Col_fillUnknown_26 : pr_Col_fillUnknown[26]? = some (41, 1, .aload_n 0, []) := rfl
theorem pa_Col_fillUnknown_27 : pr_Col_fillUnknown[27]? = some (42, 3, .getfield 37, [4, 0, 2, 0, 109]) := rfl
theorem pa_Col_fillUnknown_28 : pr_Col_fillUnknown[28]? = some (45, 1, .iload_n 1, []) := rfl
theorem pa_Col_fillUnknown_29 : pr_Col_fillUnknown[29]? = some (46, 3, .invokevirtual 62, [5, 1, 1, 0, 287, 288, 289, 42]) := rfl
theorem pa_Col_fillUnknown_30 : pr_Col_fillUnknown[30]? = some (49, 1, .iload_n 2, []) := rfl
theorem pa_Col_fillUnknown_31 : pr_Col_fillUnknown[31]? = some (50, 3, .invokevirtual 98, [51, 2, 4, 0, 337, 339, 11, 43]) := rfl
theorem pa_Col_fillUnknown_32 : pr_Col_fillUnknown[32]? = some (53, 3, .invokevirtual 92, [4, 2, 1, 0, 321, 322, 323, 42]) := rfl
theorem pa_Col_fillUnknown_33 : pr_Col_fillUnknown[33]? = some (56, 1, .ixor, []) := rfl
theorem pa_Col_fillUnknown_34 : pr_Col_fillUnknown[34]? = some (57, 1, .iastore, []) := rfl
theorem pa_Col_fillUnknown_35 : pr_Col_fillUnknown[35]? = some (58, 3, .iinc 1 (1), [1, 0]) := rfl
theorem pa_Col_fillUnknown_36 : pr_Col_fillUnknown[36]? = some (61, 3, .goto (-59), [2]) := rfl
theorem pa_Col_fillUnknown_37 : pr_Col_fillUnknown[37]? = some (64, 1, .return_, []) := rfl
def pa_Col_fillUnknown := And.intro pa_Col_fillUnknown_0 (And.intro pa_Col_fillUnknown_1 (And.intro pa_Col_fillUnknown_2 (And.intro pa_Col_fillUnknown_3 (And.intro pa_Col_fillUnknown_4 (And.intro pa_Col_fillUnknown_5 (And.intro pa_Col_fillUnknown_6 (And.intro pa_Col_fillUnknown_7 (And.intro pa_Col_fillUnknown_8 (And.intro pa_Col_fillUnknown_9 (And.intro pa_Col_fillUnknown_10 (And.intro pa_Col_fillUnknown_11 (And.intro pa_Col_fillUnknown_12 (And.intro pa_Col_fillUnknown_13 (And.intro pa_Col_fillUnknown_14 (And.intro pa_Col_fillUnknown_15 (And.intro pa_Col_fillUnknown_16 (And.intro pa_Col_fillUnknown_17 (And.intro pa_Col_fillUnknown_18 (And.intro pa_Col_fillUnknown_19 (And.intro pa_Col_fillUnknown_20 (And.intro pa_Col_fillUnknown_21 (And.intro pa_Col_fillUnknown_22 (And.intro pa_Col_fillUnknown_23 (And.intro pa_Col_fillUnknown_24 (And.intro pa_Col_fillUnknown_25 (And.intro pa_Col_fillUnknown_26 (And.intro pa_Col_fillUnknown_27 (And.intro pa_Col_fillUnknown_28 (And.intro pa_Col_fillUnknown_29 (And.intro pa_Col_fillUnknown_30 (And.intro pa_Col_fillUnknown_31 (And.intro pa_Col_fillUnknown_32 (And.intro pa_Col_fillUnknown_33 (And.intro pa_Col_fillUnknown_34 (And.intro pa_Col_fillUnknown_35 (And.intro pa_Col_fillUnknown_36 (pa_Col_fillUnknown_37)))))))))))))))))))))))))))))))))))))
def pr_Col_findRecurrence : List ma_E := [(0, 1, .aload_n 0, []),
  (1, 3, .getfield 28, [4, 6, 2, 0, 117]),
  (4, 1, .iconst 0, [0, 0]),
  (5, 3, .invokestatic 77, [38, 2, 0, 303, 304, 48]),
  (8, 1, .aload_n 0, []),
  (9, 3, .getfield 31, [4, 7, 2, 0, 118]),
  (12, 1, .iconst 0, [0, 0]),
  (13, 3, .invokestatic 77, [38, 2, 0, 303, 304, 48]),
  (16, 1, .aload_n 0, []),
  (17, 3, .getfield 28, [4, 6, 2, 0, 117]),
  (20, 1, .iconst 0, [0, 0]),
  (21, 1, .iconst 1, [1, 0]),
  (22, 1, .iastore, []),
  (23, 1, .aload_n 0, []),
  (24, 3, .getfield 31, [4, 7, 2, 0, 118]),
  (27, 1, .iconst 0, [0, 0]),
  (28, 1, .iconst 1, [1, 0]),
  (29, 1, .iastore, []),
  (30, 1, .iconst 1, [1, 0]),
  (31, 1, .istore_n 2, []),
  (32, 1, .iconst 0, [0, 0]),
  (33, 1, .istore_n 3, []),
  (34, 1, .iconst 1, [1, 0]),
  (35, 2, .istore 4, []),
  (37, 1, .iconst 0, [0, 0]),
  (38, 2, .istore 5, []),
  (40, 2, .iload 5, []),
  (42, 1, .iload_n 1, []),
  (43, 3, .if_icmp .ge (153), [109]),
  (46, 1, .aload_n 0, []),
  (47, 2, .iload 5, []),
  (49, 1, .iload_n 3, []),
  (50, 3, .invokevirtual 83, [50, 2, 4, 0, 314, 316, 7, 43]),
  (53, 2, .istore 6, []),
  (55, 2, .iload 6, []),
  (57, 3, .ifCond .ne (9), [38]),
  (60, 3, .iinc 4 (1), [1, 0]),
  (63, 3, .goto (127), [107]),
  (66, 1, .aload_n 0, []),
  (67, 3, .getfield 28, [4, 6, 2, 0, 117]),
  (70, 1, .iconst 0, [0, 0]),
  (71, 1, .aload_n 0, []),
  (72, 3, .getfield 34, [4, 8, 2, 0, 119]),
  (75, 1, .iconst 0, [0, 0]),
  (76, 1, .aload_n 0, []),
  (77, 3, .getfield 28, [4, 6, 2, 0, 117]),
  (80, 1, .arraylength, []),
  (81, 3, .invokestatic 86, [0, 318, 320, 319, 49]),
  (84, 1, .aload_n 0, []),
  (85, 3, .getfield 37, [4, 0, 2, 0, 109]),
  (88, 2, .iload 6, []),
  (90, 1, .iload_n 2, []),
  (91, 3, .invokevirtual 92, [4, 2, 1, 0, 321, 322, 323, 42]),
  (94, 2, .istore 7, []),
  (96, 2, .iload 4, []),
  (98, 2, .istore 8, []),
  (100, 2, .iload 8, []),
  (102, 1, .aload_n 0, []),
  (103, 3, .getfield 28, [4, 6, 2, 0, 117]),
  (106, 1, .arraylength, []),
  (107, 3, .if_icmp .ge (38), [80]),
  (110, 1, .aload_n 0, []),
  (111, 3, .getfield 28, [4, 6, 2, 0, 117]),
  (114, 2, .iload 8, []),
  (116, 1, .dup2, []),
  (117, 1, .iaload, []),
  (118, 1, .aload_n 0, []),
  (119, 3, .getfield 37, [4, 0, 2, 0, 109]),
  (122, 2, .iload 7, []),
  (124, 1, .aload_n 0, []),
  (125, 3, .getfield 31, [4, 7, 2, 0, 118]),
  (128, 2, .iload 8, []),
  (130, 2, .iload 4, []),
  (132, 1, .isub, []),
  (133, 1, .iaload, []),
  (134, 3, .invokevirtual 67, [6, 2, 1, 0, 291, 292, 293, 42]),
  (137, 1, .ixor, []),
  (138, 1, .iastore, []),
  (139, 3, .iinc 8 (1), [1, 0]),
  (142, 3, .goto (-42), [56]),
  (145, 1, .iconst 2, [2, 0]),
  (146, 1, .iload_n 3, []),
  (147, 1, .imul, []),
  (148, 2, .iload 5, []),
  (150, 3, .if_icmp .le (9), [87]),
  (153, 3, .iinc 4 (1), [1, 0]),
  (156, 3, .goto (34), [107]),
  (159, 1, .aload_n 0, []),
  (160, 3, .getfield 34, [4, 8, 2, 0, 119]),
  (163, 1, .iconst 0, [0, 0]),
  (164, 1, .aload_n 0, []),
  (165, 3, .getfield 31, [4, 7, 2, 0, 118]),
  (168, 1, .iconst 0, [0, 0]),
  (169, 1, .aload_n 0, []),
  (170, 3, .getfield 34, [4, 8, 2, 0, 119]),
  (173, 1, .arraylength, []),
  (174, 3, .invokestatic 86, [0, 318, 320, 319, 49]),
  (177, 2, .iload 6, []),
  (179, 1, .istore_n 2, []),
  (180, 2, .iload 5, []),
  (182, 1, .iconst 1, [1, 0]),
  (183, 1, .iadd, []),
  (184, 1, .iload_n 3, []),
  (185, 1, .isub, []),
  (186, 1, .istore_n 3, []),
  (187, 1, .iconst 1, [1, 0]),
  (188, 2, .istore 4, []),
  (190, 3, .iinc 5 (1), [1, 0]),
  (193, 3, .goto (-153), [26]),
  (196, 1, .iload_n 3, []),
  (197, 1, .ireturn, [0])]
theorem po_Col_findRecurrence : ma_ok me_Col_findRecurrence pr_Col_findRecurrence := ma_ok_of (by decide +kernel)
theorem pa_Col_findRecurrence_0 : pr_Col_findRecurrence[0]? = some (0, 1, .aload_n 0, []) := rfl
theorem pa_Col_findRecurrence_1 : pr_Col_findRecurrence[1]? = some (1, 3, .getfield 28, [4, 6, 2, 0, 117]) := rfl
theorem pa_Col_findRecurrence_2 : pr_Col_findRecurrence[2]? = some (4, 1, .iconst 0, [0, 0]) := rfl
theorem pa_Col_findRecurrence_3 : pr_Col_findRecurrence[3]? = some (5, 3, .invokestatic 77, [38, 2, 0, 303, 304, 48]) := rfl
theorem pa_Col_findRecurrence_4 : pr_Col_findRecurrence[4]? = some (8, 1, .aload_n 0, []) := rfl
theorem pa_Col_findRecurrence_5 : pr_Col_findRecurrence[5]? = some (9, 3, .getfield 31, [4, 7, 2, 0, 118]) := rfl
theorem pa_Col_findRecurrence_6 : pr_Col_findRecurrence[6]? = some (12, 1, .iconst 0, [0, 0]) := rfl
theorem pa_Col_findRecurrence_7 : pr_Col_findRecurrence[7]? = some (13, 3, .invokestatic 77, [38, 2, 0, 303, 304, 48]) := rfl
theorem pa_Col_findRecurrence_8 : pr_Col_findRecurrence[8]? = some (16, 1, .aload_n 0, []) := rfl
theorem pa_Col_findRecurrence_9 : pr_Col_findRecurrence[9]? = some (17, 3, .getfield 28, [4, 6, 2, 0, 117]) := rfl
theorem pa_Col_findRecurrence_10 : pr_Col_findRecurrence[10]? = some (20, 1, .iconst 0, [0, 0]) := rfl
theorem pa_Col_findRecurrence_11 : pr_Col_findRecurrence[11]? = some (21, 1, .iconst 1, [1, 0]) := rfl
theorem pa_Col_findRecurrence_12 : pr_Col_findRecurrence[12]? = some (22, 1, .iastore, []) := rfl
theorem pa_Col_findRecurrence_13 : pr_Col_findRecurrence[13]? = some (23, 1, .aload_n 0, []) := rfl
theorem pa_Col_findRecurrence_14 : pr_Col_findRecurrence[14]? = some (24, 3, .getfield 31, [4, 7, 2, 0, 118]) := rfl
theorem pa_Col_findRecurrence_15 : pr_Col_findRecurrence[15]? = some (27, 1, .iconst 0, [0, 0]) := rfl
theorem pa_Col_findRecurrence_16 : pr_Col_findRecurrence[16]? = some (28, 1, .iconst 1, [1, 0]) := rfl
theorem pa_Col_findRecurrence_17 : pr_Col_findRecurrence[17]? = some (29, 1, .iastore, []) := rfl
theorem pa_Col_findRecurrence_18 : pr_Col_findRecurrence[18]? = some (30, 1, .iconst 1, [1, 0]) := rfl
theorem pa_Col_findRecurrence_19 : pr_Col_findRecurrence[19]? = some (31, 1, .istore_n 2, []) := rfl
theorem pa_Col_findRecurrence_20 : pr_Col_findRecurrence[20]? = some (32, 1, .iconst 0, [0, 0]) := rfl
theorem pa_Col_findRecurrence_21 : pr_Col_findRecurrence[21]? = some (33, 1, .istore_n 3, []) := rfl
theorem pa_Col_findRecurrence_22 : pr_Col_findRecurrence[22]? = some (34, 1, .iconst 1, [1, 0]) := rfl
theorem pa_Col_findRecurrence_23 : pr_Col_findRecurrence[23]? = some (35, 2, .istore 4, []) := rfl
theorem pa_Col_findRecurrence_24 : pr_Col_findRecurrence[24]? = some (37, 1, .iconst 0, [0, 0]) := rfl
theorem pa_Col_findRecurrence_25 : pr_Col_findRecurrence[25]? = some (38, 2, .istore 5, []) := rfl
theorem pa_Col_findRecurrence_26 : pr_Col_findRecurrence[26]? = some (40, 2, .iload 5, []) := rfl
theorem pa_Col_findRecurrence_27 : pr_Col_findRecurrence[27]? = some (42, 1, .iload_n 1, []) := rfl
theorem pa_Col_findRecurrence_28 : pr_Col_findRecurrence[28]? = some (43, 3, .if_icmp .ge (153), [109]) := rfl
theorem pa_Col_findRecurrence_29 : pr_Col_findRecurrence[29]? = some (46, 1, .aload_n 0, []) := rfl
theorem pa_Col_findRecurrence_30 : pr_Col_findRecurrence[30]? = some (47, 2, .iload 5, []) := rfl
theorem pa_Col_findRecurrence_31 : pr_Col_findRecurrence[31]? = some (49, 1, .iload_n 3, []) := rfl
theorem pa_Col_findRecurrence_32 : pr_Col_findRecurrence[32]? = some (50, 3, .invokevirtual 83, [50, 2, 4, 0, 314, 316, 7, 43]) := rfl
theorem pa_Col_findRecurrence_33 : pr_Col_findRecurrence[33]? = some (53, 2, .istore 6, []) := rfl
theorem pa_Col_findRecurrence_34 : pr_Col_findRecurrence[34]? = some (55, 2, .iload 6, []) := rfl
theorem pa_Col_findRecurrence_35 : pr_Col_findRecurrence[35]? = some (57, 3, .ifCond .ne (9), [38]) := rfl
theorem pa_Col_findRecurrence_36 : pr_Col_findRecurrence[36]? = some (60, 3, .iinc 4 (1), [1, 0]) := rfl
theorem pa_Col_findRecurrence_37 : pr_Col_findRecurrence[37]? = some (63, 3, .goto (127), [107]) := rfl
theorem pa_Col_findRecurrence_38 : pr_Col_findRecurrence[38]? = some (66, 1, .aload_n 0, []) := rfl
theorem pa_Col_findRecurrence_39 : pr_Col_findRecurrence[39]? = some (67, 3, .getfield 28, [4, 6, 2, 0, 117]) := rfl
theorem pa_Col_findRecurrence_40 : pr_Col_findRecurrence[40]? = some (70, 1, .iconst 0, [0, 0]) := rfl
theorem pa_Col_findRecurrence_41 : pr_Col_findRecurrence[41]? = some (71, 1, .aload_n 0, []) := rfl
theorem pa_Col_findRecurrence_42 : pr_Col_findRecurrence[42]? = some (72, 3, .getfield 34, [4, 8, 2, 0, 119]) := rfl
theorem pa_Col_findRecurrence_43 : pr_Col_findRecurrence[43]? = some (75, 1, .iconst 0, [0, 0]) := rfl
theorem pa_Col_findRecurrence_44 : pr_Col_findRecurrence[44]? = some (76, 1, .aload_n 0, []) := rfl
theorem pa_Col_findRecurrence_45 : pr_Col_findRecurrence[45]? = some (77, 3, .getfield 28, [4, 6, 2, 0, 117]) := rfl
theorem pa_Col_findRecurrence_46 : pr_Col_findRecurrence[46]? = some (80, 1, .arraylength, []) := rfl
theorem pa_Col_findRecurrence_47 : pr_Col_findRecurrence[47]? = some (81, 3, .invokestatic 86, [0, 318, 320, 319, 49]) := rfl
theorem pa_Col_findRecurrence_48 : pr_Col_findRecurrence[48]? = some (84, 1, .aload_n 0, []) := rfl
theorem pa_Col_findRecurrence_49 : pr_Col_findRecurrence[49]? = some (85, 3, .getfield 37, [4, 0, 2, 0, 109]) := rfl
theorem pa_Col_findRecurrence_50 : pr_Col_findRecurrence[50]? = some (88, 2, .iload 6, []) := rfl
theorem pa_Col_findRecurrence_51 : pr_Col_findRecurrence[51]? = some (90, 1, .iload_n 2, []) := rfl
theorem pa_Col_findRecurrence_52 : pr_Col_findRecurrence[52]? = some (91, 3, .invokevirtual 92, [4, 2, 1, 0, 321, 322, 323, 42]) := rfl
theorem pa_Col_findRecurrence_53 : pr_Col_findRecurrence[53]? = some (94, 2, .istore 7, []) := rfl
theorem pa_Col_findRecurrence_54 : pr_Col_findRecurrence[54]? = some (96, 2, .iload 4, []) := rfl
theorem pa_Col_findRecurrence_55 : pr_Col_findRecurrence[55]? = some (98, 2, .istore 8, []) := rfl
theorem pa_Col_findRecurrence_56 : pr_Col_findRecurrence[56]? = some (100, 2, .iload 8, []) := rfl
theorem pa_Col_findRecurrence_57 : pr_Col_findRecurrence[57]? = some (102, 1, .aload_n 0, []) := rfl
theorem pa_Col_findRecurrence_58 : pr_Col_findRecurrence[58]? = some (103, 3, .getfield 28, [4, 6, 2, 0, 117]) := rfl
theorem pa_Col_findRecurrence_59 : pr_Col_findRecurrence[59]? = some (106, 1, .arraylength, []) := rfl
theorem pa_Col_findRecurrence_60 : pr_Col_findRecurrence[60]? = some (107, 3, .if_icmp .ge (38), [80]) := rfl
theorem pa_Col_findRecurrence_61 : pr_Col_findRecurrence[61]? = some (110, 1, .aload_n 0, []) := rfl
theorem pa_Col_findRecurrence_62 : pr_Col_findRecurrence[62]? = some (111, 3, .getfield 28, [4, 6, 2, 0, 117]) := rfl
theorem pa_Col_findRecurrence_63 : pr_Col_findRecurrence[63]? = some (114, 2, .iload 8, []) := rfl
theorem pa_Col_findRecurrence_64 : pr_Col_findRecurrence[64]? = some (116, 1, .dup2, []) := rfl
theorem pa_Col_findRecurrence_65 : pr_Col_findRecurrence[65]? = some (117, 1, .iaload, []) := rfl
theorem pa_Col_findRecurrence_66 : pr_Col_findRecurrence[66]? = some (118, 1, .aload_n 0, []) := rfl
theorem pa_Col_findRecurrence_67 : pr_Col_findRecurrence[67]? = some (119, 3, .getfield 37, [4, 0, 2, 0, 109]) := rfl
theorem pa_Col_findRecurrence_68 : pr_Col_findRecurrence[68]? = some (122, 2, .iload 7, []) := rfl
theorem pa_Col_findRecurrence_69 : pr_Col_findRecurrence[69]? = some (124, 1, .aload_n 0, []) := rfl
theorem pa_Col_findRecurrence_70 : pr_Col_findRecurrence[70]? = some (125, 3, .getfield 31, [4, 7, 2, 0, 118]) := rfl
theorem pa_Col_findRecurrence_71 : pr_Col_findRecurrence[71]? = some (128, 2, .iload 8, []) := rfl
theorem pa_Col_findRecurrence_72 : pr_Col_findRecurrence[72]? = some (130, 2, .iload 4, []) := rfl
theorem pa_Col_findRecurrence_73 : pr_Col_findRecurrence[73]? = some (132, 1, .isub, []) := rfl
theorem pa_Col_findRecurrence_74 : pr_Col_findRecurrence[74]? = some (133, 1, .iaload, []) := rfl
theorem pa_Col_findRecurrence_75 : pr_Col_findRecurrence[75]? = some (134, 3, .invokevirtual 67, [6, 2, 1, 0, 291, 292, 293, 42]) := rfl
theorem pa_Col_findRecurrence_76 : pr_Col_findRecurrence[76]? = some (137, 1, .ixor, []) := rfl
theorem pa_Col_findRecurrence_77 : pr_Col_findRecurrence[77]? = some (138, 1, .iastore, []) := rfl
theorem pa_Col_findRecurrence_78 : pr_Col_findRecurrence[78]? = some (139, 3, .iinc 8 (1), [1, 0]) := rfl
theorem pa_Col_findRecurrence_79 : pr_Col_findRecurrence[79]? = some (142, 3, .goto (-42), [56]) := rfl
theorem pa_Col_findRecurrence_80 : pr_Col_findRecurrence[80]? = some (145, 1, .iconst 2, [2, 0]) := rfl
theorem pa_Col_findRecurrence_81 : pr_Col_findRecurrence[81]? = some (146, 1, .iload_n 3, []) := rfl
theorem pa_Col_findRecurrence_82 : pr_Col_findRecurrence[82]? = some (147, 1, .imul, []) := rfl
theorem pa_Col_findRecurrence_83 : pr_Col_findRecurrence[83]? = some (148, 2, .iload 5, []) := rfl
theorem pa_Col_findRecurrence_84 : pr_Col_findRecurrence[84]? = some (150, 3, .if_icmp .le (9), [87]) := rfl
theorem pa_Col_findRecurrence_85 : pr_Col_findRecurrence[85]? = some (153, 3, .iinc 4 (1), [1, 0]) := rfl
theorem pa_Col_findRecurrence_86 : pr_Col_findRecurrence[86]? = some (156, 3, .goto (34), [107]) := rfl
theorem pa_Col_findRecurrence_87 : pr_Col_findRecurrence[87]? = some (159, 1, .aload_n 0, []) := rfl
theorem pa_Col_findRecurrence_88 : pr_Col_findRecurrence[88]? = some (160, 3, .getfield 34, [4, 8, 2, 0, 119]) := rfl
theorem pa_Col_findRecurrence_89 : pr_Col_findRecurrence[89]? = some (163, 1, .iconst 0, [0, 0]) := rfl
theorem pa_Col_findRecurrence_90 : pr_Col_findRecurrence[90]? = some (164, 1, .aload_n 0, []) := rfl
theorem pa_Col_findRecurrence_91 : pr_Col_findRecurrence[91]? = some (165, 3, .getfield 31, [4, 7, 2, 0, 118]) := rfl
theorem pa_Col_findRecurrence_92 : pr_Col_findRecurrence[92]? = some (168, 1, .iconst 0, [0, 0]) := rfl
theorem pa_Col_findRecurrence_93 : pr_Col_findRecurrence[93]? = some (169, 1, .aload_n 0, []) := rfl
theorem pa_Col_findRecurrence_94 : pr_Col_findRecurrence[94]? = some (170, 3, .getfield 34, [4, 8, 2, 0, 119]) := rfl
theorem pa_Col_findRecurrence_95 : pr_Col_findRecurrence[95]? = some (173, 1, .arraylength, []) := rfl
theorem pa_Col_findRecurrence_96 : pr_Col_findRecurrence[96]? = some (174, 3, .invokestatic 86, [0, 318, 320, 319, 49]) := rfl
theorem pa_Col_findRecurrence_97 : pr_Col_findRecurrence[97]? = some (177, 2, .iload 6, []) := rfl
theorem pa_Col_findRecurrence_98 : pr_Col_findRecurrence[98]? = some (179, 1, .istore_n 2, []) := rfl
theorem pa_Col_findRecurrence_99 : pr_Col_findRecurrence[99]? = some (180, 2, .iload 5, []) := rfl
theorem pa_Col_findRecurrence_100 : pr_Col_findRecurrence[100]? = some (182, 1, .iconst 1, [1, 0]) := rfl
theorem pa_Col_findRecurrence_101 : pr_Col_findRecurrence[101]? = some (183, 1, .iadd, []) := rfl
theorem pa_Col_findRecurrence_102 : pr_Col_findRecurrence[102]? = some (184, 1, .iload_n 3, []) := rfl
theorem pa_Col_findRecurrence_103 : pr_Col_findRecurrence[103]? = some (185, 1, .isub, []) := rfl
theorem pa_Col_findRecurrence_104 : pr_Col_findRecurrence[104]? = some (186, 1, .istore_n 3, []) := rfl
theorem pa_Col_findRecurrence_105 : pr_Col_findRecurrence[105]? = some (187, 1, .iconst 1, [1, 0]) := rfl
theorem pa_Col_findRecurrence_106 : pr_Col_findRecurrence[106]? = some (188, 2, .istore 4, []) := rfl
theorem pa_Col_findRecurrence_107 : pr_Col_findRecurrence[107]? = some (190, 3, .iinc 5 (1), [1, 0]) := rfl
theorem pa_Col_findRecurrence_108 : pr_Col_findRecurrence[108]? = some (193, 3, .goto (-153), [26]) := rfl
theorem pa_Col_findRecurrence_109 : pr_Col_findRecurrence[109]? = some (196, 1, .iload_n 3, []) := rfl
theorem pa_Col_findRecurrence_110 : pr_Col_findRecurrence[110]? = some (197, 1, .ireturn, [0]) := rfl
def pa_Col_findRecurrence := And.intro pa_Col_findRecurrence_0 (And.intro pa_Col_findRecurrence_1 (And.intro pa_Col_findRecurrence_2 (And.intro pa_Col_findRecurrence_3 (And.intro pa_Col_findRecurrence_4 (And.intro pa_Col_findRecurrence_5 (And.intro pa_Col_findRecurrence_6 (And.intro pa_Col_findRecurrence_7 (And.intro pa_Col_findRecurrence_8 (And.intro pa_Col_findRecurrence_9 (And.intro pa_Col_findRecurrence_10 (And.intro pa_Col_findRecurrence_11 (And.intro pa_Col_findRecurrence_12 (And.intro pa_Col_findRecurrence_13 (And.intro pa_Col_findRecurrence_14 (And.intro pa_Col_findRecurrence_15 (And.intro pa_Col_findRecurrence_16 (And.intro pa_Col_findRecurrence_17 (And.intro pa_Col_findRecurrence_18 (And.intro pa_Col_findRecurrence_19 (And.intro pa_Col_findRecurrence_20 (And.intro pa_Col_findRecurrence_21 (And.intro pa_Col_findRecurrence_22 (And.intro pa_Col_findRecurrence_23 (And.intro pa_Col_findRecurrence_24 (And.intro pa_Col_findRecurrence_25 (And.intro pa_Col_findRecurrence_26 (And.intro pa_Col_findRecurrence_27 (And.intro pa_Col_findRecurrence_28 (And.intro pa_Col_findRecurrence_29 (And.intro pa_Col_findRecurrence_30 (And.intro pa_Col_findRecurrence_31 (And.intro pa_Col_findRecurrence_32 (And.intro pa_Col_findRecurrence_33 (And.intro pa_Col_findRecurrence_34 (And.intro pa_Col_findRecurrence_35 (And.intro pa_Col_findRecurrence_36 (And.intro pa_Col_findRecurrence_37 (And.intro pa_Col_findRecurrence_38 (And.intro pa_Col_findRecurrence_39 (And.intro pa_Col_findRecurrence_40 (And.intro pa_Col_findRecurrence_41 (And.intro pa_Col_findRecurrence_42 (And.intro pa_Col_findRecurrence_43 (And.intro pa_Col_findRecurrence_44 (And.intro pa_Col_findRecurrence_45 (And.intro pa_Col_findRecurrence_46 (And.intro pa_Col_findRecurrence_47 (And.intro pa_Col_findRecurrence_48 (And.intro pa_Col_findRecurrence_49 (And.intro pa_Col_findRecurrence_50 (And.intro pa_Col_findRecurrence_51 (And.intro pa_Col_findRecurrence_52 (And.intro pa_Col_findRecurrence_53 (And.intro pa_Col_findRecurrence_54 (And.intro pa_Col_findRecurrence_55 (And.intro pa_Col_findRecurrence_56 (And.intro pa_Col_findRecurrence_57 (And.intro pa_Col_findRecurrence_58 (And.intro pa_Col_findRecurrence_59 (And.intro pa_Col_findRecurrence_60 (And.intro pa_Col_findRecurrence_61 (And.intro pa_Col_findRecurrence_62 (And.intro pa_Col_findRecurrence_63 (And.intro pa_Col_findRecurrence_64 (And.intro pa_Col_findRecurrence_65 (And.intro pa_Col_findRecurrence_66 (And.intro pa_Col_findRecurrence_67 (And.intro pa_Col_findRecurrence_68 (And.intro pa_Col_findRecurrence_69 (And.intro pa_Col_findRecurrence_70 (And.intro pa_Col_findRecurrence_71 (And.intro pa_Col_findRecurrence_72 (And.intro pa_Col_findRecurrence_73 (And.intro pa_Col_findRecurrence_74 (And.intro pa_Col_findRecurrence_75 (And.intro pa_Col_findRecurrence_76 (And.intro pa_Col_findRecurrence_77 (And.intro pa_Col_findRecurrence_78 (And.intro pa_Col_findRecurrence_79 (And.intro pa_Col_findRecurrence_80 (And.intro pa_Col_findRecurrence_81 (And.intro pa_Col_findRecurrence_82 (And.intro pa_Col_findRecurrence_83 (And.intro pa_Col_findRecurrence_84 (And.intro pa_Col_findRecurrence_85 (And.intro pa_Col_findRecurrence_86 (And.intro pa_Col_findRecurrence_87 (And.intro pa_Col_findRecurrence_88 (And.intro pa_Col_findRecurrence_89 (And.intro pa_Col_findRecurrence_90 (And.intro pa_Col_findRecurrence_91 (And.intro pa_Col_findRecurrence_92 (And.intro pa_Col_findRecurrence_93 (And.intro pa_Col_findRecurrence_94 (And.intro pa_Col_findRecurrence_95 (And.intro pa_Col_findRecurrence_96 (And.intro pa_Col_findRecurrence_97 (And.intro pa_Col_findRecurrence_98 (And.intro pa_Col_findRecurrence_99 (And.intro pa_Col_findRecurrence_100 (And.intro pa_Col_findRecurrence_101 (And.intro pa_Col_findRecurrence_102 (And.intro pa_Col_findRecurrence_103 (And.intro pa_Col_findRecurrence_104 (And.intro pa_Col_findRecurrence_105 (And.intro pa_Col_findRecurrence_106 (And.intro pa_Col_findRecurrence_107 (And.intro pa_Col_findRecurrence_108 (And.intro pa_Col_findRecurrence_109 (pa_Col_findRecurrence_110))))))))))))))))))))))))))))))))))))))))))))))))))))))))))))))))))))))))))))))))))))))))))))))))))))))))))))))
def pr_Col_markWrong : List ma_E := [(0, 1, .iconst 0, [0, 0]),
  (1, 1, .istore_n 2, []),
  (2, 1, .iconst 0, [0, 0]),
  (3, 1, .istore_n 3, []),
  (4, 1, .iload_n 3, []),
  (5, 2, .bipush 16, [16, 0]),
  (7, 3, .if_icmp .ge (44), [28]),
  (10, 1, .aload_n 0, []),
  (11, 3, .getfield 15, [4, 2, 2, 0, 113]),
  (14, 1, .iload_n 3, []),
  (15, 1, .baload, [1]),
  (16, 3, .ifCond .ne (29), [26]),
  (19, 1, .aload_n 0, []),
  (20, 1, .aload_n 0, []),
  (21, 3, .getfield 37, [4, 0, 2, 0, 109]),
  (24, 1, .iload_n 3, []),
  (25, 3, .invokevirtual 62, [5, 1, 1, 0, 287, 288, 289, 42]),
  (28, 1, .iload_n 1, []),
  (29, 3, .invokevirtual 95, [52, 2, 4, 0, 329, 331, 9, 43]),
  (32, 3, .ifCond .ne (13), [26]),
  (35, 1, .aload_n 0, []),
  (36, 3, .getfield 15, [4, 2, 2, 0, 113]),
  (39, 1, .iload_n 3, []),
  (40, 1, .iconst 1, [1, 0]),
  (41, 1, .bastore, [1]),
  (42, 3, .iinc 2 (1), [1, 0]),
  (45, 3, .iinc 3 (1), [1, 0]),
  (48, 3, .goto (-44), [4]),
  (51, 1, .iload_n 2, []),
  (52, 1, .ireturn, [0])]
theorem po_Col_markWrong : ma_ok me_Col_markWrong pr_Col_markWrong := ma_ok_of (by decide +kernel)
theorem pa_Col_markWrong_0 : pr_Col_markWrong[0]? = some (0, 1, .iconst 0, [0, 0]) := rfl
theorem pa_Col_markWrong_1 : pr_Col_markWrong[1]? = some (1, 1, .istore_n 2, []) := rfl
theorem pa_Col_markWrong_2 : pr_Col_markWrong[2]? = some (2, 1, .iconst 0, [0, 0]) := rfl
theorem pa_Col_markWrong_3 : pr_Col_markWrong[3]? = some (3, 1, .istore_n 3, []) := rfl
theorem pa_Col_markWrong_4 : pr_Col_markWrong[4]? = some (4, 1, .iload_n 3, []) := rfl
theorem pa_Col_markWrong_5 : pr_Col_markWrong[5]? = some (5, 2, .bipush 16, [16, 0]) := rfl
theorem pa_Col_markWrong_6 : pr_Col_markWrong[6]? = some (7, 3, .if_icmp .ge (44), [28]) := rfl
theorem pa_Col_markWrong_7 : pr_Col_markWrong[7]? = some (10, 1, .aload_n 0, []) := rfl
theorem pa_Col_markWrong_8 : pr_Col_markWrong[8]? = some (11, 3, .getfield 15, [4, 2, 2, 0, 113]) := rfl
theorem pa_Col_markWrong_9 : pr_Col_markWrong[9]? = some (14, 1, .iload_n 3, []) := rfl
theorem pa_Col_markWrong_10 : pr_Col_markWrong[10]? = some (15, 1, .baload, [1]) := rfl
theorem pa_Col_markWrong_11 : pr_Col_markWrong[11]? = some (16, 3, .ifCond .ne (29), [26]) := rfl
theorem pa_Col_markWrong_12 : pr_Col_markWrong[12]? = some (19, 1, .aload_n 0, []) := rfl
theorem pa_Col_markWrong_13 : pr_Col_markWrong[13]? = some (20, 1, .aload_n 0, []) := rfl
theorem pa_Col_markWrong_14 : pr_Col_markWrong[14]? = some (21, 3, .getfield 37, [4, 0, 2, 0, 109]) := rfl
theorem pa_Col_markWrong_15 : pr_Col_markWrong[15]? = some (24, 1, .iload_n 3, []) := rfl
theorem pa_Col_markWrong_16 : pr_Col_markWrong[16]? = some (25, 3, .invokevirtual 62, [5, 1, 1, 0, 287, 288, 289, 42]) := rfl
theorem pa_Col_markWrong_17 : pr_Col_markWrong[17]? = some (28, 1, .iload_n 1, []) := rfl
theorem pa_Col_markWrong_18 : pr_Col_markWrong[18]? = some (29, 3, .invokevirtual 95, [52, 2, 4, 0, 329, 331, 9, 43]) := rfl
theorem pa_Col_markWrong_19 : pr_Col_markWrong[19]? = some (32, 3, .ifCond .ne (13), [26]) := rfl
theorem pa_Col_markWrong_20 : pr_Col_markWrong[20]? = some (35, 1, .aload_n 0, []) := rfl
theorem pa_Col_markWrong_21 : pr_Col_markWrong[21]? = some (36, 3, .getfield 15, [4, 2, 2, 0, 113]) := rfl
theorem pa_Col_markWrong_22 : pr_Col_markWrong[22]? = some (39, 1, .iload_n 3, []) := rfl
theorem pa_Col_markWrong_23 : pr_Col_markWrong[23]? = some (40, 1, .iconst 1, [1, 0]) := rfl
theorem pa_Col_markWrong_24 : pr_Col_markWrong[24]? = some (41, 1, .bastore, [1]) := rfl
theorem pa_Col_markWrong_25 : pr_Col_markWrong[25]? = some (42, 3, .iinc 2 (1), [1, 0]) := rfl
theorem pa_Col_markWrong_26 : pr_Col_markWrong[26]? = some (45, 3, .iinc 3 (1), [1, 0]) := rfl
theorem pa_Col_markWrong_27 : pr_Col_markWrong[27]? = some (48, 3, .goto (-44), [4]) := rfl
theorem pa_Col_markWrong_28 : pr_Col_markWrong[28]? = some (51, 1, .iload_n 2, []) := rfl
theorem pa_Col_markWrong_29 : pr_Col_markWrong[29]? = some (52, 1, .ireturn, [0]) := rfl
def pa_Col_markWrong := And.intro pa_Col_markWrong_0 (And.intro pa_Col_markWrong_1 (And.intro pa_Col_markWrong_2 (And.intro pa_Col_markWrong_3 (And.intro pa_Col_markWrong_4 (And.intro pa_Col_markWrong_5 (And.intro pa_Col_markWrong_6 (And.intro pa_Col_markWrong_7 (And.intro pa_Col_markWrong_8 (And.intro pa_Col_markWrong_9 (And.intro pa_Col_markWrong_10 (And.intro pa_Col_markWrong_11 (And.intro pa_Col_markWrong_12 (And.intro pa_Col_markWrong_13 (And.intro pa_Col_markWrong_14 (And.intro pa_Col_markWrong_15 (And.intro pa_Col_markWrong_16 (And.intro pa_Col_markWrong_17 (And.intro pa_Col_markWrong_18 (And.intro pa_Col_markWrong_19 (And.intro pa_Col_markWrong_20 (And.intro pa_Col_markWrong_21 (And.intro pa_Col_markWrong_22 (And.intro pa_Col_markWrong_23 (And.intro pa_Col_markWrong_24 (And.intro pa_Col_markWrong_25 (And.intro pa_Col_markWrong_26 (And.intro pa_Col_markWrong_27 (And.intro pa_Col_markWrong_28 (pa_Col_markWrong_29)))))))))))))))))))))))))))))
def pr_Col_siftOutUnknown : List ma_E := [(0, 1, .aload_n 0, []),
  (1, 1, .iconst (-1), [1, 1]),
  (2, 3, .invokevirtual 71, [53, 1, 4, 0, 299, 301, 4, 43]),
  (5, 1, .istore_n 2, []),
  (6, 1, .iconst 0, [0, 0]),
  (7, 1, .istore_n 3, []),
  (8, 1, .iload_n 3, []),
  (9, 1, .iload_n 1, []),
  (10, 3, .if_icmp .ge (21), [19]),
  (13, 1, .aload_n 0, []),
  (14, 3, .getfield 22, [4, 4, 2, 0, 115]),
  (17, 1, .iload_n 3, []),
  (18, 1, .aload_n 0, []),
  (19, 1, .iload_n 3, []),
  (20, 1, .iload_n 2, []),
  (21, 3, .invokevirtual 74, [54, 2, 4, 0, 306, 308, 5, 43]),
  (24, 1, .iastore, []),
  (25, 3, .iinc 3 (1), [1, 0]),
  (28, 3, .goto (-20), [6]),
  (31, 1, .return_, [])]
theorem po_Col_siftOutUnknown : ma_ok me_Col_siftOutUnknown pr_Col_siftOutUnknown := ma_ok_of (by decide +kernel)
theorem pa_Col_siftOutUnknown_0 : pr_Col_siftOutUnknown[0]? = some (0, 1, .aload_n 0, []) := rfl
theorem pa_Col_siftOutUnknown_1 : pr_Col_siftOutUnknown[1]? = some (1, 1, .iconst (-1), [1, 1]) := rfl
theorem pa_Col_siftOutUnknown_2 : pr_Col_siftOutUnknown[2]? = some (2, 3, .invokevirtual 71, [53, 1, 4, 0, 299, 301, 4, 43]) := rfl
theorem pa_Col_siftOutUnknown_3 : pr_Col_siftOutUnknown[3]? = some (5, 1, .istore_n 2, []) := rfl
theorem pa_Col_siftOutUnknown_4 : pr_Col_siftOutUnknown[4]? = some (6, 1, .iconst 0, [0, 0]) := rfl
theorem pa_Col_siftOutUnknown_5 : pr_Col_siftOutUnknown[5]? = some (7, 1, .istore_n 3, []) := rfl
theorem pa_Col_siftOutUnknown_6 : pr_Col_siftOutUnknown[6]? = some (8, 1, .iload_n 3, []) := rfl
theorem pa_Col_siftOutUnknown_7 : pr_Col_siftOutUnknown[7]? = some (9, 1, .iload_n 1, []) := rfl
theorem pa_Col_siftOutUnknown_8 : pr_Col_siftOutUnknown[8]? = some (10, 3, .if_icmp .ge (21), [19]) := rfl
theorem pa_Col_siftOutUnknown_9 : pr_Col_siftOutUnknown[9]? = some (13, 1, .aload_n 0, []) := rfl
theorem pa_Col_siftOutUnknown_10 : pr_Col_siftOutUnknown[10]? = some (14, 3, .getfield 22, [4, 4, 2, 0, 115]) := rfl
theorem pa_Col_siftOutUnknown_11 : pr_Col_siftOutUnknown[11]? = some (17, 1, .iload_n 3, []) := rfl
theorem pa_Col_siftOutUnknown_12 : pr_Col_siftOutUnknown[12]? = some (18, 1, .aload_n 0, []) := rfl
theorem pa_Col_siftOutUnknown_13 : pr_Col_siftOutUnknown[13]? = some (19, 1, .iload_n 3, []) := rfl
theorem pa_Col_siftOutUnknown_14 : pr_Col_siftOutUnknown[14]? = some (20, 1, .iload_n 2, []) := rfl
theorem pa_Col_siftOutUnknown_15 : pr_Col_siftOutUnknown[15]? = some (21, 3, .invokevirtual 74, [54, 2, 4, 0, 306, 308, 5, 43]) := rfl
theorem pa_Col_siftOutUnknown_16 : pr_Col_siftOutUnknown[16]? = some (24, 1, .iastore, []) := rfl
theorem pa_Col_siftOutUnknown_17 : pr_Col_siftOutUnknown[17]? = some (25, 3, .iinc 3 (1), [1, 0]) := rfl
theorem pa_Col_siftOutUnknown_18 : pr_Col_siftOutUnknown[18]? = some (28, 3, .goto (-20), [6]) := rfl
theorem pa_Col_siftOutUnknown_19 : pr_Col_siftOutUnknown[19]? = some (31, 1, .return_, []) := rfl
def pa_Col_siftOutUnknown := And.intro pa_Col_siftOutUnknown_0 (And.intro pa_Col_siftOutUnknown_1 (And.intro pa_Col_siftOutUnknown_2 (And.intro pa_Col_siftOutUnknown_3 (And.intro pa_Col_siftOutUnknown_4 (And.intro pa_Col_siftOutUnknown_5 (And.intro pa_Col_siftOutUnknown_6 (And.intro pa_Col_siftOutUnknown_7 (And.intro pa_Col_siftOutUnknown_8 (And.intro pa_Col_siftOutUnknown_9 (And.intro pa_Col_siftOutUnknown_10 (And.intro pa_Col_siftOutUnknown_11 (And.intro pa_Col_siftOutUnknown_12 (And.intro pa_Col_siftOutUnknown_13 (And.intro pa_Col_siftOutUnknown_14 (And.intro pa_Col_siftOutUnknown_15 (And.intro pa_Col_siftOutUnknown_16 (And.intro pa_Col_siftOutUnknown_17 (And.intro pa_Col_siftOutUnknown_18 (pa_Col_siftOutUnknown_19)))))))))))))))))))
def pr_Arc_newRows : List ma_E := [(0, 1, .iload_n 0, []),
  (1, 3, .anewarray 85, [67]),
  (4, 1, .astore_n 1, []),
  (5, 1, .iconst 0, [0, 0]),
  (6, 1, .istore_n 2, []),
  (7, 1, .iload_n 2, []),
  (8, 1, .iload_n 0, []),
  (9, 3, .if_icmp .ge (19), [16]),
  (12, 1, .aload_n 1, []),
  (13, 1, .iload_n 2, []),
  (14, 3, .new 85, [0, 3, 67, 69, 41]),
  (17, 1, .dup, []),
  (18, 3, .invokespecial 155, [40, 0, 1, 0, 71, 41]),
  (21, 1, .aastore, []),
  (22, 3, .iinc 2 (1), [1, 0]),
  (25, 3, .goto (-18), [5]),
  (28, 1, .aload_n 1, []),
  (29, 1, .areturn, [])]
theorem po_Arc_newRows : ma_ok me_Arc_newRows pr_Arc_newRows := ma_ok_of (by decide +kernel)
theorem po_Arc_newRows90 : ma_ok me_Arc_newRows90 pr_Arc_newRows := ma_ok_of (by decide +kernel)
theorem pa_Arc_newRows_0 : pr_Arc_newRows[0]? = some (0, 1, .iload_n 0, []) := rfl
theorem pa_Arc_newRows_1 : pr_Arc_newRows[1]? = some (1, 3, .anewarray 85, [67]) := rfl
theorem pa_Arc_newRows_2 : pr_Arc_newRows[2]? = some (4, 1, .astore_n 1, []) := rfl
theorem pa_Arc_newRows_3 : pr_Arc_newRows[3]? = some (5, 1, .iconst 0, [0, 0]) := rfl
theorem pa_Arc_newRows_4 : pr_Arc_newRows[4]? = some (6, 1, .istore_n 2, []) := rfl
theorem pa_Arc_newRows_5 : pr_Arc_newRows[5]? = some (7, 1, .iload_n 2, []) := rfl
theorem pa_Arc_newRows_6 : pr_Arc_newRows[6]? = some (8, 1, .iload_n 0, []) := rfl
theorem pa_Arc_newRows_7 : pr_Arc_newRows[7]? = some (9, 3, .if_icmp .ge (19), [16]) := rfl
theorem pa_Arc_newRows_8 : pr_Arc_newRows[8]? = some (12, 1, .aload_n 1, []) := rfl
theorem pa_Arc_newRows_9 : pr_Arc_newRows[9]? = some (13, 1, .iload_n 2, []) := rfl
theorem pa_Arc_newRows_10 : pr_Arc_newRows[10]? = some (14, 3, .new 85, [0, 3, 67, 69, 41]) := rfl
theorem pa_Arc_newRows_11 : pr_Arc_newRows[11]? = some (17, 1, .dup, []) := rfl
theorem pa_Arc_newRows_12 : pr_Arc_newRows[12]? = some (18, 3, .invokespecial 155, [40, 0, 1, 0, 71, 41]) := rfl
theorem pa_Arc_newRows_13 : pr_Arc_newRows[13]? = some (21, 1, .aastore, []) := rfl
theorem pa_Arc_newRows_14 : pr_Arc_newRows[14]? = some (22, 3, .iinc 2 (1), [1, 0]) := rfl
theorem pa_Arc_newRows_15 : pr_Arc_newRows[15]? = some (25, 3, .goto (-18), [5]) := rfl
theorem pa_Arc_newRows_16 : pr_Arc_newRows[16]? = some (28, 1, .aload_n 1, []) := rfl
theorem pa_Arc_newRows_17 : pr_Arc_newRows[17]? = some (29, 1, .areturn, []) := rfl
def pa_Arc_newRows := And.intro pa_Arc_newRows_0 (And.intro pa_Arc_newRows_1 (And.intro pa_Arc_newRows_2 (And.intro pa_Arc_newRows_3 (And.intro pa_Arc_newRows_4 (And.intro pa_Arc_newRows_5 (And.intro pa_Arc_newRows_6 (And.intro pa_Arc_newRows_7 (And.intro pa_Arc_newRows_8 (And.intro pa_Arc_newRows_9 (And.intro pa_Arc_newRows_10 (And.intro pa_Arc_newRows_11 (And.intro pa_Arc_newRows_12 (And.intro pa_Arc_newRows_13 (And.intro pa_Arc_newRows_14 (And.intro pa_Arc_newRows_15 (And.intro pa_Arc_newRows_16 (pa_Arc_newRows_17)))))))))))))))))
def pr_Arc_readCut : List ma_E := [(0, 1, .aload_n 0, []),
  (1, 1, .iload_n 1, []),
  (2, 3, .invokevirtual 81, [21, 1, 6, 0, 385, 387, 15, 40]),
  (5, 3, .ifCond .eq (20), [12]),
  (8, 1, .aload_n 0, []),
  (9, 3, .invokevirtual 89, [19, 0, 6, 0, 402, 404, 16, 40]),
  (12, 3, .ifCond .ne (13), [12]),
  (15, 1, .iload_n 2, []),
  (16, 3, .ifCond .lt (9), [12]),
  (19, 1, .iload_n 2, []),
  (20, 2, .bipush 33, [33, 0]),
  (22, 3, .if_icmp .lt (5), [14]),
  (25, 1, .iconst 0, [0, 0]),
  (26, 1, .ireturn, [1]),
  (27, 1, .aload_n 0, []),
  (28, 3, .invokevirtual 93, [23, 0, 6, 0, 406, 408, 17, 40]),
  (31, 1, .astore_n 3, []),
  (32, 1, .aload_n 3, []),
  (33, 1, .lconst 0, [0]),
  (34, 1, .lconst 0, [0]),
  (35, 1, .iconst 0, [0, 0]),
  (36, 3, .invokevirtual 107, [3, 3, 0, 0, 362, 363, 364, 41]),
  (39, 1, .aload_n 3, []),
  (40, 1, .aload_n 0, []),
  (41, 3, .getfield 17, [6, 1, 2, 0, 223]),
  (44, 1, .iload_n 1, []),
  (45, 1, .aaload, []),
  (46, 1, .iconst 0, [0, 0]),
  (47, 1, .iload_n 2, []),
  (48, 3, .invokevirtual 111, [41, 3, 0, 0, 414, 415, 416, 41]),
  (51, 1, .aload_n 3, []),
  (52, 1, .aload_n 0, []),
  (53, 3, .getfield 17, [6, 1, 2, 0, 223]),
  (56, 1, .iload_n 1, []),
  (57, 1, .aaload, []),
  (58, 1, .iload_n 2, []),
  (59, 1, .iconst 1, [1, 0]),
  (60, 1, .iadd, []),
  (61, 2, .bipush 45, [45, 0]),
  (63, 3, .invokevirtual 111, [41, 3, 0, 0, 414, 415, 416, 41]),
  (66, 1, .iconst 1, [1, 0]),
  (67, 1, .ireturn, [1])]
theorem po_Arc_readCut : ma_ok me_Arc_readCut pr_Arc_readCut := ma_ok_of (by decide +kernel)
theorem pa_Arc_readCut_0 : pr_Arc_readCut[0]? = some (0, 1, .aload_n 0, []) := rfl
theorem pa_Arc_readCut_1 : pr_Arc_readCut[1]? = some (1, 1, .iload_n 1, []) := rfl
theorem pa_Arc_readCut_2 : pr_Arc_readCut[2]? = some (2, 3, .invokevirtual 81, [21, 1, 6, 0, 385, 387, 15, 40]) := rfl
theorem pa_Arc_readCut_3 : pr_Arc_readCut[3]? = some (5, 3, .ifCond .eq (20), [12]) := rfl
theorem pa_Arc_readCut_4 : pr_Arc_readCut[4]? = some (8, 1, .aload_n 0, []) := rfl
theorem pa_Arc_readCut_5 : pr_Arc_readCut[5]? = some (9, 3, .invokevirtual 89, [19, 0, 6, 0, 402, 404, 16, 40]) := rfl
theorem pa_Arc_readCut_6 : pr_Arc_readCut[6]? = some (12, 3, .ifCond .ne (13), [12]) := rfl
theorem pa_Arc_readCut_7 : pr_Arc_readCut[7]? = some (15, 1, .iload_n 2, []) := rfl
theorem pa_Arc_readCut_8 : pr_Arc_readCut[8]? = some (16, 3, .ifCond .lt (9), [12]) := rfl
theorem pa_Arc_readCut_9 : pr_Arc_readCut[9]? = some (19, 1, .iload_n 2, []) := rfl
theorem pa_Arc_readCut_10 : pr_Arc_readCut[10]? = some (20, 2, .bipush 33, [33, 0]) := rfl
theorem pa_Arc_readCut_11 : pr_Arc_readCut[11]? = some (22, 3, .if_icmp .lt (5), [14]) := rfl
theorem pa_Arc_readCut_12 : pr_Arc_readCut[12]? = some (25, 1, .iconst 0, [0, 0]) := rfl
theorem pa_Arc_readCut_13 : pr_Arc_readCut[13]? = some (26, 1, .ireturn, [1]) := rfl
theorem pa_Arc_readCut_14 : pr_Arc_readCut[14]? = some (27, 1, .aload_n 0, []) := rfl
theorem pa_Arc_readCut_15 : pr_Arc_readCut[15]? = some (28, 3, .invokevirtual 93, [23, 0, 6, 0, 406, 408, 17, 40]) := rfl
theorem pa_Arc_readCut_16 : pr_Arc_readCut[16]? = some (31, 1, .astore_n 3, []) := rfl
theorem pa_Arc_readCut_17 : pr_Arc_readCut[17]? = some (32, 1, .aload_n 3, []) := rfl
theorem pa_Arc_readCut_18 : pr_Arc_readCut[18]? = some (33, 1, .lconst 0, [0]) := rfl
theorem pa_Arc_readCut_19 : pr_Arc_readCut[19]? = some (34, 1, .lconst 0, [0]) := rfl
theorem pa_Arc_readCut_20 : pr_Arc_readCut[20]? = some (35, 1, .iconst 0, [0, 0]) := rfl
theorem pa_Arc_readCut_21 : pr_Arc_readCut[21]? = some (36, 3, .invokevirtual 107, [3, 3, 0, 0, 362, 363, 364, 41]) := rfl
theorem pa_Arc_readCut_22 : pr_Arc_readCut[22]? = some (39, 1, .aload_n 3, []) := rfl
theorem pa_Arc_readCut_23 : pr_Arc_readCut[23]? = some (40, 1, .aload_n 0, []) := rfl
theorem pa_Arc_readCut_24 : pr_Arc_readCut[24]? = some (41, 3, .getfield 17, [6, 1, 2, 0, 223]) := rfl
theorem pa_Arc_readCut_25 : pr_Arc_readCut[25]? = some (44, 1, .iload_n 1, []) := rfl
theorem pa_Arc_readCut_26 : pr_Arc_readCut[26]? = some (45, 1, .aaload, []) := rfl
theorem pa_Arc_readCut_27 : pr_Arc_readCut[27]? = some (46, 1, .iconst 0, [0, 0]) := rfl
theorem pa_Arc_readCut_28 : pr_Arc_readCut[28]? = some (47, 1, .iload_n 2, []) := rfl
theorem pa_Arc_readCut_29 : pr_Arc_readCut[29]? = some (48, 3, .invokevirtual 111, [41, 3, 0, 0, 414, 415, 416, 41]) := rfl
theorem pa_Arc_readCut_30 : pr_Arc_readCut[30]? = some (51, 1, .aload_n 3, []) := rfl
theorem pa_Arc_readCut_31 : pr_Arc_readCut[31]? = some (52, 1, .aload_n 0, []) := rfl
theorem pa_Arc_readCut_32 : pr_Arc_readCut[32]? = some (53, 3, .getfield 17, [6, 1, 2, 0, 223]) := rfl
theorem pa_Arc_readCut_33 : pr_Arc_readCut[33]? = some (56, 1, .iload_n 1, []) := rfl
theorem pa_Arc_readCut_34 : pr_Arc_readCut[34]? = some (57, 1, .aaload, []) := rfl
theorem pa_Arc_readCut_35 : pr_Arc_readCut[35]? = some (58, 1, .iload_n 2, []) := rfl
theorem pa_Arc_readCut_36 : pr_Arc_readCut[36]? = some (59, 1, .iconst 1, [1, 0]) := rfl
theorem pa_Arc_readCut_37 : pr_Arc_readCut[37]? = some (60, 1, .iadd, []) := rfl
theorem pa_Arc_readCut_38 : pr_Arc_readCut[38]? = some (61, 2, .bipush 45, [45, 0]) := rfl
theorem pa_Arc_readCut_39 : pr_Arc_readCut[39]? = some (63, 3, .invokevirtual 111, [41, 3, 0, 0, 414, 415, 416, 41]) := rfl
theorem pa_Arc_readCut_40 : pr_Arc_readCut[40]? = some (66, 1, .iconst 1, [1, 0]) := rfl
theorem pa_Arc_readCut_41 : pr_Arc_readCut[41]? = some (67, 1, .ireturn, [1]) := rfl
def pa_Arc_readCut := And.intro pa_Arc_readCut_0 (And.intro pa_Arc_readCut_1 (And.intro pa_Arc_readCut_2 (And.intro pa_Arc_readCut_3 (And.intro pa_Arc_readCut_4 (And.intro pa_Arc_readCut_5 (And.intro pa_Arc_readCut_6 (And.intro pa_Arc_readCut_7 (And.intro pa_Arc_readCut_8 (And.intro pa_Arc_readCut_9 (And.intro pa_Arc_readCut_10 (And.intro pa_Arc_readCut_11 (And.intro pa_Arc_readCut_12 (And.intro pa_Arc_readCut_13 (And.intro pa_Arc_readCut_14 (And.intro pa_Arc_readCut_15 (And.intro pa_Arc_readCut_16 (And.intro pa_Arc_readCut_17 (And.intro pa_Arc_readCut_18 (And.intro pa_Arc_readCut_19 (And.intro pa_Arc_readCut_20 (And.intro pa_Arc_readCut_21 (And.intro pa_Arc_readCut_22 (And.intro pa_Arc_readCut_23 (And.intro pa_Arc_readCut_24 (And.intro pa_Arc_readCut_25 (And.intro pa_Arc_readCut_26 (And.intro pa_Arc_readCut_27 (And.intro pa_Arc_readCut_28 (And.intro pa_Arc_readCut_29 (And.intro pa_Arc_readCut_30 (And.intro pa_Arc_readCut_31 (And.intro pa_Arc_readCut_32 (And.intro pa_Arc_readCut_33 (And.intro pa_Arc_readCut_34 (And.intro pa_Arc_readCut_35 (And.intro pa_Arc_readCut_36 (And.intro pa_Arc_readCut_37 (And.intro pa_Arc_readCut_38 (And.intro pa_Arc_readCut_39 (And.intro pa_Arc_readCut_40 (pa_Arc_readCut_41)))))))))))))))))))))))))))))))))))))))))
def pr_Arc_readGrown : List ma_E := [(0, 1, .aload_n 0, []),
  (1, 1, .iload_n 1, []),
  (2, 3, .invokevirtual 81, [21, 1, 6, 0, 385, 387, 15, 40]),
  (5, 3, .ifCond .eq (29), [17]),
  (8, 1, .aload_n 0, []),
  (9, 3, .invokevirtual 89, [19, 0, 6, 0, 402, 404, 16, 40]),
  (12, 3, .ifCond .ne (22), [17]),
  (15, 1, .iload_n 2, []),
  (16, 3, .ifCond .lt (18), [17]),
  (19, 1, .iload_n 2, []),
  (20, 2, .bipush 33, [33, 0]),
  (22, 3, .if_icmp .gt (12), [17]),
  (25, 1, .iload_n 3, []),
  (26, 3, .ifCond .lt (8), [17]),
  (29, 1, .iload_n 3, []),
  (30, 1, .iconst 4, [4, 0]),
  (31, 3, .if_icmp .lt (5), [19]),
  (34, 1, .iconst 0, [0, 0]),
  (35, 1, .ireturn, [1]),
  (36, 1, .aload_n 0, []),
  (37, 3, .invokevirtual 93, [23, 0, 6, 0, 406, 408, 17, 40]),
  (40, 2, .astore 4, []),
  (42, 2, .aload 4, []),
  (44, 1, .lconst 0, [0]),
  (45, 1, .lconst 0, [0]),
  (46, 1, .iconst 0, [0, 0]),
  (47, 3, .invokevirtual 107, [3, 3, 0, 0, 362, 363, 364, 41]),
  (50, 2, .aload 4, []),
  (52, 1, .aload_n 0, []),
  (53, 3, .getfield 17, [6, 1, 2, 0, 223]),
  (56, 1, .iload_n 1, []),
  (57, 1, .aaload, []),
  (58, 1, .iconst 0, [0, 0]),
  (59, 1, .iload_n 2, []),
  (60, 3, .invokevirtual 111, [41, 3, 0, 0, 414, 415, 416, 41]),
  (63, 2, .aload 4, []),
  (65, 1, .iload_n 3, []),
  (66, 3, .invokevirtual 115, [1, 1, 0, 0, 366, 367, 368, 41]),
  (69, 2, .aload 4, []),
  (71, 1, .aload_n 0, []),
  (72, 3, .getfield 17, [6, 1, 2, 0, 223]),
  (75, 1, .iload_n 1, []),
  (76, 1, .aaload, []),
  (77, 1, .iload_n 2, []),
  (78, 2, .bipush 45, [45, 0]),
  (80, 3, .invokevirtual 111, [41, 3, 0, 0, 414, 415, 416, 41]),
  (83, 1, .iconst 1, [1, 0]),
  (84, 1, .ireturn, [1])]
theorem po_Arc_readGrown : ma_ok me_Arc_readGrown pr_Arc_readGrown := ma_ok_of (by decide +kernel)
theorem pa_Arc_readGrown_0 : pr_Arc_readGrown[0]? = some (0, 1, .aload_n 0, []) := rfl
theorem pa_Arc_readGrown_1 : pr_Arc_readGrown[1]? = some (1, 1, .iload_n 1, []) := rfl
theorem pa_Arc_readGrown_2 : pr_Arc_readGrown[2]? = some (2, 3, .invokevirtual 81, [21, 1, 6, 0, 385, 387, 15, 40]) := rfl
theorem pa_Arc_readGrown_3 : pr_Arc_readGrown[3]? = some (5, 3, .ifCond .eq (29), [17]) := rfl
theorem pa_Arc_readGrown_4 : pr_Arc_readGrown[4]? = some (8, 1, .aload_n 0, []) := rfl
theorem pa_Arc_readGrown_5 : pr_Arc_readGrown[5]? = some (9, 3, .invokevirtual 89, [19, 0, 6, 0, 402, 404, 16, 40]) := rfl
theorem pa_Arc_readGrown_6 : pr_Arc_readGrown[6]? = some (12, 3, .ifCond .ne (22), [17]) := rfl
theorem pa_Arc_readGrown_7 : pr_Arc_readGrown[7]? = some (15, 1, .iload_n 2, []) := rfl
theorem pa_Arc_readGrown_8 : pr_Arc_readGrown[8]? = some (16, 3, .ifCond .lt (18), [17]) := rfl
theorem pa_Arc_readGrown_9 : pr_Arc_readGrown[9]? = some (19, 1, .iload_n 2, []) := rfl
theorem pa_Arc_readGrown_10 : pr_Arc_readGrown[10]? = some (20, 2, .bipush 33, [33, 0]) := rfl
theorem pa_Arc_readGrown_11 : pr_Arc_readGrown[11]? = some (22, 3, .if_icmp .gt (12), [17]) := rfl
theorem pa_Arc_readGrown_12 : pr_Arc_readGrown[12]? = some (25, 1, .iload_n 3, []) := rfl
theorem pa_Arc_readGrown_13 : pr_Arc_readGrown[13]? = some (26, 3, .ifCond .lt (8), [17]) := rfl
theorem pa_Arc_readGrown_14 : pr_Arc_readGrown[14]? = some (29, 1, .iload_n 3, []) := rfl
theorem pa_Arc_readGrown_15 : pr_Arc_readGrown[15]? = some (30, 1, .iconst 4, [4, 0]) := rfl
theorem pa_Arc_readGrown_16 : pr_Arc_readGrown[16]? = some (31, 3, .if_icmp .lt (5), [19]) := rfl
theorem pa_Arc_readGrown_17 : pr_Arc_readGrown[17]? = some (34, 1, .iconst 0, [0, 0]) := rfl
theorem pa_Arc_readGrown_18 : pr_Arc_readGrown[18]? = some (35, 1, .ireturn, [1]) := rfl
theorem pa_Arc_readGrown_19 : pr_Arc_readGrown[19]? = some (36, 1, .aload_n 0, []) := rfl
theorem pa_Arc_readGrown_20 : pr_Arc_readGrown[20]? = some (37, 3, .invokevirtual 93, [23, 0, 6, 0, 406, 408, 17, 40]) := rfl
theorem pa_Arc_readGrown_21 : pr_Arc_readGrown[21]? = some (40, 2, .astore 4, []) := rfl
theorem pa_Arc_readGrown_22 : pr_Arc_readGrown[22]? = some (42, 2, .aload 4, []) := rfl
theorem pa_Arc_readGrown_23 : pr_Arc_readGrown[23]? = some (44, 1, .lconst 0, [0]) := rfl
theorem pa_Arc_readGrown_24 : pr_Arc_readGrown[24]? = some (45, 1, .lconst 0, [0]) := rfl
theorem pa_Arc_readGrown_25 : pr_Arc_readGrown[25]? = some (46, 1, .iconst 0, [0, 0]) := rfl
theorem pa_Arc_readGrown_26 : pr_Arc_readGrown[26]? = some (47, 3, .invokevirtual 107, [3, 3, 0, 0, 362, 363, 364, 41]) := rfl
theorem pa_Arc_readGrown_27 : pr_Arc_readGrown[27]? = some (50, 2, .aload 4, []) := rfl
theorem pa_Arc_readGrown_28 : pr_Arc_readGrown[28]? = some (52, 1, .aload_n 0, []) := rfl
theorem pa_Arc_readGrown_29 : pr_Arc_readGrown[29]? = some (53, 3, .getfield 17, [6, 1, 2, 0, 223]) := rfl
theorem pa_Arc_readGrown_30 : pr_Arc_readGrown[30]? = some (56, 1, .iload_n 1, []) := rfl
theorem pa_Arc_readGrown_31 : pr_Arc_readGrown[31]? = some (57, 1, .aaload, []) := rfl
theorem pa_Arc_readGrown_32 : pr_Arc_readGrown[32]? = some (58, 1, .iconst 0, [0, 0]) := rfl
theorem pa_Arc_readGrown_33 : pr_Arc_readGrown[33]? = some (59, 1, .iload_n 2, []) := rfl
theorem pa_Arc_readGrown_34 : pr_Arc_readGrown[34]? = some (60, 3, .invokevirtual 111, [41, 3, 0, 0, 414, 415, 416, 41]) := rfl
theorem pa_Arc_readGrown_35 : pr_Arc_readGrown[35]? = some (63, 2, .aload 4, []) := rfl
theorem pa_Arc_readGrown_36 : pr_Arc_readGrown[36]? = some (65, 1, .iload_n 3, []) := rfl
theorem pa_Arc_readGrown_37 : pr_Arc_readGrown[37]? = some (66, 3, .invokevirtual 115, [1, 1, 0, 0, 366, 367, 368, 41]) := rfl
theorem pa_Arc_readGrown_38 : pr_Arc_readGrown[38]? = some (69, 2, .aload 4, []) := rfl
theorem pa_Arc_readGrown_39 : pr_Arc_readGrown[39]? = some (71, 1, .aload_n 0, []) := rfl
theorem pa_Arc_readGrown_40 : pr_Arc_readGrown[40]? = some (72, 3, .getfield 17, [6, 1, 2, 0, 223]) := rfl
theorem pa_Arc_readGrown_41 : pr_Arc_readGrown[41]? = some (75, 1, .iload_n 1, []) := rfl
theorem pa_Arc_readGrown_42 : pr_Arc_readGrown[42]? = some (76, 1, .aaload, []) := rfl
theorem pa_Arc_readGrown_43 : pr_Arc_readGrown[43]? = some (77, 1, .iload_n 2, []) := rfl
theorem pa_Arc_readGrown_44 : pr_Arc_readGrown[44]? = some (78, 2, .bipush 45, [45, 0]) := rfl
theorem pa_Arc_readGrown_45 : pr_Arc_readGrown[45]? = some (80, 3, .invokevirtual 111, [41, 3, 0, 0, 414, 415, 416, 41]) := rfl
theorem pa_Arc_readGrown_46 : pr_Arc_readGrown[46]? = some (83, 1, .iconst 1, [1, 0]) := rfl
theorem pa_Arc_readGrown_47 : pr_Arc_readGrown[47]? = some (84, 1, .ireturn, [1]) := rfl
def pa_Arc_readGrown := And.intro pa_Arc_readGrown_0 (And.intro pa_Arc_readGrown_1 (And.intro pa_Arc_readGrown_2 (And.intro pa_Arc_readGrown_3 (And.intro pa_Arc_readGrown_4 (And.intro pa_Arc_readGrown_5 (And.intro pa_Arc_readGrown_6 (And.intro pa_Arc_readGrown_7 (And.intro pa_Arc_readGrown_8 (And.intro pa_Arc_readGrown_9 (And.intro pa_Arc_readGrown_10 (And.intro pa_Arc_readGrown_11 (And.intro pa_Arc_readGrown_12 (And.intro pa_Arc_readGrown_13 (And.intro pa_Arc_readGrown_14 (And.intro pa_Arc_readGrown_15 (And.intro pa_Arc_readGrown_16 (And.intro pa_Arc_readGrown_17 (And.intro pa_Arc_readGrown_18 (And.intro pa_Arc_readGrown_19 (And.intro pa_Arc_readGrown_20 (And.intro pa_Arc_readGrown_21 (And.intro pa_Arc_readGrown_22 (And.intro pa_Arc_readGrown_23 (And.intro pa_Arc_readGrown_24 (And.intro pa_Arc_readGrown_25 (And.intro pa_Arc_readGrown_26 (And.intro pa_Arc_readGrown_27 (And.intro pa_Arc_readGrown_28 (And.intro pa_Arc_readGrown_29 (And.intro pa_Arc_readGrown_30 (And.intro pa_Arc_readGrown_31 (And.intro pa_Arc_readGrown_32 (And.intro pa_Arc_readGrown_33 (And.intro pa_Arc_readGrown_34 (And.intro pa_Arc_readGrown_35 (And.intro pa_Arc_readGrown_36 (And.intro pa_Arc_readGrown_37 (And.intro pa_Arc_readGrown_38 (And.intro pa_Arc_readGrown_39 (And.intro pa_Arc_readGrown_40 (And.intro pa_Arc_readGrown_41 (And.intro pa_Arc_readGrown_42 (And.intro pa_Arc_readGrown_43 (And.intro pa_Arc_readGrown_44 (And.intro pa_Arc_readGrown_45 (And.intro pa_Arc_readGrown_46 (pa_Arc_readGrown_47)))))))))))))))))))))))))))))))))))))))))))))))
end
section
/-! the methods as tables -/
def pr_Mod_init : List ma_E := [(0, 1, .aload_n 0, []),
  (1, 3, .invokespecial 1, [0, 610, 62, 63]),
  (4, 1, .aload_n 0, []),
  (5, 3, .sipush 160, [160, 0]),
  (8, 2, .newarray .int, [89]),
  (10, 3, .putfield 7, [7, 1, 2, 0, 621]),
  (13, 1, .aload_n 0, []),
  (14, 3, .sipush 2880, [2880, 0]),
  (17, 2, .newarray .byte, [687]),
  (19, 3, .putfield 13, [7, 3, 2, 0, 623]),
  (22, 1, .aload_n 0, []),
  (23, 3, .sipush 5400, [5400, 0]),
  (26, 2, .newarray .byte, [687]),
  (28, 3, .putfield 17, [7, 5, 2, 0, 625]),
  (31, 1, .aload_n 0, []),
  (32, 2, .bipush 90, [90, 0]),
  (34, 2, .newarray .int, [89]),
  (36, 3, .putfield 20, [7, 6, 2, 0, 626]),
  (39, 1, .aload_n 0, []),
  (40, 3, .sipush 160, [160, 0]),
  (43, 2, .newarray .int, [89]),
  (45, 3, .putfield 23, [7, 10, 2, 0, 630]),
  (48, 1, .aload_n 0, []),
  (49, 1, .iconst 4, [4, 0]),
  (50, 2, .newarray .int, [89]),
  (52, 3, .putfield 26, [7, 11, 2, 0, 631]),
  (55, 1, .aload_n 0, []),
  (56, 1, .iconst 4, [4, 0]),
  (57, 2, .newarray .int, [89]),
  (59, 3, .putfield 29, [7, 12, 2, 0, 632]),
  (62, 1, .aload_n 0, []),
  (63, 2, .bipush 33, [33, 0]),
  (65, 2, .newarray .int, [89]),
  (67, 3, .putfield 32, [7, 13, 2, 0, 633]),
  (70, 1, .aload_n 0, []),
  (71, 2, .bipush 60, [60, 0]),
  (73, 2, .newarray .int, [89]),
  (75, 3, .putfield 35, [7, 14, 2, 0, 634]),
  (78, 1, .aload_n 0, []),
  (79, 2, .bipush 64, [64, 0]),
  (81, 2, .newarray .int, [89]),
  (83, 3, .putfield 38, [7, 15, 2, 0, 635]),
  (86, 1, .aload_n 0, []),
  (87, 3, .sipush 256, [256, 0]),
  (90, 2, .newarray .int, [89]),
  (92, 3, .putfield 41, [7, 16, 2, 0, 636]),
  (95, 1, .aload_n 0, []),
  (96, 2, .bipush 16, [16, 0]),
  (98, 2, .newarray .int, [89]),
  (100, 3, .putfield 44, [7, 17, 2, 0, 637]),
  (103, 1, .aload_n 0, []),
  (104, 2, .bipush 42, [42, 0]),
  (106, 2, .newarray .int, [89]),
  (108, 3, .putfield 47, [7, 18, 2, 0, 638]),
  (111, 1, .aload_n 0, []),
  (112, 2, .bipush 6, [6, 0]),
  (114, 2, .newarray .int, [89]),
  (116, 3, .putfield 50, [7, 19, 2, 0, 639]),
  (119, 1, .aload_n 0, []),
  (120, 2, .bipush 96, [96, 0]),
  (122, 2, .newarray .int, [89]),
  (124, 3, .putfield 53, [7, 20, 2, 0, 640]),
  (127, 1, .aload_n 0, []),
  (128, 3, .sipush 256, [256, 0]),
  (131, 2, .newarray .int, [89]),
  (133, 3, .putfield 56, [7, 21, 2, 0, 641]),
  (136, 1, .iconst 0, [0, 0]),
  (137, 1, .istore_n 1, []),
  (138, 1, .iload_n 1, []),
  (139, 2, .bipush 96, [96, 0]),
  (141, 3, .if_icmp .ge (19), [79]),
  (144, 1, .aload_n 0, []),
  (145, 3, .getfield 53, [7, 20, 2, 0, 640]),
  (148, 1, .iload_n 1, []),
  (149, 1, .iload_n 1, []),
  (150, 3, .invokestatic 59, [71, 1, 0, 611, 612, 47]),
  (153, 1, .iastore, []),
  (154, 3, .iinc 1 (1), [1, 0]),
  (157, 3, .goto (-19), [68]),
  (160, 1, .iconst 1, [1, 0]),
  (161, 1, .istore_n 1, []),
  (162, 1, .iload_n 1, []),
  (163, 3, .sipush 256, [256, 0]),
  (166, 3, .if_icmp .ge (19), [92]),
  (169, 1, .aload_n 0, []),
  (170, 3, .getfield 56, [7, 21, 2, 0, 641]),
  (173, 1, .iload_n 1, []),
  (174, 1, .iload_n 1, []),
  (175, 3, .invokestatic 63, [65, 1, 0, 617, 618, 47]),
  (178, 1, .iastore, []),
  (179, 3, .iinc 1 (1), [1, 0]),
  (182, 3, .goto (-20), [81]),
  (185, 1, .return_, [])]
theorem po_Mod_init : ma_ok me_Mod_init pr_Mod_init := ma_ok_of (by decide +kernel)
theorem pa_Mod_init_0 : pr_Mod_init[0]? = some (0, 1, .aload_n 0, []) := rfl
theorem pa_Mod_init_1 : pr_Mod_init[1]? = some (1, 3, .invokespecial 1, [0, 610, 62, 63]) := rfl
theorem pa_Mod_init_2 : pr_Mod_init[2]? = some (4, 1, .aload_n 0, []) := rfl
theorem pa_Mod_init_3 : pr_Mod_init[3]? = some (5, 3, .sipush 160, [160, 0]) := rfl
theorem pa_Mod_init_4 : pr_Mod_init[4]? = some (8, 2, .newarray .int, [89]) := rfl
theorem pa_Mod_init_5 : pr_Mod_init[5]? = some (10, 3, .putfield 7, [7, 1, 2, 0, 621]) := rfl
theorem pa_Mod_init_6 : pr_Mod_init[6]? = some (13, 1, .aload_n 0, []) := rfl
theorem pa_Mod_init_7 : pr_Mod_init[7]? = some (14, 3, .sipush 2880, [2880, 0]) := rfl
theorem pa_Mod_init_8 : pr_Mod_init[8]? = some (17, 2, .newarray .byte, [687]) := rfl
theorem pa_Mod_init_9 : pr_Mod_init[9]? = some (19, 3, .putfield 13, [7, 3, 2, 0, 623]) := rfl
theorem pa_Mod_init_10 : pr_Mod_init[10]? = some (22, 1, .aload_n 0, []) := rfl
theorem pa_Mod_init_11 : pr_Mod_init[11]? = some (23, 3, .sipush 5400, [5400, 0]) := rfl
theorem pa_Mod_init_12 : pr_Mod_init[12]? = some (26, 2, .newarray .byte, [687]) := rfl
theorem pa_Mod_init_13 : pr_Mod_init[13]? = some (28, 3, .putfield 17, [7, 5, 2, 0, 625]) := rfl
theorem pa_Mod_init_14 : pr_Mod_init[14]? = some (31, 1, .aload_n 0, []) := rfl
theorem pa_Mod_init_15 : pr_Mod_init[15]? = some (32, 2, .bipush 90, [90, 0]) := rfl
theorem pa_Mod_init_16 : pr_Mod_init[16]? = some (34, 2, .newarray .int, [89]) := rfl
theorem pa_Mod_init_17 : pr_Mod_init[17]? = some (36, 3, .putfield 20, [7, 6, 2, 0, 626]) := rfl
theorem pa_Mod_init_18 : pr_Mod_init[18]? = some (39, 1, .aload_n 0, []) := rfl
theorem pa_Mod_init_19 : pr_Mod_init[19]? = some (40, 3, .sipush 160, [160, 0]) := rfl
theorem pa_Mod_init_20 : pr_Mod_init[20]? = some (43, 2, .newarray .int, [89]) := rfl
theorem pa_Mod_init_21 : pr_Mod_init[21]? = some (45, 3, .putfield 23, [7, 10, 2, 0, 630]) := rfl
theorem pa_Mod_init_22 : pr_Mod_init[22]? = some (48, 1, .aload_n 0, []) := rfl
theorem pa_Mod_init_23 : pr_Mod_init[23]? = some (49, 1, .iconst 4, [4, 0]) := rfl
theorem pa_Mod_init_24 : pr_Mod_init[24]? = some (50, 2, .newarray .int, [89]) := rfl
theorem pa_Mod_init_25 : pr_Mod_init[25]? = some (52, 3, .putfield 26, [7, 11, 2, 0, 631]) := rfl
theorem pa_Mod_init_26 : pr_Mod_init[26]? = some (55, 1, .aload_n 0, []) := rfl
theorem pa_Mod_init_27 : pr_Mod_init[27]? = some (56, 1, .iconst 4, [4, 0]) := rfl
theorem pa_Mod_init_28 : pr_Mod_init[28]? = some (57, 2, .newarray .int, [89]) := rfl
theorem pa_Mod_init_29 : pr_Mod_init[29]? = some (59, 3, .putfield 29, [7, 12, 2, 0, 632]) := rfl
theorem pa_Mod_init_30 : pr_Mod_init[30]? = some (62, 1, .aload_n 0, []) := rfl
theorem pa_Mod_init_31 : pr_Mod_init[31]? = some (63, 2, .bipush 33, [33, 0]) := rfl
theorem pa_Mod_init_32 : pr_Mod_init[32]? = some (65, 2, .newarray .int, [89]) := rfl
theorem pa_Mod_init_33 : pr_Mod_init[33]? = some (67, 3, .putfield 32, [7, 13, 2, 0, 633]) := rfl
theorem pa_Mod_init_34 : pr_Mod_init[34]? = some (70, 1, .aload_n 0, []) := rfl
theorem pa_Mod_init_35 : pr_Mod_init[35]? = some (71, 2, .bipush 60, [60, 0]) := rfl
theorem pa_Mod_init_36 : pr_Mod_init[36]? = some (73, 2, .newarray .int, [89]) := rfl
theorem pa_Mod_init_37 : pr_Mod_init[37]? = some (75, 3, .putfield 35, [7, 14, 2, 0, 634]) := rfl
theorem pa_Mod_init_38 : pr_Mod_init[38]? = some (78, 1, .aload_n 0, []) := rfl
theorem pa_Mod_init_39 : pr_Mod_init[39]? = some (79, 2, .bipush 64, [64, 0]) := rfl
theorem pa_Mod_init_40 : pr_Mod_init[40]? = some (81, 2, .newarray .int, [89]) := rfl
theorem pa_Mod_init_41 : pr_Mod_init[41]? = some (83, 3, .putfield 38, [7, 15, 2, 0, 635]) := rfl
theorem pa_Mod_init_42 : pr_Mod_init[42]? = some (86, 1, .aload_n 0, []) := rfl
theorem pa_Mod_init_43 : pr_Mod_init[43]? = some (87, 3, .sipush 256, [256, 0]) := rfl
theorem pa_Mod_init_44 : pr_Mod_init[44]? = some (90, 2, .newarray .int, [89]) := rfl
theorem pa_Mod_init_45 : pr_Mod_init[45]? = some (92, 3, .putfield 41, [7, 16, 2, 0, 636]) := rfl
theorem pa_Mod_init_46 : pr_Mod_init[46]? = some (95, 1, .aload_n 0, []) := rfl
theorem pa_Mod_init_47 : pr_Mod_init[47]? = some (96, 2, .bipush 16, [16, 0]) := rfl
theorem pa_Mod_init_48 : pr_Mod_init[48]? = some (98, 2, .newarray .int, [89]) := rfl
theorem pa_Mod_init_49 : pr_Mod_init[49]? = some (100, 3, .putfield 44, [7, 17, 2, 0, 637]) := rfl
theorem pa_Mod_init_50 : pr_Mod_init[50]? = some (103, 1, .aload_n 0, []) := rfl
theorem pa_Mod_init_51 : pr_Mod_init[51]? = some (104, 2, .bipush 42, [42, 0]) := rfl
theorem pa_Mod_init_52 : pr_Mod_init[52]? = some (106, 2, .newarray .int, [89]) := rfl
theorem pa_Mod_init_53 : pr_Mod_init[53]? = some (108, 3, .putfield 47, [7, 18, 2, 0, 638]) := rfl
theorem pa_Mod_init_54 : pr_Mod_init[54]? = some (111, 1, .aload_n 0, []) := rfl
theorem pa_Mod_init_55 : pr_Mod_init[55]? = some (112, 2, .bipush 6, [6, 0]) := rfl
theorem pa_Mod_init_56 : pr_Mod_init[56]? = some (114, 2, .newarray .int, [89]) := rfl
theorem pa_Mod_init_57 : pr_Mod_init[57]? = some (116, 3, .putfield 50, [7, 19, 2, 0, 639]) := rfl
theorem pa_Mod_init_58 : pr_Mod_init[58]? = some (119, 1, .aload_n 0, []) := rfl
theorem pa_Mod_init_59 : pr_Mod_init[59]? = some (120, 2, .bipush 96, [96, 0]) := rfl
theorem pa_Mod_init_60 : pr_Mod_init[60]? = some (122, 2, .newarray .int, [89]) := rfl
theorem pa_Mod_init_61 : pr_Mod_init[61]? = some (124, 3, .putfield 53, [7, 20, 2, 0, 640]) := rfl
theorem pa_Mod_init_62 : pr_Mod_init[62]? = some (127, 1, .aload_n 0, []) := rfl
theorem pa_Mod_init_63 : pr_Mod_init[63]? = some (128, 3, .sipush 256, [256, 0]) := rfl
theorem pa_Mod_init_64 : pr_Mod_init[64]? = some (131, 2, .newarray .int, [89]) := rfl
theorem pa_Mod_init_65 : pr_Mod_init[65]? = some (133, 3, .putfield 56, [7, 21, 2, 0, 641]) := rfl
theorem pa_Mod_init_66 : pr_Mod_init[66]? = some (136, 1, .iconst 0, [0, 0]) := rfl
theorem pa_Mod_init_67 : pr_Mod_init[67]? = some (137, 1, .istore_n 1, []) := rfl
theorem pa_Mod_init_68 : pr_Mod_init[68]? = some (138, 1, .iload_n 1, []) := rfl
theorem pa_Mod_init_69 : pr_Mod_init[69]? = some (139, 2, .bipush 96, [96, 0]) := rfl
theorem pa_Mod_init_70 : pr_Mod_init[70]? = some (141, 3, .if_icmp .ge (19), [79]) := rfl
theorem pa_Mod_init_71 : pr_Mod_init[71]? = some (144, 1, .aload_n 0, []) := rfl
theorem pa_Mod_init_72 : pr_Mod_init[72]? = some (145, 3, .getfield 53, [7, 20, 2, 0, 640]) := rfl
theorem pa_Mod_init_73 : pr_Mod_init[73]? = some (148, 1, .iload_n 1, []) := rfl
theorem pa_Mod_init_74 : pr_Mod_init[74]? = some (149, 1, .iload_n 1, []) := rfl
theorem pa_Mod_init_75 : pr_Mod_init[75]? = some (150, 3, .invokestatic 59, [71, 1, 0, 611, 612, 47]) := rfl
theorem pa_Mod_init_76 : pr_Mod_init[76]? = some (153, 1, .iastore, []) := rfl
theorem pa_Mod_init_77 : pr_Mod_init[77]? = some (154, 3, .iinc 1 (1), [1, 0]) := rfl
theorem pa_Mod_init_78 : pr_Mod_init[78]? = some (157, 3, .goto (-19), [68]) := rfl
theorem pa_Mod_init_79 : pr_Mod_init[79]? = some (160, 1, .iconst 1, [1, 0]) := rfl
theorem pa_Mod_init_80 : pr_Mod_init[80]? = some (161, 1, .istore_n 1, []) := rfl
theorem pa_Mod_init_81 : pr_Mod_init[81]? = some (162, 1, .iload_n 1, []) := rfl
theorem pa_Mod_init_82 : pr_Mod_init[82]? = some (163, 3, .sipush 256, [256, 0]) := rfl
theorem pa_Mod_init_83 : pr_Mod_init[83]? = some (166, 3, .if_icmp .ge (19), [92]) := rfl
theorem pa_Mod_init_84 : pr_Mod_init[84]? = some (169, 1, .aload_n 0, []) := rfl
theorem pa_Mod_init_85 : pr_Mod_init[85]? = some (170, 3, .getfield 56, [7, 21, 2, 0, 641]) := rfl
theorem pa_Mod_init_86 : pr_Mod_init[86]? = some (173, 1, .iload_n 1, []) := rfl
theorem pa_Mod_init_87 : pr_Mod_init[87]? = some (174, 1, .iload_n 1, []) := rfl
theorem pa_Mod_init_88 : pr_Mod_init[88]? = some (175, 3, .invokestatic 63, [65, 1, 0, 617, 618, 47]) := rfl
theorem pa_Mod_init_89 : pr_Mod_init[89]? = some (178, 1, .iastore, []) := rfl
theorem pa_Mod_init_90 : pr_Mod_init[90]? = some (179, 3, .iinc 1 (1), [1, 0]) := rfl
theorem pa_Mod_init_91 : pr_Mod_init[91]? = some (182, 3, .goto (-20), [81]) := rfl
theorem pa_Mod_init_92 : pr_Mod_init[92]? = some (185, 1, .return_, []) := rfl
def pa_Mod_init := And.intro pa_Mod_init_0 (And.intro pa_Mod_init_1 (And.intro pa_Mod_init_2 (And.intro pa_Mod_init_3 (And.intro pa_Mod_init_4 (And.intro pa_Mod_init_5 (And.intro pa_Mod_init_6 (And.intro pa_Mod_init_7 (And.intro pa_Mod_init_8 (And.intro pa_Mod_init_9 (And.intro pa_Mod_init_10 (And.intro pa_Mod_init_11 (And.intro pa_Mod_init_12 (And.intro pa_Mod_init_13 (And.intro pa_Mod_init_14 (And.intro pa_Mod_init_15 (And.intro pa_Mod_init_16 (And.intro pa_Mod_init_17 (And.intro pa_Mod_init_18 (And.intro pa_Mod_init_19 (And.intro pa_Mod_init_20 (And.intro pa_Mod_init_21 (And.intro pa_Mod_init_22 (And.intro pa_Mod_init_23 (And.intro pa_Mod_init_24 (And.intro pa_Mod_init_25 (And.intro pa_Mod_init_26 (And.intro pa_Mod_init_27 (And.intro pa_Mod_init_28 (And.intro pa_Mod_init_29 (And.intro pa_Mod_init_30 (And.intro pa_Mod_init_31 (And.intro pa_Mod_init_32 (And.intro pa_Mod_init_33 (And.intro pa_Mod_init_34 (And.intro pa_Mod_init_35 (And.intro pa_Mod_init_36 (And.intro pa_Mod_init_37 (And.intro pa_Mod_init_38 (And.intro pa_Mod_init_39 (And.intro pa_Mod_init_40 (And.intro pa_Mod_init_41 (And.intro pa_Mod_init_42 (And.intro pa_Mod_init_43 (And.intro pa_Mod_init_44 (And.intro pa_Mod_init_45 (And.intro pa_Mod_init_46 (And.intro pa_Mod_init_47 (And.intro pa_Mod_init_48 (And.intro pa_Mod_init_49 (And.intro pa_Mod_init_50 (And.intro pa_Mod_init_51 (And.intro pa_Mod_init_52 (And.intro pa_Mod_init_53 (And.intro pa_Mod_init_54 (And.intro pa_Mod_init_55 (And.intro pa_Mod_init_56 (And.intro pa_Mod_init_57 (And.intro pa_Mod_init_58 (And.intro pa_Mod_init_59 (And.intro pa_Mod_init_60 (And.intro pa_Mod_init_61 (And.intro pa_Mod_init_62 (And.intro pa_Mod_init_63 (And.intro pa_Mod_init_64 (And.intro pa_Mod_init_65 (And.intro pa_Mod_init_66 (And.intro pa_Mod_init_67 (And.intro pa_Mod_init_68 (And.intro pa_Mod_init_69 (And.intro pa_Mod_init_70 (And.intro pa_Mod_init_71 (And.intro pa_Mod_init_72 (And.intro pa_Mod_init_73 (And.intro pa_Mod_init_74 (And.intro pa_Mod_init_75 (And.intro pa_Mod_init_76 (And.intro pa_Mod_init_77 (And.intro pa_Mod_init_78 (And.intro pa_Mod_init_79 (And.intro pa_Mod_init_80 (And.intro pa_Mod_init_81 (And.intro pa_Mod_init_82 (And.intro pa_Mod_init_83 (And.intro pa_Mod_init_84 (And.intro pa_Mod_init_85 (And.intro pa_Mod_init_86 (And.intro pa_Mod_init_87 (And.intro pa_Mod_init_88 (And.intro pa_Mod_init_89 (And.intro pa_Mod_init_90 (And.intro pa_Mod_init_91 (pa_Mod_init_92))))))))))))))))))))))))))))))))))))))))))))))))))))))))))))))))))))))))))))))))))))))))))))
def pr_Mod_isColumn : List ma_E := [(0, 1, .iconst 0, [0, 0]),
  (1, 1, .istore_n 3, []),
  (2, 1, .iconst 2, [2, 0]),
  (3, 1, .iload_n 3, []),
  (4, 1, .imul, []),
  (5, 1, .iload_n 2, []),
  (6, 1, .iadd, []),
  (7, 2, .bipush 6, [6, 0]),
  (9, 3, .if_icmp .gt (165), [89]),
  (12, 1, .iconst 0, [0, 0]),
  (13, 2, .istore 4, []),
  (15, 2, .iload 4, []),
  (17, 2, .ldc 143, [65536, 0, 794]),
  (19, 3, .if_icmp .ge (149), [87]),
  (22, 2, .iload 4, []),
  (24, 3, .invokestatic 144, [31, 1, 0, 795, 796, 47]),
  (27, 1, .iload_n 3, []),
  (28, 3, .if_icmp .eq (6), [19]),
  (31, 3, .goto (131), [85]),
  (34, 1, .iconst 1, [1, 0]),
  (35, 2, .istore 5, []),
  (37, 1, .iconst 0, [0, 0]),
  (38, 2, .istore 6, []),
  (40, 1, .iconst 0, [0, 0]),
  (41, 2, .istore 7, []),
  (43, 2, .iload 7, []),
  (45, 2, .bipush 16, [16, 0]),
  (47, 3, .if_icmp .ge (99), [77]),
  (50, 2, .iload 5, []),
  (52, 3, .ifCond .eq (94), [77]),
  (55, 2, .iload 4, []),
  (57, 2, .iload 7, []),
  (59, 1, .ishr, []),
  (60, 1, .iconst 1, [1, 0]),
  (61, 1, .iand, []),
  (62, 1, .iconst 1, [1, 0]),
  (63, 3, .if_icmp .ne (7), [39]),
  (66, 1, .iconst 1, [1, 0]),
  (67, 3, .goto (4), [40]),
  (70, 1, .iconst 0, [0, 0]),
  (71, 2, .istore 8, []),
  (73, 1, .aload_n 0, []),
  (74, 3, .getfield 38, [7, 15, 2, 0, 635]),
  (77, 2, .bipush 16, [16, 0]),
  (79, 1, .iload_n 1, []),
  (80, 1, .imul, []),
  (81, 2, .iload 7, []),
  (83, 1, .iadd, []),
  (84, 1, .iaload, []),
  (85, 1, .iconst 1, [1, 0]),
  (86, 3, .if_icmp .eq (7), [53]),
  (89, 1, .iconst 1, [1, 0]),
  (90, 3, .goto (4), [54]),
  (93, 1, .iconst 0, [0, 0]),
  (94, 2, .istore 9, []),
  (96, 2, .iload 8, []),
  (98, 3, .ifCond .eq (8), [59]),
  (101, 2, .iload 9, []),
  (103, 3, .ifCond .ne (7), [61]),
  (106, 1, .iconst 1, [1, 0]),
  (107, 3, .goto (4), [62]),
  (110, 1, .iconst 0, [0, 0]),
  (111, 2, .istore 5, []),
  (113, 2, .iload 5, []),
  (115, 3, .ifCond .eq (25), [75]),
  (118, 2, .iload 8, []),
  (120, 3, .ifCond .ne (8), [69]),
  (123, 2, .iload 9, []),
  (125, 3, .ifCond .eq (15), [75]),
  (128, 1, .aload_n 0, []),
  (129, 3, .getfield 50, [7, 19, 2, 0, 639]),
  (132, 2, .iload 6, []),
  (134, 2, .iload 7, []),
  (136, 1, .iastore, []),
  (137, 3, .iinc 6 (1), [1, 0]),
  (140, 3, .iinc 7 (1), [1, 0]),
  (143, 3, .goto (-100), [25]),
  (146, 2, .iload 5, []),
  (148, 3, .ifCond .eq (14), [85]),
  (151, 1, .aload_n 0, []),
  (152, 2, .iload 6, []),
  (154, 3, .invokevirtual 86, [74, 1, 7, 0, 707, 709, 28, 47]),
  (157, 3, .ifCond .eq (5), [85]),
  (160, 1, .iconst 1, [1, 0]),
  (161, 1, .ireturn, [1]),
  (162, 3, .iinc 4 (1), [1, 0]),
  (165, 3, .goto (-150), [11]),
  (168, 3, .iinc 3 (1), [1, 0]),
  (171, 3, .goto (-169), [2]),
  (174, 1, .iconst 0, [0, 0]),
  (175, 1, .ireturn, [1])]
theorem po_Mod_isColumn : ma_ok me_Mod_isColumn pr_Mod_isColumn := ma_ok_of (by decide +kernel)
theorem pa_Mod_isColumn_0 : pr_Mod_isColumn[0]? = some (0, 1, .iconst 0, [0, 0]) := rfl
theorem pa_Mod_isColumn_1 : pr_Mod_isColumn[1]? = some (1, 1, .istore_n 3, []) := rfl
theorem pa_Mod_isColumn_2 : pr_Mod_isColumn[2]? = some (2, 1, .iconst 2, [2, 0]) := rfl
theorem pa_Mod_isColumn_3 : pr_Mod_isColumn[3]? = some (3, 1, .iload_n 3, []) := rfl
theorem pa_Mod_isColumn_4 : pr_Mod_isColumn[4]? = some (4, 1, .imul, []) := rfl
theorem pa_Mod_isColumn_5 : pr_Mod_isColumn[5]? = some (5, 1, .iload_n 2, []) := rfl
theorem pa_Mod_isColumn_6 : pr_Mod_isColumn[6]? = some (6, 1, .iadd, []) := rfl
theorem pa_Mod_isColumn_7 : pr_Mod_isColumn[7]? = some (7, 2, .bipush 6, [6, 0]) := rfl
theorem pa_Mod_isColumn_8 : pr_Mod_isColumn[8]? = some (9, 3, .if_icmp .gt (165), [89]) := rfl
theorem pa_Mod_isColumn_9 : pr_Mod_isColumn[9]? = some (12, 1, .iconst 0, [0, 0]) := rfl
theorem pa_Mod_isColumn_10 : pr_Mod_isColumn[10]? = some (13, 2, .istore 4, []) := rfl
theorem pa_Mod_isColumn_11 : pr_Mod_isColumn[11]? = some (15, 2, .iload 4, []) := rfl
theorem pa_Mod_isColumn_12 : pr_Mod_isColumn[12]? = some (17, 2, .ldc 143, [65536, 0, 794]) := rfl
theorem pa_Mod_isColumn_13 : pr_Mod_isColumn[13]? = some (19, 3, .if_icmp .ge (149), [87]) := rfl
theorem pa_Mod_isColumn_14 : pr_Mod_isColumn[14]? = some (22, 2, .iload 4, []) := rfl
theorem pa_Mod_isColumn_15 : pr_Mod_isColumn[15]? = some (24, 3, .invokestatic 144, [31, 1, 0, 795, 796, 47]) := rfl
theorem pa_Mod_isColumn_16 : pr_Mod_isColumn[16]? = some (27, 1, .iload_n 3, []) := rfl
theorem pa_Mod_isColumn_17 : pr_Mod_isColumn[17]? = some (28, 3, .if_icmp .eq (6), [19]) := rfl
theorem pa_Mod_isColumn_18 : pr_Mod_isColumn[18]? = some (31, 3, .goto (131), [85]) := rfl
theorem pa_Mod_isColumn_19 : pr_Mod_isColumn[19]? = some (34, 1, .iconst 1, [1, 0]) := rfl
theorem pa_Mod_isColumn_20 : pr_Mod_isColumn[20]? = some (35, 2, .istore 5, []) := rfl
theorem pa_Mod_isColumn_21 : pr_Mod_isColumn[21]? = some (37, 1, .iconst 0, [0, 0]) := rfl
theorem pa_Mod_isColumn_22 : pr_Mod_isColumn[22]? = some (38, 2, .istore 6, []) := rfl
theorem pa_Mod_isColumn_23 : pr_Mod_isColumn[23]? = some (40, 1, .iconst 0, [0, 0]) := rfl
theorem pa_Mod_isColumn_24 : pr_Mod_isColumn[24]? = some (41, 2, .istore 7, []) := rfl
theorem pa_Mod_isColumn_25 : pr_Mod_isColumn[25]? = some (43, 2, .iload 7, []) := rfl
theorem pa_Mod_isColumn_26 : pr_Mod_isColumn[26]? = some (45, 2, .bipush 16, [16, 0]) := rfl
theorem pa_Mod_isColumn_27 : pr_Mod_isColumn[27]? = some (47, 3, .if_icmp .ge (99), [77]) := rfl
theorem pa_Mod_isColumn_28 : pr_Mod_isColumn[28]? = some (50, 2, .iload 5, []) := rfl
theorem pa_Mod_isColumn_29 : pr_Mod_isColumn[29]? = some (52, 3, .ifCond .eq (94), [77]) := rfl
theorem pa_Mod_isColumn_30 : pr_Mod_isColumn[30]? = some (55, 2, .iload 4, []) := rfl
theorem pa_Mod_isColumn_31 : pr_Mod_isColumn[31]? = some (57, 2, .iload 7, []) := rfl
theorem pa_Mod_isColumn_32 : pr_Mod_isColumn[32]? = some (59, 1, .ishr, []) := rfl
theorem pa_Mod_isColumn_33 : pr_Mod_isColumn[33]? = some (60, 1, .iconst 1, [1, 0]) := rfl
theorem pa_Mod_isColumn_34 : pr_Mod_isColumn[34]? = some (61, 1, .iand, []) := rfl
theorem pa_Mod_isColumn_35 : pr_Mod_isColumn[35]? = some (62, 1, .iconst 1, [1, 0]) := rfl
theorem pa_Mod_isColumn_36 : pr_Mod_isColumn[36]? = some (63, 3, .if_icmp .ne (7), [39]) := rfl
theorem pa_Mod_isColumn_37 : pr_Mod_isColumn[37]? = some (66, 1, .iconst 1, [1, 0]) := rfl
theorem pa_Mod_isColumn_38 : pr_Mod_isColumn[38]? = some (67, 3, .goto (4), [40]) := rfl
theorem pa_Mod_isColumn_39 : pr_Mod_isColumn[39]? = some (70, 1, .iconst 0, [0, 0]) := rfl
theorem pa_Mod_isColumn_40 : pr_Mod_isColumn[40]? = some (71, 2, .istore 8, []) := rfl
theorem pa_Mod_isColumn_41 : pr_Mod_isColumn[41]? = some (73, 1, .aload_n 0, []) := rfl
theorem pa_Mod_isColumn_42 : pr_Mod_isColumn[42]? = some (74, 3, .getfield 38, [7, 15, 2, 0, 635]) := rfl
theorem pa_Mod_isColumn_43 : pr_Mod_isColumn[43]? = some (77, 2, .bipush 16, [16, 0]) := rfl
theorem pa_Mod_isColumn_44 : pr_Mod_isColumn[44]? = some (79, 1, .iload_n 1, []) := rfl
theorem pa_Mod_isColumn_45 : pr_Mod_isColumn[45]? = some (80, 1, .imul, []) := rfl
theorem pa_Mod_isColumn_46 : pr_Mod_isColumn[46]? = some (81, 2, .iload 7, []) := rfl
theorem pa_Mod_isColumn_47 : pr_Mod_isColumn[47]? = some (83, 1, .iadd, []) := rfl
theorem pa_Mod_isColumn_48 : pr_Mod_isColumn[48]? = some (84, 1, .iaload, []) := rfl
theorem pa_Mod_isColumn_49 : pr_Mod_isColumn[49]? = some (85, 1, .iconst 1, [1, 0]) := rfl
theorem pa_Mod_isColumn_50 : pr_Mod_isColumn[50]? = some (86, 3, .if_icmp .eq (7), [53]) := rfl
theorem pa_Mod_isColumn_51 : pr_Mod_isColumn[51]? = some (89, 1, .iconst 1, [1, 0]) := rfl
theorem pa_Mod_isColumn_52 : pr_Mod_isColumn[52]? = some (90, 3, .goto (4), [54]) := rfl
theorem pa_Mod_isColumn_53 : pr_Mod_isColumn[53]? = some (93, 1, .iconst 0, [0, 0]) := rfl
theorem pa_Mod_isColumn_54 : pr_Mod_isColumn[54]? = some (94, 2, .istore 9, []) := rfl
theorem pa_Mod_isColumn_55 : pr_Mod_isColumn[55]? = some (96, 2, .iload 8, []) := rfl
theorem pa_Mod_isColumn_56 : pr_Mod_isColumn[56]? = some (98, 3, .ifCond .eq (8), [59]) := rfl
theorem pa_Mod_isColumn_57 : pr_Mod_isColumn[57]? = some (101, 2, .iload 9, []) := rfl
theorem pa_Mod_isColumn_58 : pr_Mod_isColumn[58]? = some (103, 3, .ifCond .ne (7), [61]) := rfl
theorem pa_Mod_isColumn_59 : pr_Mod_isColumn[59]? = some (106, 1, .iconst 1, [1, 0]) := rfl
theorem pa_Mod_isColumn_60 : pr_Mod_isColumn[60]? = some (107, 3, .goto (4), [62]) := rfl
theorem pa_Mod_isColumn_61 : pr_Mod_isColumn[61]? = some (110, 1, .iconst 0, [0, 0]) := rfl
theorem pa_Mod_isColumn_62 : pr_Mod_isColumn[62]? = some (111, 2, .istore 5, []) := rfl
theorem pa_Mod_isColumn_63 : pr_Mod_isColumn[63]? = some (113, 2, .iload 5, []) := rfl
theorem pa_Mod_isColumn_64 : pr_Mod_isColumn[64]? = some (115, 3, .ifCond .eq (25), [75]) := rfl
theorem pa_Mod_isColumn_65 : pr_Mod_isColumn[65]? = some (118, 2, .iload 8, []) := rfl
theorem pa_Mod_isColumn_66 : pr_Mod_isColumn[66]? = some (120, 3, .ifCond .ne (8), [69]) := rfl
theorem pa_Mod_isColumn_67 : pr_Mod_isColumn[67]? = some (123, 2, .iload 9, []) := rfl
theorem pa_Mod_isColumn_68 : pr_Mod_isColumn[68]? = some (125, 3, .ifCond .eq (15), [75]) := rfl
theorem pa_Mod_isColumn_69 : pr_Mod_isColumn[69]? = some (128, 1, .aload_n 0, []) := rfl
theorem pa_Mod_isColumn_70 : pr_Mod_isColumn[70]? = some (129, 3, .getfield 50, [7, 19, 2, 0, 639]) := rfl
theorem pa_Mod_isColumn_71 : pr_Mod_isColumn[71]? = some (132, 2, .iload 6, []) := rfl
theorem pa_Mod_isColumn_72 : pr_Mod_isColumn[72]? = some (134, 2, .iload 7, []) := rfl
theorem pa_Mod_isColumn_73 : pr_Mod_isColumn[73]? = some (136, 1, .iastore, []) := rfl
theorem pa_Mod_isColumn_74 : pr_Mod_isColumn[74]? = some (137, 3, .iinc 6 (1), [1, 0]) := rfl
theorem pa_Mod_isColumn_75 : pr_Mod_isColumn[75]? = some (140, 3, .iinc 7 (1), [1, 0]) := rfl
theorem pa_Mod_isColumn_76 : pr_Mod_isColumn[76]? = some (143, 3, .goto (-100), [25]) := rfl
theorem pa_Mod_isColumn_77 : pr_Mod_isColumn[77]? = some (146, 2, .iload 5, []) := rfl
theorem pa_Mod_isColumn_78 : pr_Mod_isColumn[78]? = some (148, 3, .ifCond .eq (14), [85]) := rfl
theorem pa_Mod_isColumn_79 : pr_Mod_isColumn[79]? = some (151, 1, .aload_n 0, []) := rfl
theorem pa_Mod_isColumn_80 : pr_Mod_isColumn[80]? = some (152, 2, .iload 6, []) := rfl
theorem pa_Mod_isColumn_81 : pr_Mod_isColumn[81]? = some (154, 3, .invokevirtual 86, [74, 1, 7, 0, 707, 709, 28, 47]) := rfl
theorem pa_Mod_isColumn_82 : pr_Mod_isColumn[82]? = some (157, 3, .ifCond .eq (5), [85]) := rfl
theorem pa_Mod_isColumn_83 : pr_Mod_isColumn[83]? = some (160, 1, .iconst 1, [1, 0]) := rfl
theorem pa_Mod_isColumn_84 : pr_Mod_isColumn[84]? = some (161, 1, .ireturn, [1]) := rfl
theorem pa_Mod_isColumn_85 : pr_Mod_isColumn[85]? = some (162, 3, .iinc 4 (1), [1, 0]) := rfl
theorem pa_Mod_isColumn_86 : pr_Mod_isColumn[86]? = some (165, 3, .goto (-150), [11]) := rfl
theorem pa_Mod_isColumn_87 : pr_Mod_isColumn[87]? = some (168, 3, .iinc 3 (1), [1, 0]) := rfl
theorem pa_Mod_isColumn_88 : pr_Mod_isColumn[88]? = some (171, 3, .goto (-169), [2]) := rfl
theorem pa_Mod_isColumn_89 : pr_Mod_isColumn[89]? = some (174, 1, .iconst 0, [0, 0]) := rfl
theorem pa_Mod_isColumn_90 : pr_Mod_isColumn[90]? = some (175, 1, .ireturn, [1]) := rfl
def pa_Mod_isColumn := And.intro pa_Mod_isColumn_0 (And.intro pa_Mod_isColumn_1 (And.intro pa_Mod_isColumn_2 (And.intro pa_Mod_isColumn_3 (And.intro pa_Mod_isColumn_4 (And.intro pa_Mod_isColumn_5 (And.intro pa_Mod_isColumn_6 (And.intro pa_Mod_isColumn_7 (And.intro pa_Mod_isColumn_8 (And.intro pa_Mod_isColumn_9 (And.intro pa_Mod_isColumn_10 (And.intro pa_Mod_isColumn_11 (And.intro pa_Mod_isColumn_12 (And.intro pa_Mod_isColumn_13 (And.intro pa_Mod_isColumn_14 (And.intro pa_Mod_isColumn_15 (And.intro pa_Mod_isColumn_16 (And.intro pa_Mod_isColumn_17 (And.intro pa_Mod_isColumn_18 (And.intro pa_Mod_isColumn_19 (And.intro pa_Mod_isColumn_20 (And.intro pa_Mod_isColumn_21 (And.intro pa_Mod_isColumn_22 (And.intro pa_Mod_isColumn_23 (And.intro pa_Mod_isColumn_24 (And.intro pa_Mod_isColumn_25 (And.intro pa_Mod_isColumn_26 (And.intro pa_Mod_isColumn_27 (And.intro pa_Mod_isColumn_28 (And.intro pa_Mod_isColumn_29 (And.intro pa_Mod_isColumn_30 (And.intro pa_Mod_isColumn_31 (And.intro pa_Mod_isColumn_32 (And.intro pa_Mod_isColumn_33 (And.intro pa_Mod_isColumn_34 (And.intro pa_Mod_isColumn_35 (And.intro pa_Mod_isColumn_36 (And.intro pa_Mod_isColumn_37 (And.intro pa_Mod_isColumn_38 (And.intro pa_Mod_isColumn_39 (And.intro pa_Mod_isColumn_40 (And.intro pa_Mod_isColumn_41 (And.intro pa_Mod_isColumn_42 (And.intro pa_Mod_isColumn_43 (And.intro pa_Mod_isColumn_44 (And.intro pa_Mod_isColumn_45 (And.intro pa_Mod_isColumn_46 (And.intro pa_Mod_isColumn_47 (And.intro pa_Mod_isColumn_48 (And.intro pa_Mod_isColumn_49 (And.intro pa_Mod_isColumn_50 (And.intro pa_Mod_isColumn_51 (And.intro pa_Mod_isColumn_52 (And.intro pa_Mod_isColumn_53 (And.intro pa_Mod_isColumn_54 (And.intro pa_Mod_isColumn_55 (And.intro pa_Mod_isColumn_56 (And.intro pa_Mod_isColumn_57 (And.intro pa_Mod_isColumn_58 (And.intro pa_Mod_isColumn_59 (And.intro pa_Mod_isColumn_60 (And.intro pa_Mod_isColumn_61 (And.intro pa_Mod_isColumn_62 (And.intro pa_Mod_isColumn_63 (And.intro pa_Mod_isColumn_64 (And.intro pa_Mod_isColumn_65 (And.intro pa_Mod_isColumn_66 (And.intro pa_Mod_isColumn_67 (And.intro pa_Mod_isColumn_68 (And.intro pa_Mod_isColumn_69 (And.intro pa_Mod_isColumn_70 (And.intro pa_Mod_isColumn_71 (And.intro pa_Mod_isColumn_72 (And.intro pa_Mod_isColumn_73 (And.intro pa_Mod_isColumn_74 (And.intro pa_Mod_isColumn_75 (And.intro pa_Mod_isColumn_76 (And.intro pa_Mod_isColumn_77 (And.intro pa_Mod_isColumn_78 (And.intro pa_Mod_isColumn_79 (And.intro pa_Mod_isColumn_80 (And.intro pa_Mod_isColumn_81 (And.intro pa_Mod_isColumn_82 (And.intro pa_Mod_isColumn_83 (And.intro pa_Mod_isColumn_84 (And.intro pa_Mod_isColumn_85 (And.intro pa_Mod_isColumn_86 (And.intro pa_Mod_isColumn_87 (And.intro pa_Mod_isColumn_88 (And.intro pa_Mod_isColumn_89 (pa_Mod_isColumn_90))))))))))))))))))))))))))))))))))))))))))))))))))))))))))))))))))))))))))))))))))))))))))
def pr_Mod_read : List ma_E := [(0, 1, .aload_n 0, []),
  (1, 1, .iconst 0, [0, 0]),
  (2, 3, .putfield 66, [7, 0, 0, 0, 620]),
  (5, 1, .aload_n 0, []),
  (6, 1, .iload_n 1, []),
  (7, 1, .iconst (-1), [1, 1]),
  (8, 1, .iconst (-1), [1, 1]),
  (9, 1, .iconst 0, [0, 0]),
  (10, 3, .invokevirtual 100, [63, 4, 7, 0, 736, 738, 32, 47]),
  (13, 1, .ireturn, [1])]
theorem po_Mod_read : ma_ok me_Mod_read pr_Mod_read := ma_ok_of (by decide +kernel)
theorem pa_Mod_read_0 : pr_Mod_read[0]? = some (0, 1, .aload_n 0, []) := rfl
theorem pa_Mod_read_1 : pr_Mod_read[1]? = some (1, 1, .iconst 0, [0, 0]) := rfl
theorem pa_Mod_read_2 : pr_Mod_read[2]? = some (2, 3, .putfield 66, [7, 0, 0, 0, 620]) := rfl
theorem pa_Mod_read_3 : pr_Mod_read[3]? = some (5, 1, .aload_n 0, []) := rfl
theorem pa_Mod_read_4 : pr_Mod_read[4]? = some (6, 1, .iload_n 1, []) := rfl
theorem pa_Mod_read_5 : pr_Mod_read[5]? = some (7, 1, .iconst (-1), [1, 1]) := rfl
theorem pa_Mod_read_6 : pr_Mod_read[6]? = some (8, 1, .iconst (-1), [1, 1]) := rfl
theorem pa_Mod_read_7 : pr_Mod_read[7]? = some (9, 1, .iconst 0, [0, 0]) := rfl
theorem pa_Mod_read_8 : pr_Mod_read[8]? = some (10, 3, .invokevirtual 100, [63, 4, 7, 0, 736, 738, 32, 47]) := rfl
theorem pa_Mod_read_9 : pr_Mod_read[9]? = some (13, 1, .ireturn, [1]) := rfl
def pa_Mod_read := And.intro pa_Mod_read_0 (And.intro pa_Mod_read_1 (And.intro pa_Mod_read_2 (And.intro pa_Mod_read_3 (And.intro pa_Mod_read_4 (And.intro pa_Mod_read_5 (And.intro pa_Mod_read_6 (And.intro pa_Mod_read_7 (And.intro pa_Mod_read_8 (pa_Mod_read_9)))))))))
def pr_Mod_readCut : List ma_E := [(0, 1, .aload_n 0, []),
  (1, 1, .iconst 0, [0, 0]),
  (2, 3, .putfield 66, [7, 0, 0, 0, 620]),
  (5, 1, .iload_n 2, []),
  (6, 1, .iconst 0, [0, 0]),
  (7, 2, .bipush 32, [32, 0]),
  (9, 3, .invokestatic 74, [29, 3, 0, 700, 701, 47]),
  (12, 3, .ifCond .eq (18), [17]),
  (15, 1, .aload_n 0, []),
  (16, 1, .iload_n 1, []),
  (17, 1, .iload_n 2, []),
  (18, 1, .iconst (-1), [1, 1]),
  (19, 1, .iconst 0, [0, 0]),
  (20, 3, .invokevirtual 100, [63, 4, 7, 0, 736, 738, 32, 47]),
  (23, 3, .ifCond .eq (7), [17]),
  (26, 1, .iconst 1, [1, 0]),
  (27, 3, .goto (4), [18]),
  (30, 1, .iconst 0, [0, 0]),
  (31, 1, .ireturn, [1])]
theorem po_Mod_readCut : ma_ok me_Mod_readCut pr_Mod_readCut := ma_ok_of (by decide +kernel)
theorem pa_Mod_readCut_0 : pr_Mod_readCut[0]? = some (0, 1, .aload_n 0, []) := rfl
theorem pa_Mod_readCut_1 : pr_Mod_readCut[1]? = some (1, 1, .iconst 0, [0, 0]) := rfl
theorem pa_Mod_readCut_2 : pr_Mod_readCut[2]? = some (2, 3, .putfield 66, [7, 0, 0, 0, 620]) := rfl
theorem pa_Mod_readCut_3 : pr_Mod_readCut[3]? = some (5, 1, .iload_n 2, []) := rfl
theorem pa_Mod_readCut_4 : pr_Mod_readCut[4]? = some (6, 1, .iconst 0, [0, 0]) := rfl
theorem pa_Mod_readCut_5 : pr_Mod_readCut[5]? = some (7, 2, .bipush 32, [32, 0]) := rfl
theorem pa_Mod_readCut_6 : pr_Mod_readCut[6]? = some (9, 3, .invokestatic 74, [29, 3, 0, 700, 701, 47]) := rfl
theorem pa_Mod_readCut_7 : pr_Mod_readCut[7]? = some (12, 3, .ifCond .eq (18), [17]) := rfl
theorem pa_Mod_readCut_8 : pr_Mod_readCut[8]? = some (15, 1, .aload_n 0, []) := rfl
theorem pa_Mod_readCut_9 : pr_Mod_readCut[9]? = some (16, 1, .iload_n 1, []) := rfl
theorem pa_Mod_readCut_10 : pr_Mod_readCut[10]? = some (17, 1, .iload_n 2, []) := rfl
theorem pa_Mod_readCut_11 : pr_Mod_readCut[11]? = some (18, 1, .iconst (-1), [1, 1]) := rfl
theorem pa_Mod_readCut_12 : pr_Mod_readCut[12]? = some (19, 1, .iconst 0, [0, 0]) := rfl
theorem pa_Mod_readCut_13 : pr_Mod_readCut[13]? = some (20, 3, .invokevirtual 100, [63, 4, 7, 0, 736, 738, 32, 47]) := rfl
theorem pa_Mod_readCut_14 : pr_Mod_readCut[14]? = some (23, 3, .ifCond .eq (7), [17]) := rfl
theorem pa_Mod_readCut_15 : pr_Mod_readCut[15]? = some (26, 1, .iconst 1, [1, 0]) := rfl
theorem pa_Mod_readCut_16 : pr_Mod_readCut[16]? = some (27, 3, .goto (4), [18]) := rfl
theorem pa_Mod_readCut_17 : pr_Mod_readCut[17]? = some (30, 1, .iconst 0, [0, 0]) := rfl
theorem pa_Mod_readCut_18 : pr_Mod_readCut[18]? = some (31, 1, .ireturn, [1]) := rfl
def pa_Mod_readCut := And.intro pa_Mod_readCut_0 (And.intro pa_Mod_readCut_1 (And.intro pa_Mod_readCut_2 (And.intro pa_Mod_readCut_3 (And.intro pa_Mod_readCut_4 (And.intro pa_Mod_readCut_5 (And.intro pa_Mod_readCut_6 (And.intro pa_Mod_readCut_7 (And.intro pa_Mod_readCut_8 (And.intro pa_Mod_readCut_9 (And.intro pa_Mod_readCut_10 (And.intro pa_Mod_readCut_11 (And.intro pa_Mod_readCut_12 (And.intro pa_Mod_readCut_13 (And.intro pa_Mod_readCut_14 (And.intro pa_Mod_readCut_15 (And.intro pa_Mod_readCut_16 (And.intro pa_Mod_readCut_17 (pa_Mod_readCut_18))))))))))))))))))
def pr_Mod_readGrown : List ma_E := [(0, 1, .aload_n 0, []),
  (1, 1, .iconst 0, [0, 0]),
  (2, 3, .putfield 66, [7, 0, 0, 0, 620]),
  (5, 1, .iload_n 2, []),
  (6, 1, .iconst 0, [0, 0]),
  (7, 2, .bipush 33, [33, 0]),
  (9, 3, .invokestatic 74, [29, 3, 0, 700, 701, 47]),
  (12, 3, .ifCond .eq (27), [22]),
  (15, 1, .iload_n 3, []),
  (16, 1, .iconst 0, [0, 0]),
  (17, 1, .iconst 3, [3, 0]),
  (18, 3, .invokestatic 74, [29, 3, 0, 700, 701, 47]),
  (21, 3, .ifCond .eq (18), [22]),
  (24, 1, .aload_n 0, []),
  (25, 1, .iload_n 1, []),
  (26, 1, .iconst (-1), [1, 1]),
  (27, 1, .iload_n 2, []),
  (28, 1, .iload_n 3, []),
  (29, 3, .invokevirtual 100, [63, 4, 7, 0, 736, 738, 32, 47]),
  (32, 3, .ifCond .eq (7), [22]),
  (35, 1, .iconst 1, [1, 0]),
  (36, 3, .goto (4), [23]),
  (39, 1, .iconst 0, [0, 0]),
  (40, 1, .ireturn, [1])]
theorem po_Mod_readGrown : ma_ok me_Mod_readGrown pr_Mod_readGrown := ma_ok_of (by decide +kernel)
theorem pa_Mod_readGrown_0 : pr_Mod_readGrown[0]? = some (0, 1, .aload_n 0, []) := rfl
theorem pa_Mod_readGrown_1 : pr_Mod_readGrown[1]? = some (1, 1, .iconst 0, [0, 0]) := rfl
theorem pa_Mod_readGrown_2 : pr_Mod_readGrown[2]? = some (2, 3, .putfield 66, [7, 0, 0, 0, 620]) := rfl
theorem pa_Mod_readGrown_3 : pr_Mod_readGrown[3]? = some (5, 1, .iload_n 2, []) := rfl
theorem pa_Mod_readGrown_4 : pr_Mod_readGrown[4]? = some (6, 1, .iconst 0, [0, 0]) := rfl
theorem pa_Mod_readGrown_5 : pr_Mod_readGrown[5]? = some (7, 2, .bipush 33, [33, 0]) := rfl
theorem pa_Mod_readGrown_6 : pr_Mod_readGrown[6]? = some (9, 3, .invokestatic 74, [29, 3, 0, 700, 701, 47]) := rfl
theorem pa_Mod_readGrown_7 : pr_Mod_readGrown[7]? = some (12, 3, .ifCond .eq (27), [22]) := rfl
theorem pa_Mod_readGrown_8 : pr_Mod_readGrown[8]? = some (15, 1, .iload_n 3, []) := rfl
theorem pa_Mod_readGrown_9 : pr_Mod_readGrown[9]? = some (16, 1, .iconst 0, [0, 0]) := rfl
theorem pa_Mod_readGrown_10 : pr_Mod_readGrown[10]? = some (17, 1, .iconst 3, [3, 0]) := rfl
theorem pa_Mod_readGrown_11 : pr_Mod_readGrown[11]? = some (18, 3, .invokestatic 74, [29, 3, 0, 700, 701, 47]) := rfl
theorem pa_Mod_readGrown_12 : pr_Mod_readGrown[12]? = some (21, 3, .ifCond .eq (18), [22]) := rfl
theorem pa_Mod_readGrown_13 : pr_Mod_readGrown[13]? = some (24, 1, .aload_n 0, []) := rfl
theorem pa_Mod_readGrown_14 : pr_Mod_readGrown[14]? = some (25, 1, .iload_n 1, []) := rfl
theorem pa_Mod_readGrown_15 : pr_Mod_readGrown[15]? = some (26, 1, .iconst (-1), [1, 1]) := rfl
theorem pa_Mod_readGrown_16 : pr_Mod_readGrown[16]? = some (27, 1, .iload_n 2, []) := rfl
theorem pa_Mod_readGrown_17 : pr_Mod_readGrown[17]? = some (28, 1, .iload_n 3, []) := rfl
theorem pa_Mod_readGrown_18 : pr_Mod_readGrown[18]? = some (29, 3, .invokevirtual 100, [63, 4, 7, 0, 736, 738, 32, 47]) := rfl
theorem pa_Mod_readGrown_19 : pr_Mod_readGrown[19]? = some (32, 3, .ifCond .eq (7), [22]) := rfl
theorem pa_Mod_readGrown_20 : pr_Mod_readGrown[20]? = some (35, 1, .iconst 1, [1, 0]) := rfl
theorem pa_Mod_readGrown_21 : pr_Mod_readGrown[21]? = some (36, 3, .goto (4), [23]) := rfl
theorem pa_Mod_readGrown_22 : pr_Mod_readGrown[22]? = some (39, 1, .iconst 0, [0, 0]) := rfl
theorem pa_Mod_readGrown_23 : pr_Mod_readGrown[23]? = some (40, 1, .ireturn, [1]) := rfl
def pa_Mod_readGrown := And.intro pa_Mod_readGrown_0 (And.intro pa_Mod_readGrown_1 (And.intro pa_Mod_readGrown_2 (And.intro pa_Mod_readGrown_3 (And.intro pa_Mod_readGrown_4 (And.intro pa_Mod_readGrown_5 (And.intro pa_Mod_readGrown_6 (And.intro pa_Mod_readGrown_7 (And.intro pa_Mod_readGrown_8 (And.intro pa_Mod_readGrown_9 (And.intro pa_Mod_readGrown_10 (And.intro pa_Mod_readGrown_11 (And.intro pa_Mod_readGrown_12 (And.intro pa_Mod_readGrown_13 (And.intro pa_Mod_readGrown_14 (And.intro pa_Mod_readGrown_15 (And.intro pa_Mod_readGrown_16 (And.intro pa_Mod_readGrown_17 (And.intro pa_Mod_readGrown_18 (And.intro pa_Mod_readGrown_19 (And.intro pa_Mod_readGrown_20 (And.intro pa_Mod_readGrown_21 (And.intro pa_Mod_readGrown_22 (pa_Mod_readGrown_23)))))))))))))))))))))))
def pr_Mod_write : List ma_E := [(0, 1, .aload_n 0, []),
  (1, 1, .iconst 0, [0, 0]),
  (2, 3, .putfield 66, [7, 0, 0, 0, 620]),
  (5, 1, .iload_n 1, []),
  (6, 1, .iconst 1, [1, 0]),
  (7, 3, .sipush 160, [160, 0]),
  (10, 3, .invokestatic 74, [29, 3, 0, 700, 701, 47]),
  (13, 3, .ifCond .ne (5), [10]),
  (16, 1, .iconst 0, [0, 0]),
  (17, 1, .ireturn, [0]),
  (18, 1, .iload_n 1, []),
  (19, 2, .bipush 39, [39, 0]),
  (21, 1, .iadd, []),
  (22, 2, .bipush 40, [40, 0]),
  (24, 1, .idiv, []),
  (25, 1, .istore_n 2, []),
  (26, 1, .iconst 0, [0, 0]),
  (27, 1, .istore_n 3, []),
  (28, 1, .iload_n 3, []),
  (29, 1, .iload_n 2, []),
  (30, 3, .if_icmp .ge (185), [116]),
  (33, 1, .iconst 0, [0, 0]),
  (34, 2, .istore 4, []),
  (36, 2, .iload 4, []),
  (38, 1, .iconst 4, [4, 0]),
  (39, 3, .if_icmp .ge (140), [98]),
  (42, 1, .iconst 0, [0, 0]),
  (43, 2, .istore 5, []),
  (45, 2, .iload 5, []),
  (47, 2, .bipush 16, [16, 0]),
  (49, 3, .if_icmp .ge (54), [59]),
  (52, 2, .bipush 40, [40, 0]),
  (54, 1, .iload_n 3, []),
  (55, 1, .imul, []),
  (56, 1, .iconst 4, [4, 0]),
  (57, 2, .iload 5, []),
  (59, 1, .imul, []),
  (60, 1, .iadd, []),
  (61, 2, .iload 4, []),
  (63, 1, .iadd, []),
  (64, 2, .istore 6, []),
  (66, 1, .aload_n 0, []),
  (67, 3, .getfield 44, [7, 17, 2, 0, 637]),
  (70, 2, .iload 5, []),
  (72, 2, .iload 5, []),
  (74, 2, .bipush 10, [10, 0]),
  (76, 3, .if_icmp .ge (19), [55]),
  (79, 2, .iload 6, []),
  (81, 1, .iload_n 1, []),
  (82, 3, .if_icmp .ge (13), [55]),
  (85, 1, .aload_n 0, []),
  (86, 3, .getfield 7, [7, 1, 2, 0, 621]),
  (89, 2, .iload 6, []),
  (91, 1, .iaload, []),
  (92, 3, .goto (4), [56]),
  (95, 1, .iconst 0, [0, 0]),
  (96, 1, .iastore, []),
  (97, 3, .iinc 5 (1), [1, 0]),
  (100, 3, .goto (-55), [28]),
  (103, 1, .iconst 0, [0, 0]),
  (104, 2, .istore 5, []),
  (106, 2, .iload 5, []),
  (108, 2, .bipush 6, [6, 0]),
  (110, 3, .if_icmp .ge (21), [73]),
  (113, 1, .aload_n 0, []),
  (114, 3, .getfield 50, [7, 19, 2, 0, 639]),
  (117, 2, .iload 5, []),
  (119, 2, .bipush 10, [10, 0]),
  (121, 2, .iload 5, []),
  (123, 1, .iadd, []),
  (124, 1, .iastore, []),
  (125, 3, .iinc 5 (1), [1, 0]),
  (128, 3, .goto (-22), [61]),
  (131, 1, .aload_n 0, []),
  (132, 2, .bipush 6, [6, 0]),
  (134, 3, .invokevirtual 86, [74, 1, 7, 0, 707, 709, 28, 47]),
  (137, 1, .pop, []),
  (138, 1, .iconst 0, [0, 0]),
  (139, 2, .istore 5, []),
  (141, 2, .iload 5, []),
  (143, 2, .bipush 16, [16, 0]),
  (145, 3, .if_icmp .ge (28), [96]),
  (148, 1, .aload_n 0, []),
  (149, 3, .getfield 41, [7, 16, 2, 0, 636]),
  (152, 1, .iconst 4, [4, 0]),
  (153, 2, .iload 5, []),
  (155, 1, .imul, []),
  (156, 2, .iload 4, []),
  (158, 1, .iadd, []),
  (159, 1, .aload_n 0, []),
  (160, 3, .getfield 44, [7, 17, 2, 0, 637]),
  (163, 2, .iload 5, []),
  (165, 1, .iaload, []),
  (166, 1, .iastore, []),
  (167, 3, .iinc 5 (1), [1, 0]),
  (170, 3, .goto (-29), [79]),
  (173, 3, .iinc 4 (1), [1, 0]),
  (176, 3, .goto (-140), [23]),
  (179, 1, .iconst 0, [0, 0]),
  (180, 2, .istore 4, []),
  (182, 2, .iload 4, []),
  (184, 2, .bipush 16, [16, 0]),
  (186, 3, .if_icmp .ge (23), [114]),
  (189, 1, .aload_n 0, []),
  (190, 2, .bipush 16, [16, 0]),
  (192, 1, .iload_n 3, []),
  (193, 1, .imul, []),
  (194, 2, .iload 4, []),
  (196, 1, .iadd, []),
  (197, 1, .iload_n 3, []),
  (198, 2, .iload 4, []),
  (200, 3, .invokevirtual 90, [67, 3, 7, 0, 711, 713, 29, 47]),
  (203, 3, .iinc 4 (1), [1, 0]),
  (206, 3, .goto (-24), [100]),
  (209, 3, .iinc 3 (1), [1, 0]),
  (212, 3, .goto (-184), [18]),
  (215, 1, .aload_n 0, []),
  (216, 2, .bipush 16, [16, 0]),
  (218, 1, .iload_n 2, []),
  (219, 1, .imul, []),
  (220, 3, .putfield 94, [7, 2, 0, 0, 622]),
  (223, 1, .aload_n 0, []),
  (224, 1, .iconst 0, [0, 0]),
  (225, 3, .putfield 97, [7, 4, 0, 0, 624]),
  (228, 1, .aload_n 0, []),
  (229, 3, .getfield 94, [7, 2, 0, 0, 622]),
  (232, 1, .ireturn, [0])]
theorem po_Mod_write : ma_ok me_Mod_write pr_Mod_write := ma_ok_of (by decide +kernel)
theorem pa_Mod_write_0 : pr_Mod_write[0]? = some (0, 1, .aload_n 0, []) := rfl
theorem pa_Mod_write_1 : pr_Mod_write[1]? = some (1, 1, .iconst 0, [0, 0]) := rfl
theorem pa_Mod_write_2 : pr_Mod_write[2]? = some (2, 3, .putfield 66, [7, 0, 0, 0, 620]) := rfl
theorem pa_Mod_write_3 : pr_Mod_write[3]? = some (5, 1, .iload_n 1, []) := rfl
theorem pa_Mod_write_4 : pr_Mod_write[4]? = some (6, 1, .iconst 1, [1, 0]) := rfl
theorem pa_Mod_write_5 : pr_Mod_write[5]? = some (7, 3, .sipush 160, [160, 0]) := rfl
theorem pa_Mod_write_6 : pr_Mod_write[6]? = some (10, 3, .invokestatic 74, [29, 3, 0, 700, 701, 47]) := rfl
theorem pa_Mod_write_7 : pr_Mod_write[7]? = some (13, 3, .ifCond .ne (5), [10]) := rfl
theorem pa_Mod_write_8 : pr_Mod_write[8]? = some (16, 1, .iconst 0, [0, 0]) := rfl
theorem pa_Mod_write_9 : pr_Mod_write[9]? = some (17, 1, .ireturn, [0]) := rfl
theorem pa_Mod_write_10 : pr_Mod_write[10]? = some (18, 1, .iload_n 1, []) := rfl
theorem pa_Mod_write_11 : pr_Mod_write[11]? = some (19, 2, .bipush 39, [39, 0]) := rfl
theorem pa_Mod_write_12 : pr_Mod_write[12]? = some (21, 1, .iadd, []) := rfl
theorem pa_Mod_write_13 : pr_Mod_write[13]? = some (22, 2, .bipush 40, [40, 0]) := rfl
theorem pa_Mod_write_14 : pr_Mod_write[14]? = some (24, 1, .idiv, []) := rfl
theorem pa_Mod_write_15 : pr_Mod_write[15]? = some (25, 1, .istore_n 2, []) := rfl
theorem pa_Mod_write_16 : pr_Mod_write[16]? = some (26, 1, .iconst 0, [0, 0]) := rfl
theorem pa_Mod_write_17 : pr_Mod_write[17]? = some (27, 1, .istore_n 3, []) := rfl
theorem pa_Mod_write_18 : pr_Mod_write[18]? = some (28, 1, .iload_n 3, []) := rfl
theorem pa_Mod_write_19 : pr_Mod_write[19]? = some (29, 1, .iload_n 2, []) := rfl
theorem pa_Mod_write_20 : pr_Mod_write[20]? = some (30, 3, .if_icmp .ge (185), [116]) := rfl
theorem pa_Mod_write_21 : pr_Mod_write[21]? = some (33, 1, .iconst 0, [0, 0]) := rfl
theorem pa_Mod_write_22 : pr_Mod_write[22]? = some (34, 2, .istore 4, []) := rfl
theorem pa_Mod_write_23 : pr_Mod_write[23]? = some (36, 2, .iload 4, []) := rfl
theorem pa_Mod_write_24 : pr_Mod_write[24]? = some (38, 1, .iconst 4, [4, 0]) := rfl
theorem pa_Mod_write_25 : pr_Mod_write[25]? = some (39, 3, .if_icmp .ge (140), [98]) := rfl
theorem pa_Mod_write_26 : pr_Mod_write[26]? = some (42, 1, .iconst 0, [0, 0]) := rfl
theorem pa_Mod_write_27 : pr_Mod_write[27]? = some (43, 2, .istore 5, []) := rfl
theorem pa_Mod_write_28 : pr_Mod_write[28]? = some (45, 2, .iload 5, []) := rfl
theorem pa_Mod_write_29 : pr_Mod_write[29]? = some (47, 2, .bipush 16, [16, 0]) := rfl
theorem pa_Mod_write_30 : pr_Mod_write[30]? = some (49, 3, .if_icmp .ge (54), [59]) := rfl
theorem pa_Mod_write_31 : pr_Mod_write[31]? = some (52, 2, .bipush 40, [40, 0]) := rfl
theorem pa_Mod_write_32 : pr_Mod_write[32]? = some (54, 1, .iload_n 3, []) := rfl
theorem pa_Mod_write_33 : pr_Mod_write[33]? = some (55, 1, .imul, []) := rfl
theorem pa_Mod_write_34 : pr_Mod_write[34]? = some (56, 1, .iconst 4, [4, 0]) := rfl
theorem pa_Mod_write_35 : pr_Mod_write[35]? = some (57, 2, .iload 5, []) := rfl
theorem pa_Mod_write_36 : pr_Mod_write[36]? = some (59, 1, .imul, []) := rfl
theorem pa_Mod_write_37 : pr_Mod_write[37]? = some (60, 1, .iadd, []) := rfl
theorem pa_Mod_write_38 : pr_Mod_write[38]? = some (61, 2, .iload 4, []) := rfl
theorem pa_Mod_write_39 : pr_Mod_write[39]? = some (63, 1, .iadd, []) := rfl
theorem pa_Mod_write_40 : pr_Mod_write[40]? = some (64, 2, .istore 6, []) := rfl
theorem pa_Mod_write_41 : pr_Mod_write[41]? = some (66, 1, .aload_n 0, []) := rfl
theorem pa_Mod_write_42 : pr_Mod_write[42]? = some (67, 3, .getfield 44, [7, 17, 2, 0, 637]) := rfl
theorem pa_Mod_write_43 : pr_Mod_write[43]? = some (70, 2, .iload 5, []) := rfl
theorem pa_Mod_write_44 : pr_Mod_write[44]? = some (72, 2, .iload 5, []) := rfl
theorem pa_Mod_write_45 : pr_Mod_write[45]? = some (74, 2, .bipush 10, [10, 0]) := rfl
theorem pa_Mod_write_46 : pr_Mod_write[46]? = some (76, 3, .if_icmp .ge (19), [55]) := rfl
theorem pa_Mod_write_47 : pr_Mod_write[47]? = some (79, 2, .iload 6, []) := rfl
theorem pa_Mod_write_48 : pr_Mod_write[48]? = some (81, 1, .iload_n 1, []) := rfl
theorem pa_Mod_write_49 : pr_Mod_write[49]? = some (82, 3, .if_icmp .ge (13), [55]) := rfl
theorem pa_Mod_write_50 : pr_Mod_write[50]? = some (85, 1, .aload_n 0, []) := rfl
theorem pa_Mod_write_51 : pr_Mod_write[51]? = some (86, 3, .getfield 7, [7, 1, 2, 0, 621]) := rfl
theorem pa_Mod_write_52 : pr_Mod_write[52]? = some (89, 2, .iload 6, []) := rfl
theorem pa_Mod_write_53 : pr_Mod_write[53]? = some (91, 1, .iaload, []) := rfl
theorem pa_Mod_write_54 : pr_Mod_write[54]? = some (92, 3, .goto (4), [56]) := rfl
theorem pa_Mod_write_55 : pr_Mod_write[55]? = some (95, 1, .iconst 0, [0, 0]) := rfl
theorem pa_Mod_write_56 : pr_Mod_write[56]? = some (96, 1, .iastore, []) := rfl
theorem pa_Mod_write_57 : pr_Mod_write[57]? = some (97, 3, .iinc 5 (1), [1, 0]) := rfl
theorem pa_Mod_write_58 : pr_Mod_write[58]? = some (100, 3, .goto (-55), [28]) := rfl
theorem pa_Mod_write_59 : pr_Mod_write[59]? = some (103, 1, .iconst 0, [0, 0]) := rfl
theorem pa_Mod_write_60 : pr_Mod_write[60]? = some (104, 2, .istore 5, []) := rfl
theorem pa_Mod_write_61 : pr_Mod_write[61]? = some (106, 2, .iload 5, []) := rfl
theorem pa_Mod_write_62 : pr_Mod_write[62]? = some (108, 2, .bipush 6, [6, 0]) := rfl
theorem pa_Mod_write_63 : pr_Mod_write[63]? = some (110, 3, .if_icmp .ge (21), [73]) := rfl
theorem pa_Mod_write_64 : pr_Mod_write[64]? = some (113, 1, .aload_n 0, []) := rfl
theorem pa_Mod_write_65 : pr_Mod_write[65]? = some (114, 3, .getfield 50, [7, 19, 2, 0, 639]) := rfl
theorem pa_Mod_write_66 : pr_Mod_write[66]? = some (117, 2, .iload 5, []) := rfl
theorem pa_Mod_write_67 : pr_Mod_write[67]? = some (119, 2, .bipush 10, [10, 0]) := rfl
theorem pa_Mod_write_68 : pr_Mod_write[68]? = some (121, 2, .iload 5, []) := rfl
theorem pa_Mod_write_69 : pr_Mod_write[69]? = some (123, 1, .iadd, []) := rfl
theorem pa_Mod_write_70 : pr_Mod_write[70]? = some (124, 1, .iastore, []) := rfl
theorem pa_Mod_write_71 : pr_Mod_write[71]? = some (125, 3, .iinc 5 (1), [1, 0]) := rfl
theorem pa_Mod_write_72 : pr_Mod_write[72]? = some (128, 3, .goto (-22), [61]) := rfl
theorem pa_Mod_write_73 : pr_Mod_write[73]? = some (131, 1, .aload_n 0, []) := rfl
theorem pa_Mod_write_74 : pr_Mod_write[74]? = some (132, 2, .bipush 6, [6, 0]) := rfl
theorem pa_Mod_write_75 : pr_Mod_write[75]? = some (134, 3, .invokevirtual 86, [74, 1, 7, 0, 707, 709, 28, 47]) := rfl
theorem pa_Mod_write_76 : pr_Mod_write[76]? = some (137, 1, .pop, []) := rfl
theorem pa_Mod_write_77 : pr_Mod_write[77]? = some (138, 1, .iconst 0, [0, 0]) := rfl
theorem pa_Mod_write_78 : pr_Mod_write[78]? = some (139, 2, .istore 5, []) := rfl
theorem pa_Mod_write_79 : pr_Mod_write[79]? = some (141, 2, .iload 5, []) := rfl
theorem pa_Mod_write_80 : pr_Mod_write[80]? = some (143, 2, .bipush 16, [16, 0]) := rfl
theorem pa_Mod_write_81 : pr_Mod_write[81]? = some (145, 3, .if_icmp .ge (28), [96]) := rfl
theorem pa_Mod_write_82 : pr_Mod_write[82]? = some (148, 1, .aload_n 0, []) := rfl
theorem pa_Mod_write_83 : pr_Mod_write[83]? = some (149, 3, .getfield 41, [7, 16, 2, 0, 636]) := rfl
theorem pa_Mod_write_84 : pr_Mod_write[84]? = some (152, 1, .iconst 4, [4, 0]) := rfl
theorem pa_Mod_write_85 : pr_Mod_write[85]? = some (153, 2, .iload 5, []) := rfl
theorem pa_Mod_write_86 : pr_Mod_write[86]? = some (155, 1, .imul, []) := rfl
theorem pa_Mod_write_87 : pr_Mod_write[87]? = some (156, 2, .iload 4, []) := rfl
theorem pa_Mod_write_88 : pr_Mod_write[88]? = some (158, 1, .iadd, []) := rfl
theorem pa_Mod_write_89 : pr_Mod_write[89]? = some (159, 1, .aload_n 0, []) := rfl
theorem pa_Mod_write_90 : pr_Mod_write[90]? = some (160, 3, .getfield 44, [7, 17, 2, 0, 637]) := rfl
theorem pa_Mod_write_91 : pr_Mod_write[91]? = some (163, 2, .iload 5, []) := rfl
theorem pa_Mod_write_92 : pr_Mod_write[92]? = some (165, 1, .iaload, []) := rfl
theorem pa_Mod_write_93 : pr_Mod_write[93]? = some (166, 1, .iastore, []) := rfl
theorem pa_Mod_write_94 : pr_Mod_write[94]? = some (167, 3, .iinc 5 (1), [1, 0]) := rfl
theorem pa_Mod_write_95 : pr_Mod_write[95]? = some (170, 3, .goto (-29), [79]) := rfl
theorem pa_Mod_write_96 : pr_Mod_write[96]? = some (173, 3, .iinc 4 (1), [1, 0]) := rfl
theorem pa_Mod_write_97 : pr_Mod_write[97]? = some (176, 3, .goto (-140), [23]) := rfl
theorem pa_Mod_write_98 : pr_Mod_write[98]? = some (179, 1, .iconst 0, [0, 0]) := rfl
theorem pa_Mod_write_99 : pr_Mod_write[99]? = some (180, 2, .istore 4, []) := rfl
theorem pa_Mod_write_100 : pr_Mod_write[100]? = some (182, 2, .iload 4, []) := rfl
theorem pa_Mod_write_101 : pr_Mod_write[101]? = some (184, 2, .bipush 16, [16, 0]) := rfl
theorem pa_Mod_write_102 : pr_Mod_write[102]? = some (186, 3, .if_icmp .ge (23), [114]) := rfl
theorem pa_Mod_write_103 : pr_Mod_write[103]? = some (189, 1, .aload_n 0, []) := rfl
theorem pa_Mod_write_104 : pr_Mod_write[104]? = some (190, 2, .bipush 16, [16, 0]) := rfl
theorem pa_Mod_write_105 : pr_Mod_write[105]? = some (192, 1, .iload_n 3, []) := rfl
theorem pa_Mod_write_106 : pr_Mod_write[106]? = some (193, 1, .imul, []) := rfl
theorem pa_Mod_write_107 : pr_Mod_write[107]? = some (194, 2, .iload 4, []) := rfl
theorem pa_Mod_write_108 : pr_Mod_write[108]? = some (196, 1, .iadd, []) := rfl
theorem pa_Mod_write_109 : pr_Mod_write[109]? = some (197, 1, .iload_n 3, []) := rfl
theorem pa_Mod_write_110 : pr_Mod_write[110]? = some (198, 2, .iload 4, []) := rfl
theorem pa_Mod_write_111 : pr_Mod_write[111]? = some (200, 3, .invokevirtual 90, [67, 3, 7, 0, 711, 713, 29, 47]) := rfl
theorem pa_Mod_write_112 : pr_Mod_write[112]? = some (203, 3, .iinc 4 (1), [1, 0]) := rfl
theorem pa_Mod_write_113 : pr_Mod_write[113]? = some (206, 3, .goto (-24), [100]) := rfl
theorem pa_Mod_write_114 : pr_Mod_write[114]? = some (209, 3, .iinc 3 (1), [1, 0]) := rfl
theorem pa_Mod_write_115 : pr_Mod_write[115]? = some (212, 3, .goto (-184), [18]) := rfl
theorem pa_Mod_write_116 : pr_Mod_write[116]? = some (215, 1, .aload_n 0, []) := rfl
theorem pa_Mod_write_117 : pr_Mod_write[117]? = some (216, 2, .bipush 16, [16, 0]) := rfl
theorem pa_Mod_write_118 : pr_Mod_write[118]? = some (218, 1, .iload_n 2, []) := rfl
theorem pa_Mod_write_119 : pr_Mod_write[119]? = some (219, 1, .imul, []) := rfl
theorem pa_Mod_write_120 : pr_Mod_write[120]? = some (220, 3, .putfield 94, [7, 2, 0, 0, 622]) := rfl
theorem pa_Mod_write_121 : pr_Mod_write[121]? = some (223, 1, .aload_n 0, []) := rfl
theorem pa_Mod_write_122 : pr_Mod_write[122]? = some (224, 1, .iconst 0, [0, 0]) := rfl
theorem pa_Mod_write_123 : pr_Mod_write[123]? = some (225, 3, .putfield 97, [7, 4, 0, 0, 624]) := rfl
theorem pa_Mod_write_124 : pr_Mod_write[124]? = some (228, 1, .aload_n 0, []) := rfl
theorem pa_Mod_write_125 : pr_Mod_write[125]? = some (229, 3, .getfield 94, [7, 2, 0, 0, 622]) := rfl
theorem pa_Mod_write_126 : pr_Mod_write[126]? = some (232, 1, .ireturn, [0]) := rfl
def pa_Mod_write := And.intro pa_Mod_write_0 (And.intro pa_Mod_write_1 (And.intro pa_Mod_write_2 (And.intro pa_Mod_write_3 (And.intro pa_Mod_write_4 (And.intro pa_Mod_write_5 (And.intro pa_Mod_write_6 (And.intro pa_Mod_write_7 (And.intro pa_Mod_write_8 (And.intro pa_Mod_write_9 (And.intro pa_Mod_write_10 (And.intro pa_Mod_write_11 (And.intro pa_Mod_write_12 (And.intro pa_Mod_write_13 (And.intro pa_Mod_write_14 (And.intro pa_Mod_write_15 (And.intro pa_Mod_write_16 (And.intro pa_Mod_write_17 (And.intro pa_Mod_write_18 (And.intro pa_Mod_write_19 (And.intro pa_Mod_write_20 (And.intro pa_Mod_write_21 (And.intro pa_Mod_write_22 (And.intro pa_Mod_write_23 (And.intro pa_Mod_write_24 (And.intro pa_Mod_write_25 (And.intro pa_Mod_write_26 (And.intro pa_Mod_write_27 (And.intro pa_Mod_write_28 (And.intro pa_Mod_write_29 (And.intro pa_Mod_write_30 (And.intro pa_Mod_write_31 (And.intro pa_Mod_write_32 (And.intro pa_Mod_write_33 (And.intro pa_Mod_write_34 (And.intro pa_Mod_write_35 (And.intro pa_Mod_write_36 (And.intro pa_Mod_write_37 (And.intro pa_Mod_write_38 (And.intro pa_Mod_write_39 (And.intro pa_Mod_write_40 (And.intro pa_Mod_write_41 (And.intro pa_Mod_write_42 (And.intro pa_Mod_write_43 (And.intro pa_Mod_write_44 (And.intro pa_Mod_write_45 (And.intro pa_Mod_write_46 (And.intro pa_Mod_write_47 (And.intro pa_Mod_write_48 (And.intro pa_Mod_write_49 (And.intro pa_Mod_write_50 (And.intro pa_Mod_write_51 (And.intro pa_Mod_write_52 (And.intro pa_Mod_write_53 (And.intro pa_Mod_write_54 (And.intro pa_Mod_write_55 (And.intro pa_Mod_write_56 (And.intro pa_Mod_write_57 (And.intro pa_Mod_write_58 (And.intro pa_Mod_write_59 (And.intro pa_Mod_write_60 (And.intro pa_Mod_write_61 (And.intro pa_Mod_write_62 (And.intro pa_Mod_write_63 (And.intro pa_Mod_write_64 (And.intro pa_Mod_write_65 (And.intro pa_Mod_write_66 (And.intro pa_Mod_write_67 (And.intro pa_Mod_write_68 (And.intro pa_Mod_write_69 (And.intro pa_Mod_write_70 (And.intro pa_Mod_write_71 (And.intro pa_Mod_write_72 (And.intro pa_Mod_write_73 (And.intro pa_Mod_write_74 (And.intro pa_Mod_write_75 (And.intro pa_Mod_write_76 (And.intro pa_Mod_write_77 (And.intro pa_Mod_write_78 (And.intro pa_Mod_write_79 (And.intro pa_Mod_write_80 (And.intro pa_Mod_write_81 (And.intro pa_Mod_write_82 (And.intro pa_Mod_write_83 (And.intro pa_Mod_write_84 (And.intro pa_Mod_write_85 (And.intro pa_Mod_write_86 (And.intro pa_Mod_write_87 (And.intro pa_Mod_write_88 (And.intro pa_Mod_write_89 (And.intro pa_Mod_write_90 (And.intro pa_Mod_write_91 (And.intro pa_Mod_write_92 (And.intro pa_Mod_write_93 (And.intro pa_Mod_write_94 (And.intro pa_Mod_write_95 (And.intro pa_Mod_write_96 (And.intro pa_Mod_write_97 (And.intro pa_Mod_write_98 (And.intro pa_Mod_write_99 (And.intro pa_Mod_write_100 (And.intro pa_Mod_write_101 (And.intro pa_Mod_write_102 (And.intro pa_Mod_write_103 (And.intro pa_Mod_write_104 (And.intro pa_Mod_write_105 (And.intro pa_Mod_write_106 (And.intro pa_Mod_write_107 (And.intro pa_Mod_write_108 (And.intro pa_Mod_write_109 (And.intro pa_Mod_write_110 (And.intro pa_Mod_write_111 (And.intro pa_Mod_write_112 (And.intro pa_Mod_write_113 (And.intro pa_Mod_write_114 (And.intro pa_Mod_write_115 (And.intro pa_Mod_write_116 (And.intro pa_Mod_write_117 (And.intro pa_Mod_write_118 (And.intro pa_Mod_write_119 (And.intro pa_Mod_write_120 (And.intro pa_Mod_write_121 (And.intro pa_Mod_write_122 (And.intro pa_Mod_write_123 (And.intro pa_Mod_write_124 (And.intro pa_Mod_write_125 (pa_Mod_write_126))))))))))))))))))))))))))))))))))))))))))))))))))))))))))))))))))))))))))))))))))))))))))))))))))))))))))))))))))))))))))))))
def pr_Rdr_restore : List ma_E := [(0, 1, .aload_n 1, []),
  (1, 3, .getfield 25, [0, 2, 0, 1, 2]),
  (4, 2, .bipush 44, [44, 0]),
  (6, 3, .if_icmp .lt (20), [12]),
  (9, 1, .aload_n 1, []),
  (10, 3, .getfield 25, [0, 2, 0, 1, 2]),
  (13, 2, .bipush 46, [46, 0]),
  (15, 3, .if_icmp .gt (11), [12]),
  (18, 1, .aload_n 0, []),
  (19, 1, .aload_n 1, []),
  (20, 3, .invokevirtual 30, [80, 1, 3, 0, 456, 458, 18, 46]),
  (23, 3, .ifCond .ne (5), [14]),
  (26, 1, .iconst 0, [0, 0]),
  (27, 1, .ireturn, [1]),
  (28, 1, .aload_n 1, []),
  (29, 3, .getfield 25, [0, 2, 0, 1, 2]),
  (32, 2, .bipush 45, [45, 0]),
  (34, 3, .if_icmp .ge (9), [22]),
  (37, 1, .aload_n 0, []),
  (38, 1, .aload_n 1, []),
  (39, 3, .invokevirtual 34, [77, 1, 3, 0, 464, 466, 19, 46]),
  (42, 1, .ireturn, [1]),
  (43, 1, .aload_n 1, []),
  (44, 3, .getfield 25, [0, 2, 0, 1, 2]),
  (47, 2, .bipush 45, [45, 0]),
  (49, 3, .if_icmp .ne (11), [30]),
  (52, 1, .aload_n 0, []),
  (53, 1, .aload_n 1, []),
  (54, 3, .invokevirtual 37, [79, 1, 3, 0, 478, 480, 21, 46]),
  (57, 3, .goto (8), [33]),
  (60, 1, .aload_n 0, []),
  (61, 1, .aload_n 1, []),
  (62, 3, .invokevirtual 40, [78, 1, 3, 0, 482, 484, 22, 46]),
  (65, 1, .ireturn, [1])]
theorem po_Rdr_restore : ma_ok me_Rdr_restore pr_Rdr_restore := ma_ok_of (by decide +kernel)
theorem pa_Rdr_restore_0 : pr_Rdr_restore[0]? = some (0, 1, .aload_n 1, []) := rfl
theorem pa_Rdr_restore_1 : pr_Rdr_restore[1]? = some (1, 3, .getfield 25, [0, 2, 0, 1, 2]) := rfl
theorem pa_Rdr_restore_2 : pr_Rdr_restore[2]? = some (4, 2, .bipush 44, [44, 0]) := rfl
theorem pa_Rdr_restore_3 : pr_Rdr_restore[3]? = some (6, 3, .if_icmp .lt (20), [12]) := rfl
theorem pa_Rdr_restore_4 : pr_Rdr_restore[4]? = some (9, 1, .aload_n 1, []) := rfl
theorem pa_Rdr_restore_5 : pr_Rdr_restore[5]? = some (10, 3, .getfield 25, [0, 2, 0, 1, 2]) := rfl
theorem pa_Rdr_restore_6 : pr_Rdr_restore[6]? = some (13, 2, .bipush 46, [46, 0]) := rfl
theorem pa_Rdr_restore_7 : pr_Rdr_restore[7]? = some (15, 3, .if_icmp .gt (11), [12]) := rfl
theorem pa_Rdr_restore_8 : pr_Rdr_restore[8]? = some (18, 1, .aload_n 0, []) := rfl
theorem pa_Rdr_restore_9 : pr_Rdr_restore[9]? = some (19, 1, .aload_n 1, []) := rfl
theorem pa_Rdr_restore_10 : pr_Rdr_restore[10]? = some (20, 3, .invokevirtual 30, [80, 1, 3, 0, 456, 458, 18, 46]) := rfl
theorem pa_Rdr_restore_11 : pr_Rdr_restore[11]? = some (23, 3, .ifCond .ne (5), [14]) := rfl
theorem pa_Rdr_restore_12 : pr_Rdr_restore[12]? = some (26, 1, .iconst 0, [0, 0]) := rfl
theorem pa_Rdr_restore_13 : pr_Rdr_restore[13]? = some (27, 1, .ireturn, [1]) := rfl
theorem pa_Rdr_restore_14 : pr_Rdr_restore[14]? = some (28, 1, .aload_n 1, []) := rfl
theorem pa_Rdr_restore_15 : pr_Rdr_restore[15]? = some (29, 3, .getfield 25, [0, 2, 0, 1, 2]) := rfl
theorem pa_Rdr_restore_16 : pr_Rdr_restore[16]? = some (32, 2, .bipush 45, [45, 0]) := rfl
theorem pa_Rdr_restore_17 : pr_Rdr_restore[17]? = some (34, 3, .if_icmp .ge (9), [22]) := rfl
theorem pa_Rdr_restore_18 : pr_Rdr_restore[18]? = some (37, 1, .aload_n 0, []) := rfl
theorem pa_Rdr_restore_19 : pr_Rdr_restore[19]? = some (38, 1, .aload_n 1, []) := rfl
theorem pa_Rdr_restore_20 : pr_Rdr_restore[20]? = some (39, 3, .invokevirtual 34, [77, 1, 3, 0, 464, 466, 19, 46]) := rfl
theorem pa_Rdr_restore_21 : pr_Rdr_restore[21]? = some (42, 1, .ireturn, [1]) := rfl
theorem pa_Rdr_restore_22 : pr_Rdr_restore[22]? = some (43, 1, .aload_n 1, []) := rfl
theorem pa_Rdr_restore_23 : pr_Rdr_restore[23]? = some (44, 3, .getfield 25, [0, 2, 0, 1, 2]) := rfl
theorem pa_Rdr_restore_24 : pr_Rdr_restore[24]? = some (47, 2, .bipush 45, [45, 0]) := rfl
theorem pa_Rdr_restore_25 : pr_Rdr_restore[25]? = some (49, 3, .if_icmp .ne (11), [30]) := rfl
theorem pa_Rdr_restore_26 : pr_Rdr_restore[26]? = some (52, 1, .aload_n 0, []) := rfl
theorem pa_Rdr_restore_27 : pr_Rdr_restore[27]? = some (53, 1, .aload_n 1, []) := rfl
theorem pa_Rdr_restore_28 : pr_Rdr_restore[28]? = some (54, 3, .invokevirtual 37, [79, 1, 3, 0, 478, 480, 21, 46]) := rfl
theorem pa_Rdr_restore_29 : pr_Rdr_restore[29]? = some (57, 3, .goto (8), [33]) := rfl
theorem pa_Rdr_restore_30 : pr_Rdr_restore[30]? = some (60, 1, .aload_n 0, []) := rfl
theorem pa_Rdr_restore_31 : pr_Rdr_restore[31]? = some (61, 1, .aload_n 1, []) := rfl
theorem pa_Rdr_restore_32 : pr_Rdr_restore[32]? = some (62, 3, .invokevirtual 40, [78, 1, 3, 0, 482, 484, 22, 46]) := rfl
theorem pa_Rdr_restore_33 : pr_Rdr_restore[33]? = some (65, 1, .ireturn, [1]) := rfl
def pa_Rdr_restore := And.intro pa_Rdr_restore_0 (And.intro pa_Rdr_restore_1 (And.intro pa_Rdr_restore_2 (And.intro pa_Rdr_restore_3 (And.intro pa_Rdr_restore_4 (And.intro pa_Rdr_restore_5 (And.intro pa_Rdr_restore_6 (And.intro pa_Rdr_restore_7 (And.intro pa_Rdr_restore_8 (And.intro pa_Rdr_restore_9 (And.intro pa_Rdr_restore_10 (And.intro pa_Rdr_restore_11 (And.intro pa_Rdr_restore_12 (And.intro pa_Rdr_restore_13 (And.intro pa_Rdr_restore_14 (And.intro pa_Rdr_restore_15 (And.intro pa_Rdr_restore_16 (And.intro pa_Rdr_restore_17 (And.intro pa_Rdr_restore_18 (And.intro pa_Rdr_restore_19 (And.intro pa_Rdr_restore_20 (And.intro pa_Rdr_restore_21 (And.intro pa_Rdr_restore_22 (And.intro pa_Rdr_restore_23 (And.intro pa_Rdr_restore_24 (And.intro pa_Rdr_restore_25 (And.intro pa_Rdr_restore_26 (And.intro pa_Rdr_restore_27 (And.intro pa_Rdr_restore_28 (And.intro pa_Rdr_restore_29 (And.intro pa_Rdr_restore_30 (And.intro pa_Rdr_restore_31 (And.intro pa_Rdr_restore_32 (pa_Rdr_restore_33)))))))))))))))))))))))))))))))))
def pr_Col_mend : List ma_E := [(0, 1, .aload_n 0, []),
  (1, 3, .invokevirtual 41, [11, 0, 4, 0, 279, 281, 1, 43]),
  (4, 1, .istore_n 1, []),
  (5, 1, .iload_n 1, []),
  (6, 2, .bipush 6, [6, 0]),
  (8, 3, .if_icmp .le (5), [8]),
  (11, 1, .iconst 0, [0, 0]),
  (12, 1, .ireturn, [1]),
  (13, 2, .bipush 6, [6, 0]),
  (15, 1, .iload_n 1, []),
  (16, 1, .isub, []),
  (17, 1, .istore_n 2, []),
  (18, 1, .aload_n 0, []),
  (19, 3, .invokevirtual 45, [49, 0, 4, 0, 283, 285, 2, 43]),
  (22, 1, .aload_n 0, []),
  (23, 1, .iload_n 2, []),
  (24, 3, .invokevirtual 48, [84, 1, 4, 0, 295, 297, 3, 43]),
  (27, 1, .aload_n 0, []),
  (28, 1, .iload_n 2, []),
  (29, 3, .invokevirtual 52, [82, 1, 4, 0, 310, 312, 6, 43]),
  (32, 1, .istore_n 3, []),
  (33, 1, .iconst 2, [2, 0]),
  (34, 1, .iload_n 3, []),
  (35, 1, .imul, []),
  (36, 1, .iload_n 2, []),
  (37, 3, .if_icmp .gt (12), [31]),
  (40, 1, .aload_n 0, []),
  (41, 1, .iload_n 3, []),
  (42, 3, .invokevirtual 56, [83, 1, 4, 0, 325, 327, 8, 43]),
  (45, 1, .iload_n 3, []),
  (46, 3, .if_icmp .eq (5), [33]),
  (49, 1, .iconst 0, [0, 0]),
  (50, 1, .ireturn, [1]),
  (51, 1, .aload_n 0, []),
  (52, 3, .invokevirtual 59, [81, 0, 4, 0, 333, 335, 10, 43]),
  (55, 1, .iconst 1, [1, 0]),
  (56, 1, .ireturn, [1])]
theorem po_Col_mend : ma_ok me_Col_mend pr_Col_mend := ma_ok_of (by decide +kernel)
theorem pa_Col_mend_0 : pr_Col_mend[0]? = some (0, 1, .aload_n 0, []) := rfl
theorem pa_Col_mend_1 : pr_Col_mend[1]? = some (1, 3, .invokevirtual 41, [11, 0, 4, 0, 279, 281, 1, 43]) := rfl
theorem pa_Col_mend_2 : pr_Col_mend[2]? = some (4, 1, .istore_n 1, []) := rfl
theorem pa_Col_mend_3 : pr_Col_mend[3]? = some (5, 1, .iload_n 1, []) := rfl
theorem pa_Col_mend_4 : pr_Col_mend[4]? = some (6, 2, .bipush 6, [6, 0]) := rfl
theorem pa_Col_mend_5 : pr_Col_mend[5]? = some (8, 3, .if_icmp .le (5), [8]) := rfl
theorem pa_Col_mend_6 : pr_Col_mend[6]? = some (11, 1, .iconst 0, [0, 0]) := rfl
theorem pa_Col_mend_7 : pr_Col_mend[7]? = some (12, 1, .ireturn, [1]) := rfl
theorem pa_Col_mend_8 : pr_Col_mend[8]? = some (13, 2, .bipush 6, [6, 0]) := rfl
theorem pa_Col_mend_9 : pr_Col_mend[9]? = some (15, 1, .iload_n 1, []) := rfl
theorem pa_Col_mend_10 : pr_Col_mend[10]? = some (16, 1, .isub, []) := rfl
theorem pa_Col_mend_11 : pr_Col_mend[11]? = some (17, 1, .istore_n 2, []) := rfl
theorem pa_Col_mend_12 : pr_Col_mend[12]? = some (18, 1, .aload_n 0, []) := rfl
theorem pa_Col_mend_13 : pr_Col_mend[13]? = some (19, 3, .invokevirtual 45, [49, 0, 4, 0, 283, 285, 2, 43]) := rfl
theorem pa_Col_mend_14 : pr_Col_mend[14]? = some (22, 1, .aload_n 0, []) := rfl
theorem pa_Col_mend_15 : pr_Col_mend[15]? = some (23, 1, .iload_n 2, []) := rfl
theorem pa_Col_mend_16 : pr_Col_mend[16]? = some (24, 3, .invokevirtual 48, [84, 1, 4, 0, 295, 297, 3, 43]) := rfl
theorem pa_Col_mend_17 : pr_Col_mend[17]? = some (27, 1, .aload_n 0, []) := rfl
theorem pa_Col_mend_18 : pr_Col_mend[18]? = some (28, 1, .iload_n 2, []) := rfl
theorem pa_Col_mend_19 : pr_Col_mend[19]? = some (29, 3, .invokevirtual 52, [82, 1, 4, 0, 310, 312, 6, 43]) := rfl
theorem pa_Col_mend_20 : pr_Col_mend[20]? = some (32, 1, .istore_n 3, []) := rfl
theorem pa_Col_mend_21 : pr_Col_mend[21]? = some (33, 1, .iconst 2, [2, 0]) := rfl
theorem pa_Col_mend_22 : pr_Col_mend[22]? = some (34, 1, .iload_n 3, []) := rfl
theorem pa_Col_mend_23 : pr_Col_mend[23]? = some (35, 1, .imul, []) := rfl
theorem pa_Col_mend_24 : pr_Col_mend[24]? = some (36, 1, .iload_n 2, []) := rfl
theorem pa_Col_mend_25 : pr_Col_mend[25]? = some (37, 3, .if_icmp .gt (12), [31]) := rfl
theorem pa_Col_mend_26 : pr_Col_mend[26]? = some (40, 1, .aload_n 0, []) := rfl
theorem pa_Col_mend_27 : pr_Col_mend[27]? = some (41, 1, .iload_n 3, []) := rfl
theorem pa_Col_mend_28 : pr_Col_mend[28]? = some (42, 3, .invokevirtual 56, [83, 1, 4, 0, 325, 327, 8, 43]) := rfl
theorem pa_Col_mend_29 : pr_Col_mend[29]? = some (45, 1, .iload_n 3, []) := rfl
theorem pa_Col_mend_30 : pr_Col_mend[30]? = some (46, 3, .if_icmp .eq (5), [33]) := rfl
theorem pa_Col_mend_31 : pr_Col_mend[31]? = some (49, 1, .iconst 0, [0, 0]) := rfl
theorem pa_Col_mend_32 : pr_Col_mend[32]? = some (50, 1, .ireturn, [1]) := rfl
theorem pa_Col_mend_33 : pr_Col_mend[33]? = some (51, 1, .aload_n 0, []) := rfl
theorem pa_Col_mend_34 : pr_Col_mend[34]? = some (52, 3, .invokevirtual 59, [81, 0, 4, 0, 333, 335, 10, 43]) := rfl
theorem pa_Col_mend_35 : pr_Col_mend[35]? = some (55, 1, .iconst 1, [1, 0]) := rfl
theorem pa_Col_mend_36 : pr_Col_mend[36]? = some (56, 1, .ireturn, [1]) := rfl
def pa_Col_mend := And.intro pa_Col_mend_0 (And.intro pa_Col_mend_1 (And.intro pa_Col_mend_2 (And.intro pa_Col_mend_3 (And.intro pa_Col_mend_4 (And.intro pa_Col_mend_5 (And.intro pa_Col_mend_6 (And.intro pa_Col_mend_7 (And.intro pa_Col_mend_8 (And.intro pa_Col_mend_9 (And.intro pa_Col_mend_10 (And.intro pa_Col_mend_11 (And.intro pa_Col_mend_12 (And.intro pa_Col_mend_13 (And.intro pa_Col_mend_14 (And.intro pa_Col_mend_15 (And.intro pa_Col_mend_16 (And.intro pa_Col_mend_17 (And.intro pa_Col_mend_18 (And.intro pa_Col_mend_19 (And.intro pa_Col_mend_20 (And.intro pa_Col_mend_21 (And.intro pa_Col_mend_22 (And.intro pa_Col_mend_23 (And.intro pa_Col_mend_24 (And.intro pa_Col_mend_25 (And.intro pa_Col_mend_26 (And.intro pa_Col_mend_27 (And.intro pa_Col_mend_28 (And.intro pa_Col_mend_29 (And.intro pa_Col_mend_30 (And.intro pa_Col_mend_31 (And.intro pa_Col_mend_32 (And.intro pa_Col_mend_33 (And.intro pa_Col_mend_34 (And.intro pa_Col_mend_35 (pa_Col_mend_36))))))))))))))))))))))))))))))))))))
def pr_Dec_init : List ma_E := [(0, 1, .aload_n 0, []),
  (1, 3, .invokespecial 3, [0, 162, 62, 63]),
  (4, 1, .aload_n 0, []),
  (5, 3, .new 9, [3, 3, 163, 164, 46]),
  (8, 1, .dup, []),
  (9, 3, .invokespecial 11, [76, 0, 1, 1, 166, 46]),
  (12, 3, .putfield 12, [5, 1, 2, 0, 183]),
  (15, 1, .aload_n 0, []),
  (16, 2, .bipush 64, [64, 0]),
  (18, 2, .newarray .int, [89]),
  (20, 3, .putfield 18, [5, 2, 2, 0, 184]),
  (23, 1, .aload_n 0, []),
  (24, 3, .sipush 256, [256, 0]),
  (27, 2, .newarray .int, [89]),
  (29, 3, .putfield 22, [5, 3, 2, 0, 185]),
  (32, 1, .aload_n 0, []),
  (33, 1, .iconst 0, [0, 0]),
  (34, 3, .putfield 25, [5, 4, 0, 0, 186]),
  (37, 1, .aload_n 0, []),
  (38, 1, .iconst 0, [0, 0]),
  (39, 3, .putfield 29, [5, 5, 0, 0, 187]),
  (42, 1, .aload_n 0, []),
  (43, 1, .iconst 0, [0, 0]),
  (44, 3, .putfield 32, [5, 6, 0, 0, 189]),
  (47, 1, .aload_n 0, []),
  (48, 1, .iconst 0, [0, 0]),
  (49, 3, .putfield 35, [5, 7, 0, 0, 191]),
  (52, 1, .aload_n 0, []),
  (53, 3, .sipush 160, [160, 0]),
  (56, 2, .newarray .int, [89]),
  (58, 3, .putfield 38, [5, 8, 2, 0, 193]),
  (61, 1, .aload_n 0, []),
  (62, 1, .iconst 4, [4, 0]),
  (63, 2, .newarray .int, [89]),
  (65, 3, .putfield 41, [5, 9, 2, 0, 195]),
  (68, 1, .aload_n 0, []),
  (69, 1, .iconst 4, [4, 0]),
  (70, 2, .newarray .int, [89]),
  (72, 3, .putfield 44, [5, 10, 2, 0, 197]),
  (75, 1, .aload_n 0, []),
  (76, 1, .aload_n 1, []),
  (77, 3, .putfield 47, [5, 0, 2, 0, 182]),
  (80, 1, .return_, [])]
theorem po_Dec_init : ma_ok me_Dec_init pr_Dec_init := ma_ok_of (by decide +kernel)
theorem pa_Dec_init_0 : pr_Dec_init[0]? = some (0, 1, .aload_n 0, []) := rfl
theorem pa_Dec_init_1 : pr_Dec_init[1]? = some (1, 3, .invokespecial 3, [0, 162, 62, 63]) := rfl
theorem pa_Dec_init_2 : pr_Dec_init[2]? = some (4, 1, .aload_n 0, []) := rfl
theorem pa_Dec_init_3 : pr_Dec_init[3]? = some (5, 3, .new 9, [3, 3, 163, 164, 46]) := rfl
theorem pa_Dec_init_4 : pr_Dec_init[4]? = some (8, 1, .dup, []) := rfl
theorem pa_Dec_init_5 : pr_Dec_init[5]? = some (9, 3, .invokespecial 11, [76, 0, 1, 1, 166, 46]) := rfl
theorem pa_Dec_init_6 : pr_Dec_init[6]? = some (12, 3, .putfield 12, [5, 1, 2, 0, 183]) := rfl
theorem pa_Dec_init_7 : pr_Dec_init[7]? = some (15, 1, .aload_n 0, []) := rfl
theorem pa_Dec_init_8 : pr_Dec_init[8]? = some (16, 2, .bipush 64, [64, 0]) := rfl
theorem pa_Dec_init_9 : pr_Dec_init[9]? = some (18, 2, .newarray .int, [89]) := rfl
theorem pa_Dec_init_10 : pr_Dec_init[10]? = some (20, 3, .putfield 18, [5, 2, 2, 0, 184]) := rfl
theorem pa_Dec_init_11 : pr_Dec_init[11]? = some (23, 1, .aload_n 0, []) := rfl
theorem pa_Dec_init_12 : pr_Dec_init[12]? = some (24, 3, .sipush 256, [256, 0]) := rfl
theorem pa_Dec_init_13 : pr_Dec_init[13]? = some (27, 2, .newarray .int, [89]) := rfl
theorem pa_Dec_init_14 : pr_Dec_init[14]? = some (29, 3, .putfield 22, [5, 3, 2, 0, 185]) := rfl
theorem pa_Dec_init_15 : pr_Dec_init[15]? = some (32, 1, .aload_n 0, []) := rfl
theorem pa_Dec_init_16 : pr_Dec_init[16]? = some (33, 1, .iconst 0, [0, 0]) := rfl
theorem pa_Dec_init_17 : pr_Dec_init[17]? = some (34, 3, .putfield 25, [5, 4, 0, 0, 186]) := rfl
theorem pa_Dec_init_18 : pr_Dec_init[18]? = some (37, 1, .aload_n 0, []) := rfl
theorem pa_Dec_init_19 : pr_Dec_init[19]? = some (38, 1, .iconst 0, [0, 0]) := rfl
theorem pa_Dec_init_20 : pr_Dec_init[20]? = some (39, 3, .putfield 29, [5, 5, 0, 0, 187]) := rfl
theorem pa_Dec_init_21 : pr_Dec_init[21]? = some (42, 1, .aload_n 0, []) := rfl
theorem pa_Dec_init_22 : pr_Dec_init[22]? = some (43, 1, .iconst 0, [0, 0]) := rfl
theorem pa_Dec_init_23 : pr_Dec_init[23]? = some (44, 3, .putfield 32, [5, 6, 0, 0, 189]) := rfl
theorem pa_Dec_init_24 : pr_Dec_init[24]? = some (47, 1, .aload_n 0, []) := rfl
theorem pa_Dec_init_25 : pr_Dec_init[25]? = some (48, 1, .iconst 0, [0, 0]) := rfl
theorem pa_Dec_init_26 : pr_Dec_init[26]? = some (49, 3, .putfield 35, [5, 7, 0, 0, 191]) := rfl
theorem pa_Dec_init_27 : pr_Dec_init[27]? = some (52, 1, .aload_n 0, []) := rfl
theorem pa_Dec_init_28 : pr_Dec_init[28]? = some (53, 3, .sipush 160, [160, 0]) := rfl
theorem pa_Dec_init_29 : pr_Dec_init[29]? = some (56, 2, .newarray .int, [89]) := rfl
theorem pa_Dec_init_30 : pr_Dec_init[30]? = some (58, 3, .putfield 38, [5, 8, 2, 0, 193]) := rfl
theorem pa_Dec_init_31 : pr_Dec_init[31]? = some (61, 1, .aload_n 0, []) := rfl
theorem pa_Dec_init_32 : pr_Dec_init[32]? = some (62, 1, .iconst 4, [4, 0]) := rfl
theorem pa_Dec_init_33 : pr_Dec_init[33]? = some (63, 2, .newarray .int, [89]) := rfl
theorem pa_Dec_init_34 : pr_Dec_init[34]? = some (65, 3, .putfield 41, [5, 9, 2, 0, 195]) := rfl
theorem pa_Dec_init_35 : pr_Dec_init[35]? = some (68, 1, .aload_n 0, []) := rfl
theorem pa_Dec_init_36 : pr_Dec_init[36]? = some (69, 1, .iconst 4, [4, 0]) := rfl
theorem pa_Dec_init_37 : pr_Dec_init[37]? = some (70, 2, .newarray .int, [89]) := rfl
theorem pa_Dec_init_38 : pr_Dec_init[38]? = some (72, 3, .putfield 44, [5, 10, 2, 0, 197]) := rfl
theorem pa_Dec_init_39 : pr_Dec_init[39]? = some (75, 1, .aload_n 0, []) := rfl
theorem pa_Dec_init_40 : pr_Dec_init[40]? = some (76, 1, .aload_n 1, []) := rfl
theorem pa_Dec_init_41 : pr_Dec_init[41]? = some (77, 3, .putfield 47, [5, 0, 2, 0, 182]) := rfl
theorem pa_Dec_init_42 : pr_Dec_init[42]? = some (80, 1, .return_, []) := rfl
def pa_Dec_init := And.intro pa_Dec_init_0 (And.intro pa_Dec_init_1 (And.intro pa_Dec_init_2 (And.intro pa_Dec_init_3 (And.intro pa_Dec_init_4 (And.intro pa_Dec_init_5 (And.intro pa_Dec_init_6 (And.intro pa_Dec_init_7 (And.intro pa_Dec_init_8 (And.intro pa_Dec_init_9 (And.intro pa_Dec_init_10 (And.intro pa_Dec_init_11 (And.intro pa_Dec_init_12 (And.intro pa_Dec_init_13 (And.intro pa_Dec_init_14 (And.intro pa_Dec_init_15 (And.intro pa_Dec_init_16 (And.intro pa_Dec_init_17 (And.intro pa_Dec_init_18 (And.intro pa_Dec_init_19 (And.intro pa_Dec_init_20 (And.intro pa_Dec_init_21 (And.intro pa_Dec_init_22 (And.intro pa_Dec_init_23 (And.intro pa_Dec_init_24 (And.intro pa_Dec_init_25 (And.intro pa_Dec_init_26 (And.intro pa_Dec_init_27 (And.intro pa_Dec_init_28 (And.intro pa_Dec_init_29 (And.intro pa_Dec_init_30 (And.intro pa_Dec_init_31 (And.intro pa_Dec_init_32 (And.intro pa_Dec_init_33 (And.intro pa_Dec_init_34 (And.intro pa_Dec_init_35 (And.intro pa_Dec_init_36 (And.intro pa_Dec_init_37 (And.intro pa_Dec_init_38 (And.intro pa_Dec_init_39 (And.intro pa_Dec_init_40 (And.intro pa_Dec_init_41 (pa_Dec_init_42))))))))))))))))))))))))))))))))))))))))))
end
section
/-! the methods as tables -/
def pr_Arc_spellStrand : List ma_E := [(0, 1, .iload_n 2, []),
  (1, 1, .iconst 4, [4, 0]),
  (2, 1, .imul, []),
  (3, 1, .istore_n 3, []),
  (4, 1, .aload_n 0, []),
  (5, 3, .getfield 53, [6, 8, 2, 0, 230]),
  (8, 1, .iconst 0, [0, 0]),
  (9, 3, .sipush 256, [256, 0]),
  (12, 1, .iload_n 1, []),
  (13, 1, .imul, []),
  (14, 1, .iload_n 2, []),
  (15, 1, .iadd, []),
  (16, 3, .invokevirtual 166, [75, 2, 2, 0, 345, 346, 347, 44]),
  (19, 1, .aload_n 0, []),
  (20, 3, .getfield 53, [6, 8, 2, 0, 230]),
  (23, 1, .iconst 1, [1, 0]),
  (24, 3, .sipush 256, [256, 0]),
  (27, 1, .aload_n 0, []),
  (28, 3, .getfield 47, [6, 7, 2, 0, 229]),
  (31, 1, .iload_n 3, []),
  (32, 1, .iaload, []),
  (33, 1, .imul, []),
  (34, 1, .aload_n 0, []),
  (35, 3, .getfield 47, [6, 7, 2, 0, 229]),
  (38, 1, .iload_n 3, []),
  (39, 1, .iconst 1, [1, 0]),
  (40, 1, .iadd, []),
  (41, 1, .iaload, []),
  (42, 1, .iadd, []),
  (43, 3, .invokevirtual 166, [75, 2, 2, 0, 345, 346, 347, 44]),
  (46, 1, .aload_n 0, []),
  (47, 3, .getfield 53, [6, 8, 2, 0, 230]),
  (50, 1, .iconst 2, [2, 0]),
  (51, 3, .sipush 256, [256, 0]),
  (54, 1, .aload_n 0, []),
  (55, 3, .getfield 47, [6, 7, 2, 0, 229]),
  (58, 1, .iload_n 3, []),
  (59, 1, .iconst 2, [2, 0]),
  (60, 1, .iadd, []),
  (61, 1, .iaload, []),
  (62, 1, .imul, []),
  (63, 1, .aload_n 0, []),
  (64, 3, .getfield 47, [6, 7, 2, 0, 229]),
  (67, 1, .iload_n 3, []),
  (68, 1, .iconst 3, [3, 0]),
  (69, 1, .iadd, []),
  (70, 1, .iaload, []),
  (71, 1, .iadd, []),
  (72, 3, .invokevirtual 166, [75, 2, 2, 0, 345, 346, 347, 44]),
  (75, 1, .aload_n 0, []),
  (76, 3, .getfield 17, [6, 1, 2, 0, 223]),
  (79, 1, .iload_n 1, []),
  (80, 2, .bipush 16, [16, 0]),
  (82, 1, .imul, []),
  (83, 1, .iload_n 2, []),
  (84, 1, .iadd, []),
  (85, 1, .aaload, []),
  (86, 2, .astore 4, []),
  (88, 2, .aload 4, []),
  (90, 1, .lconst 0, [0]),
  (91, 1, .lconst 0, [0]),
  (92, 1, .iconst 0, [0, 0]),
  (93, 3, .invokevirtual 107, [3, 3, 0, 0, 362, 363, 364, 41]),
  (96, 1, .iconst 0, [0, 0]),
  (97, 2, .istore 5, []),
  (99, 2, .iload 5, []),
  (101, 2, .bipush 33, [33, 0]),
  (103, 3, .if_icmp .ge (24), [77]),
  (106, 2, .aload 4, []),
  (108, 1, .aload_n 0, []),
  (109, 3, .getfield 53, [6, 8, 2, 0, 230]),
  (112, 3, .getfield 169, [2, 0, 2, 1, 7]),
  (115, 2, .iload 5, []),
  (117, 1, .iaload, []),
  (118, 3, .invokevirtual 115, [1, 1, 0, 0, 366, 367, 368, 41]),
  (121, 3, .iinc 5 (1), [1, 0]),
  (124, 3, .goto (-25), [65]),
  (127, 1, .aload_n 0, []),
  (128, 3, .getfield 53, [6, 8, 2, 0, 230]),
  (131, 3, .invokevirtual 172, [9, 0, 2, 0, 370, 371, 372, 44]),
  (134, 2, .istore 5, []),
  (136, 2, .aload 4, []),
  (138, 1, .aload_n 0, []),
  (139, 3, .getfield 53, [6, 8, 2, 0, 230]),
  (142, 3, .invokevirtual 176, [10, 0, 2, 0, 374, 375, 376, 44]),
  (145, 3, .invokestatic 179, [57, 2, 0, 378, 379, 40]),
  (148, 2, .aload 4, []),
  (150, 2, .iload 5, []),
  (152, 2, .bipush 16, [16, 0]),
  (154, 1, .idiv, []),
  (155, 3, .invokestatic 179, [57, 2, 0, 378, 379, 40]),
  (158, 2, .aload 4, []),
  (160, 2, .iload 5, []),
  (162, 1, .iconst 4, [4, 0]),
  (163, 1, .idiv, []),
  (164, 1, .iconst 4, [4, 0]),
  (165, 1, .irem, []),
  (166, 3, .invokestatic 179, [57, 2, 0, 378, 379, 40]),
  (169, 2, .aload 4, []),
  (171, 2, .iload 5, []),
  (173, 1, .iconst 4, [4, 0]),
  (174, 1, .irem, []),
  (175, 3, .invokestatic 179, [57, 2, 0, 378, 379, 40]),
  (178, 1, .return_, [])]
theorem po_Arc_spellStrand : ma_ok me_Arc_spellStrand pr_Arc_spellStrand := ma_ok_of (by decide +kernel)
theorem pa_Arc_spellStrand_0 : pr_Arc_spellStrand[0]? = some (0, 1, .iload_n 2, []) := rfl
theorem pa_Arc_spellStrand_1 : pr_Arc_spellStrand[1]? = some (1, 1, .iconst 4, [4, 0]) := rfl
theorem pa_Arc_spellStrand_2 : pr_Arc_spellStrand[2]? = some (2, 1, .imul, []) := rfl
theorem pa_Arc_spellStrand_3 : pr_Arc_spellStrand[3]? = some (3, 1, .istore_n 3, []) := rfl
theorem pa_Arc_spellStrand_4 : pr_Arc_spellStrand[4]? = some (4, 1, .aload_n 0, []) := rfl
theorem pa_Arc_spellStrand_5 : pr_Arc_spellStrand[5]? = some (5, 3, .getfield 53, [6, 8, 2, 0, 230]) := rfl
theorem pa_Arc_spellStrand_6 : pr_Arc_spellStrand[6]? = some (8, 1, .iconst 0, [0, 0]) := rfl
theorem pa_Arc_spellStrand_7 : pr_Arc_spellStrand[7]? = some (9, 3, .sipush 256, [256, 0]) := rfl
theorem pa_Arc_spellStrand_8 : pr_Arc_spellStrand[8]? = some (12, 1, .iload_n 1, []) := rfl
theorem pa_Arc_spellStrand_9 : pr_Arc_spellStrand[9]? = some (13, 1, .imul, []) := rfl
theorem pa_Arc_spellStrand_10 : pr_Arc_spellStrand[10]? = some (14, 1, .iload_n 2, []) := rfl
theorem pa_Arc_spellStrand_11 : pr_Arc_spellStrand[11]? = some (15, 1, .iadd, []) := rfl
theorem pa_Arc_spellStrand_12 : pr_Arc_spellStrand[12]? = some (16, 3, .invokevirtual 166, [75, 2, 2, 0, 345, 346, 347, 44]) := rfl
theorem pa_Arc_spellStrand_13 : pr_Arc_spellStrand[13]? = some (19, 1, .aload_n 0, []) := rfl
theorem pa_Arc_spellStrand_14 : pr_Arc_spellStrand[14]? = some (20, 3, .getfield 53, [6, 8, 2, 0, 230]) := rfl
theorem pa_Arc_spellStrand_15 : pr_Arc_spellStrand[15]? = some (23, 1, .iconst 1, [1, 0]) := rfl
theorem pa_Arc_spellStrand_16 : pr_Arc_spellStrand[16]? = some (24, 3, .sipush 256, [256, 0]) := rfl
theorem pa_Arc_spellStrand_17 : pr_Arc_spellStrand[17]? = some (27, 1, .aload_n 0, []) := rfl
theorem pa_Arc_spellStrand_18 : pr_Arc_spellStrand[18]? = some (28, 3, .getfield 47, [6, 7, 2, 0, 229]) := rfl
theorem pa_Arc_spellStrand_19 : pr_Arc_spellStrand[19]? = some (31, 1, .iload_n 3, []) := rfl
theorem pa_Arc_spellStrand_20 : pr_Arc_spellStrand[20]? = some (32, 1, .iaload, []) := rfl
theorem pa_Arc_spellStrand_21 : pr_Arc_spellStrand[21]? = some (33, 1, .imul, []) := rfl
theorem pa_Arc_spellStrand_22 : pr_Arc_spellStrand[22]? = some (34, 1, .aload_n 0, []) := rfl
theorem pa_Arc_spellStrand_23 : pr_Arc_spellStrand[23]? = some (35, 3, .getfield 47, [6, 7, 2, 0, 229]) := rfl
theorem pa_Arc_spellStrand_24 : pr_Arc_spellStrand[24]? = some (38, 1, .iload_n 3, []) := rfl
theorem pa_Arc_spellStrand_25 : pr_Arc_spellStrand[25]? = some (39, 1, .iconst 1, [1, 0]) := rfl
theorem pa_Arc_spellStrand_26 : pr_Arc_spellStrand[26]? = some (40, 1, .iadd, []) := rfl
theorem pa_Arc_spellStrand_27 : pr_Arc_spellStrand[27]? = some (41, 1, .iaload, []) := rfl
theorem pa_Arc_spellStrand_28 : pr_Arc_spellStrand[28]? = some (42, 1, .iadd, []) := rfl
theorem pa_Arc_spellStrand_29 : pr_Arc_spellStrand[29]? = some (43, 3, .invokevirtual 166, [75, 2, 2, 0, 345, 346, 347, 44]) := rfl
theorem pa_Arc_spellStrand_30 : pr_Arc_spellStrand[30]? = some (46, 1, .aload_n 0, []) := rfl
theorem pa_Arc_spellStrand_31 : pr_Arc_spellStrand[31]? = some (47, 3, .getfield 53, [6, 8, 2, 0, 230]) := rfl
theorem pa_Arc_spellStrand_32 : pr_Arc_spellStrand[32]? = some (50, 1, .iconst 2, [2, 0]) := rfl
theorem pa_Arc_spellStrand_33 : pr_Arc_spellStrand[33]? = some (51, 3, .sipush 256, [256, 0]) := rfl
theorem pa_Arc_spellStrand_34 : pr_Arc_spellStrand[34]? = some (54, 1, .aload_n 0, []) := rfl
theorem pa_Arc_spellStrand_35 : pr_Arc_spellStrand[35]? = some (55, 3, .getfield 47, [6, 7, 2, 0, 229]) := rfl
theorem pa_Arc_spellStrand_36 : pr_Arc_spellStrand[36]? = some (58, 1, .iload_n 3, []) := rfl
theorem pa_Arc_spellStrand_37 : pr_Arc_spellStrand[37]? = some (59, 1, .iconst 2, [2, 0]) := rfl
theorem pa_Arc_spellStrand_38 : pr_Arc_spellStrand[38]? = some (60, 1, .iadd, []) := rfl
theorem pa_Arc_spellStrand_39 : pr_Arc_spellStrand[39]? = some (61, 1, .iaload, []) := rfl
theorem pa_Arc_spellStrand_40 : pr_Arc_spellStrand[40]? = some (62, 1, .imul, []) := rfl
theorem pa_Arc_spellStrand_41 : pr_Arc_spellStrand[41]? = some (63, 1, .aload_n 0, []) := rfl
theorem pa_Arc_spellStrand_42 : pr_Arc_spellStrand[42]? = some (64, 3, .getfield 47, [6, 7, 2, 0, 229]) := rfl
theorem pa_Arc_spellStrand_43 : pr_Arc_spellStrand[43]? = some (67, 1, .iload_n 3, []) := rfl
theorem pa_Arc_spellStrand_44 : pr_Arc_spellStrand[44]? = some (68, 1, .iconst 3, [3, 0]) := rfl
theorem pa_Arc_spellStrand_45 : pr_Arc_spellStrand[45]? = some (69, 1, .iadd, []) := rfl
theorem pa_Arc_spellStrand_46 : pr_Arc_spellStrand[46]? = some (70, 1, .iaload, []) := rfl
theorem pa_Arc_spellStrand_47 : pr_Arc_spellStrand[47]? = some (71, 1, .iadd, []) := rfl
theorem pa_Arc_spellStrand_48 : pr_Arc_spellStrand[48]? = some (72, 3, .invokevirtual 166, [75, 2, 2, 0, 345, 346, 347, 44]) := rfl
theorem pa_Arc_spellStrand_49 : pr_Arc_spellStrand[49]? = some (75, 1, .aload_n 0, []) := rfl
theorem pa_Arc_spellStrand_50 : pr_Arc_spellStrand[50]? = some (76, 3, .getfield 17, [6, 1, 2, 0, 223]) := rfl
theorem pa_Arc_spellStrand_51 : pr_Arc_spellStrand[51]? = some (79, 1, .iload_n 1, []) := rfl
theorem pa_Arc_spellStrand_52 : pr_Arc_spellStrand[52]? = some (80, 2, .bipush 16, [16, 0]) := rfl
theorem pa_Arc_spellStrand_53 : pr_Arc_spellStrand[53]? = some (82, 1, .imul, []) := rfl
theorem pa_Arc_spellStrand_54 : pr_Arc_spellStrand[54]? = some (83, 1, .iload_n 2, []) := rfl
theorem pa_Arc_spellStrand_55 : pr_Arc_spellStrand[55]? = some (84, 1, .iadd, []) := rfl
theorem pa_Arc_spellStrand_56 : pr_Arc_spellStrand[56]? = some (85, 1, .aaload, []) := rfl
theorem pa_Arc_spellStrand_57 : pr_Arc_spellStrand[57]? = some (86, 2, .astore 4, []) := rfl
theorem pa_Arc_spellStrand_58 : pr_Arc_spellStrand[58]? = some (88, 2, .aload 4, []) := rfl
theorem pa_Arc_spellStrand_59 : pr_Arc_spellStrand[59]? = some (90, 1, .lconst 0, [0]) := rfl
theorem pa_Arc_spellStrand_60 : pr_Arc_spellStrand[60]? = some (91, 1, .lconst 0, [0]) := rfl
theorem pa_Arc_spellStrand_61 : pr_Arc_spellStrand[61]? = some (92, 1, .iconst 0, [0, 0]) := rfl
theorem pa_Arc_spellStrand_62 : pr_Arc_spellStrand[62]? = some (93, 3, .invokevirtual 107, [3, 3, 0, 0, 362, 363, 364, 41]) := rfl
theorem pa_Arc_spellStrand_63 : pr_Arc_spellStrand[63]? = some (96, 1, .iconst 0, [0, 0]) := rfl
theorem pa_Arc_spellStrand_64 : pr_Arc_spellStrand[64]? = some (97, 2, .istore 5, []) := rfl
theorem pa_Arc_spellStrand_65 : pr_Arc_spellStrand[65]? = some (99, 2, .iload 5, []) := rfl
theorem pa_Arc_spellStrand_66 : pr_Arc_spellStrand[66]? = some (101, 2, .bipush 33, [33, 0]) := rfl
theorem pa_Arc_spellStrand_67 : pr_Arc_spellStrand[67]? = some (103, 3, .if_icmp .ge (24), [77]) := rfl
theorem pa_Arc_spellStrand_68 : pr_Arc_spellStrand[68]? = some (106, 2, .aload 4, []) := rfl
theorem pa_Arc_spellStrand_69 : pr_Arc_spellStrand[69]? = some (108, 1, .aload_n 0, []) := rfl
theorem pa_Arc_spellStrand_70 : pr_Arc_spellStrand[70]? = some (109, 3, .getfield 53, [6, 8, 2, 0, 230]) := rfl
theorem pa_Arc_spellStrand_71 : pr_Arc_spellStrand[71]? = some (112, 3, .getfield 169, [2, 0, 2, 1, 7]) := rfl
theorem pa_Arc_spellStrand_72 : pr_Arc_spellStrand[72]? = some (115, 2, .iload 5, []) := rfl
theorem pa_Arc_spellStrand_73 : pr_Arc_spellStrand[73]? = some (117, 1, .iaload, []) := rfl
theorem pa_Arc_spellStrand_74 : pr_Arc_spellStrand[74]? = some (118, 3, .invokevirtual 115, [1, 1, 0, 0, 366, 367, 368, 41]) := rfl
theorem pa_Arc_spellStrand_75 : pr_Arc_spellStrand[75]? = some (121, 3, .iinc 5 (1), [1, 0]) := rfl
theorem pa_Arc_spellStrand_76 : pr_Arc_spellStrand[76]? = some (124, 3, .goto (-25), [65]) := rfl
theorem pa_Arc_spellStrand_77 : pr_Arc_spellStrand[77]? = some (127, 1, .aload_n 0, []) := rfl
theorem pa_Arc_spellStrand_78 : pr_Arc_spellStrand[78]? = some (128, 3, .getfield 53, [6, 8, 2, 0, 230]) := rfl
theorem pa_Arc_spellStrand_79 : pr_Arc_spellStrand[79]? = some (131, 3, .invokevirtual 172, [9, 0, 2, 0, 370, 371, 372, 44]) := rfl
theorem pa_Arc_spellStrand_80 : pr_Arc_spellStrand[80]? = some (134, 2, .istore 5, []) := rfl
theorem pa_Arc_spellStrand_81 : pr_Arc_spellStrand[81]? = some (136, 2, .aload 4, []) := rfl
theorem pa_Arc_spellStrand_82 : pr_Arc_spellStrand[82]? = some (138, 1, .aload_n 0, []) := rfl
theorem pa_Arc_spellStrand_83 : pr_Arc_spellStrand[83]? = some (139, 3, .getfield 53, [6, 8, 2, 0, 230]) := rfl
theorem pa_Arc_spellStrand_84 : pr_Arc_spellStrand[84]? = some (142, 3, .invokevirtual 176, [10, 0, 2, 0, 374, 375, 376, 44]) := rfl
theorem pa_Arc_spellStrand_85 : pr_Arc_spellStrand[85]? = some (145, 3, .invokestatic 179, [57, 2, 0, 378, 379, 40]) := rfl
theorem pa_Arc_spellStrand_86 : pr_Arc_spellStrand[86]? = some (148, 2, .aload 4, []) := rfl
theorem pa_Arc_spellStrand_87 : pr_Arc_spellStrand[87]? = some (150, 2, .iload 5, []) := rfl
theorem pa_Arc_spellStrand_88 : pr_Arc_spellStrand[88]? = some (152, 2, .bipush 16, [16, 0]) := rfl
theorem pa_Arc_spellStrand_89 : pr_Arc_spellStrand[89]? = some (154, 1, .idiv, []) := rfl
theorem pa_Arc_spellStrand_90 : pr_Arc_spellStrand[90]? = some (155, 3, .invokestatic 179, [57, 2, 0, 378, 379, 40]) := rfl
theorem pa_Arc_spellStrand_91 : pr_Arc_spellStrand[91]? = some (158, 2, .aload 4, []) := rfl
theorem pa_Arc_spellStrand_92 : pr_Arc_spellStrand[92]? = some (160, 2, .iload 5, []) := rfl
theorem pa_Arc_spellStrand_93 : pr_Arc_spellStrand[93]? = some (162, 1, .iconst 4, [4, 0]) := rfl
theorem pa_Arc_spellStrand_94 : pr_Arc_spellStrand[94]? = some (163, 1, .idiv, []) := rfl
theorem pa_Arc_spellStrand_95 : pr_Arc_spellStrand[95]? = some (164, 1, .iconst 4, [4, 0]) := rfl
theorem pa_Arc_spellStrand_96 : pr_Arc_spellStrand[96]? = some (165, 1, .irem, []) := rfl
theorem pa_Arc_spellStrand_97 : pr_Arc_spellStrand[97]? = some (166, 3, .invokestatic 179, [57, 2, 0, 378, 379, 40]) := rfl
theorem pa_Arc_spellStrand_98 : pr_Arc_spellStrand[98]? = some (169, 2, .aload 4, []) := rfl
theorem pa_Arc_spellStrand_99 : pr_Arc_spellStrand[99]? = some (171, 2, .iload 5, []) := rfl
theorem pa_Arc_spellStrand_100 : pr_Arc_spellStrand[100]? = some (173, 1, .iconst 4, [4, 0]) := rfl
theorem pa_Arc_spellStrand_101 : pr_Arc_spellStrand[101]? = some (174, 1, .irem, []) := rfl
theorem pa_Arc_spellStrand_102 : pr_Arc_spellStrand[102]? = some (175, 3, .invokestatic 179, [57, 2, 0, 378, 379, 40]) := rfl
theorem pa_Arc_spellStrand_103 : pr_Arc_spellStrand[103]? = some (178, 1, .return_, []) := rfl
def pa_Arc_spellStrand := And.intro pa_Arc_spellStrand_0 (And.intro pa_Arc_spellStrand_1 (And.intro pa_Arc_spellStrand_2 (And.intro pa_Arc_spellStrand_3 (And.intro pa_Arc_spellStrand_4 (And.intro pa_Arc_spellStrand_5 (And.intro pa_Arc_spellStrand_6 (And.intro pa_Arc_spellStrand_7 (And.intro pa_Arc_spellStrand_8 (And.intro pa_Arc_spellStrand_9 (And.intro pa_Arc_spellStrand_10 (And.intro pa_Arc_spellStrand_11 (And.intro pa_Arc_spellStrand_12 (And.intro pa_Arc_spellStrand_13 (And.intro pa_Arc_spellStrand_14 (And.intro pa_Arc_spellStrand_15 (And.intro pa_Arc_spellStrand_16 (And.intro pa_Arc_spellStrand_17 (And.intro pa_Arc_spellStrand_18 (And.intro pa_Arc_spellStrand_19 (And.intro pa_Arc_spellStrand_20 (And.intro pa_Arc_spellStrand_21 (And.intro pa_Arc_spellStrand_22 (And.intro pa_Arc_spellStrand_23 (And.intro pa_Arc_spellStrand_24 (And.intro pa_Arc_spellStrand_25 (And.intro pa_Arc_spellStrand_26 (And.intro pa_Arc_spellStrand_27 (And.intro pa_Arc_spellStrand_28 (And.intro pa_Arc_spellStrand_29 (And.intro pa_Arc_spellStrand_30 (And.intro pa_Arc_spellStrand_31 (And.intro pa_Arc_spellStrand_32 (And.intro pa_Arc_spellStrand_33 (And.intro pa_Arc_spellStrand_34 (And.intro pa_Arc_spellStrand_35 (And.intro pa_Arc_spellStrand_36 (And.intro pa_Arc_spellStrand_37 (And.intro pa_Arc_spellStrand_38 (And.intro pa_Arc_spellStrand_39 (And.intro pa_Arc_spellStrand_40 (And.intro pa_Arc_spellStrand_41 (And.intro pa_Arc_spellStrand_42 (And.intro pa_Arc_spellStrand_43 (And.intro pa_Arc_spellStrand_44 (And.intro pa_Arc_spellStrand_45 (And.intro pa_Arc_spellStrand_46 (And.intro pa_Arc_spellStrand_47 (And.intro pa_Arc_spellStrand_48 (And.intro pa_Arc_spellStrand_49 (And.intro pa_Arc_spellStrand_50 (And.intro pa_Arc_spellStrand_51 (And.intro pa_Arc_spellStrand_52 (And.intro pa_Arc_spellStrand_53 (And.intro pa_Arc_spellStrand_54 (And.intro pa_Arc_spellStrand_55 (And.intro pa_Arc_spellStrand_56 (And.intro pa_Arc_spellStrand_57 (And.intro pa_Arc_spellStrand_58 (And.intro pa_Arc_spellStrand_59 (And.intro pa_Arc_spellStrand_60 (And.intro pa_Arc_spellStrand_61 (And.intro pa_Arc_spellStrand_62 (And.intro pa_Arc_spellStrand_63 (And.intro pa_Arc_spellStrand_64 (And.intro pa_Arc_spellStrand_65 (And.intro pa_Arc_spellStrand_66 (And.intro pa_Arc_spellStrand_67 (And.intro pa_Arc_spellStrand_68 (And.intro pa_Arc_spellStrand_69 (And.intro pa_Arc_spellStrand_70 (And.intro pa_Arc_spellStrand_71 (And.intro pa_Arc_spellStrand_72 (And.intro pa_Arc_spellStrand_73 (And.intro pa_Arc_spellStrand_74 (And.intro pa_Arc_spellStrand_75 (And.intro pa_Arc_spellStrand_76 (And.intro pa_Arc_spellStrand_77 (And.intro pa_Arc_spellStrand_78 (And.intro pa_Arc_spellStrand_79 (And.intro pa_Arc_spellStrand_80 (And.intro pa_Arc_spellStrand_81 (And.intro pa_Arc_spellStrand_82 (And.intro pa_Arc_spellStrand_83 (And.intro pa_Arc_spellStrand_84 (And.intro pa_Arc_spellStrand_85 (And.intro pa_Arc_spellStrand_86 (And.intro pa_Arc_spellStrand_87 (And.intro pa_Arc_spellStrand_88 (And.intro pa_Arc_spellStrand_89 (And.intro pa_Arc_spellStrand_90 (And.intro pa_Arc_spellStrand_91 (And.intro pa_Arc_spellStrand_92 (And.intro pa_Arc_spellStrand_93 (And.intro pa_Arc_spellStrand_94 (And.intro pa_Arc_spellStrand_95 (And.intro pa_Arc_spellStrand_96 (And.intro pa_Arc_spellStrand_97 (And.intro pa_Arc_spellStrand_98 (And.intro pa_Arc_spellStrand_99 (And.intro pa_Arc_spellStrand_100 (And.intro pa_Arc_spellStrand_101 (And.intro pa_Arc_spellStrand_102 (pa_Arc_spellStrand_103)))))))))))))))))))))))))))))))))))))))))))))))))))))))))))))))))))))))))))))))))))))))))))))))))))))))
def pr_Mod_isMended : List ma_E := [(0, 1, .iconst 0, [0, 0]),
  (1, 1, .istore_n 2, []),
  (2, 1, .iconst 0, [0, 0]),
  (3, 1, .istore_n 3, []),
  (4, 1, .iload_n 3, []),
  (5, 2, .bipush 16, [16, 0]),
  (7, 3, .if_icmp .ge (32), [25]),
  (10, 1, .iload_n 2, []),
  (11, 1, .aload_n 0, []),
  (12, 3, .getfield 38, [7, 15, 2, 0, 635]),
  (15, 2, .bipush 16, [16, 0]),
  (17, 1, .iload_n 1, []),
  (18, 1, .imul, []),
  (19, 1, .iload_n 3, []),
  (20, 1, .iadd, []),
  (21, 1, .iaload, []),
  (22, 1, .iconst 1, [1, 0]),
  (23, 3, .if_icmp .ne (7), [20]),
  (26, 1, .iconst 0, [0, 0]),
  (27, 3, .goto (4), [21]),
  (30, 1, .iconst 1, [1, 0]),
  (31, 1, .iadd, []),
  (32, 1, .istore_n 2, []),
  (33, 3, .iinc 3 (1), [1, 0]),
  (36, 3, .goto (-32), [4]),
  (39, 1, .aload_n 0, []),
  (40, 3, .getfield 26, [7, 11, 2, 0, 631]),
  (43, 1, .iload_n 1, []),
  (44, 1, .iload_n 2, []),
  (45, 1, .iastore, []),
  (46, 1, .iconst 0, [0, 0]),
  (47, 1, .istore_n 3, []),
  (48, 1, .iconst 1, [1, 0]),
  (49, 2, .istore 4, []),
  (51, 1, .iconst 0, [0, 0]),
  (52, 2, .istore 5, []),
  (54, 2, .iload 5, []),
  (56, 1, .iconst 4, [4, 0]),
  (57, 3, .if_icmp .ge (197), [150]),
  (60, 2, .iload 4, []),
  (62, 3, .ifCond .eq (192), [150]),
  (65, 1, .iconst 0, [0, 0]),
  (66, 2, .istore 6, []),
  (68, 2, .iload 6, []),
  (70, 2, .bipush 16, [16, 0]),
  (72, 3, .if_icmp .ge (53), [76]),
  (75, 1, .aload_n 0, []),
  (76, 3, .getfield 44, [7, 17, 2, 0, 637]),
  (79, 2, .iload 6, []),
  (81, 1, .aload_n 0, []),
  (82, 3, .getfield 38, [7, 15, 2, 0, 635]),
  (85, 2, .bipush 16, [16, 0]),
  (87, 1, .iload_n 1, []),
  (88, 1, .imul, []),
  (89, 2, .iload 6, []),
  (91, 1, .iadd, []),
  (92, 1, .iaload, []),
  (93, 1, .iconst 1, [1, 0]),
  (94, 3, .if_icmp .ne (23), [72]),
  (97, 1, .aload_n 0, []),
  (98, 3, .getfield 41, [7, 16, 2, 0, 636]),
  (101, 2, .bipush 64, [64, 0]),
  (103, 1, .iload_n 1, []),
  (104, 1, .imul, []),
  (105, 1, .iconst 4, [4, 0]),
  (106, 2, .iload 6, []),
  (108, 1, .imul, []),
  (109, 1, .iadd, []),
  (110, 2, .iload 5, []),
  (112, 1, .iadd, []),
  (113, 1, .iaload, []),
  (114, 3, .goto (4), [73]),
  (117, 1, .iconst 0, [0, 0]),
  (118, 1, .iastore, []),
  (119, 3, .iinc 6 (1), [1, 0]),
  (122, 3, .goto (-54), [43]),
  (125, 1, .aload_n 0, []),
  (126, 1, .iload_n 1, []),
  (127, 1, .iload_n 2, []),
  (128, 3, .invokevirtual 139, [89, 2, 7, 0, 790, 792, 38, 47]),
  (131, 2, .istore 4, []),
  (133, 1, .iconst 0, [0, 0]),
  (134, 2, .istore 6, []),
  (136, 2, .iload 6, []),
  (138, 2, .bipush 16, [16, 0]),
  (140, 3, .if_icmp .ge (108), [148]),
  (143, 2, .iload 4, []),
  (145, 3, .ifCond .eq (103), [148]),
  (148, 1, .aload_n 0, []),
  (149, 3, .getfield 38, [7, 15, 2, 0, 635]),
  (152, 2, .bipush 16, [16, 0]),
  (154, 1, .iload_n 1, []),
  (155, 1, .imul, []),
  (156, 2, .iload 6, []),
  (158, 1, .iadd, []),
  (159, 1, .iaload, []),
  (160, 1, .iconst 1, [1, 0]),
  (161, 3, .if_icmp .ne (37), [121]),
  (164, 1, .aload_n 0, []),
  (165, 3, .getfield 44, [7, 17, 2, 0, 637]),
  (168, 2, .iload 6, []),
  (170, 1, .iaload, []),
  (171, 1, .aload_n 0, []),
  (172, 3, .getfield 41, [7, 16, 2, 0, 636]),
  (175, 2, .bipush 64, [64, 0]),
  (177, 1, .iload_n 1, []),
  (178, 1, .imul, []),
  (179, 1, .iconst 4, [4, 0]),
  (180, 2, .iload 6, []),
  (182, 1, .imul, []),
  (183, 1, .iadd, []),
  (184, 2, .iload 5, []),
  (186, 1, .iadd, []),
  (187, 1, .iaload, []),
  (188, 3, .if_icmp .eq (10), [121]),
  (191, 1, .iload_n 3, []),
  (192, 1, .iconst 1, [1, 0]),
  (193, 2, .iload 6, []),
  (195, 1, .ishl, []),
  (196, 1, .ior, []),
  (197, 1, .istore_n 3, []),
  (198, 2, .bipush 40, [40, 0]),
  (200, 1, .iload_n 1, []),
  (201, 1, .imul, []),
  (202, 1, .iconst 4, [4, 0]),
  (203, 2, .iload 6, []),
  (205, 1, .imul, []),
  (206, 1, .iadd, []),
  (207, 2, .iload 5, []),
  (209, 1, .iadd, []),
  (210, 2, .istore 7, []),
  (212, 2, .iload 6, []),
  (214, 2, .bipush 10, [10, 0]),
  (216, 3, .if_icmp .ge (26), [146]),
  (219, 2, .iload 7, []),
  (221, 1, .aload_n 0, []),
  (222, 3, .getfield 121, [7, 7, 0, 0, 627]),
  (225, 3, .if_icmp .ge (17), [146]),
  (228, 1, .aload_n 0, []),
  (229, 3, .getfield 23, [7, 10, 2, 0, 630]),
  (232, 2, .iload 7, []),
  (234, 1, .aload_n 0, []),
  (235, 3, .getfield 44, [7, 17, 2, 0, 637]),
  (238, 2, .iload 6, []),
  (240, 1, .iaload, []),
  (241, 1, .iastore, []),
  (242, 3, .iinc 6 (1), [1, 0]),
  (245, 3, .goto (-109), [83]),
  (248, 3, .iinc 5 (1), [1, 0]),
  (251, 3, .goto (-197), [36]),
  (254, 1, .aload_n 0, []),
  (255, 3, .getfield 29, [7, 12, 2, 0, 632]),
  (258, 1, .iload_n 1, []),
  (259, 1, .iconst 0, [0, 0]),
  (260, 1, .iastore, []),
  (261, 1, .iconst 0, [0, 0]),
  (262, 2, .istore 5, []),
  (264, 2, .iload 5, []),
  (266, 2, .bipush 16, [16, 0]),
  (268, 3, .if_icmp .ge (24), [174]),
  (271, 1, .aload_n 0, []),
  (272, 3, .getfield 29, [7, 12, 2, 0, 632]),
  (275, 1, .iload_n 1, []),
  (276, 1, .dup2, []),
  (277, 1, .iaload, []),
  (278, 1, .iload_n 3, []),
  (279, 2, .iload 5, []),
  (281, 1, .ishr, []),
  (282, 1, .iconst 1, [1, 0]),
  (283, 1, .iand, []),
  (284, 1, .iadd, []),
  (285, 1, .iastore, []),
  (286, 3, .iinc 5 (1), [1, 0]),
  (289, 3, .goto (-25), [157]),
  (292, 2, .bipush 40, [40, 0]),
  (294, 1, .iload_n 1, []),
  (295, 1, .imul, []),
  (296, 2, .istore 5, []),
  (298, 2, .iload 5, []),
  (300, 2, .bipush 40, [40, 0]),
  (302, 1, .iload_n 1, []),
  (303, 1, .imul, []),
  (304, 2, .bipush 40, [40, 0]),
  (306, 1, .iadd, []),
  (307, 3, .if_icmp .ge (31), [198]),
  (310, 2, .iload 5, []),
  (312, 1, .aload_n 0, []),
  (313, 3, .getfield 121, [7, 7, 0, 0, 627]),
  (316, 3, .if_icmp .ge (22), [198]),
  (319, 2, .iload 4, []),
  (321, 3, .ifCond .ne (17), [198]),
  (324, 1, .aload_n 0, []),
  (325, 3, .getfield 23, [7, 10, 2, 0, 630]),
  (328, 2, .iload 5, []),
  (330, 1, .iconst 0, [0, 0]),
  (331, 1, .iastore, []),
  (332, 3, .iinc 5 (1), [1, 0]),
  (335, 3, .goto (-37), [178]),
  (338, 2, .iload 4, []),
  (340, 3, .ifCond .ne (10), [205]),
  (343, 1, .aload_n 0, []),
  (344, 3, .getfield 29, [7, 12, 2, 0, 632]),
  (347, 1, .iload_n 1, []),
  (348, 1, .iconst (-1), [1, 1]),
  (349, 1, .iastore, []),
  (350, 2, .iload 4, []),
  (352, 1, .ireturn, [1])]
theorem po_Mod_isMended : ma_ok me_Mod_isMended pr_Mod_isMended := ma_ok_of (by decide +kernel)
theorem pa_Mod_isMended_0 : pr_Mod_isMended[0]? = some (0, 1, .iconst 0, [0, 0]) := rfl
theorem pa_Mod_isMended_1 : pr_Mod_isMended[1]? = some (1, 1, .istore_n 2, []) := rfl
theorem pa_Mod_isMended_2 : pr_Mod_isMended[2]? = some (2, 1, .iconst 0, [0, 0]) := rfl
theorem pa_Mod_isMended_3 : pr_Mod_isMended[3]? = some (3, 1, .istore_n 3, []) := rfl
theorem pa_Mod_isMended_4 : pr_Mod_isMended[4]? = some (4, 1, .iload_n 3, []) := rfl
theorem pa_Mod_isMended_5 : pr_Mod_isMended[5]? = some (5, 2, .bipush 16, [16, 0]) := rfl
theorem pa_Mod_isMended_6 : pr_Mod_isMended[6]? = some (7, 3, .if_icmp .ge (32), [25]) := rfl
theorem pa_Mod_isMended_7 : pr_Mod_isMended[7]? = some (10, 1, .iload_n 2, []) := rfl
theorem pa_Mod_isMended_8 : pr_Mod_isMended[8]? = some (11, 1, .aload_n 0, []) := rfl
theorem pa_Mod_isMended_9 : pr_Mod_isMended[9]? = some (12, 3, .getfield 38, [7, 15, 2, 0, 635]) := rfl
theorem pa_Mod_isMended_10 : pr_Mod_isMended[10]? = some (15, 2, .bipush 16, [16, 0]) := rfl
theorem pa_Mod_isMended_11 : pr_Mod_isMended[11]? = some (17, 1, .iload_n 1, []) := rfl
theorem pa_Mod_isMended_12 : pr_Mod_isMended[12]? = some (18, 1, .imul, []) := rfl
theorem pa_Mod_isMended_13 : pr_Mod_isMended[13]? = some (19, 1, .iload_n 3, []) := rfl
theorem pa_Mod_isMended_14 : pr_Mod_isMended[14]? = some (20, 1, .iadd, []) := rfl
theorem pa_Mod_isMended_15 : pr_Mod_isMended[15]? = some (21, 1, .iaload, []) := rfl
theorem pa_Mod_isMended_16 : pr_Mod_isMended[16]? = some (22, 1, .iconst 1, [1, 0]) := rfl
theorem pa_Mod_isMended_17 : pr_Mod_isMended[17]? = some (23, 3, .if_icmp .ne (7), [20]) := rfl
theorem pa_Mod_isMended_18 : pr_Mod_isMended[18]? = some (26, 1, .iconst 0, [0, 0]) := rfl
theorem pa_Mod_isMended_19 : pr_Mod_isMended[19]? = some (27, 3, .goto (4), [21]) := rfl
theorem pa_Mod_isMended_20 : pr_Mod_isMended[20]? = some (30, 1, .iconst 1, [1, 0]) := rfl
theorem pa_Mod_isMended_21 : pr_Mod_isMended[21]? = some (31, 1, .iadd, []) := rfl
theorem pa_Mod_isMended_22 : pr_Mod_isMended[22]? = some (32, 1, .istore_n 2, []) := rfl
theorem pa_Mod_isMended_23 : pr_Mod_isMended[23]? = some (33, 3, .iinc 3 (1), [1, 0]) := rfl
theorem pa_Mod_isMended_24 : pr_Mod_isMended[24]? = some (36, 3, .goto (-32), [4]) := rfl
theorem pa_Mod_isMended_25 : pr_Mod_isMended[25]? = some (39, 1, .aload_n 0, []) := rfl
theorem pa_Mod_isMended_26 : pr_Mod_isMended[26]? = some (40, 3, .getfield 26, [7, 11, 2, 0, 631]) := rfl
theorem pa_Mod_isMended_27 : pr_Mod_isMended[27]? = some (43, 1, .iload_n 1, []) := rfl
theorem pa_Mod_isMended_28 : pr_Mod_isMended[28]? = some (44, 1, .iload_n 2, []) := rfl
theorem pa_Mod_isMended_29 : pr_Mod_isMended[29]? = some (45, 1, .iastore, []) := rfl
theorem pa_Mod_isMended_30 : pr_Mod_isMended[30]? = some (46, 1, .iconst 0, [0, 0]) := rfl
theorem pa_Mod_isMended_31 : pr_Mod_isMended[31]? = some (47, 1, .istore_n 3, []) := rfl
theorem pa_Mod_isMended_32 : pr_Mod_isMended[32]? = some (48, 1, .iconst 1, [1, 0]) := rfl
theorem pa_Mod_isMended_33 : pr_Mod_isMended[33]? = some (49, 2, .istore 4, []) := rfl
theorem pa_Mod_isMended_34 : pr_Mod_isMended[34]? = some (51, 1, .iconst 0, [0, 0]) := rfl
theorem pa_Mod_isMended_35 : pr_Mod_isMended[35]? = some (52, 2, .istore 5, []) := rfl
theorem pa_Mod_isMended_36 : pr_Mod_isMended[36]? = some (54, 2, .iload 5, []) := rfl
theorem pa_Mod_isMended_37 : pr_Mod_isMended[37]? = some (56, 1, .iconst 4, [4, 0]) := rfl
theorem pa_Mod_isMended_38 : pr_Mod_isMended[38]? = some (57, 3, .if_icmp .ge (197), [150]) := rfl
theorem pa_Mod_isMended_39 : pr_Mod_isMended[39]? = some (60, 2, .iload 4, []) := rfl
theorem pa_Mod_isMended_40 : pr_Mod_isMended[40]? = some (62, 3, .ifCond .eq (192), [150]) := rfl
theorem pa_Mod_isMended_41 : pr_Mod_isMended[41]? = some (65, 1, .iconst 0, [0, 0]) := rfl
theorem pa_Mod_isMended_42 : pr_Mod_isMended[42]? = some (66, 2, .istore 6, []) := rfl
theorem pa_Mod_isMended_43 : pr_Mod_isMended[43]? = some (68, 2, .iload 6, []) := rfl
theorem pa_Mod_isMended_44 : pr_Mod_isMended[44]? = some (70, 2, .bipush 16, [16, 0]) := rfl
theorem pa_Mod_isMended_45 : pr_Mod_isMended[45]? = some (72, 3, .if_icmp .ge (53), [76]) := rfl
theorem pa_Mod_isMended_46 : pr_Mod_isMended[46]? = some (75, 1, .aload_n 0, []) := rfl
theorem pa_Mod_isMended_47 : pr_Mod_isMended[47]? = some (76, 3, .getfield 44, [7, 17, 2, 0, 637]) := rfl
theorem pa_Mod_isMended_48 : pr_Mod_isMended[48]? = some (79, 2, .iload 6, []) := rfl
theorem pa_Mod_isMended_49 : pr_Mod_isMended[49]? = some (81, 1, .aload_n 0, []) := rfl
theorem pa_Mod_isMended_50 : pr_Mod_isMended[50]? = some (82, 3, .getfield 38, [7, 15, 2, 0, 635]) := rfl
theorem pa_Mod_isMended_51 : pr_Mod_isMended[51]? = some (85, 2, .bipush 16, [16, 0]) := rfl
theorem pa_Mod_isMended_52 : pr_Mod_isMended[52]? = some (87, 1, .iload_n 1, []) := rfl
theorem pa_Mod_isMended_53 : pr_Mod_isMended[53]? = some (88, 1, .imul, []) := rfl
theorem pa_Mod_isMended_54 : pr_Mod_isMended[54]? = some (89, 2, .iload 6, []) := rfl
theorem pa_Mod_isMended_55 : pr_Mod_isMended[55]? = some (91, 1, .iadd, []) := rfl
theorem pa_Mod_isMended_56 : pr_Mod_isMended[56]? = some (92, 1, .iaload, []) := rfl
theorem pa_Mod_isMended_57 : pr_Mod_isMended[57]? = some (93, 1, .iconst 1, [1, 0]) := rfl
theorem pa_Mod_isMended_58 : pr_Mod_isMended[58]? = some (94, 3, .if_icmp .ne (23), [72]) := rfl
theorem pa_Mod_isMended_59 : pr_Mod_isMended[59]? = some (97, 1, .aload_n 0, []) := rfl
theorem pa_Mod_isMended_60 : pr_Mod_isMended[60]? = some (98, 3, .getfield 41, [7, 16, 2, 0, 636]) := rfl
theorem pa_Mod_isMended_61 : pr_Mod_isMended[61]? = some (101, 2, .bipush 64, [64, 0]) := rfl
theorem pa_Mod_isMended_62 : pr_Mod_isMended[62]? = some (103, 1, .iload_n 1, []) := rfl
theorem pa_Mod_isMended_63 : pr_Mod_isMended[63]? = some (104, 1, .imul, []) := rfl
theorem pa_Mod_isMended_64 : pr_Mod_isMended[64]? = some (105, 1, .iconst 4, [4, 0]) := rfl
theorem pa_Mod_isMended_65 : pr_Mod_isMended[65]? = some (106, 2, .iload 6, []) := rfl
theorem pa_Mod_isMended_66 : pr_Mod_isMended[66]? = some (108, 1, .imul, []) := rfl
theorem pa_Mod_isMended_67 : pr_Mod_isMended[67]? = some (109, 1, .iadd, []) := rfl
theorem pa_Mod_isMended_68 : pr_Mod_isMended[68]? = some (110, 2, .iload 5, []) := rfl
theorem pa_Mod_isMended_69 : pr_Mod_isMended[69]? = some (112, 1, .iadd, []) := rfl
theorem pa_Mod_isMended_70 : pr_Mod_isMended[70]? = some (113, 1, .iaload, []) := rfl
theorem pa_Mod_isMended_71 : pr_Mod_isMended[71]? = some (114, 3, .goto (4), [73]) := rfl
theorem pa_Mod_isMended_72 : pr_Mod_isMended[72]? = some (117, 1, .iconst 0, [0, 0]) := rfl
theorem pa_Mod_isMended_73 : pr_Mod_isMended[73]? = some (118, 1, .iastore, []) := rfl
theorem pa_Mod_isMended_74 : pr_Mod_isMended[74]? = some (119, 3, .iinc 6 (1), [1, 0]) := rfl
theorem pa_Mod_isMended_75 : pr_Mod_isMended[75]? = some (122, 3, .goto (-54), [43]) := rfl
theorem pa_Mod_isMended_76 : pr_Mod_isMended[76]? = some (125, 1, .aload_n 0, []) := rfl
theorem pa_Mod_isMended_77 : pr_Mod_isMended[77]? = some (126, 1, .iload_n 1, []) := rfl
theorem pa_Mod_isMended_78 : pr_Mod_isMended[78]? = some (127, 1, .iload_n 2, []) := rfl
theorem pa_Mod_isMended_79 : pr_Mod_isMended[79]? = some (128, 3, .invokevirtual 139, [89, 2, 7, 0, 790, 792, 38, 47]) := rfl
theorem pa_Mod_isMended_80 : pr_Mod_isMended[80]? = some (131, 2, .istore 4, []) := rfl
theorem pa_Mod_isMended_81 : pr_Mod_isMended[81]? = some (133, 1, .iconst 0, [0, 0]) := rfl
theorem pa_Mod_isMended_82 : pr_Mod_isMended[82]? = some (134, 2, .istore 6, []) := rfl
theorem pa_Mod_isMended_83 : pr_Mod_isMended[83]? = some (136, 2, .iload 6, []) := rfl
theorem pa_Mod_isMended_84 : pr_Mod_isMended[84]? = some (138, 2, .bipush 16, [16, 0]) := rfl
theorem pa_Mod_isMended_85 : pr_Mod_isMended[85]? = some (140, 3, .if_icmp .ge (108), [148]) := rfl
theorem pa_Mod_isMended_86 : pr_Mod_isMended[86]? = some (143, 2, .iload 4, []) := rfl
theorem pa_Mod_isMended_87 : pr_Mod_isMended[87]? = some (145, 3, .ifCond .eq (103), [148]) := rfl
theorem pa_Mod_isMended_88 : pr_Mod_isMended[88]? = some (148, 1, .aload_n 0, []) := rfl
theorem pa_Mod_isMended_89 : pr_Mod_isMended[89]? = some (149, 3, .getfield 38, [7, 15, 2, 0, 635]) := rfl
theorem pa_Mod_isMended_90 : pr_Mod_isMended[90]? = some (152, 2, .bipush 16, [16, 0]) := rfl
theorem pa_Mod_isMended_91 : pr_Mod_isMended[91]? = some (154, 1, .iload_n 1, []) := rfl
theorem pa_Mod_isMended_92 : pr_Mod_isMended[92]? = some (155, 1, .imul, []) := rfl
theorem pa_Mod_isMended_93 : pr_Mod_isMended[93]? = some (156, 2, .iload 6, []) := rfl
theorem pa_Mod_isMended_94 : pr_Mod_isMended[94]? = some (158, 1, .iadd, []) := rfl
theorem pa_Mod_isMended_95 : pr_Mod_isMended[95]? = some (159, 1, .iaload, []) := rfl
theorem pa_Mod_isMended_96 : pr_Mod_isMended[96]? = some (160, 1, .iconst 1, [1, 0]) := rfl
theorem pa_Mod_isMended_97 : pr_Mod_isMended[97]? = some (161, 3, .if_icmp .ne (37), [121]) := rfl
theorem pa_Mod_isMended_98 : pr_Mod_isMended[98]? = some (164, 1, .aload_n 0, []) := rfl
theorem pa_Mod_isMended_99 : pr_Mod_isMended[99]? = some (165, 3, .getfield 44, [7, 17, 2, 0, 637]) := rfl
theorem pa_Mod_isMended_100 : pr_Mod_isMended[100]? = some (168, 2, .iload 6, []) := rfl
theorem pa_Mod_isMended_101 : pr_Mod_isMended[101]? = some (170, 1, .iaload, []) := rfl
theorem pa_Mod_isMended_102 : pr_Mod_isMended[102]? = some (171, 1, .aload_n 0, []) := rfl
theorem pa_Mod_isMended_103 : pr_Mod_isMended[103]? = some (172, 3, .getfield 41, [7, 16, 2, 0, 636]) := rfl
theorem pa_Mod_isMended_104 : pr_Mod_isMended[104]? = some (175, 2, .bipush 64, [64, 0]) := rfl
theorem pa_Mod_isMended_105 : pr_Mod_isMended[105]? = some (177, 1, .iload_n 1, []) := rfl
theorem pa_Mod_isMended_106 : pr_Mod_isMended[106]? = some (178, 1, .imul, []) := rfl
theorem pa_Mod_isMended_107 : pr_Mod_isMended[107]? = some (179, 1, .iconst 4, [4, 0]) := rfl
theorem pa_Mod_isMended_108 : pr_Mod_isMended[108]? = some (180, 2, .iload 6, []) := rfl
theorem pa_Mod_isMended_109 : pr_Mod_isMended[109]? = some (182, 1, .imul, []) := rfl
theorem pa_Mod_isMended_110 : pr_Mod_isMended[110]? = some (183, 1, .iadd, []) := rfl
theorem pa_Mod_isMended_111 : pr_Mod_isMended[111]? = some (184, 2, .iload 5, []) := rfl
theorem pa_Mod_isMended_112 : pr_Mod_isMended[112]? = some (186, 1, .iadd, []) := rfl
theorem pa_Mod_isMended_113 : pr_Mod_isMended[113]? = some (187, 1, .iaload, []) := rfl
theorem pa_Mod_isMended_114 : pr_Mod_isMended[114]? = some (188, 3, .if_icmp .eq (10), [121]) := rfl
theorem pa_Mod_isMended_115 : pr_Mod_isMended[115]? = some (191, 1, .iload_n 3, []) := rfl
theorem pa_Mod_isMended_116 : pr_Mod_isMended[116]? = some (192, 1, .iconst 1, [1, 0]) := rfl
theorem pa_Mod_isMended_117 : pr_Mod_isMended[117]? = some (193, 2, .iload 6, []) := rfl
theorem pa_Mod_isMended_118 : pr_Mod_isMended[118]? = some (195, 1, .ishl, []) := rfl
theorem pa_Mod_isMended_119 : pr_Mod_isMended[119]? = some (196, 1, .ior, []) := rfl
theorem pa_Mod_isMended_120 : pr_Mod_isMended[120]? = some (197, 1, .istore_n 3, []) := rfl
theorem pa_Mod_isMended_121 : pr_Mod_isMended[121]? = some (198, 2, .bipush 40, [40, 0]) := rfl
theorem pa_Mod_isMended_122 : pr_Mod_isMended[122]? = some (200, 1, .iload_n 1, []) := rfl
theorem pa_Mod_isMended_123 : pr_Mod_isMended[123]? = some (201, 1, .imul, []) := rfl
theorem pa_Mod_isMended_124 : pr_Mod_isMended[124]? = some (202, 1, .iconst 4, [4, 0]) := rfl
theorem pa_Mod_isMended_125 : pr_Mod_isMended[125]? = some (203, 2, .iload 6, []) := rfl
theorem pa_Mod_isMended_126 : pr_Mod_isMended[126]? = some (205, 1, .imul, []) := rfl
theorem pa_Mod_isMended_127 : pr_Mod_isMended[127]? = some (206, 1, .iadd, []) := rfl
theorem pa_Mod_isMended_128 : pr_Mod_isMended[128]? = some (207, 2, .iload 5, []) := rfl
theorem pa_Mod_isMended_129 : pr_Mod_isMended[129]? = some (209, 1, .iadd, []) := rfl
theorem pa_Mod_isMended_130 : pr_Mod_isMended[130]? = some (210, 2, .istore 7, []) := rfl
theorem pa_Mod_isMended_131 : pr_Mod_isMended[131]? = some (212, 2, .iload 6, []) := rfl
theorem pa_Mod_isMended_132 : pr_Mod_isMended[132]? = some (214, 2, .bipush 10, [10, 0]) := rfl
theorem pa_Mod_isMended_133 : pr_Mod_isMended[133]? = some (216, 3, .if_icmp .ge (26), [146]) := rfl
theorem pa_Mod_isMended_134 : pr_Mod_isMended[134]? = some (219, 2, .iload 7, []) := rfl
theorem pa_Mod_isMended_135 : pr_Mod_isMended[135]? = some (221, 1, .aload_n 0, []) := rfl
theorem pa_Mod_isMended_136 : pr_Mod_isMended[136]? = some (222, 3, .getfield 121, [7, 7, 0, 0, 627]) := rfl
theorem pa_Mod_isMended_137 : pr_Mod_isMended[137]? = some (225, 3, .if_icmp .ge (17), [146]) := rfl
theorem pa_Mod_isMended_138 : pr_Mod_isMended[138]? = some (228, 1, .aload_n 0, []) := rfl
theorem pa_Mod_isMended_139 : pr_Mod_isMended[139]? = some (229, 3, .getfield 23, [7, 10, 2, 0, 630]) := rfl
theorem pa_Mod_isMended_140 : pr_Mod_isMended[140]? = some (232, 2, .iload 7, []) := rfl
theorem pa_Mod_isMended_141 : pr_Mod_isMended[141]? = some (234, 1, .aload_n 0, []) := rfl
theorem pa_Mod_isMended_142 : pr_Mod_isMended[142]? = some (235, 3, .getfield 44, [7, 17, 2, 0, 637]) := rfl
theorem pa_Mod_isMended_143 : pr_Mod_isMended[143]? = some (238, 2, .iload 6, []) := rfl
theorem pa_Mod_isMended_144 : pr_Mod_isMended[144]? = some (240, 1, .iaload, []) := rfl
theorem pa_Mod_isMended_145 : pr_Mod_isMended[145]? = some (241, 1, .iastore, []) := rfl
theorem pa_Mod_isMended_146 : pr_Mod_isMended[146]? = some (242, 3, .iinc 6 (1), [1, 0]) := rfl
theorem pa_Mod_isMended_147 : pr_Mod_isMended[147]? = some (245, 3, .goto (-109), [83]) := rfl
theorem pa_Mod_isMended_148 : pr_Mod_isMended[148]? = some (248, 3, .iinc 5 (1), [1, 0]) := rfl
theorem pa_Mod_isMended_149 : pr_Mod_isMended[149]? = some (251, 3, .goto (-197), [36]) := rfl
theorem pa_Mod_isMended_150 : pr_Mod_isMended[150]? = some (254, 1, .aload_n 0, []) := rfl
theorem pa_Mod_isMended_151 : pr_Mod_isMended[151]? = some (255, 3, .getfield 29, [7, 12, 2, 0, 632]) := rfl
theorem pa_Mod_isMended_152 : pr_Mod_isMended[152]? = some (258, 1, .iload_n 1, []) := rfl
theorem pa_Mod_isMended_153 : pr_Mod_isMended[153]? = some (259, 1, .iconst 0, [0, 0]) := rfl
theorem pa_Mod_isMended_154 : pr_Mod_isMended[154]? = some (260, 1, .iastore, []) := rfl
theorem pa_Mod_isMended_155 : pr_Mod_isMended[155]? = some (261, 1, .iconst 0, [0, 0]) := rfl
theorem pa_Mod_isMended_156 : pr_Mod_isMended[156]? = some (262, 2, .istore 5, []) := rfl
theorem pa_Mod_isMended_157 : pr_Mod_isMended[157]? = some (264, 2, .iload 5, []) := rfl
theorem pa_Mod_isMended_158 : pr_Mod_isMended[158]? = some (266, 2, .bipush 16, [16, 0]) := rfl
theorem pa_Mod_isMended_159 : pr_Mod_isMended[159]? = some (268, 3, .if_icmp .ge (24), [174]) := rfl
theorem pa_Mod_isMended_160 : pr_Mod_isMended[160]? = some (271, 1, .aload_n 0, []) := rfl
theorem pa_Mod_isMended_161 : pr_Mod_isMended[161]? = some (272, 3, .getfield 29, [7, 12, 2, 0, 632]) := rfl
theorem pa_Mod_isMended_162 : pr_Mod_isMended[162]? = some (275, 1, .iload_n 1, []) := rfl
theorem pa_Mod_isMended_163 : pr_Mod_isMended[163]? = some (276, 1, .dup2, []) := rfl
theorem pa_Mod_isMended_164 : pr_Mod_isMended[164]? = some (277, 1, .iaload, []) := rfl
theorem pa_Mod_isMended_165 : pr_Mod_isMended[165]? = some (278, 1, .iload_n 3, []) := rfl
theorem pa_Mod_isMended_166 : pr_Mod_isMended[166]? = some (279, 2, .iload 5, []) := rfl
theorem pa_Mod_isMended_167 : pr_Mod_isMended[167]? = some (281, 1, .ishr, []) := rfl
theorem pa_Mod_isMended_168 : pr_Mod_isMended[168]? = some (282, 1, .iconst 1, [1, 0]) := rfl
theorem pa_Mod_isMended_169 : pr_Mod_isMended[169]? = some (283, 1, .iand, []) := rfl
theorem pa_Mod_isMended_170 : pr_Mod_isMended[170]? = some (284, 1, .iadd, []) := rfl
theorem pa_Mod_isMended_171 : pr_Mod_isMended[171]? = some (285, 1, .iastore, []) := rfl
theorem pa_Mod_isMended_172 : pr_Mod_isMended[172]? = some (286, 3, .iinc 5 (1), [1, 0]) := rfl
theorem pa_Mod_isMended_173 : pr_Mod_isMended[173]? = some (289, 3, .goto (-25), [157]) := rfl
theorem pa_Mod_isMended_174 : pr_Mod_isMended[174]? = some (292, 2, .bipush 40, [40, 0]) := rfl
theorem pa_Mod_isMended_175 : pr_Mod_isMended[175]? = some (294, 1, .iload_n 1, []) := rfl
theorem pa_Mod_isMended_176 : pr_Mod_isMended[176]? = some (295, 1, .imul, []) := rfl
theorem pa_Mod_isMended_177 : pr_Mod_isMended[177]? = some (296, 2, .istore 5, []) := rfl
theorem pa_Mod_isMended_178 : pr_Mod_isMended[178]? = some (298, 2, .iload 5, []) := rfl
theorem pa_Mod_isMended_179 : pr_Mod_isMended[179]? = some (300, 2, .bipush 40, [40, 0]) := rfl
theorem pa_Mod_isMended_180 : pr_Mod_isMended[180]? = some (302, 1, .iload_n 1, []) := rfl
theorem pa_Mod_isMended_181 : pr_Mod_isMended[181]? = some (303, 1, .imul, []) := rfl
theorem pa_Mod_isMended_182 : pr_Mod_isMended[182]? = some (304, 2, .bipush 40, [40, 0]) := rfl
theorem pa_Mod_isMended_183 : pr_Mod_isMended[183]? = some (306, 1, .iadd, []) := rfl
theorem pa_Mod_isMended_184 : pr_Mod_isMended[184]? = some (307, 3, .if_icmp .ge (31), [198]) := rfl
theorem pa_Mod_isMended_185 : pr_Mod_isMended[185]? = some (310, 2, .iload 5, []) := rfl
theorem pa_Mod_isMended_186 : pr_Mod_isMended[186]? = some (312, 1, .aload_n 0, []) := rfl
theorem pa_Mod_isMended_187 : pr_Mod_isMended[187]? = some (313, 3, .getfield 121, [7, 7, 0, 0, 627]) := rfl
theorem pa_Mod_isMended_188 : pr_Mod_isMended[188]? = some (316, 3, .if_icmp .ge (22), [198]) := rfl
theorem pa_Mod_isMended_189 : pr_Mod_isMended[189]? = some (319, 2, .iload 4, []) := rfl
theorem pa_Mod_isMended_190 : pr_Mod_isMended[190]? = some (321, 3, .ifCond .ne (17), [198]) := rfl
theorem pa_Mod_isMended_191 : pr_Mod_isMended[191]? = some (324, 1, .aload_n 0, []) := rfl
theorem pa_Mod_isMended_192 : pr_Mod_isMended[192]? = some (325, 3, .getfield 23, [7, 10, 2, 0, 630]) := rfl
theorem pa_Mod_isMended_193 : pr_Mod_isMended[193]? = some (328, 2, .iload 5, []) := rfl
theorem pa_Mod_isMended_194 : pr_Mod_isMended[194]? = some (330, 1, .iconst 0, [0, 0]) := rfl
theorem pa_Mod_isMended_195 : pr_Mod_isMended[195]? = some (331, 1, .iastore, []) := rfl
theorem pa_Mod_isMended_196 : pr_Mod_isMended[196]? = some (332, 3, .iinc 5 (1), [1, 0]) := rfl
theorem pa_Mod_isMended_197 : pr_Mod_isMended[197]? = some (335, 3, .goto (-37), [178]) := rfl
theorem pa_Mod_isMended_198 : pr_Mod_isMended[198]? = some (338, 2, .iload 4, []) := rfl
theorem pa_Mod_isMended_199 : pr_Mod_isMended[199]? = some (340, 3, .ifCond .ne (10), [205]) := rfl
theorem pa_Mod_isMended_200 : pr_Mod_isMended[200]? = some (343, 1, .aload_n 0, []) := rfl
set_option maxRecDepth 5000 in
theorem pa_Mod_isMended_201 : pr_Mod_isMended[201]? = some (344, 3, .getfield 29, [7, 12, 2, 0, 632]) := rfl
set_option maxRecDepth 5000 in
theorem pa_Mod_isMended_202 : pr_Mod_isMended[202]? = some (347, 1, .iload_n 1, []) := rfl
set_option maxRecDepth 5000 in
theorem pa_Mod_isMended_203 : pr_Mod_isMended[203]? = some (348, 1, .iconst (-1), [1, 1]) := rfl
set_option maxRecDepth 5000 in
theorem pa_Mod_isMended_204 : pr_Mod_isMended[204]? = some (349, 1, .iastore, []) := rfl
set_option maxRecDepth 5000 in
theorem pa_Mod_isMended_205 : pr_Mod_isMended[205]? = some (350, 2, .iload 4, []) := rfl
set_option maxRecDepth 5000 in
theorem pa_Mod_isMended_206 : pr_Mod_isMended[206]? = some (352, 1, .ireturn, [1]) := rfl
set_option maxRecDepth 30000 in
def pa_Mod_isMended := And.intro pa_Mod_isMended_0 (And.intro pa_Mod_isMended_1 (And.intro pa_Mod_isMended_2 (And.intro pa_Mod_isMended_3 (And.intro pa_Mod_isMended_4 (And.intro pa_Mod_isMended_5 (And.intro pa_Mod_isMended_6 (And.intro pa_Mod_isMended_7 (And.intro pa_Mod_isMended_8 (And.intro pa_Mod_isMended_9 (And.intro pa_Mod_isMended_10 (And.intro pa_Mod_isMended_11 (And.intro pa_Mod_isMended_12 (And.intro pa_Mod_isMended_13 (And.intro pa_Mod_isMended_14 (And.intro pa_Mod_isMended_15 (And.intro pa_Mod_isMended_16 (And.intro pa_Mod_isMended_17 (And.intro pa_Mod_isMended_18 (And.intro pa_Mod_isMended_19 (And.intro pa_Mod_isMended_20 (And.intro pa_Mod_isMended_21 (And.intro pa_Mod_isMended_22 (And.intro pa_Mod_isMended_23 (And.intro pa_Mod_isMended_24 (And.intro pa_Mod_isMended_25 (And.intro pa_Mod_isMended_26 (And.intro pa_Mod_isMended_27 (And.intro pa_Mod_isMended_28 (And.intro pa_Mod_isMended_29 (And.intro pa_Mod_isMended_30 (And.intro pa_Mod_isMended_31 (And.intro pa_Mod_isMended_32 (And.intro pa_Mod_isMended_33 (And.intro pa_Mod_isMended_34 (And.intro pa_Mod_isMended_35 (And.intro pa_Mod_isMended_36 (And.intro pa_Mod_isMended_37 (And.intro pa_Mod_isMended_38 (And.intro pa_Mod_isMended_39 (And.intro pa_Mod_isMended_40 (And.intro pa_Mod_isMended_41 (And.intro pa_Mod_isMended_42 (And.intro pa_Mod_isMended_43 (And.intro pa_Mod_isMended_44 (And.intro pa_Mod_isMended_45 (And.intro pa_Mod_isMended_46 (And.intro pa_Mod_isMended_47 (And.intro pa_Mod_isMended_48 (And.intro pa_Mod_isMended_49 (And.intro pa_Mod_isMended_50 (And.intro pa_Mod_isMended_51 (And.intro pa_Mod_isMended_52 (And.intro pa_Mod_isMended_53 (And.intro pa_Mod_isMended_54 (And.intro pa_Mod_isMended_55 (And.intro pa_Mod_isMended_56 (And.intro pa_Mod_isMended_57 (And.intro pa_Mod_isMended_58 (And.intro pa_Mod_isMended_59 (And.intro pa_Mod_isMended_60 (And.intro pa_Mod_isMended_61 (And.intro pa_Mod_isMended_62 (And.intro pa_Mod_isMended_63 (And.intro pa_Mod_isMended_64 (And.intro pa_Mod_isMended_65 (And.intro pa_Mod_isMended_66 (And.intro pa_Mod_isMended_67 (And.intro pa_Mod_isMended_68 (And.intro pa_Mod_isMended_69 (And.intro pa_Mod_isMended_70 (And.intro pa_Mod_isMended_71 (And.intro pa_Mod_isMended_72 (And.intro pa_Mod_isMended_73 (And.intro pa_Mod_isMended_74 (And.intro pa_Mod_isMended_75 (And.intro pa_Mod_isMended_76 (And.intro pa_Mod_isMended_77 (And.intro pa_Mod_isMended_78 (And.intro pa_Mod_isMended_79 (And.intro pa_Mod_isMended_80 (And.intro pa_Mod_isMended_81 (And.intro pa_Mod_isMended_82 (And.intro pa_Mod_isMended_83 (And.intro pa_Mod_isMended_84 (And.intro pa_Mod_isMended_85 (And.intro pa_Mod_isMended_86 (And.intro pa_Mod_isMended_87 (And.intro pa_Mod_isMended_88 (And.intro pa_Mod_isMended_89 (And.intro pa_Mod_isMended_90 (And.intro pa_Mod_isMended_91 (And.intro pa_Mod_isMended_92 (And.intro pa_Mod_isMended_93 (And.intro pa_Mod_isMended_94 (And.intro pa_Mod_isMended_95 (And.intro pa_Mod_isMended_96 (And.intro pa_Mod_isMended_97 (And.intro pa_Mod_isMended_98 (And.intro pa_Mod_isMended_99 (And.intro pa_Mod_isMended_100 (And.intro pa_Mod_isMended_101 (And.intro pa_Mod_isMended_102 (And.intro pa_Mod_isMended_103 (And.intro pa_Mod_isMended_104 (And.intro pa_Mod_isMended_105 (And.intro pa_Mod_isMended_106 (And.intro pa_Mod_isMended_107 (And.intro pa_Mod_isMended_108 (And.intro pa_Mod_isMended_109 (And.intro pa_Mod_isMended_110 (And.intro pa_Mod_isMended_111 (And.intro pa_Mod_isMended_112 (And.intro pa_Mod_isMended_113 (And.intro pa_Mod_isMended_114 (And.intro pa_Mod_isMended_115 (And.intro pa_Mod_isMended_116 (And.intro pa_Mod_isMended_117 (And.intro pa_Mod_isMended_118 (And.intro pa_Mod_isMended_119 (And.intro pa_Mod_isMended_120 (And.intro pa_Mod_isMended_121 (And.intro pa_Mod_isMended_122 (And.intro pa_Mod_isMended_123 (And.intro pa_Mod_isMended_124 (And.intro pa_Mod_isMended_125 (And.intro pa_Mod_isMended_126 (And.intro pa_Mod_isMended_127 (And.intro pa_Mod_isMended_128 (And.intro pa_Mod_isMended_129 (And.intro pa_Mod_isMended_130 (And.intro pa_Mod_isMended_131 (And.intro pa_Mod_isMended_132 (And.intro pa_Mod_isMended_133 (And.intro pa_Mod_isMended_134 (And.intro pa_Mod_isMended_135 (And.intro pa_Mod_isMended_136 (And.intro pa_Mod_isMended_137 (And.intro pa_Mod_isMended_138 (And.intro pa_Mod_isMended_139 (And.intro pa_Mod_isMended_140 (And.intro pa_Mod_isMended_141 (And.intro pa_Mod_isMended_142 (And.intro pa_Mod_isMended_143 (And.intro pa_Mod_isMended_144 (And.intro pa_Mod_isMended_145 (And.intro pa_Mod_isMended_146 (And.intro pa_Mod_isMended_147 (And.intro pa_Mod_isMended_148 (And.intro pa_Mod_isMended_149 (And.intro pa_Mod_isMended_150 (And.intro pa_Mod_isMended_151 (And.intro pa_Mod_isMended_152 (And.intro pa_Mod_isMended_153 (And.intro pa_Mod_isMended_154 (And.intro pa_Mod_isMended_155 (And.intro pa_Mod_isMended_156 (And.intro pa_Mod_isMended_157 (And.intro pa_Mod_isMended_158 (And.intro pa_Mod_isMended_159 (And.intro pa_Mod_isMended_160 (And.intro pa_Mod_isMended_161 (And.intro pa_Mod_isMended_162 (And.intro pa_Mod_isMended_163 (And.intro pa_Mod_isMended_164 (And.intro pa_Mod_isMended_165 (And.intro pa_Mod_isMended_166 (And.intro pa_Mod_isMended_167 (And.intro pa_Mod_isMended_168 (And.intro pa_Mod_isMended_169 (And.intro pa_Mod_isMended_170 (And.intro pa_Mod_isMended_171 (And.intro pa_Mod_isMended_172 (And.intro pa_Mod_isMended_173 (And.intro pa_Mod_isMended_174 (And.intro pa_Mod_isMended_175 (And.intro pa_Mod_isMended_176 (And.intro pa_Mod_isMended_177 (And.intro pa_Mod_isMended_178 (And.intro pa_Mod_isMended_179 (And.intro pa_Mod_isMended_180 (And.intro pa_Mod_isMended_181 (And.intro pa_Mod_isMended_182 (And.intro pa_Mod_isMended_183 (And.intro pa_Mod_isMended_184 (And.intro pa_Mod_isMended_185 (And.intro pa_Mod_isMended_186 (And.intro pa_Mod_isMended_187 (And.intro pa_Mod_isMended_188 (And.intro pa_Mod_isMended_189 (And.intro pa_Mod_isMended_190 (And.intro pa_Mod_isMended_191 (And.intro pa_Mod_isMended_192 (And.intro pa_Mod_isMended_193 (And.intro pa_Mod_isMended_194 (And.intro pa_Mod_isMended_195 (And.intro pa_Mod_isMended_196 (And.intro pa_Mod_isMended_197 (And.intro pa_Mod_isMended_198 (And.intro pa_Mod_isMended_199 (And.intro pa_Mod_isMended_200 (And.intro pa_Mod_isMended_201 (And.intro pa_Mod_isMended_202 (And.intro pa_Mod_isMended_203 (And.intro pa_Mod_isMended_204 (And.intro pa_Mod_isMended_205 (pa_Mod_isMended_206))))))))))))))))))))))))))))))))))))))))))))))))))))))))))))))))))))))))))))))))))))))))))))))))))))))))))))))))))))))))))))))))))))))))))))))))))))))))))))))))))))))))))))))))))))))))))))))))))))))))))))))
def pr_Dec_mendColumn : List ma_E := [(0, 1, .iconst 0, [0, 0]),
  (1, 1, .istore_n 3, []),
  (2, 1, .iload_n 3, []),
  (3, 2, .bipush 16, [16, 0]),
  (5, 3, .if_icmp .ge (52), [34]),
  (8, 1, .iload_n 1, []),
  (9, 2, .bipush 16, [16, 0]),
  (11, 1, .imul, []),
  (12, 1, .iload_n 3, []),
  (13, 1, .iadd, []),
  (14, 2, .istore 4, []),
  (16, 1, .aload_n 0, []),
  (17, 3, .getfield 47, [5, 0, 2, 0, 182]),
  (20, 1, .iload_n 3, []),
  (21, 1, .aload_n 0, []),
  (22, 3, .getfield 22, [5, 3, 2, 0, 185]),
  (25, 2, .iload 4, []),
  (27, 1, .iconst 4, [4, 0]),
  (28, 1, .imul, []),
  (29, 1, .iload_n 2, []),
  (30, 1, .iadd, []),
  (31, 1, .iaload, []),
  (32, 1, .aload_n 0, []),
  (33, 3, .getfield 18, [5, 2, 2, 0, 184]),
  (36, 2, .iload 4, []),
  (38, 1, .iaload, []),
  (39, 1, .iconst 1, [1, 0]),
  (40, 3, .if_icmp .eq (7), [30]),
  (43, 1, .iconst 1, [1, 0]),
  (44, 3, .goto (4), [31]),
  (47, 1, .iconst 0, [0, 0]),
  (48, 3, .invokevirtual 98, [12, 3, 4, 0, 508, 272, 273, 43]),
  (51, 3, .iinc 3 (1), [1, 0]),
  (54, 3, .goto (-52), [2]),
  (57, 1, .aload_n 0, []),
  (58, 3, .getfield 47, [5, 0, 2, 0, 182]),
  (61, 3, .invokevirtual 104, [95, 0, 4, 0, 509, 276, 277, 43]),
  (64, 3, .ifCond .ne (5), [40]),
  (67, 1, .iconst 0, [0, 0]),
  (68, 1, .ireturn, [1]),
  (69, 1, .iconst 0, [0, 0]),
  (70, 1, .istore_n 3, []),
  (71, 1, .iload_n 3, []),
  (72, 2, .bipush 16, [16, 0]),
  (74, 3, .if_icmp .ge (93), [101]),
  (77, 1, .iload_n 1, []),
  (78, 2, .bipush 16, [16, 0]),
  (80, 1, .imul, []),
  (81, 1, .iload_n 3, []),
  (82, 1, .iadd, []),
  (83, 2, .istore 4, []),
  (85, 1, .aload_n 0, []),
  (86, 3, .getfield 18, [5, 2, 2, 0, 184]),
  (89, 2, .iload 4, []),
  (91, 1, .iaload, []),
  (92, 1, .iconst 1, [1, 0]),
  (93, 3, .if_icmp .ne (38), [79]),
  (96, 1, .aload_n 0, []),
  (97, 3, .getfield 47, [5, 0, 2, 0, 182]),
  (100, 3, .getfield 108, [4, 1, 2, 1, 5]),
  (103, 1, .iload_n 3, []),
  (104, 1, .iaload, []),
  (105, 1, .aload_n 0, []),
  (106, 3, .getfield 22, [5, 3, 2, 0, 185]),
  (109, 2, .iload 4, []),
  (111, 1, .iconst 4, [4, 0]),
  (112, 1, .imul, []),
  (113, 1, .iload_n 2, []),
  (114, 1, .iadd, []),
  (115, 1, .iaload, []),
  (116, 3, .if_icmp .eq (15), [79]),
  (119, 1, .aload_n 0, []),
  (120, 1, .dup, []),
  (121, 3, .getfield 25, [5, 4, 0, 0, 186]),
  (124, 1, .iconst 1, [1, 0]),
  (125, 1, .iload_n 3, []),
  (126, 1, .ishl, []),
  (127, 1, .ior, []),
  (128, 3, .putfield 25, [5, 4, 0, 0, 186]),
  (131, 1, .iload_n 3, []),
  (132, 2, .bipush 10, [10, 0]),
  (134, 3, .if_icmp .ge (27), [99]),
  (137, 1, .aload_n 0, []),
  (138, 3, .getfield 38, [5, 8, 2, 0, 193]),
  (141, 1, .iload_n 1, []),
  (142, 2, .bipush 40, [40, 0]),
  (144, 1, .imul, []),
  (145, 1, .iload_n 3, []),
  (146, 1, .iconst 4, [4, 0]),
  (147, 1, .imul, []),
  (148, 1, .iadd, []),
  (149, 1, .iload_n 2, []),
  (150, 1, .iadd, []),
  (151, 1, .aload_n 0, []),
  (152, 3, .getfield 47, [5, 0, 2, 0, 182]),
  (155, 3, .getfield 108, [4, 1, 2, 1, 5]),
  (158, 1, .iload_n 3, []),
  (159, 1, .iaload, []),
  (160, 1, .iastore, []),
  (161, 3, .iinc 3 (1), [1, 0]),
  (164, 3, .goto (-93), [42]),
  (167, 1, .iconst 1, [1, 0]),
  (168, 1, .ireturn, [1])]
theorem po_Dec_mendColumn : ma_ok me_Dec_mendColumn pr_Dec_mendColumn := ma_ok_of (by decide +kernel)
theorem pa_Dec_mendColumn_0 : pr_Dec_mendColumn[0]? = some (0, 1, .iconst 0, [0, 0]) := rfl
theorem pa_Dec_mendColumn_1 : pr_Dec_mendColumn[1]? = some (1, 1, .istore_n 3, []) := rfl
theorem pa_Dec_mendColumn_2 : pr_Dec_mendColumn[2]? = some (2, 1, .iload_n 3, []) := rfl
theorem pa_Dec_mendColumn_3 : pr_Dec_mendColumn[3]? = some (3, 2, .bipush 16, [16, 0]) := rfl
theorem pa_Dec_mendColumn_4 : pr_Dec_mendColumn[4]? = some (5, 3, .if_icmp .ge (52), [34]) := rfl
theorem pa_Dec_mendColumn_5 : pr_Dec_mendColumn[5]? = some (8, 1, .iload_n 1, []) := rfl
theorem pa_Dec_mendColumn_6 : pr_Dec_mendColumn[6]? = some (9, 2, .bipush 16, [16, 0]) := rfl
theorem pa_Dec_mendColumn_7 : pr_Dec_mendColumn[7]? = some (11, 1, .imul, []) := rfl
theorem pa_Dec_mendColumn_8 : pr_Dec_mendColumn[8]? = some (12, 1, .iload_n 3, []) := rfl
theorem pa_Dec_mendColumn_9 : pr_Dec_mendColumn[9]? = some (13, 1, .iadd, []) := rfl
theorem pa_Dec_mendColumn_10 : pr_Dec_mendColumn[10]? = some (14, 2, .istore 4, []) := rfl
theorem pa_Dec_mendColumn_11 : pr_Dec_mendColumn[11]? = some (16, 1, .aload_n 0, []) := rfl
theorem pa_Dec_mendColumn_12 : pr_Dec_mendColumn[12]? = some (17, 3, .getfield 47, [5, 0, 2, 0, 182]) := rfl
theorem pa_Dec_mendColumn_13 : pr_Dec_mendColumn[13]? = some (20, 1, .iload_n 3, []) := rfl
theorem pa_Dec_mendColumn_14 : pr_Dec_mendColumn[14]? = some (21, 1, .aload_n 0, []) := rfl
theorem pa_Dec_mendColumn_15 : pr_Dec_mendColumn[15]? = some (22, 3, .getfield 22, [5, 3, 2, 0, 185]) := rfl
theorem pa_Dec_mendColumn_16 : pr_Dec_mendColumn[16]? = some (25, 2, .iload 4, []) := rfl
theorem pa_Dec_mendColumn_17 : pr_Dec_mendColumn[17]? = some (27, 1, .iconst 4, [4, 0]) := rfl
theorem pa_Dec_mendColumn_18 : pr_Dec_mendColumn[18]? = some (28, 1, .imul, []) := rfl
theorem pa_Dec_mendColumn_19 : pr_Dec_mendColumn[19]? = some (29, 1, .iload_n 2, []) := rfl
theorem pa_Dec_mendColumn_20 : pr_Dec_mendColumn[20]? = some (30, 1, .iadd, []) := rfl
theorem pa_Dec_mendColumn_21 : pr_Dec_mendColumn[21]? = some (31, 1, .iaload, []) := rfl
theorem pa_Dec_mendColumn_22 : pr_Dec_mendColumn[22]? = some (32, 1, .aload_n 0, []) := rfl
theorem pa_Dec_mendColumn_23 : pr_Dec_mendColumn[23]? = some (33, 3, .getfield 18, [5, 2, 2, 0, 184]) := rfl
theorem pa_Dec_mendColumn_24 : pr_Dec_mendColumn[24]? = some (36, 2, .iload 4, []) := rfl
theorem pa_Dec_mendColumn_25 : pr_Dec_mendColumn[25]? = some (38, 1, .iaload, []) := rfl
theorem pa_Dec_mendColumn_26 : pr_Dec_mendColumn[26]? = some (39, 1, .iconst 1, [1, 0]) := rfl
theorem pa_Dec_mendColumn_27 : pr_Dec_mendColumn[27]? = some (40, 3, .if_icmp .eq (7), [30]) := rfl
theorem pa_Dec_mendColumn_28 : pr_Dec_mendColumn[28]? = some (43, 1, .iconst 1, [1, 0]) := rfl
theorem pa_Dec_mendColumn_29 : pr_Dec_mendColumn[29]? = some (44, 3, .goto (4), [31]) := rfl
theorem pa_Dec_mendColumn_30 : pr_Dec_mendColumn[30]? = some (47, 1, .iconst 0, [0, 0]) := rfl
theorem pa_Dec_mendColumn_31 : pr_Dec_mendColumn[31]? = some (48, 3, .invokevirtual 98, [12, 3, 4, 0, 508, 272, 273, 43]) := rfl
theorem pa_Dec_mendColumn_32 : pr_Dec_mendColumn[32]? = some (51, 3, .iinc 3 (1), [1, 0]) := rfl
theorem pa_Dec_mendColumn_33 : pr_Dec_mendColumn[33]? = some (54, 3, .goto (-52), [2]) := rfl
theorem pa_Dec_mendColumn_34 : pr_Dec_mendColumn[34]? = some (57, 1, .aload_n 0, []) := rfl
theorem pa_Dec_mendColumn_35 : pr_Dec_mendColumn[35]? = some (58, 3, .getfield 47, [5, 0, 2, 0, 182]) := rfl
theorem pa_Dec_mendColumn_36 : pr_Dec_mendColumn[36]? = some (61, 3, .invokevirtual 104, [95, 0, 4, 0, 509, 276, 277, 43]) := rfl
theorem pa_Dec_mendColumn_37 : pr_Dec_mendColumn[37]? = some (64, 3, .ifCond .ne (5), [40]) := rfl
theorem pa_Dec_mendColumn_38 : pr_Dec_mendColumn[38]? = some (67, 1, .iconst 0, [0, 0]) := rfl
theorem pa_Dec_mendColumn_39 : pr_Dec_mendColumn[39]? = some (68, 1, .ireturn, [1]) := rfl
theorem pa_Dec_mendColumn_40 : pr_Dec_mendColumn[40]? = some (69, 1, .iconst 0, [0, 0]) := rfl
theorem pa_Dec_mendColumn_41 : pr_Dec_mendColumn[41]? = some (70, 1, .istore_n 3, []) := rfl
theorem pa_Dec_mendColumn_42 : pr_Dec_mendColumn[42]? = some (71, 1, .iload_n 3, []) := rfl
theorem pa_Dec_mendColumn_43 : pr_Dec_mendColumn[43]? = some (72, 2, .bipush 16, [16, 0]) := rfl
theorem pa_Dec_mendColumn_44 : pr_Dec_mendColumn[44]? = some (74, 3, .if_icmp .ge (93), [101]) := rfl
theorem pa_Dec_mendColumn_45 : pr_Dec_mendColumn[45]? = some (77, 1, .iload_n 1, []) := rfl
theorem pa_Dec_mendColumn_46 : pr_Dec_mendColumn[46]? = some (78, 2, .bipush 16, [16, 0]) := rfl
theorem pa_Dec_mendColumn_47 : pr_Dec_mendColumn[47]? = some (80, 1, .imul, []) := rfl
theorem pa_Dec_mendColumn_48 : pr_Dec_mendColumn[48]? = some (81, 1, .iload_n 3, []) := rfl
theorem pa_Dec_mendColumn_49 : pr_Dec_mendColumn[49]? = some (82, 1, .iadd, []) := rfl
theorem pa_Dec_mendColumn_50 : pr_Dec_mendColumn[50]? = some (83, 2, .istore 4, []) := rfl
theorem pa_Dec_mendColumn_51 : pr_Dec_mendColumn[51]? = some (85, 1, .aload_n 0, []) := rfl
theorem pa_Dec_mendColumn_52 : pr_Dec_mendColumn[52]? = some (86, 3, .getfield 18, [5, 2, 2, 0, 184]) := rfl
theorem pa_Dec_mendColumn_53 : pr_Dec_mendColumn[53]? = some (89, 2, .iload 4, []) := rfl
theorem pa_Dec_mendColumn_54 : pr_Dec_mendColumn[54]? = some (91, 1, .iaload, []) := rfl
theorem pa_Dec_mendColumn_55 : pr_Dec_mendColumn[55]? = some (92, 1, .iconst 1, [1, 0]) := rfl
theorem pa_Dec_mendColumn_56 : pr_Dec_mendColumn[56]? = some (93, 3, .if_icmp .ne (38), [79]) := rfl
theorem pa_Dec_mendColumn_57 : pr_Dec_mendColumn[57]? = some (96, 1, .aload_n 0, []) := rfl
theorem pa_Dec_mendColumn_58 : pr_Dec_mendColumn[58]? = some (97, 3, .getfield 47, [5, 0, 2, 0, 182]) := rfl
theorem pa_Dec_mendColumn_59 : pr_Dec_mendColumn[59]? = some (100, 3, .getfield 108, [4, 1, 2, 1, 5]) := rfl
theorem pa_Dec_mendColumn_60 : pr_Dec_mendColumn[60]? = some (103, 1, .iload_n 3, []) := rfl
theorem pa_Dec_mendColumn_61 : pr_Dec_mendColumn[61]? = some (104, 1, .iaload, []) := rfl
theorem pa_Dec_mendColumn_62 : pr_Dec_mendColumn[62]? = some (105, 1, .aload_n 0, []) := rfl
theorem pa_Dec_mendColumn_63 : pr_Dec_mendColumn[63]? = some (106, 3, .getfield 22, [5, 3, 2, 0, 185]) := rfl
theorem pa_Dec_mendColumn_64 : pr_Dec_mendColumn[64]? = some (109, 2, .iload 4, []) := rfl
theorem pa_Dec_mendColumn_65 : pr_Dec_mendColumn[65]? = some (111, 1, .iconst 4, [4, 0]) := rfl
theorem pa_Dec_mendColumn_66 : pr_Dec_mendColumn[66]? = some (112, 1, .imul, []) := rfl
theorem pa_Dec_mendColumn_67 : pr_Dec_mendColumn[67]? = some (113, 1, .iload_n 2, []) := rfl
theorem pa_Dec_mendColumn_68 : pr_Dec_mendColumn[68]? = some (114, 1, .iadd, []) := rfl
theorem pa_Dec_mendColumn_69 : pr_Dec_mendColumn[69]? = some (115, 1, .iaload, []) := rfl
theorem pa_Dec_mendColumn_70 : pr_Dec_mendColumn[70]? = some (116, 3, .if_icmp .eq (15), [79]) := rfl
theorem pa_Dec_mendColumn_71 : pr_Dec_mendColumn[71]? = some (119, 1, .aload_n 0, []) := rfl
theorem pa_Dec_mendColumn_72 : pr_Dec_mendColumn[72]? = some (120, 1, .dup, []) := rfl
theorem pa_Dec_mendColumn_73 : pr_Dec_mendColumn[73]? = some (121, 3, .getfield 25, [5, 4, 0, 0, 186]) := rfl
theorem pa_Dec_mendColumn_74 : pr_Dec_mendColumn[74]? = some (124, 1, .iconst 1, [1, 0]) := rfl
theorem pa_Dec_mendColumn_75 : pr_Dec_mendColumn[75]? = some (125, 1, .iload_n 3, []) := rfl
theorem pa_Dec_mendColumn_76 : pr_Dec_mendColumn[76]? = some (126, 1, .ishl, []) := rfl
theorem pa_Dec_mendColumn_77 : pr_Dec_mendColumn[77]? = some (127, 1, .ior, []) := rfl
theorem pa_Dec_mendColumn_78 : pr_Dec_mendColumn[78]? = some (128, 3, .putfield 25, [5, 4, 0, 0, 186]) := rfl
theorem pa_Dec_mendColumn_79 : pr_Dec_mendColumn[79]? = some (131, 1, .iload_n 3, []) := rfl
theorem pa_Dec_mendColumn_80 : pr_Dec_mendColumn[80]? = some (132, 2, .bipush 10, [10, 0]) := rfl
theorem pa_Dec_mendColumn_81 : pr_Dec_mendColumn[81]? = some (134, 3, .if_icmp .ge (27), [99]) := rfl
theorem pa_Dec_mendColumn_82 : pr_Dec_mendColumn[82]? = some (137, 1, .aload_n 0, []) := rfl
theorem pa_Dec_mendColumn_83 : pr_Dec_mendColumn[83]? = some (138, 3, .getfield 38, [5, 8, 2, 0, 193]) := rfl
theorem pa_Dec_mendColumn_84 : pr_Dec_mendColumn[84]? = some (141, 1, .iload_n 1, []) := rfl
theorem pa_Dec_mendColumn_85 : pr_Dec_mendColumn[85]? = some (142, 2, .bipush 40, [40, 0]) := rfl
theorem pa_Dec_mendColumn_86 : pr_Dec_mendColumn[86]? = some (144, 1, .imul, []) := rfl
theorem pa_Dec_mendColumn_87 : pr_Dec_mendColumn[87]? = some (145, 1, .iload_n 3, []) := rfl
theorem pa_Dec_mendColumn_88 : pr_Dec_mendColumn[88]? = some (146, 1, .iconst 4, [4, 0]) := rfl
theorem pa_Dec_mendColumn_89 : pr_Dec_mendColumn[89]? = some (147, 1, .imul, []) := rfl
theorem pa_Dec_mendColumn_90 : pr_Dec_mendColumn[90]? = some (148, 1, .iadd, []) := rfl
theorem pa_Dec_mendColumn_91 : pr_Dec_mendColumn[91]? = some (149, 1, .iload_n 2, []) := rfl
theorem pa_Dec_mendColumn_92 : pr_Dec_mendColumn[92]? = some (150, 1, .iadd, []) := rfl
theorem pa_Dec_mendColumn_93 : pr_Dec_mendColumn[93]? = some (151, 1, .aload_n 0, []) := rfl
theorem pa_Dec_mendColumn_94 : pr_Dec_mendColumn[94]? = some (152, 3, .getfield 47, [5, 0, 2, 0, 182]) := rfl
theorem pa_Dec_mendColumn_95 : pr_Dec_mendColumn[95]? = some (155, 3, .getfield 108, [4, 1, 2, 1, 5]) := rfl
theorem pa_Dec_mendColumn_96 : pr_Dec_mendColumn[96]? = some (158, 1, .iload_n 3, []) := rfl
theorem pa_Dec_mendColumn_97 : pr_Dec_mendColumn[97]? = some (159, 1, .iaload, []) := rfl
theorem pa_Dec_mendColumn_98 : pr_Dec_mendColumn[98]? = some (160, 1, .iastore, []) := rfl
theorem pa_Dec_mendColumn_99 : pr_Dec_mendColumn[99]? = some (161, 3, .iinc 3 (1), [1, 0]) := rfl
theorem pa_Dec_mendColumn_100 : pr_Dec_mendColumn[100]? = some (164, 3, .goto (-93), [42]) := rfl
theorem pa_Dec_mendColumn_101 : pr_Dec_mendColumn[101]? = some (167, 1, .iconst 1, [1, 0]) := rfl
theorem pa_Dec_mendColumn_102 : pr_Dec_mendColumn[102]? = some (168, 1, .ireturn, [1]) := rfl
def pa_Dec_mendColumn := And.intro pa_Dec_mendColumn_0 (And.intro pa_Dec_mendColumn_1 (And.intro pa_Dec_mendColumn_2 (And.intro pa_Dec_mendColumn_3 (And.intro pa_Dec_mendColumn_4 (And.intro pa_Dec_mendColumn_5 (And.intro pa_Dec_mendColumn_6 (And.intro pa_Dec_mendColumn_7 (And.intro pa_Dec_mendColumn_8 (And.intro pa_Dec_mendColumn_9 (And.intro pa_Dec_mendColumn_10 (And.intro pa_Dec_mendColumn_11 (And.intro pa_Dec_mendColumn_12 (And.intro pa_Dec_mendColumn_13 (And.intro pa_Dec_mendColumn_14 (And.intro pa_Dec_mendColumn_15 (And.intro pa_Dec_mendColumn_16 (And.intro pa_Dec_mendColumn_17 (And.intro pa_Dec_mendColumn_18 (And.intro pa_Dec_mendColumn_19 (And.intro pa_Dec_mendColumn_20 (And.intro pa_Dec_mendColumn_21 (And.intro pa_Dec_mendColumn_22 (And.intro pa_Dec_mendColumn_23 (And.intro pa_Dec_mendColumn_24 (And.intro pa_Dec_mendColumn_25 (And.intro pa_Dec_mendColumn_26 (And.intro pa_Dec_mendColumn_27 (And.intro pa_Dec_mendColumn_28 (And.intro pa_Dec_mendColumn_29 (And.intro pa_Dec_mendColumn_30 (And.intro pa_Dec_mendColumn_31 (And.intro pa_Dec_mendColumn_32 (And.intro pa_Dec_mendColumn_33 (And.intro pa_Dec_mendColumn_34 (And.intro pa_Dec_mendColumn_35 (And.intro pa_Dec_mendColumn_36 (And.intro pa_Dec_mendColumn_37 (And.intro pa_Dec_mendColumn_38 (And.intro pa_Dec_mendColumn_39 (And.intro pa_Dec_mendColumn_40 (And.intro pa_Dec_mendColumn_41 (And.intro pa_Dec_mendColumn_42 (And.intro pa_Dec_mendColumn_43 (And.intro pa_Dec_mendColumn_44 (And.intro pa_Dec_mendColumn_45 (And.intro pa_Dec_mendColumn_46 (And.intro pa_Dec_mendColumn_47 (And.intro pa_Dec_mendColumn_48 (And.intro pa_Dec_mendColumn_49 (And.intro pa_Dec_mendColumn_50 (And.intro pa_Dec_mendColumn_51 (And.intro pa_Dec_mendColumn_52 (And.intro pa_Dec_mendColumn_53 (And.intro pa_Dec_mendColumn_54 (And.intro pa_Dec_mendColumn_55 (And.intro pa_Dec_mendColumn_56 (And.intro pa_Dec_mendColumn_57 (And.intro pa_Dec_mendColumn_58 (And.intro pa_Dec_mendColumn_59 (And.intro pa_Dec_mendColumn_60 (And.intro pa_Dec_mendColumn_61 (And.intro pa_Dec_mendColumn_62 (And.intro pa_Dec_mendColumn_63 (And.intro pa_Dec_mendColumn_64 (And.intro pa_Dec_mendColumn_65 (And.intro pa_Dec_mendColumn_66 (And.intro pa_Dec_mendColumn_67 (And.intro pa_Dec_mendColumn_68 (And.intro pa_Dec_mendColumn_69 (And.intro pa_Dec_mendColumn_70 (And.intro pa_Dec_mendColumn_71 (And.intro pa_Dec_mendColumn_72 (And.intro pa_Dec_mendColumn_73 (And.intro pa_Dec_mendColumn_74 (And.intro pa_Dec_mendColumn_75 (And.intro pa_Dec_mendColumn_76 (And.intro pa_Dec_mendColumn_77 (And.intro pa_Dec_mendColumn_78 (And.intro pa_Dec_mendColumn_79 (And.intro pa_Dec_mendColumn_80 (And.intro pa_Dec_mendColumn_81 (And.intro pa_Dec_mendColumn_82 (And.intro pa_Dec_mendColumn_83 (And.intro pa_Dec_mendColumn_84 (And.intro pa_Dec_mendColumn_85 (And.intro pa_Dec_mendColumn_86 (And.intro pa_Dec_mendColumn_87 (And.intro pa_Dec_mendColumn_88 (And.intro pa_Dec_mendColumn_89 (And.intro pa_Dec_mendColumn_90 (And.intro pa_Dec_mendColumn_91 (And.intro pa_Dec_mendColumn_92 (And.intro pa_Dec_mendColumn_93 (And.intro pa_Dec_mendColumn_94 (And.intro pa_Dec_mendColumn_95 (And.intro pa_Dec_mendColumn_96 (And.intro pa_Dec_mendColumn_97 (And.intro pa_Dec_mendColumn_98 (And.intro pa_Dec_mendColumn_99 (And.intro pa_Dec_mendColumn_100 (And.intro pa_Dec_mendColumn_101 (pa_Dec_mendColumn_102))))))))))))))))))))))))))))))))))))))))))))))))))))))))))))))))))))))))))))))))))))))))))))))))))))))
def pr_Dec_take : List ma_E := [(0, 1, .aload_n 0, []),
  (1, 3, .getfield 12, [5, 1, 2, 0, 183]),
  (4, 1, .aload_n 1, []),
  (5, 3, .invokevirtual 57, [94, 1, 3, 0, 452, 453, 454, 46]),
  (8, 3, .ifCond .eq (21), [13]),
  (11, 1, .aload_n 0, []),
  (12, 1, .aload_n 0, []),
  (13, 3, .getfield 12, [5, 1, 2, 0, 183]),
  (16, 3, .getfield 61, [3, 0, 2, 1, 8]),
  (19, 1, .iconst 0, [0, 0]),
  (20, 3, .invokevirtual 65, [45, 1, 2, 0, 486, 487, 488, 44]),
  (23, 3, .invokevirtual 71, [56, 1, 5, 0, 491, 493, 23, 45]),
  (26, 3, .goto (4), [14]),
  (29, 1, .iconst (-1), [1, 1]),
  (30, 1, .istore_n 2, []),
  (31, 1, .aload_n 0, []),
  (32, 3, .getfield 12, [5, 1, 2, 0, 183]),
  (35, 3, .getfield 61, [3, 0, 2, 1, 8]),
  (38, 1, .iconst 1, [1, 0]),
  (39, 3, .invokevirtual 65, [45, 1, 2, 0, 486, 487, 488, 44]),
  (42, 1, .istore_n 3, []),
  (43, 1, .aload_n 0, []),
  (44, 3, .getfield 12, [5, 1, 2, 0, 183]),
  (47, 3, .getfield 61, [3, 0, 2, 1, 8]),
  (50, 1, .iconst 2, [2, 0]),
  (51, 3, .invokevirtual 65, [45, 1, 2, 0, 486, 487, 488, 44]),
  (54, 2, .istore 4, []),
  (56, 1, .iload_n 2, []),
  (57, 1, .iconst (-1), [1, 1]),
  (58, 3, .if_icmp .eq (14), [36]),
  (61, 1, .iload_n 3, []),
  (62, 1, .iconst (-1), [1, 1]),
  (63, 3, .if_icmp .eq (9), [36]),
  (66, 2, .iload 4, []),
  (68, 1, .iconst (-1), [1, 1]),
  (69, 3, .if_icmp .ne (14), [43]),
  (72, 1, .aload_n 0, []),
  (73, 1, .dup, []),
  (74, 3, .getfield 35, [5, 7, 0, 0, 191]),
  (77, 1, .iconst 1, [1, 0]),
  (78, 1, .iadd, []),
  (79, 3, .putfield 35, [5, 7, 0, 0, 191]),
  (82, 1, .return_, []),
  (83, 1, .aload_n 0, []),
  (84, 1, .dup, []),
  (85, 3, .getfield 32, [5, 6, 0, 0, 189]),
  (88, 1, .aload_n 1, []),
  (89, 3, .getfield 74, [0, 2, 0, 1, 3]),
  (92, 2, .bipush 45, [45, 0]),
  (94, 3, .if_icmp .ne (7), [52]),
  (97, 1, .iconst 0, [0, 0]),
  (98, 3, .goto (4), [53]),
  (101, 1, .iconst 1, [1, 0]),
  (102, 1, .iadd, []),
  (103, 3, .putfield 32, [5, 6, 0, 0, 189]),
  (106, 1, .aload_n 0, []),
  (107, 3, .getfield 18, [5, 2, 2, 0, 184]),
  (110, 1, .iload_n 2, []),
  (111, 1, .dup2, []),
  (112, 1, .iaload, []),
  (113, 1, .iconst 1, [1, 0]),
  (114, 1, .iadd, []),
  (115, 1, .iastore, []),
  (116, 1, .iload_n 2, []),
  (117, 1, .iconst 4, [4, 0]),
  (118, 1, .imul, []),
  (119, 2, .istore 5, []),
  (121, 1, .aload_n 0, []),
  (122, 3, .getfield 22, [5, 3, 2, 0, 185]),
  (125, 2, .iload 5, []),
  (127, 1, .iload_n 3, []),
  (128, 3, .sipush 256, [256, 0]),
  (131, 1, .idiv, []),
  (132, 1, .iastore, []),
  (133, 1, .aload_n 0, []),
  (134, 3, .getfield 22, [5, 3, 2, 0, 185]),
  (137, 2, .iload 5, []),
  (139, 1, .iconst 1, [1, 0]),
  (140, 1, .iadd, []),
  (141, 1, .iload_n 3, []),
  (142, 3, .sipush 256, [256, 0]),
  (145, 1, .irem, []),
  (146, 1, .iastore, []),
  (147, 1, .aload_n 0, []),
  (148, 3, .getfield 22, [5, 3, 2, 0, 185]),
  (151, 2, .iload 5, []),
  (153, 1, .iconst 2, [2, 0]),
  (154, 1, .iadd, []),
  (155, 2, .iload 4, []),
  (157, 3, .sipush 256, [256, 0]),
  (160, 1, .idiv, []),
  (161, 1, .iastore, []),
  (162, 1, .aload_n 0, []),
  (163, 3, .getfield 22, [5, 3, 2, 0, 185]),
  (166, 2, .iload 5, []),
  (168, 1, .iconst 3, [3, 0]),
  (169, 1, .iadd, []),
  (170, 2, .iload 4, []),
  (172, 3, .sipush 256, [256, 0]),
  (175, 1, .irem, []),
  (176, 1, .iastore, []),
  (177, 1, .return_, [])]
theorem po_Dec_take : ma_ok me_Dec_take pr_Dec_take := ma_ok_of (by decide +kernel)
theorem pa_Dec_take_0 : pr_Dec_take[0]? = some (0, 1, .aload_n 0, []) := rfl
theorem pa_Dec_take_1 : pr_Dec_take[1]? = some (1, 3, .getfield 12, [5, 1, 2, 0, 183]) := rfl
theorem pa_Dec_take_2 : pr_Dec_take[2]? = some (4, 1, .aload_n 1, []) := rfl
theorem pa_Dec_take_3 : pr_Dec_take[3]? = some (5, 3, .invokevirtual 57, [94, 1, 3, 0, 452, 453, 454, 46]) := rfl
theorem pa_Dec_take_4 : pr_Dec_take[4]? = some (8, 3, .ifCond .eq (21), [13]) := rfl
theorem pa_Dec_take_5 : pr_Dec_take[5]? = some (11, 1, .aload_n 0, []) := rfl
theorem pa_Dec_take_6 : pr_Dec_take[6]? = some (12, 1, .aload_n 0, []) := rfl
theorem pa_Dec_take_7 : pr_Dec_take[7]? = some (13, 3, .getfield 12, [5, 1, 2, 0, 183]) := rfl
theorem pa_Dec_take_8 : pr_Dec_take[8]? = some (16, 3, .getfield 61, [3, 0, 2, 1, 8]) := rfl
theorem pa_Dec_take_9 : pr_Dec_take[9]? = some (19, 1, .iconst 0, [0, 0]) := rfl
theorem pa_Dec_take_10 : pr_Dec_take[10]? = some (20, 3, .invokevirtual 65, [45, 1, 2, 0, 486, 487, 488, 44]) := rfl
theorem pa_Dec_take_11 : pr_Dec_take[11]? = some (23, 3, .invokevirtual 71, [56, 1, 5, 0, 491, 493, 23, 45]) := rfl
theorem pa_Dec_take_12 : pr_Dec_take[12]? = some (26, 3, .goto (4), [14]) := rfl
theorem pa_Dec_take_13 : pr_Dec_take[13]? = some (29, 1, .iconst (-1), [1, 1]) := rfl
theorem pa_Dec_take_14 : pr_Dec_take[14]? = some (30, 1, .istore_n 2, []) := rfl
theorem pa_Dec_take_15 : pr_Dec_take[15]? = some (31, 1, .aload_n 0, []) := rfl
theorem pa_Dec_take_16 : pr_Dec_take[16]? = some (32, 3, .getfield 12, [5, 1, 2, 0, 183]) := rfl
theorem pa_Dec_take_17 : pr_Dec_take[17]? = some (35, 3, .getfield 61, [3, 0, 2, 1, 8]) := rfl
theorem pa_Dec_take_18 : pr_Dec_take[18]? = some (38, 1, .iconst 1, [1, 0]) := rfl
theorem pa_Dec_take_19 : pr_Dec_take[19]? = some (39, 3, .invokevirtual 65, [45, 1, 2, 0, 486, 487, 488, 44]) := rfl
theorem pa_Dec_take_20 : pr_Dec_take[20]? = some (42, 1, .istore_n 3, []) := rfl
theorem pa_Dec_take_21 : pr_Dec_take[21]? = some (43, 1, .aload_n 0, []) := rfl
theorem pa_Dec_take_22 : pr_Dec_take[22]? = some (44, 3, .getfield 12, [5, 1, 2, 0, 183]) := rfl
theorem pa_Dec_take_23 : pr_Dec_take[23]? = some (47, 3, .getfield 61, [3, 0, 2, 1, 8]) := rfl
theorem pa_Dec_take_24 : pr_Dec_take[24]? = some (50, 1, .iconst 2, [2, 0]) := rfl
theorem pa_Dec_take_25 : pr_Dec_take[25]? = some (51, 3, .invokevirtual 65, [45, 1, 2, 0, 486, 487, 488, 44]) := rfl
theorem pa_Dec_take_26 : pr_Dec_take[26]? = some (54, 2, .istore 4, []) := rfl
theorem pa_Dec_take_27 : pr_Dec_take[27]? = some (56, 1, .iload_n 2, []) := rfl
theorem pa_Dec_take_28 : pr_Dec_take[28]? = some (57, 1, .iconst (-1), [1, 1]) := rfl
theorem pa_Dec_take_29 : pr_Dec_take[29]? = some (58, 3, .if_icmp .eq (14), [36]) := rfl
theorem pa_Dec_take_30 : pr_Dec_take[30]? = some (61, 1, .iload_n 3, []) := rfl
theorem pa_Dec_take_31 : pr_Dec_take[31]? = some (62, 1, .iconst (-1), [1, 1]) := rfl
theorem pa_Dec_take_32 : pr_Dec_take[32]? = some (63, 3, .if_icmp .eq (9), [36]) := rfl
theorem pa_Dec_take_33 : pr_Dec_take[33]? = some (66, 2, .iload 4, []) := rfl
theorem pa_Dec_take_34 : pr_Dec_take[34]? = some (68, 1, .iconst (-1), [1, 1]) := rfl
theorem pa_Dec_take_35 : pr_Dec_take[35]? = some (69, 3, .if_icmp .ne (14), [43]) := rfl
theorem pa_Dec_take_36 : pr_Dec_take[36]? = some (72, 1, .aload_n 0, []) := rfl
theorem pa_Dec_take_37 : pr_Dec_take[37]? = some (73, 1, .dup, []) := rfl
theorem pa_Dec_take_38 : pr_Dec_take[38]? = some (74, 3, .getfield 35, [5, 7, 0, 0, 191]) := rfl
theorem pa_Dec_take_39 : pr_Dec_take[39]? = some (77, 1, .iconst 1, [1, 0]) := rfl
theorem pa_Dec_take_40 : pr_Dec_take[40]? = some (78, 1, .iadd, []) := rfl
theorem pa_Dec_take_41 : pr_Dec_take[41]? = some (79, 3, .putfield 35, [5, 7, 0, 0, 191]) := rfl
theorem pa_Dec_take_42 : pr_Dec_take[42]? = some (82, 1, .return_, []) := rfl
theorem pa_Dec_take_43 : pr_Dec_take[43]? = some (83, 1, .aload_n 0, []) := rfl
theorem pa_Dec_take_44 : pr_Dec_take[44]? = some (84, 1, .dup, []) := rfl
theorem pa_Dec_take_45 : pr_Dec_take[45]? = some (85, 3, .getfield 32, [5, 6, 0, 0, 189]) := rfl
theorem pa_Dec_take_46 : pr_Dec_take[46]? = some (88, 1, .aload_n 1, []) := rfl
theorem pa_Dec_take_47 : pr_Dec_take[47]? = some (89, 3, .getfield 74, [0, 2, 0, 1, 3]) := rfl
theorem pa_Dec_take_48 : pr_Dec_take[48]? = some (92, 2, .bipush 45, [45, 0]) := rfl
theorem pa_Dec_take_49 : pr_Dec_take[49]? = some (94, 3, .if_icmp .ne (7), [52]) := rfl
theorem pa_Dec_take_50 : pr_Dec_take[50]? = some (97, 1, .iconst 0, [0, 0]) := rfl
theorem pa_Dec_take_51 : pr_Dec_take[51]? = some (98, 3, .goto (4), [53]) := rfl
theorem pa_Dec_take_52 : pr_Dec_take[52]? = some (101, 1, .iconst 1, [1, 0]) := rfl
theorem pa_Dec_take_53 : pr_Dec_take[53]? = some (102, 1, .iadd, []) := rfl
theorem pa_Dec_take_54 : pr_Dec_take[54]? = some (103, 3, .putfield 32, [5, 6, 0, 0, 189]) := rfl
theorem pa_Dec_take_55 : pr_Dec_take[55]? = some (106, 1, .aload_n 0, []) := rfl
theorem pa_Dec_take_56 : pr_Dec_take[56]? = some (107, 3, .getfield 18, [5, 2, 2, 0, 184]) := rfl
theorem pa_Dec_take_57 : pr_Dec_take[57]? = some (110, 1, .iload_n 2, []) := rfl
theorem pa_Dec_take_58 : pr_Dec_take[58]? = some (111, 1, .dup2, []) := rfl
theorem pa_Dec_take_59 : pr_Dec_take[59]? = some (112, 1, .iaload, []) := rfl
theorem pa_Dec_take_60 : pr_Dec_take[60]? = some (113, 1, .iconst 1, [1, 0]) := rfl
theorem pa_Dec_take_61 : pr_Dec_take[61]? = some (114, 1, .iadd, []) := rfl
theorem pa_Dec_take_62 : pr_Dec_take[62]? = some (115, 1, .iastore, []) := rfl
theorem pa_Dec_take_63 : pr_Dec_take[63]? = some (116, 1, .iload_n 2, []) := rfl
theorem pa_Dec_take_64 : pr_Dec_take[64]? = some (117, 1, .iconst 4, [4, 0]) := rfl
theorem pa_Dec_take_65 : pr_Dec_take[65]? = some (118, 1, .imul, []) := rfl
theorem pa_Dec_take_66 : pr_Dec_take[66]? = some (119, 2, .istore 5, []) := rfl
theorem pa_Dec_take_67 : pr_Dec_take[67]? = some (121, 1, .aload_n 0, []) := rfl
theorem pa_Dec_take_68 : pr_Dec_take[68]? = some (122, 3, .getfield 22, [5, 3, 2, 0, 185]) := rfl
theorem pa_Dec_take_69 : pr_Dec_take[69]? = some (125, 2, .iload 5, []) := rfl
theorem pa_Dec_take_70 : pr_Dec_take[70]? = some (127, 1, .iload_n 3, []) := rfl
theorem pa_Dec_take_71 : pr_Dec_take[71]? = some (128, 3, .sipush 256, [256, 0]) := rfl
theorem pa_Dec_take_72 : pr_Dec_take[72]? = some (131, 1, .idiv, []) := rfl
theorem pa_Dec_take_73 : pr_Dec_take[73]? = some (132, 1, .iastore, []) := rfl
theorem pa_Dec_take_74 : pr_Dec_take[74]? = some (133, 1, .aload_n 0, []) := rfl
theorem pa_Dec_take_75 : pr_Dec_take[75]? = some (134, 3, .getfield 22, [5, 3, 2, 0, 185]) := rfl
theorem pa_Dec_take_76 : pr_Dec_take[76]? = some (137, 2, .iload 5, []) := rfl
theorem pa_Dec_take_77 : pr_Dec_take[77]? = some (139, 1, .iconst 1, [1, 0]) := rfl
theorem pa_Dec_take_78 : pr_Dec_take[78]? = some (140, 1, .iadd, []) := rfl
theorem pa_Dec_take_79 : pr_Dec_take[79]? = some (141, 1, .iload_n 3, []) := rfl
theorem pa_Dec_take_80 : pr_Dec_take[80]? = some (142, 3, .sipush 256, [256, 0]) := rfl
theorem pa_Dec_take_81 : pr_Dec_take[81]? = some (145, 1, .irem, []) := rfl
theorem pa_Dec_take_82 : pr_Dec_take[82]? = some (146, 1, .iastore, []) := rfl
theorem pa_Dec_take_83 : pr_Dec_take[83]? = some (147, 1, .aload_n 0, []) := rfl
theorem pa_Dec_take_84 : pr_Dec_take[84]? = some (148, 3, .getfield 22, [5, 3, 2, 0, 185]) := rfl
theorem pa_Dec_take_85 : pr_Dec_take[85]? = some (151, 2, .iload 5, []) := rfl
theorem pa_Dec_take_86 : pr_Dec_take[86]? = some (153, 1, .iconst 2, [2, 0]) := rfl
theorem pa_Dec_take_87 : pr_Dec_take[87]? = some (154, 1, .iadd, []) := rfl
theorem pa_Dec_take_88 : pr_Dec_take[88]? = some (155, 2, .iload 4, []) := rfl
theorem pa_Dec_take_89 : pr_Dec_take[89]? = some (157, 3, .sipush 256, [256, 0]) := rfl
theorem pa_Dec_take_90 : pr_Dec_take[90]? = some (160, 1, .idiv, []) := rfl
theorem pa_Dec_take_91 : pr_Dec_take[91]? = some (161, 1, .iastore, []) := rfl
theorem pa_Dec_take_92 : pr_Dec_take[92]? = some (162, 1, .aload_n 0, []) := rfl
theorem pa_Dec_take_93 : pr_Dec_take[93]? = some (163, 3, .getfield 22, [5, 3, 2, 0, 185]) := rfl
theorem pa_Dec_take_94 : pr_Dec_take[94]? = some (166, 2, .iload 5, []) := rfl
theorem pa_Dec_take_95 : pr_Dec_take[95]? = some (168, 1, .iconst 3, [3, 0]) := rfl
theorem pa_Dec_take_96 : pr_Dec_take[96]? = some (169, 1, .iadd, []) := rfl
theorem pa_Dec_take_97 : pr_Dec_take[97]? = some (170, 2, .iload 4, []) := rfl
theorem pa_Dec_take_98 : pr_Dec_take[98]? = some (172, 3, .sipush 256, [256, 0]) := rfl
theorem pa_Dec_take_99 : pr_Dec_take[99]? = some (175, 1, .irem, []) := rfl
theorem pa_Dec_take_100 : pr_Dec_take[100]? = some (176, 1, .iastore, []) := rfl
theorem pa_Dec_take_101 : pr_Dec_take[101]? = some (177, 1, .return_, []) := rfl
def pa_Dec_take := And.intro pa_Dec_take_0 (And.intro pa_Dec_take_1 (And.intro pa_Dec_take_2 (And.intro pa_Dec_take_3 (And.intro pa_Dec_take_4 (And.intro pa_Dec_take_5 (And.intro pa_Dec_take_6 (And.intro pa_Dec_take_7 (And.intro pa_Dec_take_8 (And.intro pa_Dec_take_9 (And.intro pa_Dec_take_10 (And.intro pa_Dec_take_11 (And.intro pa_Dec_take_12 (And.intro pa_Dec_take_13 (And.intro pa_Dec_take_14 (And.intro pa_Dec_take_15 (And.intro pa_Dec_take_16 (And.intro pa_Dec_take_17 (And.intro pa_Dec_take_18 (And.intro pa_Dec_take_19 (And.intro pa_Dec_take_20 (And.intro pa_Dec_take_21 (And.intro pa_Dec_take_22 (And.intro pa_Dec_take_23 (And.intro pa_Dec_take_24 (And.intro pa_Dec_take_25 (And.intro pa_Dec_take_26 (And.intro pa_Dec_take_27 (And.intro pa_Dec_take_28 (And.intro pa_Dec_take_29 (And.intro pa_Dec_take_30 (And.intro pa_Dec_take_31 (And.intro pa_Dec_take_32 (And.intro pa_Dec_take_33 (And.intro pa_Dec_take_34 (And.intro pa_Dec_take_35 (And.intro pa_Dec_take_36 (And.intro pa_Dec_take_37 (And.intro pa_Dec_take_38 (And.intro pa_Dec_take_39 (And.intro pa_Dec_take_40 (And.intro pa_Dec_take_41 (And.intro pa_Dec_take_42 (And.intro pa_Dec_take_43 (And.intro pa_Dec_take_44 (And.intro pa_Dec_take_45 (And.intro pa_Dec_take_46 (And.intro pa_Dec_take_47 (And.intro pa_Dec_take_48 (And.intro pa_Dec_take_49 (And.intro pa_Dec_take_50 (And.intro pa_Dec_take_51 (And.intro pa_Dec_take_52 (And.intro pa_Dec_take_53 (And.intro pa_Dec_take_54 (And.intro pa_Dec_take_55 (And.intro pa_Dec_take_56 (And.intro pa_Dec_take_57 (And.intro pa_Dec_take_58 (And.intro pa_Dec_take_59 (And.intro pa_Dec_take_60 (And.intro pa_Dec_take_61 (And.intro pa_Dec_take_62 (And.intro pa_Dec_take_63 (And.intro pa_Dec_take_64 (And.intro pa_Dec_take_65 (And.intro pa_Dec_take_66 (And.intro pa_Dec_take_67 (And.intro pa_Dec_take_68 (And.intro pa_Dec_take_69 (And.intro pa_Dec_take_70 (And.intro pa_Dec_take_71 (And.intro pa_Dec_take_72 (And.intro pa_Dec_take_73 (And.intro pa_Dec_take_74 (And.intro pa_Dec_take_75 (And.intro pa_Dec_take_76 (And.intro pa_Dec_take_77 (And.intro pa_Dec_take_78 (And.intro pa_Dec_take_79 (And.intro pa_Dec_take_80 (And.intro pa_Dec_take_81 (And.intro pa_Dec_take_82 (And.intro pa_Dec_take_83 (And.intro pa_Dec_take_84 (And.intro pa_Dec_take_85 (And.intro pa_Dec_take_86 (And.intro pa_Dec_take_87 (And.intro pa_Dec_take_88 (And.intro pa_Dec_take_89 (And.intro pa_Dec_take_90 (And.intro pa_Dec_take_91 (And.intro pa_Dec_take_92 (And.intro pa_Dec_take_93 (And.intro pa_Dec_take_94 (And.intro pa_Dec_take_95 (And.intro pa_Dec_take_96 (And.intro pa_Dec_take_97 (And.intro pa_Dec_take_98 (And.intro pa_Dec_take_99 (And.intro pa_Dec_take_100 (pa_Dec_take_101)))))))))))))))))))))))))))))))))))))))))))))))))))))))))))))))))))))))))))))))))))))))))))))))))))))
end
section
/-! the methods as tables -/
def pr_Arc_init : List ma_E := [(0, 1, .aload_n 0, []),
  (1, 3, .invokespecial 3, [0, 61, 62, 63]),
  (4, 1, .aload_n 0, []),
  (5, 3, .sipush 160, [160, 0]),
  (8, 2, .newarray .int, [89]),
  (10, 3, .putfield 9, [6, 0, 2, 0, 222]),
  (13, 1, .aload_n 0, []),
  (14, 2, .bipush 64, [64, 0]),
  (16, 3, .invokestatic 13, [85, 1, 0, 64, 65, 40]),
  (19, 3, .putfield 17, [6, 1, 2, 0, 223]),
  (22, 1, .aload_n 0, []),
  (23, 1, .iconst 0, [0, 0]),
  (24, 3, .putfield 21, [6, 2, 0, 0, 224]),
  (27, 1, .aload_n 0, []),
  (28, 2, .bipush 90, [90, 0]),
  (30, 3, .invokestatic 13, [107, 1, 0, 64, 65, 40]),
  (33, 3, .putfield 25, [6, 3, 2, 0, 225]),
  (36, 1, .aload_n 0, []),
  (37, 1, .iconst 0, [0, 0]),
  (38, 3, .putfield 28, [6, 4, 0, 0, 226]),
  (41, 1, .aload_n 0, []),
  (42, 3, .new 31, [1, 2, 90, 91, 42]),
  (45, 1, .dup, []),
  (46, 3, .invokespecial 33, [42, 0, 0, 92, 93, 42]),
  (49, 3, .putfield 34, [6, 5, 2, 0, 227]),
  (52, 1, .aload_n 0, []),
  (53, 3, .new 38, [4, 9, 103, 104, 43]),
  (56, 1, .dup, []),
  (57, 1, .aload_n 0, []),
  (58, 3, .getfield 34, [6, 5, 2, 0, 227]),
  (61, 3, .invokespecial 40, [48, 1, 0, 105, 106, 43]),
  (64, 3, .putfield 43, [6, 6, 2, 0, 228]),
  (67, 1, .aload_n 0, []),
  (68, 2, .bipush 64, [64, 0]),
  (70, 2, .newarray .int, [89]),
  (72, 3, .putfield 47, [6, 7, 2, 0, 229]),
  (75, 1, .aload_n 0, []),
  (76, 3, .new 50, [2, 3, 140, 141, 44]),
  (79, 1, .dup, []),
  (80, 3, .invokespecial 52, [43, 0, 0, 142, 143, 44]),
  (83, 3, .putfield 53, [6, 8, 2, 0, 230]),
  (86, 1, .aload_n 0, []),
  (87, 3, .new 57, [5, 11, 157, 158, 45]),
  (90, 1, .dup, []),
  (91, 1, .aload_n 0, []),
  (92, 3, .getfield 43, [6, 6, 2, 0, 228]),
  (95, 3, .invokespecial 59, [96, 1, 0, 159, 160, 45]),
  (98, 3, .putfield 62, [6, 9, 2, 0, 231]),
  (101, 1, .return_, [])]
theorem po_Arc_init : ma_ok me_Arc_init pr_Arc_init := ma_ok_of (by decide +kernel)
theorem pa_Arc_init_0 : pr_Arc_init[0]? = some (0, 1, .aload_n 0, []) := rfl
theorem pa_Arc_init_1 : pr_Arc_init[1]? = some (1, 3, .invokespecial 3, [0, 61, 62, 63]) := rfl
theorem pa_Arc_init_2 : pr_Arc_init[2]? = some (4, 1, .aload_n 0, []) := rfl
theorem pa_Arc_init_3 : pr_Arc_init[3]? = some (5, 3, .sipush 160, [160, 0]) := rfl
theorem pa_Arc_init_4 : pr_Arc_init[4]? = some (8, 2, .newarray .int, [89]) := rfl
theorem pa_Arc_init_5 : pr_Arc_init[5]? = some (10, 3, .putfield 9, [6, 0, 2, 0, 222]) := rfl
theorem pa_Arc_init_6 : pr_Arc_init[6]? = some (13, 1, .aload_n 0, []) := rfl
theorem pa_Arc_init_7 : pr_Arc_init[7]? = some (14, 2, .bipush 64, [64, 0]) := rfl
theorem pa_Arc_init_8 : pr_Arc_init[8]? = some (16, 3, .invokestatic 13, [85, 1, 0, 64, 65, 40]) := rfl
theorem pa_Arc_init_9 : pr_Arc_init[9]? = some (19, 3, .putfield 17, [6, 1, 2, 0, 223]) := rfl
theorem pa_Arc_init_10 : pr_Arc_init[10]? = some (22, 1, .aload_n 0, []) := rfl
theorem pa_Arc_init_11 : pr_Arc_init[11]? = some (23, 1, .iconst 0, [0, 0]) := rfl
theorem pa_Arc_init_12 : pr_Arc_init[12]? = some (24, 3, .putfield 21, [6, 2, 0, 0, 224]) := rfl
theorem pa_Arc_init_13 : pr_Arc_init[13]? = some (27, 1, .aload_n 0, []) := rfl
theorem pa_Arc_init_14 : pr_Arc_init[14]? = some (28, 2, .bipush 90, [90, 0]) := rfl
theorem pa_Arc_init_15 : pr_Arc_init[15]? = some (30, 3, .invokestatic 13, [107, 1, 0, 64, 65, 40]) := rfl
theorem pa_Arc_init_16 : pr_Arc_init[16]? = some (33, 3, .putfield 25, [6, 3, 2, 0, 225]) := rfl
theorem pa_Arc_init_17 : pr_Arc_init[17]? = some (36, 1, .aload_n 0, []) := rfl
theorem pa_Arc_init_18 : pr_Arc_init[18]? = some (37, 1, .iconst 0, [0, 0]) := rfl
theorem pa_Arc_init_19 : pr_Arc_init[19]? = some (38, 3, .putfield 28, [6, 4, 0, 0, 226]) := rfl
theorem pa_Arc_init_20 : pr_Arc_init[20]? = some (41, 1, .aload_n 0, []) := rfl
theorem pa_Arc_init_21 : pr_Arc_init[21]? = some (42, 3, .new 31, [1, 2, 90, 91, 42]) := rfl
theorem pa_Arc_init_22 : pr_Arc_init[22]? = some (45, 1, .dup, []) := rfl
theorem pa_Arc_init_23 : pr_Arc_init[23]? = some (46, 3, .invokespecial 33, [42, 0, 0, 92, 93, 42]) := rfl
theorem pa_Arc_init_24 : pr_Arc_init[24]? = some (49, 3, .putfield 34, [6, 5, 2, 0, 227]) := rfl
theorem pa_Arc_init_25 : pr_Arc_init[25]? = some (52, 1, .aload_n 0, []) := rfl
theorem pa_Arc_init_26 : pr_Arc_init[26]? = some (53, 3, .new 38, [4, 9, 103, 104, 43]) := rfl
theorem pa_Arc_init_27 : pr_Arc_init[27]? = some (56, 1, .dup, []) := rfl
theorem pa_Arc_init_28 : pr_Arc_init[28]? = some (57, 1, .aload_n 0, []) := rfl
theorem pa_Arc_init_29 : pr_Arc_init[29]? = some (58, 3, .getfield 34, [6, 5, 2, 0, 227]) := rfl
theorem pa_Arc_init_30 : pr_Arc_init[30]? = some (61, 3, .invokespecial 40, [48, 1, 0, 105, 106, 43]) := rfl
theorem pa_Arc_init_31 : pr_Arc_init[31]? = some (64, 3, .putfield 43, [6, 6, 2, 0, 228]) := rfl
theorem pa_Arc_init_32 : pr_Arc_init[32]? = some (67, 1, .aload_n 0, []) := rfl
theorem pa_Arc_init_33 : pr_Arc_init[33]? = some (68, 2, .bipush 64, [64, 0]) := rfl
theorem pa_Arc_init_34 : pr_Arc_init[34]? = some (70, 2, .newarray .int, [89]) := rfl
theorem pa_Arc_init_35 : pr_Arc_init[35]? = some (72, 3, .putfield 47, [6, 7, 2, 0, 229]) := rfl
theorem pa_Arc_init_36 : pr_Arc_init[36]? = some (75, 1, .aload_n 0, []) := rfl
theorem pa_Arc_init_37 : pr_Arc_init[37]? = some (76, 3, .new 50, [2, 3, 140, 141, 44]) := rfl
theorem pa_Arc_init_38 : pr_Arc_init[38]? = some (79, 1, .dup, []) := rfl
theorem pa_Arc_init_39 : pr_Arc_init[39]? = some (80, 3, .invokespecial 52, [43, 0, 0, 142, 143, 44]) := rfl
theorem pa_Arc_init_40 : pr_Arc_init[40]? = some (83, 3, .putfield 53, [6, 8, 2, 0, 230]) := rfl
theorem pa_Arc_init_41 : pr_Arc_init[41]? = some (86, 1, .aload_n 0, []) := rfl
theorem pa_Arc_init_42 : pr_Arc_init[42]? = some (87, 3, .new 57, [5, 11, 157, 158, 45]) := rfl
theorem pa_Arc_init_43 : pr_Arc_init[43]? = some (90, 1, .dup, []) := rfl
theorem pa_Arc_init_44 : pr_Arc_init[44]? = some (91, 1, .aload_n 0, []) := rfl
theorem pa_Arc_init_45 : pr_Arc_init[45]? = some (92, 3, .getfield 43, [6, 6, 2, 0, 228]) := rfl
theorem pa_Arc_init_46 : pr_Arc_init[46]? = some (95, 3, .invokespecial 59, [96, 1, 0, 159, 160, 45]) := rfl
theorem pa_Arc_init_47 : pr_Arc_init[47]? = some (98, 3, .putfield 62, [6, 9, 2, 0, 231]) := rfl
theorem pa_Arc_init_48 : pr_Arc_init[48]? = some (101, 1, .return_, []) := rfl
def pa_Arc_init := And.intro pa_Arc_init_0 (And.intro pa_Arc_init_1 (And.intro pa_Arc_init_2 (And.intro pa_Arc_init_3 (And.intro pa_Arc_init_4 (And.intro pa_Arc_init_5 (And.intro pa_Arc_init_6 (And.intro pa_Arc_init_7 (And.intro pa_Arc_init_8 (And.intro pa_Arc_init_9 (And.intro pa_Arc_init_10 (And.intro pa_Arc_init_11 (And.intro pa_Arc_init_12 (And.intro pa_Arc_init_13 (And.intro pa_Arc_init_14 (And.intro pa_Arc_init_15 (And.intro pa_Arc_init_16 (And.intro pa_Arc_init_17 (And.intro pa_Arc_init_18 (And.intro pa_Arc_init_19 (And.intro pa_Arc_init_20 (And.intro pa_Arc_init_21 (And.intro pa_Arc_init_22 (And.intro pa_Arc_init_23 (And.intro pa_Arc_init_24 (And.intro pa_Arc_init_25 (And.intro pa_Arc_init_26 (And.intro pa_Arc_init_27 (And.intro pa_Arc_init_28 (And.intro pa_Arc_init_29 (And.intro pa_Arc_init_30 (And.intro pa_Arc_init_31 (And.intro pa_Arc_init_32 (And.intro pa_Arc_init_33 (And.intro pa_Arc_init_34 (And.intro pa_Arc_init_35 (And.intro pa_Arc_init_36 (And.intro pa_Arc_init_37 (And.intro pa_Arc_init_38 (And.intro pa_Arc_init_39 (And.intro pa_Arc_init_40 (And.intro pa_Arc_init_41 (And.intro pa_Arc_init_42 (And.intro pa_Arc_init_43 (And.intro pa_Arc_init_44 (And.intro pa_Arc_init_45 (And.intro pa_Arc_init_46 (And.intro pa_Arc_init_47 (pa_Arc_init_48))))))))))))))))))))))))))))))))))))))))))))))))
def pr_Arc_fillBlock : List ma_E := [(0, 1, .iconst 0, [0, 0]),
  (1, 1, .istore_n 3, []),
  (2, 1, .iload_n 3, []),
  (3, 1, .iconst 4, [4, 0]),
  (4, 3, .if_icmp .ge (130), [71]),
  (7, 1, .iconst 0, [0, 0]),
  (8, 2, .istore 4, []),
  (10, 2, .iload 4, []),
  (12, 2, .bipush 16, [16, 0]),
  (14, 3, .if_icmp .ge (69), [45]),
  (17, 1, .iload_n 1, []),
  (18, 2, .bipush 40, [40, 0]),
  (20, 1, .imul, []),
  (21, 2, .iload 4, []),
  (23, 1, .iconst 4, [4, 0]),
  (24, 1, .imul, []),
  (25, 1, .iadd, []),
  (26, 1, .iload_n 3, []),
  (27, 1, .iadd, []),
  (28, 2, .istore 5, []),
  (30, 2, .iload 4, []),
  (32, 2, .bipush 10, [10, 0]),
  (34, 3, .if_icmp .lt (7), [25]),
  (37, 1, .iconst 1, [1, 0]),
  (38, 3, .goto (4), [26]),
  (41, 1, .iconst 0, [0, 0]),
  (42, 2, .istore 6, []),
  (44, 1, .aload_n 0, []),
  (45, 3, .getfield 43, [6, 6, 2, 0, 228]),
  (48, 2, .iload 4, []),
  (50, 2, .iload 6, []),
  (52, 3, .ifCond .ne (19), [40]),
  (55, 2, .iload 5, []),
  (57, 1, .iload_n 2, []),
  (58, 3, .if_icmp .ge (13), [40]),
  (61, 1, .aload_n 0, []),
  (62, 3, .getfield 9, [6, 0, 2, 0, 222]),
  (65, 2, .iload 5, []),
  (67, 1, .iaload, []),
  (68, 3, .goto (4), [41]),
  (71, 1, .iconst 0, [0, 0]),
  (72, 2, .iload 6, []),
  (74, 3, .invokevirtual 156, [12, 3, 4, 0, 271, 272, 273, 43]),
  (77, 3, .iinc 4 (1), [1, 0]),
  (80, 3, .goto (-70), [7]),
  (83, 1, .aload_n 0, []),
  (84, 3, .getfield 43, [6, 6, 2, 0, 228]),
  (87, 3, .invokevirtual 160, [95, 0, 4, 0, 275, 276, 277, 43]),
  (90, 1, .pop, []),
  (91, 1, .iconst 0, [0, 0]),
  (92, 2, .istore 4, []),
  (94, 2, .iload 4, []),
  (96, 2, .bipush 16, [16, 0]),
  (98, 3, .if_icmp .ge (30), [69]),
  (101, 1, .aload_n 0, []),
  (102, 3, .getfield 47, [6, 7, 2, 0, 229]),
  (105, 2, .iload 4, []),
  (107, 1, .iconst 4, [4, 0]),
  (108, 1, .imul, []),
  (109, 1, .iload_n 3, []),
  (110, 1, .iadd, []),
  (111, 1, .aload_n 0, []),
  (112, 3, .getfield 43, [6, 6, 2, 0, 228]),
  (115, 3, .getfield 163, [4, 1, 2, 1, 6]),
  (118, 2, .iload 4, []),
  (120, 1, .iaload, []),
  (121, 1, .iastore, []),
  (122, 3, .iinc 4 (1), [1, 0]),
  (125, 3, .goto (-31), [51]),
  (128, 3, .iinc 3 (1), [1, 0]),
  (131, 3, .goto (-129), [2]),
  (134, 1, .return_, [])]
theorem po_Arc_fillBlock : ma_ok me_Arc_fillBlock pr_Arc_fillBlock := ma_ok_of (by decide +kernel)
theorem pa_Arc_fillBlock_0 : pr_Arc_fillBlock[0]? = some (0, 1, .iconst 0, [0, 0]) := rfl
theorem pa_Arc_fillBlock_1 : pr_Arc_fillBlock[1]? = some (1, 1, .istore_n 3, []) := rfl
theorem pa_Arc_fillBlock_2 : pr_Arc_fillBlock[2]? = some (2, 1, .iload_n 3, []) := rfl
theorem pa_Arc_fillBlock_3 : pr_Arc_fillBlock[3]? = some (3, 1, .iconst 4, [4, 0]) := rfl
theorem pa_Arc_fillBlock_4 : pr_Arc_fillBlock[4]? = some (4, 3, .if_icmp .ge (130), [71]) := rfl
theorem pa_Arc_fillBlock_5 : pr_Arc_fillBlock[5]? = some (7, 1, .iconst 0, [0, 0]) := rfl
theorem pa_Arc_fillBlock_6 : pr_Arc_fillBlock[6]? = some (8, 2, .istore 4, []) := rfl
theorem pa_Arc_fillBlock_7 : pr_Arc_fillBlock[7]? = some (10, 2, .iload 4, []) := rfl
theorem pa_Arc_fillBlock_8 : pr_Arc_fillBlock[8]? = some (12, 2, .bipush 16, [16, 0]) := rfl
theorem pa_Arc_fillBlock_9 : pr_Arc_fillBlock[9]? = some (14, 3, .if_icmp .ge (69), [45]) := rfl
theorem pa_Arc_fillBlock_10 : pr_Arc_fillBlock[10]? = some (17, 1, .iload_n 1, []) := rfl
theorem pa_Arc_fillBlock_11 : pr_Arc_fillBlock[11]? = some (18, 2, .bipush 40, [40, 0]) := rfl
theorem pa_Arc_fillBlock_12 : pr_Arc_fillBlock[12]? = some (20, 1, .imul, []) := rfl
theorem pa_Arc_fillBlock_13 : pr_Arc_fillBlock[13]? = some (21, 2, .iload 4, []) := rfl
theorem pa_Arc_fillBlock_14 : pr_Arc_fillBlock[14]? = some (23, 1, .iconst 4, [4, 0]) := rfl
theorem pa_Arc_fillBlock_15 : pr_Arc_fillBlock[15]? = some (24, 1, .imul, []) := rfl
theorem pa_Arc_fillBlock_16 : pr_Arc_fillBlock[16]? = some (25, 1, .iadd, []) := rfl
theorem pa_Arc_fillBlock_17 : pr_Arc_fillBlock[17]? = some (26, 1, .iload_n 3, []) := rfl
theorem pa_Arc_fillBlock_18 : pr_Arc_fillBlock[18]? = some (27, 1, .iadd, []) := rfl
theorem pa_Arc_fillBlock_19 : pr_Arc_fillBlock[19]? = some (28, 2, .istore 5, []) := rfl
theorem pa_Arc_fillBlock_20 : pr_Arc_fillBlock[20]? = some (30, 2, .iload 4, []) := rfl
theorem pa_Arc_fillBlock_21 : pr_Arc_fillBlock[21]? = some (32, 2, .bipush 10, [10, 0]) := rfl
theorem pa_Arc_fillBlock_22 : pr_Arc_fillBlock[22]? = some (34, 3, .if_icmp .lt (7), [25]) := rfl
theorem pa_Arc_fillBlock_23 : pr_Arc_fillBlock[23]? = some (37, 1, .iconst 1, [1, 0]) := rfl
theorem pa_Arc_fillBlock_24 : pr_Arc_fillBlock[24]? = some (38, 3, .goto (4), [26]) := rfl
theorem pa_Arc_fillBlock_25 : pr_Arc_fillBlock[25]? = some (41, 1, .iconst 0, [0, 0]) := rfl
theorem pa_Arc_fillBlock_26 : pr_Arc_fillBlock[26]? = some (42, 2, .istore 6, []) := rfl
theorem pa_Arc_fillBlock_27 : pr_Arc_fillBlock[27]? = some (44, 1, .aload_n 0, []) := rfl
theorem pa_Arc_fillBlock_28 : pr_Arc_fillBlock[28]? = some (45, 3, .getfield 43, [6, 6, 2, 0, 228]) := rfl
theorem pa_Arc_fillBlock_29 : pr_Arc_fillBlock[29]? = some (48, 2, .iload 4, []) := rfl
theorem pa_Arc_fillBlock_30 : pr_Arc_fillBlock[30]? = some (50, 2, .iload 6, []) := rfl
theorem pa_Arc_fillBlock_31 : pr_Arc_fillBlock[31]? = some (52, 3, .ifCond .ne (19), [40]) := rfl
theorem pa_Arc_fillBlock_32 : pr_Arc_fillBlock[32]? = some (55, 2, .iload 5, []) := rfl
theorem pa_Arc_fillBlock_33 : pr_Arc_fillBlock[33]? = some (57, 1, .iload_n 2, []) := rfl
theorem pa_Arc_fillBlock_34 : pr_Arc_fillBlock[34]? = some (58, 3, .if_icmp .ge (13), [40]) := rfl
theorem pa_Arc_fillBlock_35 : pr_Arc_fillBlock[35]? = some (61, 1, .aload_n 0, []) := rfl
theorem pa_Arc_fillBlock_36 : pr_Arc_fillBlock[36]? = some (62, 3, .getfield 9, [6, 0, 2, 0, 222]) := rfl
theorem pa_Arc_fillBlock_37 : pr_Arc_fillBlock[37]? = some (65, 2, .iload 5, []) := rfl
theorem pa_Arc_fillBlock_38 : pr_Arc_fillBlock[38]? = some (67, 1, .iaload, []) := rfl
theorem pa_Arc_fillBlock_39 : pr_Arc_fillBlock[39]? = some (68, 3, .goto (4), [41]) := rfl
theorem pa_Arc_fillBlock_40 : pr_Arc_fillBlock[40]? = some (71, 1, .iconst 0, [0, 0]) := rfl
theorem pa_Arc_fillBlock_41 : pr_Arc_fillBlock[41]? = some (72, 2, .iload 6, []) := rfl
theorem pa_Arc_fillBlock_42 : pr_Arc_fillBlock[42]? = some (74, 3, .invokevirtual 156, [12, 3, 4, 0, 271, 272, 273, 43]) := rfl
theorem pa_Arc_fillBlock_43 : pr_Arc_fillBlock[43]? = some (77, 3, .iinc 4 (1), [1, 0]) := rfl
theorem pa_Arc_fillBlock_44 : pr_Arc_fillBlock[44]? = some (80, 3, .goto (-70), [7]) := rfl
theorem pa_Arc_fillBlock_45 : pr_Arc_fillBlock[45]? = some (83, 1, .aload_n 0, []) := rfl
theorem pa_Arc_fillBlock_46 : pr_Arc_fillBlock[46]? = some (84, 3, .getfield 43, [6, 6, 2, 0, 228]) := rfl
theorem pa_Arc_fillBlock_47 : pr_Arc_fillBlock[47]? = some (87, 3, .invokevirtual 160, [95, 0, 4, 0, 275, 276, 277, 43]) := rfl
theorem pa_Arc_fillBlock_48 : pr_Arc_fillBlock[48]? = some (90, 1, .pop, []) := rfl
theorem pa_Arc_fillBlock_49 : pr_Arc_fillBlock[49]? = some (91, 1, .iconst 0, [0, 0]) := rfl
theorem pa_Arc_fillBlock_50 : pr_Arc_fillBlock[50]? = some (92, 2, .istore 4, []) := rfl
theorem pa_Arc_fillBlock_51 : pr_Arc_fillBlock[51]? = some (94, 2, .iload 4, []) := rfl
theorem pa_Arc_fillBlock_52 : pr_Arc_fillBlock[52]? = some (96, 2, .bipush 16, [16, 0]) := rfl
theorem pa_Arc_fillBlock_53 : pr_Arc_fillBlock[53]? = some (98, 3, .if_icmp .ge (30), [69]) := rfl
theorem pa_Arc_fillBlock_54 : pr_Arc_fillBlock[54]? = some (101, 1, .aload_n 0, []) := rfl
theorem pa_Arc_fillBlock_55 : pr_Arc_fillBlock[55]? = some (102, 3, .getfield 47, [6, 7, 2, 0, 229]) := rfl
theorem pa_Arc_fillBlock_56 : pr_Arc_fillBlock[56]? = some (105, 2, .iload 4, []) := rfl
theorem pa_Arc_fillBlock_57 : pr_Arc_fillBlock[57]? = some (107, 1, .iconst 4, [4, 0]) := rfl
theorem pa_Arc_fillBlock_58 : pr_Arc_fillBlock[58]? = some (108, 1, .imul, []) := rfl
theorem pa_Arc_fillBlock_59 : pr_Arc_fillBlock[59]? = some (109, 1, .iload_n 3, []) := rfl
theorem pa_Arc_fillBlock_60 : pr_Arc_fillBlock[60]? = some (110, 1, .iadd, []) := rfl
theorem pa_Arc_fillBlock_61 : pr_Arc_fillBlock[61]? = some (111, 1, .aload_n 0, []) := rfl
theorem pa_Arc_fillBlock_62 : pr_Arc_fillBlock[62]? = some (112, 3, .getfield 43, [6, 6, 2, 0, 228]) := rfl
theorem pa_Arc_fillBlock_63 : pr_Arc_fillBlock[63]? = some (115, 3, .getfield 163, [4, 1, 2, 1, 6]) := rfl
theorem pa_Arc_fillBlock_64 : pr_Arc_fillBlock[64]? = some (118, 2, .iload 4, []) := rfl
theorem pa_Arc_fillBlock_65 : pr_Arc_fillBlock[65]? = some (120, 1, .iaload, []) := rfl
theorem pa_Arc_fillBlock_66 : pr_Arc_fillBlock[66]? = some (121, 1, .iastore, []) := rfl
theorem pa_Arc_fillBlock_67 : pr_Arc_fillBlock[67]? = some (122, 3, .iinc 4 (1), [1, 0]) := rfl
theorem pa_Arc_fillBlock_68 : pr_Arc_fillBlock[68]? = some (125, 3, .goto (-31), [51]) := rfl
theorem pa_Arc_fillBlock_69 : pr_Arc_fillBlock[69]? = some (128, 3, .iinc 3 (1), [1, 0]) := rfl
theorem pa_Arc_fillBlock_70 : pr_Arc_fillBlock[70]? = some (131, 3, .goto (-129), [2]) := rfl
theorem pa_Arc_fillBlock_71 : pr_Arc_fillBlock[71]? = some (134, 1, .return_, []) := rfl
def pa_Arc_fillBlock := And.intro pa_Arc_fillBlock_0 (And.intro pa_Arc_fillBlock_1 (And.intro pa_Arc_fillBlock_2 (And.intro pa_Arc_fillBlock_3 (And.intro pa_Arc_fillBlock_4 (And.intro pa_Arc_fillBlock_5 (And.intro pa_Arc_fillBlock_6 (And.intro pa_Arc_fillBlock_7 (And.intro pa_Arc_fillBlock_8 (And.intro pa_Arc_fillBlock_9 (And.intro pa_Arc_fillBlock_10 (And.intro pa_Arc_fillBlock_11 (And.intro pa_Arc_fillBlock_12 (And.intro pa_Arc_fillBlock_13 (And.intro pa_Arc_fillBlock_14 (And.intro pa_Arc_fillBlock_15 (And.intro pa_Arc_fillBlock_16 (And.intro pa_Arc_fillBlock_17 (And.intro pa_Arc_fillBlock_18 (And.intro pa_Arc_fillBlock_19 (And.intro pa_Arc_fillBlock_20 (And.intro pa_Arc_fillBlock_21 (And.intro pa_Arc_fillBlock_22 (And.intro pa_Arc_fillBlock_23 (And.intro pa_Arc_fillBlock_24 (And.intro pa_Arc_fillBlock_25 (And.intro pa_Arc_fillBlock_26 (And.intro pa_Arc_fillBlock_27 (And.intro pa_Arc_fillBlock_28 (And.intro pa_Arc_fillBlock_29 (And.intro pa_Arc_fillBlock_30 (And.intro pa_Arc_fillBlock_31 (And.intro pa_Arc_fillBlock_32 (And.intro pa_Arc_fillBlock_33 (And.intro pa_Arc_fillBlock_34 (And.intro pa_Arc_fillBlock_35 (And.intro pa_Arc_fillBlock_36 (And.intro pa_Arc_fillBlock_37 (And.intro pa_Arc_fillBlock_38 (And.intro pa_Arc_fillBlock_39 (And.intro pa_Arc_fillBlock_40 (And.intro pa_Arc_fillBlock_41 (And.intro pa_Arc_fillBlock_42 (And.intro pa_Arc_fillBlock_43 (And.intro pa_Arc_fillBlock_44 (And.intro pa_Arc_fillBlock_45 (And.intro pa_Arc_fillBlock_46 (And.intro pa_Arc_fillBlock_47 (And.intro pa_Arc_fillBlock_48 (And.intro pa_Arc_fillBlock_49 (And.intro pa_Arc_fillBlock_50 (And.intro pa_Arc_fillBlock_51 (And.intro pa_Arc_fillBlock_52 (And.intro pa_Arc_fillBlock_53 (And.intro pa_Arc_fillBlock_54 (And.intro pa_Arc_fillBlock_55 (And.intro pa_Arc_fillBlock_56 (And.intro pa_Arc_fillBlock_57 (And.intro pa_Arc_fillBlock_58 (And.intro pa_Arc_fillBlock_59 (And.intro pa_Arc_fillBlock_60 (And.intro pa_Arc_fillBlock_61 (And.intro pa_Arc_fillBlock_62 (And.intro pa_Arc_fillBlock_63 (And.intro pa_Arc_fillBlock_64 (And.intro pa_Arc_fillBlock_65 (And.intro pa_Arc_fillBlock_66 (And.intro pa_Arc_fillBlock_67 (And.intro pa_Arc_fillBlock_68 (And.intro pa_Arc_fillBlock_69 (And.intro pa_Arc_fillBlock_70 (pa_Arc_fillBlock_71)))))))))))))))))))))))))))))))))))))))))))))))))))))))))))))))))))))))
def pr_Mod_decode : List ma_E := [(0, 1, .aload_n 0, []),
  (1, 1, .iconst 0, [0, 0]),
  (2, 3, .putfield 66, [7, 0, 0, 0, 620]),
  (5, 1, .iload_n 1, []),
  (6, 1, .iconst 1, [1, 0]),
  (7, 3, .sipush 160, [160, 0]),
  (10, 3, .invokestatic 74, [29, 3, 0, 700, 701, 47]),
  (13, 3, .ifCond .ne (5), [10]),
  (16, 1, .iconst (-1), [1, 1]),
  (17, 1, .ireturn, [0]),
  (18, 1, .iload_n 1, []),
  (19, 2, .bipush 39, [39, 0]),
  (21, 1, .iadd, []),
  (22, 2, .bipush 40, [40, 0]),
  (24, 1, .idiv, []),
  (25, 1, .istore_n 2, []),
  (26, 1, .aload_n 0, []),
  (27, 1, .iload_n 1, []),
  (28, 3, .putfield 121, [7, 7, 0, 0, 627]),
  (31, 1, .aload_n 0, []),
  (32, 1, .iconst 0, [0, 0]),
  (33, 3, .putfield 124, [7, 8, 0, 0, 628]),
  (36, 1, .aload_n 0, []),
  (37, 1, .iconst 0, [0, 0]),
  (38, 3, .putfield 127, [7, 9, 0, 0, 629]),
  (41, 1, .iconst 0, [0, 0]),
  (42, 1, .istore_n 3, []),
  (43, 1, .iload_n 3, []),
  (44, 2, .bipush 64, [64, 0]),
  (46, 3, .if_icmp .ge (16), [37]),
  (49, 1, .aload_n 0, []),
  (50, 3, .getfield 38, [7, 15, 2, 0, 635]),
  (53, 1, .iload_n 3, []),
  (54, 1, .iconst 0, [0, 0]),
  (55, 1, .iastore, []),
  (56, 3, .iinc 3 (1), [1, 0]),
  (59, 3, .goto (-16), [27]),
  (62, 1, .iconst 0, [0, 0]),
  (63, 1, .istore_n 3, []),
  (64, 1, .iload_n 3, []),
  (65, 1, .aload_n 0, []),
  (66, 3, .getfield 97, [7, 4, 0, 0, 624]),
  (69, 3, .if_icmp .ge (199), [152]),
  (72, 1, .iconst 0, [0, 0]),
  (73, 2, .istore 4, []),
  (75, 2, .iload 4, []),
  (77, 2, .bipush 60, [60, 0]),
  (79, 3, .if_icmp .ge (28), [62]),
  (82, 1, .aload_n 0, []),
  (83, 3, .getfield 35, [7, 14, 2, 0, 634]),
  (86, 2, .iload 4, []),
  (88, 1, .aload_n 0, []),
  (89, 3, .getfield 17, [7, 5, 2, 0, 625]),
  (92, 2, .bipush 60, [60, 0]),
  (94, 1, .iload_n 3, []),
  (95, 1, .imul, []),
  (96, 2, .iload 4, []),
  (98, 1, .iadd, []),
  (99, 1, .baload, [0]),
  (100, 1, .iastore, []),
  (101, 3, .iinc 4 (1), [1, 0]),
  (104, 3, .goto (-29), [45]),
  (107, 1, .aload_n 0, []),
  (108, 3, .getfield 20, [7, 6, 2, 0, 626]),
  (111, 1, .iload_n 3, []),
  (112, 1, .iaload, []),
  (113, 2, .bipush 44, [44, 0]),
  (115, 2, .bipush 46, [46, 0]),
  (117, 3, .invokestatic 74, [29, 3, 0, 700, 701, 47]),
  (120, 3, .ifCond .eq (24), [81]),
  (123, 1, .aload_n 0, []),
  (124, 1, .aload_n 0, []),
  (125, 3, .getfield 20, [7, 6, 2, 0, 626]),
  (128, 1, .iload_n 3, []),
  (129, 1, .iaload, []),
  (130, 3, .invokevirtual 130, [66, 1, 7, 0, 769, 771, 33, 47]),
  (133, 3, .ifCond .eq (11), [81]),
  (136, 1, .aload_n 0, []),
  (137, 1, .iload_n 2, []),
  (138, 3, .invokevirtual 133, [73, 1, 7, 0, 777, 779, 35, 47]),
  (141, 3, .goto (4), [82]),
  (144, 1, .iconst (-1), [1, 1]),
  (145, 2, .istore 4, []),
  (147, 2, .iload 4, []),
  (149, 3, .ifCond .ge (16), [92]),
  (152, 1, .aload_n 0, []),
  (153, 1, .dup, []),
  (154, 3, .getfield 127, [7, 9, 0, 0, 629]),
  (157, 1, .iconst 1, [1, 0]),
  (158, 1, .iadd, []),
  (159, 3, .putfield 127, [7, 9, 0, 0, 629]),
  (162, 3, .goto (100), [150]),
  (165, 1, .aload_n 0, []),
  (166, 3, .getfield 20, [7, 6, 2, 0, 626]),
  (169, 1, .iload_n 3, []),
  (170, 1, .iaload, []),
  (171, 2, .bipush 45, [45, 0]),
  (173, 3, .if_icmp .eq (13), [104]),
  (176, 1, .aload_n 0, []),
  (177, 1, .dup, []),
  (178, 3, .getfield 124, [7, 8, 0, 0, 628]),
  (181, 1, .iconst 1, [1, 0]),
  (182, 1, .iadd, []),
  (183, 3, .putfield 124, [7, 8, 0, 0, 628]),
  (186, 1, .aload_n 0, []),
  (187, 3, .getfield 38, [7, 15, 2, 0, 635]),
  (190, 2, .iload 4, []),
  (192, 1, .dup2, []),
  (193, 1, .iaload, []),
  (194, 1, .iconst 1, [1, 0]),
  (195, 1, .iadd, []),
  (196, 1, .iastore, []),
  (197, 1, .iconst 0, [0, 0]),
  (198, 2, .istore 5, []),
  (200, 2, .iload 5, []),
  (202, 1, .iconst 4, [4, 0]),
  (203, 3, .if_icmp .ge (59), [150]),
  (206, 1, .aload_n 0, []),
  (207, 3, .getfield 41, [7, 16, 2, 0, 636]),
  (210, 1, .iconst 4, [4, 0]),
  (211, 2, .iload 4, []),
  (213, 1, .imul, []),
  (214, 2, .iload 5, []),
  (216, 1, .iadd, []),
  (217, 2, .iload 5, []),
  (219, 1, .iconst 2, [2, 0]),
  (220, 1, .irem, []),
  (221, 3, .ifCond .ne (20), [138]),
  (224, 1, .aload_n 0, []),
  (225, 1, .iconst 1, [1, 0]),
  (226, 2, .iload 5, []),
  (228, 1, .iconst 2, [2, 0]),
  (229, 1, .idiv, []),
  (230, 1, .iadd, []),
  (231, 3, .invokevirtual 117, [27, 1, 7, 0, 781, 783, 36, 47]),
  (234, 3, .sipush 256, [256, 0]),
  (237, 1, .idiv, []),
  (238, 3, .goto (17), [147]),
  (241, 1, .aload_n 0, []),
  (242, 1, .iconst 1, [1, 0]),
  (243, 2, .iload 5, []),
  (245, 1, .iconst 2, [2, 0]),
  (246, 1, .idiv, []),
  (247, 1, .iadd, []),
  (248, 3, .invokevirtual 117, [27, 1, 7, 0, 781, 783, 36, 47]),
  (251, 3, .sipush 256, [256, 0]),
  (254, 1, .irem, []),
  (255, 1, .iastore, []),
  (256, 3, .iinc 5 (1), [1, 0]),
  (259, 3, .goto (-59), [114]),
  (262, 3, .iinc 3 (1), [1, 0]),
  (265, 3, .goto (-201), [39]),
  (268, 1, .iconst 1, [1, 0]),
  (269, 1, .istore_n 3, []),
  (270, 1, .iconst 0, [0, 0]),
  (271, 2, .istore 4, []),
  (273, 2, .iload 4, []),
  (275, 2, .bipush 64, [64, 0]),
  (277, 3, .if_icmp .ge (40), [178]),
  (280, 1, .aload_n 0, []),
  (281, 1, .dup, []),
  (282, 3, .getfield 127, [7, 9, 0, 0, 629]),
  (285, 1, .aload_n 0, []),
  (286, 3, .getfield 38, [7, 15, 2, 0, 635]),
  (289, 2, .iload 4, []),
  (291, 1, .iaload, []),
  (292, 1, .iconst 1, [1, 0]),
  (293, 3, .if_icmp .le (13), [173]),
  (296, 1, .aload_n 0, []),
  (297, 3, .getfield 38, [7, 15, 2, 0, 635]),
  (300, 2, .iload 4, []),
  (302, 1, .iaload, []),
  (303, 3, .goto (4), [174]),
  (306, 1, .iconst 0, [0, 0]),
  (307, 1, .iadd, []),
  (308, 3, .putfield 127, [7, 9, 0, 0, 629]),
  (311, 3, .iinc 4 (1), [1, 0]),
  (314, 3, .goto (-41), [156]),
  (317, 1, .iconst 0, [0, 0]),
  (318, 2, .istore 4, []),
  (320, 2, .iload 4, []),
  (322, 1, .iload_n 2, []),
  (323, 3, .if_icmp .ge (20), [191]),
  (326, 1, .aload_n 0, []),
  (327, 2, .iload 4, []),
  (329, 3, .invokevirtual 136, [98, 1, 7, 0, 786, 788, 37, 47]),
  (332, 3, .ifCond .ne (5), [189]),
  (335, 1, .iconst 0, [0, 0]),
  (336, 1, .istore_n 3, []),
  (337, 3, .iinc 4 (1), [1, 0]),
  (340, 3, .goto (-20), [180]),
  (343, 1, .iload_n 3, []),
  (344, 1, .ireturn, [0])]
theorem po_Mod_decode : ma_ok me_Mod_decode pr_Mod_decode := ma_ok_of (by decide +kernel)
theorem pa_Mod_decode_0 : pr_Mod_decode[0]? = some (0, 1, .aload_n 0, []) := rfl
theorem pa_Mod_decode_1 : pr_Mod_decode[1]? = some (1, 1, .iconst 0, [0, 0]) := rfl
theorem pa_Mod_decode_2 : pr_Mod_decode[2]? = some (2, 3, .putfield 66, [7, 0, 0, 0, 620]) := rfl
theorem pa_Mod_decode_3 : pr_Mod_decode[3]? = some (5, 1, .iload_n 1, []) := rfl
theorem pa_Mod_decode_4 : pr_Mod_decode[4]? = some (6, 1, .iconst 1, [1, 0]) := rfl
theorem pa_Mod_decode_5 : pr_Mod_decode[5]? = some (7, 3, .sipush 160, [160, 0]) := rfl
theorem pa_Mod_decode_6 : pr_Mod_decode[6]? = some (10, 3, .invokestatic 74, [29, 3, 0, 700, 701, 47]) := rfl
theorem pa_Mod_decode_7 : pr_Mod_decode[7]? = some (13, 3, .ifCond .ne (5), [10]) := rfl
theorem pa_Mod_decode_8 : pr_Mod_decode[8]? = some (16, 1, .iconst (-1), [1, 1]) := rfl
theorem pa_Mod_decode_9 : pr_Mod_decode[9]? = some (17, 1, .ireturn, [0]) := rfl
theorem pa_Mod_decode_10 : pr_Mod_decode[10]? = some (18, 1, .iload_n 1, []) := rfl
theorem pa_Mod_decode_11 : pr_Mod_decode[11]? = some (19, 2, .bipush 39, [39, 0]) := rfl
theorem pa_Mod_decode_12 : pr_Mod_decode[12]? = some (21, 1, .iadd, []) := rfl
theorem pa_Mod_decode_13 : pr_Mod_decode[13]? = some (22, 2, .bipush 40, [40, 0]) := rfl
theorem pa_Mod_decode_14 : pr_Mod_decode[14]? = some (24, 1, .idiv, []) := rfl
theorem pa_Mod_decode_15 : pr_Mod_decode[15]? = some (25, 1, .istore_n 2, []) := rfl
theorem pa_Mod_decode_16 : pr_Mod_decode[16]? = some (26, 1, .aload_n 0, []) := rfl
theorem pa_Mod_decode_17 : pr_Mod_decode[17]? = some (27, 1, .iload_n 1, []) := rfl
theorem pa_Mod_decode_18 : pr_Mod_decode[18]? = some (28, 3, .putfield 121, [7, 7, 0, 0, 627]) := rfl
theorem pa_Mod_decode_19 : pr_Mod_decode[19]? = some (31, 1, .aload_n 0, []) := rfl
theorem pa_Mod_decode_20 : pr_Mod_decode[20]? = some (32, 1, .iconst 0, [0, 0]) := rfl
theorem pa_Mod_decode_21 : pr_Mod_decode[21]? = some (33, 3, .putfield 124, [7, 8, 0, 0, 628]) := rfl
theorem pa_Mod_decode_22 : pr_Mod_decode[22]? = some (36, 1, .aload_n 0, []) := rfl
theorem pa_Mod_decode_23 : pr_Mod_decode[23]? = some (37, 1, .iconst 0, [0, 0]) := rfl
theorem pa_Mod_decode_24 : pr_Mod_decode[24]? = some (38, 3, .putfield 127, [7, 9, 0, 0, 629]) := rfl
theorem pa_Mod_decode_25 : pr_Mod_decode[25]? = some (41, 1, .iconst 0, [0, 0]) := rfl
theorem pa_Mod_decode_26 : pr_Mod_decode[26]? = some (42, 1, .istore_n 3, []) := rfl
theorem pa_Mod_decode_27 : pr_Mod_decode[27]? = some (43, 1, .iload_n 3, []) := rfl
theorem pa_Mod_decode_28 : pr_Mod_decode[28]? = some (44, 2, .bipush 64, [64, 0]) := rfl
theorem pa_Mod_decode_29 : pr_Mod_decode[29]? = some (46, 3, .if_icmp .ge (16), [37]) := rfl
theorem pa_Mod_decode_30 : pr_Mod_decode[30]? = some (49, 1, .aload_n 0, []) := rfl
theorem pa_Mod_decode_31 : pr_Mod_decode[31]? = some (50, 3, .getfield 38, [7, 15, 2, 0, 635]) := rfl
theorem pa_Mod_decode_32 : pr_Mod_decode[32]? = some (53, 1, .iload_n 3, []) := rfl
theorem pa_Mod_decode_33 : pr_Mod_decode[33]? = some (54, 1, .iconst 0, [0, 0]) := rfl
theorem pa_Mod_decode_34 : pr_Mod_decode[34]? = some (55, 1, .iastore, []) := rfl
theorem pa_Mod_decode_35 : pr_Mod_decode[35]? = some (56, 3, .iinc 3 (1), [1, 0]) := rfl
theorem pa_Mod_decode_36 : pr_Mod_decode[36]? = some (59, 3, .goto (-16), [27]) := rfl
theorem pa_Mod_decode_37 : pr_Mod_decode[37]? = some (62, 1, .iconst 0, [0, 0]) := rfl
theorem pa_Mod_decode_38 : pr_Mod_decode[38]? = some (63, 1, .istore_n 3, []) := rfl
theorem pa_Mod_decode_39 : pr_Mod_decode[39]? = some (64, 1, .iload_n 3, []) := rfl
theorem pa_Mod_decode_40 : pr_Mod_decode[40]? = some (65, 1, .aload_n 0, []) := rfl
theorem pa_Mod_decode_41 : pr_Mod_decode[41]? = some (66, 3, .getfield 97, [7, 4, 0, 0, 624]) := rfl
theorem pa_Mod_decode_42 : pr_Mod_decode[42]? = some (69, 3, .if_icmp .ge (199), [152]) := rfl
theorem pa_Mod_decode_43 : pr_Mod_decode[43]? = some (72, 1, .iconst 0, [0, 0]) := rfl
theorem pa_Mod_decode_44 : pr_Mod_decode[44]? = some (73, 2, .istore 4, []) := rfl
theorem pa_Mod_decode_45 : pr_Mod_decode[45]? = some (75, 2, .iload 4, []) := rfl
theorem pa_Mod_decode_46 : pr_Mod_decode[46]? = some (77, 2, .bipush 60, [60, 0]) := rfl
theorem pa_Mod_decode_47 : pr_Mod_decode[47]? = some (79, 3, .if_icmp .ge (28), [62]) := rfl
theorem pa_Mod_decode_48 : pr_Mod_decode[48]? = some (82, 1, .aload_n 0, []) := rfl
theorem pa_Mod_decode_49 : pr_Mod_decode[49]? = some (83, 3, .getfield 35, [7, 14, 2, 0, 634]) := rfl
theorem pa_Mod_decode_50 : pr_Mod_decode[50]? = some (86, 2, .iload 4, []) := rfl
theorem pa_Mod_decode_51 : pr_Mod_decode[51]? = some (88, 1, .aload_n 0, []) := rfl
theorem pa_Mod_decode_52 : pr_Mod_decode[52]? = some (89, 3, .getfield 17, [7, 5, 2, 0, 625]) := rfl
theorem pa_Mod_decode_53 : pr_Mod_decode[53]? = some (92, 2, .bipush 60, [60, 0]) := rfl
theorem pa_Mod_decode_54 : pr_Mod_decode[54]? = some (94, 1, .iload_n 3, []) := rfl
theorem pa_Mod_decode_55 : pr_Mod_decode[55]? = some (95, 1, .imul, []) := rfl
theorem pa_Mod_decode_56 : pr_Mod_decode[56]? = some (96, 2, .iload 4, []) := rfl
theorem pa_Mod_decode_57 : pr_Mod_decode[57]? = some (98, 1, .iadd, []) := rfl
theorem pa_Mod_decode_58 : pr_Mod_decode[58]? = some (99, 1, .baload, [0]) := rfl
theorem pa_Mod_decode_59 : pr_Mod_decode[59]? = some (100, 1, .iastore, []) := rfl
theorem pa_Mod_decode_60 : pr_Mod_decode[60]? = some (101, 3, .iinc 4 (1), [1, 0]) := rfl
theorem pa_Mod_decode_61 : pr_Mod_decode[61]? = some (104, 3, .goto (-29), [45]) := rfl
theorem pa_Mod_decode_62 : pr_Mod_decode[62]? = some (107, 1, .aload_n 0, []) := rfl
theorem pa_Mod_decode_63 : pr_Mod_decode[63]? = some (108, 3, .getfield 20, [7, 6, 2, 0, 626]) := rfl
theorem pa_Mod_decode_64 : pr_Mod_decode[64]? = some (111, 1, .iload_n 3, []) := rfl
theorem pa_Mod_decode_65 : pr_Mod_decode[65]? = some (112, 1, .iaload, []) := rfl
theorem pa_Mod_decode_66 : pr_Mod_decode[66]? = some (113, 2, .bipush 44, [44, 0]) := rfl
theorem pa_Mod_decode_67 : pr_Mod_decode[67]? = some (115, 2, .bipush 46, [46, 0]) := rfl
theorem pa_Mod_decode_68 : pr_Mod_decode[68]? = some (117, 3, .invokestatic 74, [29, 3, 0, 700, 701, 47]) := rfl
theorem pa_Mod_decode_69 : pr_Mod_decode[69]? = some (120, 3, .ifCond .eq (24), [81]) := rfl
theorem pa_Mod_decode_70 : pr_Mod_decode[70]? = some (123, 1, .aload_n 0, []) := rfl
theorem pa_Mod_decode_71 : pr_Mod_decode[71]? = some (124, 1, .aload_n 0, []) := rfl
theorem pa_Mod_decode_72 : pr_Mod_decode[72]? = some (125, 3, .getfield 20, [7, 6, 2, 0, 626]) := rfl
theorem pa_Mod_decode_73 : pr_Mod_decode[73]? = some (128, 1, .iload_n 3, []) := rfl
theorem pa_Mod_decode_74 : pr_Mod_decode[74]? = some (129, 1, .iaload, []) := rfl
theorem pa_Mod_decode_75 : pr_Mod_decode[75]? = some (130, 3, .invokevirtual 130, [66, 1, 7, 0, 769, 771, 33, 47]) := rfl
theorem pa_Mod_decode_76 : pr_Mod_decode[76]? = some (133, 3, .ifCond .eq (11), [81]) := rfl
theorem pa_Mod_decode_77 : pr_Mod_decode[77]? = some (136, 1, .aload_n 0, []) := rfl
theorem pa_Mod_decode_78 : pr_Mod_decode[78]? = some (137, 1, .iload_n 2, []) := rfl
theorem pa_Mod_decode_79 : pr_Mod_decode[79]? = some (138, 3, .invokevirtual 133, [73, 1, 7, 0, 777, 779, 35, 47]) := rfl
theorem pa_Mod_decode_80 : pr_Mod_decode[80]? = some (141, 3, .goto (4), [82]) := rfl
theorem pa_Mod_decode_81 : pr_Mod_decode[81]? = some (144, 1, .iconst (-1), [1, 1]) := rfl
theorem pa_Mod_decode_82 : pr_Mod_decode[82]? = some (145, 2, .istore 4, []) := rfl
theorem pa_Mod_decode_83 : pr_Mod_decode[83]? = some (147, 2, .iload 4, []) := rfl
theorem pa_Mod_decode_84 : pr_Mod_decode[84]? = some (149, 3, .ifCond .ge (16), [92]) := rfl
theorem pa_Mod_decode_85 : pr_Mod_decode[85]? = some (152, 1, .aload_n 0, []) := rfl
theorem pa_Mod_decode_86 : pr_Mod_decode[86]? = some (153, 1, .dup, []) := rfl
theorem pa_Mod_decode_87 : pr_Mod_decode[87]? = some (154, 3, .getfield 127, [7, 9, 0, 0, 629]) := rfl
theorem pa_Mod_decode_88 : pr_Mod_decode[88]? = some (157, 1, .iconst 1, [1, 0]) := rfl
theorem pa_Mod_decode_89 : pr_Mod_decode[89]? = some (158, 1, .iadd, []) := rfl
theorem pa_Mod_decode_90 : pr_Mod_decode[90]? = some (159, 3, .putfield 127, [7, 9, 0, 0, 629]) := rfl
theorem pa_Mod_decode_91 : pr_Mod_decode[91]? = some (162, 3, .goto (100), [150]) := rfl
theorem pa_Mod_decode_92 : pr_Mod_decode[92]? = some (165, 1, .aload_n 0, []) := rfl
theorem pa_Mod_decode_93 : pr_Mod_decode[93]? = some (166, 3, .getfield 20, [7, 6, 2, 0, 626]) := rfl
theorem pa_Mod_decode_94 : pr_Mod_decode[94]? = some (169, 1, .iload_n 3, []) := rfl
theorem pa_Mod_decode_95 : pr_Mod_decode[95]? = some (170, 1, .iaload, []) := rfl
theorem pa_Mod_decode_96 : pr_Mod_decode[96]? = some (171, 2, .bipush 45, [45, 0]) := rfl
theorem pa_Mod_decode_97 : pr_Mod_decode[97]? = some (173, 3, .if_icmp .eq (13), [104]) := rfl
theorem pa_Mod_decode_98 : pr_Mod_decode[98]? = some (176, 1, .aload_n 0, []) := rfl
theorem pa_Mod_decode_99 : pr_Mod_decode[99]? = some (177, 1, .dup, []) := rfl
theorem pa_Mod_decode_100 : pr_Mod_decode[100]? = some (178, 3, .getfield 124, [7, 8, 0, 0, 628]) := rfl
theorem pa_Mod_decode_101 : pr_Mod_decode[101]? = some (181, 1, .iconst 1, [1, 0]) := rfl
theorem pa_Mod_decode_102 : pr_Mod_decode[102]? = some (182, 1, .iadd, []) := rfl
theorem pa_Mod_decode_103 : pr_Mod_decode[103]? = some (183, 3, .putfield 124, [7, 8, 0, 0, 628]) := rfl
theorem pa_Mod_decode_104 : pr_Mod_decode[104]? = some (186, 1, .aload_n 0, []) := rfl
theorem pa_Mod_decode_105 : pr_Mod_decode[105]? = some (187, 3, .getfield 38, [7, 15, 2, 0, 635]) := rfl
theorem pa_Mod_decode_106 : pr_Mod_decode[106]? = some (190, 2, .iload 4, []) := rfl
theorem pa_Mod_decode_107 : pr_Mod_decode[107]? = some (192, 1, .dup2, []) := rfl
theorem pa_Mod_decode_108 : pr_Mod_decode[108]? = some (193, 1, .iaload, []) := rfl
theorem pa_Mod_decode_109 : pr_Mod_decode[109]? = some (194, 1, .iconst 1, [1, 0]) := rfl
theorem pa_Mod_decode_110 : pr_Mod_decode[110]? = some (195, 1, .iadd, []) := rfl
theorem pa_Mod_decode_111 : pr_Mod_decode[111]? = some (196, 1, .iastore, []) := rfl
theorem pa_Mod_decode_112 : pr_Mod_decode[112]? = some (197, 1, .iconst 0, [0, 0]) := rfl
theorem pa_Mod_decode_113 : pr_Mod_decode[113]? = some (198, 2, .istore 5, []) := rfl
theorem pa_Mod_decode_114 : pr_Mod_decode[114]? = some (200, 2, .iload 5, []) := rfl
theorem pa_Mod_decode_115 : pr_Mod_decode[115]? = some (202, 1, .iconst 4, [4, 0]) := rfl
theorem pa_Mod_decode_116 : pr_Mod_decode[116]? = some (203, 3, .if_icmp .ge (59), [150]) := rfl
theorem pa_Mod_decode_117 : pr_Mod_decode[117]? = some (206, 1, .aload_n 0, []) := rfl
theorem pa_Mod_decode_118 : pr_Mod_decode[118]? = some (207, 3, .getfield 41, [7, 16, 2, 0, 636]) := rfl
theorem pa_Mod_decode_119 : pr_Mod_decode[119]? = some (210, 1, .iconst 4, [4, 0]) := rfl
theorem pa_Mod_decode_120 : pr_Mod_decode[120]? = some (211, 2, .iload 4, []) := rfl
theorem pa_Mod_decode_121 : pr_Mod_decode[121]? = some (213, 1, .imul, []) := rfl
theorem pa_Mod_decode_122 : pr_Mod_decode[122]? = some (214, 2, .iload 5, []) := rfl
theorem pa_Mod_decode_123 : pr_Mod_decode[123]? = some (216, 1, .iadd, []) := rfl
theorem pa_Mod_decode_124 : pr_Mod_decode[124]? = some (217, 2, .iload 5, []) := rfl
theorem pa_Mod_decode_125 : pr_Mod_decode[125]? = some (219, 1, .iconst 2, [2, 0]) := rfl
theorem pa_Mod_decode_126 : pr_Mod_decode[126]? = some (220, 1, .irem, []) := rfl
theorem pa_Mod_decode_127 : pr_Mod_decode[127]? = some (221, 3, .ifCond .ne (20), [138]) := rfl
theorem pa_Mod_decode_128 : pr_Mod_decode[128]? = some (224, 1, .aload_n 0, []) := rfl
theorem pa_Mod_decode_129 : pr_Mod_decode[129]? = some (225, 1, .iconst 1, [1, 0]) := rfl
theorem pa_Mod_decode_130 : pr_Mod_decode[130]? = some (226, 2, .iload 5, []) := rfl
theorem pa_Mod_decode_131 : pr_Mod_decode[131]? = some (228, 1, .iconst 2, [2, 0]) := rfl
theorem pa_Mod_decode_132 : pr_Mod_decode[132]? = some (229, 1, .idiv, []) := rfl
theorem pa_Mod_decode_133 : pr_Mod_decode[133]? = some (230, 1, .iadd, []) := rfl
theorem pa_Mod_decode_134 : pr_Mod_decode[134]? = some (231, 3, .invokevirtual 117, [27, 1, 7, 0, 781, 783, 36, 47]) := rfl
theorem pa_Mod_decode_135 : pr_Mod_decode[135]? = some (234, 3, .sipush 256, [256, 0]) := rfl
theorem pa_Mod_decode_136 : pr_Mod_decode[136]? = some (237, 1, .idiv, []) := rfl
theorem pa_Mod_decode_137 : pr_Mod_decode[137]? = some (238, 3, .goto (17), [147]) := rfl
theorem pa_Mod_decode_138 : pr_Mod_decode[138]? = some (241, 1, .aload_n 0, []) := rfl
theorem pa_Mod_decode_139 : pr_Mod_decode[139]? = some (242, 1, .iconst 1, [1, 0]) := rfl
theorem pa_Mod_decode_140 : pr_Mod_decode[140]? = some (243, 2, .iload 5, []) := rfl
theorem pa_Mod_decode_141 : pr_Mod_decode[141]? = some (245, 1, .iconst 2, [2, 0]) := rfl
theorem pa_Mod_decode_142 : pr_Mod_decode[142]? = some (246, 1, .idiv, []) := rfl
theorem pa_Mod_decode_143 : pr_Mod_decode[143]? = some (247, 1, .iadd, []) := rfl
theorem pa_Mod_decode_144 : pr_Mod_decode[144]? = some (248, 3, .invokevirtual 117, [27, 1, 7, 0, 781, 783, 36, 47]) := rfl
theorem pa_Mod_decode_145 : pr_Mod_decode[145]? = some (251, 3, .sipush 256, [256, 0]) := rfl
theorem pa_Mod_decode_146 : pr_Mod_decode[146]? = some (254, 1, .irem, []) := rfl
theorem pa_Mod_decode_147 : pr_Mod_decode[147]? = some (255, 1, .iastore, []) := rfl
theorem pa_Mod_decode_148 : pr_Mod_decode[148]? = some (256, 3, .iinc 5 (1), [1, 0]) := rfl
theorem pa_Mod_decode_149 : pr_Mod_decode[149]? = some (259, 3, .goto (-59), [114]) := rfl
theorem pa_Mod_decode_150 : pr_Mod_decode[150]? = some (262, 3, .iinc 3 (1), [1, 0]) := rfl
theorem pa_Mod_decode_151 : pr_Mod_decode[151]? = some (265, 3, .goto (-201), [39]) := rfl
theorem pa_Mod_decode_152 : pr_Mod_decode[152]? = some (268, 1, .iconst 1, [1, 0]) := rfl
theorem pa_Mod_decode_153 : pr_Mod_decode[153]? = some (269, 1, .istore_n 3, []) := rfl
theorem pa_Mod_decode_154 : pr_Mod_decode[154]? = some (270, 1, .iconst 0, [0, 0]) := rfl
theorem pa_Mod_decode_155 : pr_Mod_decode[155]? = some (271, 2, .istore 4, []) := rfl
theorem pa_Mod_decode_156 : pr_Mod_decode[156]? = some (273, 2, .iload 4, []) := rfl
theorem pa_Mod_decode_157 : pr_Mod_decode[157]? = some (275, 2, .bipush 64, [64, 0]) := rfl
theorem pa_Mod_decode_158 : pr_Mod_decode[158]? = some (277, 3, .if_icmp .ge (40), [178]) := rfl
theorem pa_Mod_decode_159 : pr_Mod_decode[159]? = some (280, 1, .aload_n 0, []) := rfl
theorem pa_Mod_decode_160 : pr_Mod_decode[160]? = some (281, 1, .dup, []) := rfl
theorem pa_Mod_decode_161 : pr_Mod_decode[161]? = some (282, 3, .getfield 127, [7, 9, 0, 0, 629]) := rfl
theorem pa_Mod_decode_162 : pr_Mod_decode[162]? = some (285, 1, .aload_n 0, []) := rfl
theorem pa_Mod_decode_163 : pr_Mod_decode[163]? = some (286, 3, .getfield 38, [7, 15, 2, 0, 635]) := rfl
theorem pa_Mod_decode_164 : pr_Mod_decode[164]? = some (289, 2, .iload 4, []) := rfl
theorem pa_Mod_decode_165 : pr_Mod_decode[165]? = some (291, 1, .iaload, []) := rfl
theorem pa_Mod_decode_166 : pr_Mod_decode[166]? = some (292, 1, .iconst 1, [1, 0]) := rfl
theorem pa_Mod_decode_167 : pr_Mod_decode[167]? = some (293, 3, .if_icmp .le (13), [173]) := rfl
theorem pa_Mod_decode_168 : pr_Mod_decode[168]? = some (296, 1, .aload_n 0, []) := rfl
theorem pa_Mod_decode_169 : pr_Mod_decode[169]? = some (297, 3, .getfield 38, [7, 15, 2, 0, 635]) := rfl
theorem pa_Mod_decode_170 : pr_Mod_decode[170]? = some (300, 2, .iload 4, []) := rfl
theorem pa_Mod_decode_171 : pr_Mod_decode[171]? = some (302, 1, .iaload, []) := rfl
theorem pa_Mod_decode_172 : pr_Mod_decode[172]? = some (303, 3, .goto (4), [174]) := rfl
theorem pa_Mod_decode_173 : pr_Mod_decode[173]? = some (306, 1, .iconst 0, [0, 0]) := rfl
theorem pa_Mod_decode_174 : pr_Mod_decode[174]? = some (307, 1, .iadd, []) := rfl
theorem pa_Mod_decode_175 : pr_Mod_decode[175]? = some (308, 3, .putfield 127, [7, 9, 0, 0, 629]) := rfl
theorem pa_Mod_decode_176 : pr_Mod_decode[176]? = some (311, 3, .iinc 4 (1), [1, 0]) := rfl
theorem pa_Mod_decode_177 : pr_Mod_decode[177]? = some (314, 3, .goto (-41), [156]) := rfl
theorem pa_Mod_decode_178 : pr_Mod_decode[178]? = some (317, 1, .iconst 0, [0, 0]) := rfl
theorem pa_Mod_decode_179 : pr_Mod_decode[179]? = some (318, 2, .istore 4, []) := rfl
theorem pa_Mod_decode_180 : pr_Mod_decode[180]? = some (320, 2, .iload 4, []) := rfl
theorem pa_Mod_decode_181 : pr_Mod_decode[181]? = some (322, 1, .iload_n 2, []) := rfl
theorem pa_Mod_decode_182 : pr_Mod_decode[182]? = some (323, 3, .if_icmp .ge (20), [191]) := rfl
theorem pa_Mod_decode_183 : pr_Mod_decode[183]? = some (326, 1, .aload_n 0, []) := rfl
theorem pa_Mod_decode_184 : pr_Mod_decode[184]? = some (327, 2, .iload 4, []) := rfl
theorem pa_Mod_decode_185 : pr_Mod_decode[185]? = some (329, 3, .invokevirtual 136, [98, 1, 7, 0, 786, 788, 37, 47]) := rfl
theorem pa_Mod_decode_186 : pr_Mod_decode[186]? = some (332, 3, .ifCond .ne (5), [189]) := rfl
theorem pa_Mod_decode_187 : pr_Mod_decode[187]? = some (335, 1, .iconst 0, [0, 0]) := rfl
theorem pa_Mod_decode_188 : pr_Mod_decode[188]? = some (336, 1, .istore_n 3, []) := rfl
theorem pa_Mod_decode_189 : pr_Mod_decode[189]? = some (337, 3, .iinc 4 (1), [1, 0]) := rfl
theorem pa_Mod_decode_190 : pr_Mod_decode[190]? = some (340, 3, .goto (-20), [180]) := rfl
theorem pa_Mod_decode_191 : pr_Mod_decode[191]? = some (343, 1, .iload_n 3, []) := rfl
theorem pa_Mod_decode_192 : pr_Mod_decode[192]? = some (344, 1, .ireturn, [0]) := rfl
set_option maxRecDepth 30000 in
def pa_Mod_decode := And.intro pa_Mod_decode_0 (And.intro pa_Mod_decode_1 (And.intro pa_Mod_decode_2 (And.intro pa_Mod_decode_3 (And.intro pa_Mod_decode_4 (And.intro pa_Mod_decode_5 (And.intro pa_Mod_decode_6 (And.intro pa_Mod_decode_7 (And.intro pa_Mod_decode_8 (And.intro pa_Mod_decode_9 (And.intro pa_Mod_decode_10 (And.intro pa_Mod_decode_11 (And.intro pa_Mod_decode_12 (And.intro pa_Mod_decode_13 (And.intro pa_Mod_decode_14 (And.intro pa_Mod_decode_15 (And.intro pa_Mod_decode_16 (And.intro pa_Mod_decode_17 (And.intro pa_Mod_decode_18 (And.intro pa_Mod_decode_19 (And.intro pa_Mod_decode_20 (And.intro pa_Mod_decode_21 (And.intro pa_Mod_decode_22 (And.intro pa_Mod_decode_23 (And.intro pa_Mod_decode_24 (And.intro pa_Mod_decode_25 (And.intro pa_Mod_decode_26 (And.intro pa_Mod_decode_27 (And.intro pa_Mod_decode_28 (And.intro pa_Mod_decode_29 (And.intro pa_Mod_decode_30 (And.intro pa_Mod_decode_31 (And.intro pa_Mod_decode_32 (And.intro pa_Mod_decode_33 (And.intro pa_Mod_decode_34 (And.intro pa_Mod_decode_35 (And.intro pa_Mod_decode_36 (And.intro pa_Mod_decode_37 (And.intro pa_Mod_decode_38 (And.intro pa_Mod_decode_39 (And.intro pa_Mod_decode_40 (And.intro pa_Mod_decode_41 (And.intro pa_Mod_decode_42 (And.intro pa_Mod_decode_43 (And.intro pa_Mod_decode_44 (And.intro pa_Mod_decode_45 (And.intro pa_Mod_decode_46 (And.intro pa_Mod_decode_47 (And.intro pa_Mod_decode_48 (And.intro pa_Mod_decode_49 (And.intro pa_Mod_decode_50 (And.intro pa_Mod_decode_51 (And.intro pa_Mod_decode_52 (And.intro pa_Mod_decode_53 (And.intro pa_Mod_decode_54 (And.intro pa_Mod_decode_55 (And.intro pa_Mod_decode_56 (And.intro pa_Mod_decode_57 (And.intro pa_Mod_decode_58 (And.intro pa_Mod_decode_59 (And.intro pa_Mod_decode_60 (And.intro pa_Mod_decode_61 (And.intro pa_Mod_decode_62 (And.intro pa_Mod_decode_63 (And.intro pa_Mod_decode_64 (And.intro pa_Mod_decode_65 (And.intro pa_Mod_decode_66 (And.intro pa_Mod_decode_67 (And.intro pa_Mod_decode_68 (And.intro pa_Mod_decode_69 (And.intro pa_Mod_decode_70 (And.intro pa_Mod_decode_71 (And.intro pa_Mod_decode_72 (And.intro pa_Mod_decode_73 (And.intro pa_Mod_decode_74 (And.intro pa_Mod_decode_75 (And.intro pa_Mod_decode_76 (And.intro pa_Mod_decode_77 (And.intro pa_Mod_decode_78 (And.intro pa_Mod_decode_79 (And.intro pa_Mod_decode_80 (And.intro pa_Mod_decode_81 (And.intro pa_Mod_decode_82 (And.intro pa_Mod_decode_83 (And.intro pa_Mod_decode_84 (And.intro pa_Mod_decode_85 (And.intro pa_Mod_decode_86 (And.intro pa_Mod_decode_87 (And.intro pa_Mod_decode_88 (And.intro pa_Mod_decode_89 (And.intro pa_Mod_decode_90 (And.intro pa_Mod_decode_91 (And.intro pa_Mod_decode_92 (And.intro pa_Mod_decode_93 (And.intro pa_Mod_decode_94 (And.intro pa_Mod_decode_95 (And.intro pa_Mod_decode_96 (And.intro pa_Mod_decode_97 (And.intro pa_Mod_decode_98 (And.intro pa_Mod_decode_99 (And.intro pa_Mod_decode_100 (And.intro pa_Mod_decode_101 (And.intro pa_Mod_decode_102 (And.intro pa_Mod_decode_103 (And.intro pa_Mod_decode_104 (And.intro pa_Mod_decode_105 (And.intro pa_Mod_decode_106 (And.intro pa_Mod_decode_107 (And.intro pa_Mod_decode_108 (And.intro pa_Mod_decode_109 (And.intro pa_Mod_decode_110 (And.intro pa_Mod_decode_111 (And.intro pa_Mod_decode_112 (And.intro pa_Mod_decode_113 (And.intro pa_Mod_decode_114 (And.intro pa_Mod_decode_115 (And.intro pa_Mod_decode_116 (And.intro pa_Mod_decode_117 (And.intro pa_Mod_decode_118 (And.intro pa_Mod_decode_119 (And.intro pa_Mod_decode_120 (And.intro pa_Mod_decode_121 (And.intro pa_Mod_decode_122 (And.intro pa_Mod_decode_123 (And.intro pa_Mod_decode_124 (And.intro pa_Mod_decode_125 (And.intro pa_Mod_decode_126 (And.intro pa_Mod_decode_127 (And.intro pa_Mod_decode_128 (And.intro pa_Mod_decode_129 (And.intro pa_Mod_decode_130 (And.intro pa_Mod_decode_131 (And.intro pa_Mod_decode_132 (And.intro pa_Mod_decode_133 (And.intro pa_Mod_decode_134 (And.intro pa_Mod_decode_135 (And.intro pa_Mod_decode_136 (And.intro pa_Mod_decode_137 (And.intro pa_Mod_decode_138 (And.intro pa_Mod_decode_139 (And.intro pa_Mod_decode_140 (And.intro pa_Mod_decode_141 (And.intro pa_Mod_decode_142 (And.intro pa_Mod_decode_143 (And.intro pa_Mod_decode_144 (And.intro pa_Mod_decode_145 (And.intro pa_Mod_decode_146 (And.intro pa_Mod_decode_147 (And.intro pa_Mod_decode_148 (And.intro pa_Mod_decode_149 (And.intro pa_Mod_decode_150 (And.intro pa_Mod_decode_151 (And.intro pa_Mod_decode_152 (And.intro pa_Mod_decode_153 (And.intro pa_Mod_decode_154 (And.intro pa_Mod_decode_155 (And.intro pa_Mod_decode_156 (And.intro pa_Mod_decode_157 (And.intro pa_Mod_decode_158 (And.intro pa_Mod_decode_159 (And.intro pa_Mod_decode_160 (And.intro pa_Mod_decode_161 (And.intro pa_Mod_decode_162 (And.intro pa_Mod_decode_163 (And.intro pa_Mod_decode_164 (And.intro pa_Mod_decode_165 (And.intro pa_Mod_decode_166 (And.intro pa_Mod_decode_167 (And.intro pa_Mod_decode_168 (And.intro pa_Mod_decode_169 (And.intro pa_Mod_decode_170 (And.intro pa_Mod_decode_171 (And.intro pa_Mod_decode_172 (And.intro pa_Mod_decode_173 (And.intro pa_Mod_decode_174 (And.intro pa_Mod_decode_175 (And.intro pa_Mod_decode_176 (And.intro pa_Mod_decode_177 (And.intro pa_Mod_decode_178 (And.intro pa_Mod_decode_179 (And.intro pa_Mod_decode_180 (And.intro pa_Mod_decode_181 (And.intro pa_Mod_decode_182 (And.intro pa_Mod_decode_183 (And.intro pa_Mod_decode_184 (And.intro pa_Mod_decode_185 (And.intro pa_Mod_decode_186 (And.intro pa_Mod_decode_187 (And.intro pa_Mod_decode_188 (And.intro pa_Mod_decode_189 (And.intro pa_Mod_decode_190 (And.intro pa_Mod_decode_191 (pa_Mod_decode_192))))))))))))))))))))))))))))))))))))))))))))))))))))))))))))))))))))))))))))))))))))))))))))))))))))))))))))))))))))))))))))))))))))))))))))))))))))))))))))))))))))))))))))))))))))))))))))))))
def pr_Dec_finishBlock : List ma_E := [(0, 1, .aload_n 0, []),
  (1, 1, .iload_n 1, []),
  (2, 3, .invokevirtual 79, [14, 1, 5, 0, 500, 502, 24, 45]),
  (5, 1, .aload_n 0, []),
  (6, 1, .iconst 0, [0, 0]),
  (7, 3, .putfield 25, [5, 4, 0, 0, 186]),
  (10, 1, .iconst 0, [0, 0]),
  (11, 1, .istore_n 2, []),
  (12, 1, .iload_n 2, []),
  (13, 1, .iconst 4, [4, 0]),
  (14, 3, .if_icmp .ge (25), [23]),
  (17, 1, .aload_n 0, []),
  (18, 1, .iload_n 1, []),
  (19, 1, .iload_n 2, []),
  (20, 3, .invokevirtual 83, [99, 2, 5, 0, 504, 506, 25, 45]),
  (23, 3, .ifCond .ne (10), [21]),
  (26, 1, .aload_n 0, []),
  (27, 1, .iload_n 1, []),
  (28, 3, .invokevirtual 87, [13, 1, 5, 0, 510, 512, 26, 45]),
  (31, 1, .iconst 0, [0, 0]),
  (32, 1, .ireturn, [1]),
  (33, 3, .iinc 2 (1), [1, 0]),
  (36, 3, .goto (-24), [8]),
  (39, 1, .aload_n 0, []),
  (40, 3, .getfield 44, [5, 10, 2, 0, 197]),
  (43, 1, .iload_n 1, []),
  (44, 1, .aload_n 0, []),
  (45, 3, .getfield 25, [5, 4, 0, 0, 186]),
  (48, 3, .invokestatic 90, [37, 1, 0, 514, 515, 51]),
  (51, 1, .iastore, []),
  (52, 1, .iconst 1, [1, 0]),
  (53, 1, .ireturn, [1])]
theorem po_Dec_finishBlock : ma_ok me_Dec_finishBlock pr_Dec_finishBlock := ma_ok_of (by decide +kernel)
theorem pa_Dec_finishBlock_0 : pr_Dec_finishBlock[0]? = some (0, 1, .aload_n 0, []) := rfl
theorem pa_Dec_finishBlock_1 : pr_Dec_finishBlock[1]? = some (1, 1, .iload_n 1, []) := rfl
theorem pa_Dec_finishBlock_2 : pr_Dec_finishBlock[2]? = some (2, 3, .invokevirtual 79, [14, 1, 5, 0, 500, 502, 24, 45]) := rfl
theorem pa_Dec_finishBlock_3 : pr_Dec_finishBlock[3]? = some (5, 1, .aload_n 0, []) := rfl
theorem pa_Dec_finishBlock_4 : pr_Dec_finishBlock[4]? = some (6, 1, .iconst 0, [0, 0]) := rfl
theorem pa_Dec_finishBlock_5 : pr_Dec_finishBlock[5]? = some (7, 3, .putfield 25, [5, 4, 0, 0, 186]) := rfl
theorem pa_Dec_finishBlock_6 : pr_Dec_finishBlock[6]? = some (10, 1, .iconst 0, [0, 0]) := rfl
theorem pa_Dec_finishBlock_7 : pr_Dec_finishBlock[7]? = some (11, 1, .istore_n 2, []) := rfl
theorem pa_Dec_finishBlock_8 : pr_Dec_finishBlock[8]? = some (12, 1, .iload_n 2, []) := rfl
theorem pa_Dec_finishBlock_9 : pr_Dec_finishBlock[9]? = some (13, 1, .iconst 4, [4, 0]) := rfl
theorem pa_Dec_finishBlock_10 : pr_Dec_finishBlock[10]? = some (14, 3, .if_icmp .ge (25), [23]) := rfl
theorem pa_Dec_finishBlock_11 : pr_Dec_finishBlock[11]? = some (17, 1, .aload_n 0, []) := rfl
theorem pa_Dec_finishBlock_12 : pr_Dec_finishBlock[12]? = some (18, 1, .iload_n 1, []) := rfl
theorem pa_Dec_finishBlock_13 : pr_Dec_finishBlock[13]? = some (19, 1, .iload_n 2, []) := rfl
theorem pa_Dec_finishBlock_14 : pr_Dec_finishBlock[14]? = some (20, 3, .invokevirtual 83, [99, 2, 5, 0, 504, 506, 25, 45]) := rfl
theorem pa_Dec_finishBlock_15 : pr_Dec_finishBlock[15]? = some (23, 3, .ifCond .ne (10), [21]) := rfl
theorem pa_Dec_finishBlock_16 : pr_Dec_finishBlock[16]? = some (26, 1, .aload_n 0, []) := rfl
theorem pa_Dec_finishBlock_17 : pr_Dec_finishBlock[17]? = some (27, 1, .iload_n 1, []) := rfl
theorem pa_Dec_finishBlock_18 : pr_Dec_finishBlock[18]? = some (28, 3, .invokevirtual 87, [13, 1, 5, 0, 510, 512, 26, 45]) := rfl
theorem pa_Dec_finishBlock_19 : pr_Dec_finishBlock[19]? = some (31, 1, .iconst 0, [0, 0]) := rfl
theorem pa_Dec_finishBlock_20 : pr_Dec_finishBlock[20]? = some (32, 1, .ireturn, [1]) := rfl
theorem pa_Dec_finishBlock_21 : pr_Dec_finishBlock[21]? = some (33, 3, .iinc 2 (1), [1, 0]) := rfl
theorem pa_Dec_finishBlock_22 : pr_Dec_finishBlock[22]? = some (36, 3, .goto (-24), [8]) := rfl
theorem pa_Dec_finishBlock_23 : pr_Dec_finishBlock[23]? = some (39, 1, .aload_n 0, []) := rfl
theorem pa_Dec_finishBlock_24 : pr_Dec_finishBlock[24]? = some (40, 3, .getfield 44, [5, 10, 2, 0, 197]) := rfl
theorem pa_Dec_finishBlock_25 : pr_Dec_finishBlock[25]? = some (43, 1, .iload_n 1, []) := rfl
theorem pa_Dec_finishBlock_26 : pr_Dec_finishBlock[26]? = some (44, 1, .aload_n 0, []) := rfl
theorem pa_Dec_finishBlock_27 : pr_Dec_finishBlock[27]? = some (45, 3, .getfield 25, [5, 4, 0, 0, 186]) := rfl
theorem pa_Dec_finishBlock_28 : pr_Dec_finishBlock[28]? = some (48, 3, .invokestatic 90, [37, 1, 0, 514, 515, 51]) := rfl
theorem pa_Dec_finishBlock_29 : pr_Dec_finishBlock[29]? = some (51, 1, .iastore, []) := rfl
theorem pa_Dec_finishBlock_30 : pr_Dec_finishBlock[30]? = some (52, 1, .iconst 1, [1, 0]) := rfl
theorem pa_Dec_finishBlock_31 : pr_Dec_finishBlock[31]? = some (53, 1, .ireturn, [1]) := rfl
def pa_Dec_finishBlock := And.intro pa_Dec_finishBlock_0 (And.intro pa_Dec_finishBlock_1 (And.intro pa_Dec_finishBlock_2 (And.intro pa_Dec_finishBlock_3 (And.intro pa_Dec_finishBlock_4 (And.intro pa_Dec_finishBlock_5 (And.intro pa_Dec_finishBlock_6 (And.intro pa_Dec_finishBlock_7 (And.intro pa_Dec_finishBlock_8 (And.intro pa_Dec_finishBlock_9 (And.intro pa_Dec_finishBlock_10 (And.intro pa_Dec_finishBlock_11 (And.intro pa_Dec_finishBlock_12 (And.intro pa_Dec_finishBlock_13 (And.intro pa_Dec_finishBlock_14 (And.intro pa_Dec_finishBlock_15 (And.intro pa_Dec_finishBlock_16 (And.intro pa_Dec_finishBlock_17 (And.intro pa_Dec_finishBlock_18 (And.intro pa_Dec_finishBlock_19 (And.intro pa_Dec_finishBlock_20 (And.intro pa_Dec_finishBlock_21 (And.intro pa_Dec_finishBlock_22 (And.intro pa_Dec_finishBlock_23 (And.intro pa_Dec_finishBlock_24 (And.intro pa_Dec_finishBlock_25 (And.intro pa_Dec_finishBlock_26 (And.intro pa_Dec_finishBlock_27 (And.intro pa_Dec_finishBlock_28 (And.intro pa_Dec_finishBlock_29 (And.intro pa_Dec_finishBlock_30 (pa_Dec_finishBlock_31)))))))))))))))))))))))))))))))
def pr_Arc_write : List ma_E := [(0, 1, .iload_n 1, []),
  (1, 3, .invokestatic 66, [20, 1, 0, 261, 262, 40]),
  (4, 3, .ifCond .ne (5), [5]),
  (7, 1, .iconst 0, [0, 0]),
  (8, 1, .ireturn, [0]),
  (9, 1, .iload_n 1, []),
  (10, 3, .invokestatic 70, [15, 1, 0, 264, 265, 40]),
  (13, 1, .istore_n 2, []),
  (14, 1, .iconst 0, [0, 0]),
  (15, 1, .istore_n 3, []),
  (16, 1, .iload_n 3, []),
  (17, 1, .iload_n 2, []),
  (18, 3, .if_icmp .ge (38), [30]),
  (21, 1, .aload_n 0, []),
  (22, 1, .iload_n 3, []),
  (23, 1, .iload_n 1, []),
  (24, 3, .invokevirtual 74, [102, 2, 6, 0, 267, 269, 0, 40]),
  (27, 1, .iconst 0, [0, 0]),
  (28, 2, .istore 4, []),
  (30, 2, .iload 4, []),
  (32, 2, .bipush 16, [16, 0]),
  (34, 3, .if_icmp .ge (16), [28]),
  (37, 1, .aload_n 0, []),
  (38, 1, .iload_n 3, []),
  (39, 2, .iload 4, []),
  (41, 3, .invokevirtual 78, [97, 2, 6, 0, 341, 343, 12, 40]),
  (44, 3, .iinc 4 (1), [1, 0]),
  (47, 3, .goto (-17), [19]),
  (50, 3, .iinc 3 (1), [1, 0]),
  (53, 3, .goto (-37), [10]),
  (56, 1, .aload_n 0, []),
  (57, 1, .iload_n 2, []),
  (58, 2, .bipush 16, [16, 0]),
  (60, 1, .imul, []),
  (61, 3, .putfield 21, [6, 2, 0, 0, 224]),
  (64, 1, .aload_n 0, []),
  (65, 1, .iconst 0, [0, 0]),
  (66, 3, .putfield 28, [6, 4, 0, 0, 226]),
  (69, 1, .aload_n 0, []),
  (70, 3, .getfield 21, [6, 2, 0, 0, 224]),
  (73, 1, .ireturn, [0])]
theorem po_Arc_write : ma_ok me_Arc_write pr_Arc_write := ma_ok_of (by decide +kernel)
theorem pa_Arc_write_0 : pr_Arc_write[0]? = some (0, 1, .iload_n 1, []) := rfl
theorem pa_Arc_write_1 : pr_Arc_write[1]? = some (1, 3, .invokestatic 66, [20, 1, 0, 261, 262, 40]) := rfl
theorem pa_Arc_write_2 : pr_Arc_write[2]? = some (4, 3, .ifCond .ne (5), [5]) := rfl
theorem pa_Arc_write_3 : pr_Arc_write[3]? = some (7, 1, .iconst 0, [0, 0]) := rfl
theorem pa_Arc_write_4 : pr_Arc_write[4]? = some (8, 1, .ireturn, [0]) := rfl
theorem pa_Arc_write_5 : pr_Arc_write[5]? = some (9, 1, .iload_n 1, []) := rfl
theorem pa_Arc_write_6 : pr_Arc_write[6]? = some (10, 3, .invokestatic 70, [15, 1, 0, 264, 265, 40]) := rfl
theorem pa_Arc_write_7 : pr_Arc_write[7]? = some (13, 1, .istore_n 2, []) := rfl
theorem pa_Arc_write_8 : pr_Arc_write[8]? = some (14, 1, .iconst 0, [0, 0]) := rfl
theorem pa_Arc_write_9 : pr_Arc_write[9]? = some (15, 1, .istore_n 3, []) := rfl
theorem pa_Arc_write_10 : pr_Arc_write[10]? = some (16, 1, .iload_n 3, []) := rfl
theorem pa_Arc_write_11 : pr_Arc_write[11]? = some (17, 1, .iload_n 2, []) := rfl
theorem pa_Arc_write_12 : pr_Arc_write[12]? = some (18, 3, .if_icmp .ge (38), [30]) := rfl
theorem pa_Arc_write_13 : pr_Arc_write[13]? = some (21, 1, .aload_n 0, []) := rfl
theorem pa_Arc_write_14 : pr_Arc_write[14]? = some (22, 1, .iload_n 3, []) := rfl
theorem pa_Arc_write_15 : pr_Arc_write[15]? = some (23, 1, .iload_n 1, []) := rfl
theorem pa_Arc_write_16 : pr_Arc_write[16]? = some (24, 3, .invokevirtual 74, [102, 2, 6, 0, 267, 269, 0, 40]) := rfl
theorem pa_Arc_write_17 : pr_Arc_write[17]? = some (27, 1, .iconst 0, [0, 0]) := rfl
theorem pa_Arc_write_18 : pr_Arc_write[18]? = some (28, 2, .istore 4, []) := rfl
theorem pa_Arc_write_19 : pr_Arc_write[19]? = some (30, 2, .iload 4, []) := rfl
theorem pa_Arc_write_20 : pr_Arc_write[20]? = some (32, 2, .bipush 16, [16, 0]) := rfl
theorem pa_Arc_write_21 : pr_Arc_write[21]? = some (34, 3, .if_icmp .ge (16), [28]) := rfl
theorem pa_Arc_write_22 : pr_Arc_write[22]? = some (37, 1, .aload_n 0, []) := rfl
theorem pa_Arc_write_23 : pr_Arc_write[23]? = some (38, 1, .iload_n 3, []) := rfl
theorem pa_Arc_write_24 : pr_Arc_write[24]? = some (39, 2, .iload 4, []) := rfl
theorem pa_Arc_write_25 : pr_Arc_write[25]? = some (41, 3, .invokevirtual 78, [97, 2, 6, 0, 341, 343, 12, 40]) := rfl
theorem pa_Arc_write_26 : pr_Arc_write[26]? = some (44, 3, .iinc 4 (1), [1, 0]) := rfl
theorem pa_Arc_write_27 : pr_Arc_write[27]? = some (47, 3, .goto (-17), [19]) := rfl
theorem pa_Arc_write_28 : pr_Arc_write[28]? = some (50, 3, .iinc 3 (1), [1, 0]) := rfl
theorem pa_Arc_write_29 : pr_Arc_write[29]? = some (53, 3, .goto (-37), [10]) := rfl
theorem pa_Arc_write_30 : pr_Arc_write[30]? = some (56, 1, .aload_n 0, []) := rfl
theorem pa_Arc_write_31 : pr_Arc_write[31]? = some (57, 1, .iload_n 2, []) := rfl
theorem pa_Arc_write_32 : pr_Arc_write[32]? = some (58, 2, .bipush 16, [16, 0]) := rfl
theorem pa_Arc_write_33 : pr_Arc_write[33]? = some (60, 1, .imul, []) := rfl
theorem pa_Arc_write_34 : pr_Arc_write[34]? = some (61, 3, .putfield 21, [6, 2, 0, 0, 224]) := rfl
theorem pa_Arc_write_35 : pr_Arc_write[35]? = some (64, 1, .aload_n 0, []) := rfl
theorem pa_Arc_write_36 : pr_Arc_write[36]? = some (65, 1, .iconst 0, [0, 0]) := rfl
theorem pa_Arc_write_37 : pr_Arc_write[37]? = some (66, 3, .putfield 28, [6, 4, 0, 0, 226]) := rfl
theorem pa_Arc_write_38 : pr_Arc_write[38]? = some (69, 1, .aload_n 0, []) := rfl
theorem pa_Arc_write_39 : pr_Arc_write[39]? = some (70, 3, .getfield 21, [6, 2, 0, 0, 224]) := rfl
theorem pa_Arc_write_40 : pr_Arc_write[40]? = some (73, 1, .ireturn, [0]) := rfl
def pa_Arc_write := And.intro pa_Arc_write_0 (And.intro pa_Arc_write_1 (And.intro pa_Arc_write_2 (And.intro pa_Arc_write_3 (And.intro pa_Arc_write_4 (And.intro pa_Arc_write_5 (And.intro pa_Arc_write_6 (And.intro pa_Arc_write_7 (And.intro pa_Arc_write_8 (And.intro pa_Arc_write_9 (And.intro pa_Arc_write_10 (And.intro pa_Arc_write_11 (And.intro pa_Arc_write_12 (And.intro pa_Arc_write_13 (And.intro pa_Arc_write_14 (And.intro pa_Arc_write_15 (And.intro pa_Arc_write_16 (And.intro pa_Arc_write_17 (And.intro pa_Arc_write_18 (And.intro pa_Arc_write_19 (And.intro pa_Arc_write_20 (And.intro pa_Arc_write_21 (And.intro pa_Arc_write_22 (And.intro pa_Arc_write_23 (And.intro pa_Arc_write_24 (And.intro pa_Arc_write_25 (And.intro pa_Arc_write_26 (And.intro pa_Arc_write_27 (And.intro pa_Arc_write_28 (And.intro pa_Arc_write_29 (And.intro pa_Arc_write_30 (And.intro pa_Arc_write_31 (And.intro pa_Arc_write_32 (And.intro pa_Arc_write_33 (And.intro pa_Arc_write_34 (And.intro pa_Arc_write_35 (And.intro pa_Arc_write_36 (And.intro pa_Arc_write_37 (And.intro pa_Arc_write_38 (And.intro pa_Arc_write_39 (pa_Arc_write_40))))))))))))))))))))))))))))))))))))))))
def pr_Arc_decode : List ma_E := [(0, 1, .iload_n 1, []),
  (1, 3, .invokestatic 66, [20, 1, 0, 261, 262, 40]),
  (4, 3, .ifCond .ne (5), [5]),
  (7, 1, .iconst (-1), [1, 1]),
  (8, 1, .ireturn, [0]),
  (9, 1, .aload_n 0, []),
  (10, 3, .getfield 62, [6, 9, 2, 0, 231]),
  (13, 1, .iload_n 1, []),
  (14, 3, .invokevirtual 122, [55, 1, 5, 0, 443, 444, 445, 45]),
  (17, 1, .iconst 0, [0, 0]),
  (18, 1, .istore_n 2, []),
  (19, 1, .iload_n 2, []),
  (20, 1, .aload_n 0, []),
  (21, 3, .getfield 28, [6, 4, 0, 0, 226]),
  (24, 3, .if_icmp .ge (22), [24]),
  (27, 1, .aload_n 0, []),
  (28, 3, .getfield 62, [6, 9, 2, 0, 231]),
  (31, 1, .aload_n 0, []),
  (32, 3, .getfield 25, [6, 3, 2, 0, 225]),
  (35, 1, .iload_n 2, []),
  (36, 1, .aaload, []),
  (37, 3, .invokevirtual 125, [100, 1, 5, 0, 448, 449, 450, 45]),
  (40, 3, .iinc 2 (1), [1, 0]),
  (43, 3, .goto (-24), [11]),
  (46, 1, .iconst 1, [1, 0]),
  (47, 1, .istore_n 2, []),
  (48, 1, .iconst 0, [0, 0]),
  (49, 1, .istore_n 3, []),
  (50, 1, .iload_n 3, []),
  (51, 1, .iload_n 1, []),
  (52, 3, .invokestatic 70, [15, 1, 0, 264, 265, 40]),
  (55, 3, .if_icmp .ge (30), [45]),
  (58, 1, .aload_n 0, []),
  (59, 3, .getfield 62, [6, 9, 2, 0, 231]),
  (62, 1, .iload_n 3, []),
  (63, 3, .invokevirtual 129, [104, 1, 5, 0, 496, 497, 498, 45]),
  (66, 3, .ifCond .eq (11), [41]),
  (69, 1, .iload_n 2, []),
  (70, 3, .ifCond .eq (7), [41]),
  (73, 1, .iconst 1, [1, 0]),
  (74, 3, .goto (4), [42]),
  (77, 1, .iconst 0, [0, 0]),
  (78, 1, .istore_n 2, []),
  (79, 3, .iinc 3 (1), [1, 0]),
  (82, 3, .goto (-32), [28]),
  (85, 1, .iload_n 2, []),
  (86, 3, .ifCond .eq (7), [49]),
  (89, 1, .iconst 1, [1, 0]),
  (90, 3, .goto (4), [50]),
  (93, 1, .iconst 0, [0, 0]),
  (94, 1, .ireturn, [0])]
theorem po_Arc_decode : ma_ok me_Arc_decode pr_Arc_decode := ma_ok_of (by decide +kernel)
theorem pa_Arc_decode_0 : pr_Arc_decode[0]? = some (0, 1, .iload_n 1, []) := rfl
theorem pa_Arc_decode_1 : pr_Arc_decode[1]? = some (1, 3, .invokestatic 66, [20, 1, 0, 261, 262, 40]) := rfl
theorem pa_Arc_decode_2 : pr_Arc_decode[2]? = some (4, 3, .ifCond .ne (5), [5]) := rfl
theorem pa_Arc_decode_3 : pr_Arc_decode[3]? = some (7, 1, .iconst (-1), [1, 1]) := rfl
theorem pa_Arc_decode_4 : pr_Arc_decode[4]? = some (8, 1, .ireturn, [0]) := rfl
theorem pa_Arc_decode_5 : pr_Arc_decode[5]? = some (9, 1, .aload_n 0, []) := rfl
theorem pa_Arc_decode_6 : pr_Arc_decode[6]? = some (10, 3, .getfield 62, [6, 9, 2, 0, 231]) := rfl
theorem pa_Arc_decode_7 : pr_Arc_decode[7]? = some (13, 1, .iload_n 1, []) := rfl
theorem pa_Arc_decode_8 : pr_Arc_decode[8]? = some (14, 3, .invokevirtual 122, [55, 1, 5, 0, 443, 444, 445, 45]) := rfl
theorem pa_Arc_decode_9 : pr_Arc_decode[9]? = some (17, 1, .iconst 0, [0, 0]) := rfl
theorem pa_Arc_decode_10 : pr_Arc_decode[10]? = some (18, 1, .istore_n 2, []) := rfl
theorem pa_Arc_decode_11 : pr_Arc_decode[11]? = some (19, 1, .iload_n 2, []) := rfl
theorem pa_Arc_decode_12 : pr_Arc_decode[12]? = some (20, 1, .aload_n 0, []) := rfl
theorem pa_Arc_decode_13 : pr_Arc_decode[13]? = some (21, 3, .getfield 28, [6, 4, 0, 0, 226]) := rfl
theorem pa_Arc_decode_14 : pr_Arc_decode[14]? = some (24, 3, .if_icmp .ge (22), [24]) := rfl
theorem pa_Arc_decode_15 : pr_Arc_decode[15]? = some (27, 1, .aload_n 0, []) := rfl
theorem pa_Arc_decode_16 : pr_Arc_decode[16]? = some (28, 3, .getfield 62, [6, 9, 2, 0, 231]) := rfl
theorem pa_Arc_decode_17 : pr_Arc_decode[17]? = some (31, 1, .aload_n 0, []) := rfl
theorem pa_Arc_decode_18 : pr_Arc_decode[18]? = some (32, 3, .getfield 25, [6, 3, 2, 0, 225]) := rfl
theorem pa_Arc_decode_19 : pr_Arc_decode[19]? = some (35, 1, .iload_n 2, []) := rfl
theorem pa_Arc_decode_20 : pr_Arc_decode[20]? = some (36, 1, .aaload, []) := rfl
theorem pa_Arc_decode_21 : pr_Arc_decode[21]? = some (37, 3, .invokevirtual 125, [100, 1, 5, 0, 448, 449, 450, 45]) := rfl
theorem pa_Arc_decode_22 : pr_Arc_decode[22]? = some (40, 3, .iinc 2 (1), [1, 0]) := rfl
theorem pa_Arc_decode_23 : pr_Arc_decode[23]? = some (43, 3, .goto (-24), [11]) := rfl
theorem pa_Arc_decode_24 : pr_Arc_decode[24]? = some (46, 1, .iconst 1, [1, 0]) := rfl
theorem pa_Arc_decode_25 : pr_Arc_decode[25]? = some (47, 1, .istore_n 2, []) := rfl
theorem pa_Arc_decode_26 : pr_Arc_decode[26]? = some (48, 1, .iconst 0, [0, 0]) := rfl
theorem pa_Arc_decode_27 : pr_Arc_decode[27]? = some (49, 1, .istore_n 3, []) := rfl
theorem pa_Arc_decode_28 : pr_Arc_decode[28]? = some (50, 1, .iload_n 3, []) := rfl
theorem pa_Arc_decode_29 : pr_Arc_decode[29]? = some (51, 1, .iload_n 1, []) := rfl
theorem pa_Arc_decode_30 : pr_Arc_decode[30]? = some (52, 3, .invokestatic 70, [15, 1, 0, 264, 265, 40]) := rfl
theorem pa_Arc_decode_31 : pr_Arc_decode[31]? = some (55, 3, .if_icmp .ge (30), [45]) := rfl
theorem pa_Arc_decode_32 : pr_Arc_decode[32]? = some (58, 1, .aload_n 0, []) := rfl
theorem pa_Arc_decode_33 : pr_Arc_decode[33]? = some (59, 3, .getfield 62, [6, 9, 2, 0, 231]) := rfl
theorem pa_Arc_decode_34 : pr_Arc_decode[34]? = some (62, 1, .iload_n 3, []) := rfl
theorem pa_Arc_decode_35 : pr_Arc_decode[35]? = some (63, 3, .invokevirtual 129, [104, 1, 5, 0, 496, 497, 498, 45]) := rfl
theorem pa_Arc_decode_36 : pr_Arc_decode[36]? = some (66, 3, .ifCond .eq (11), [41]) := rfl
theorem pa_Arc_decode_37 : pr_Arc_decode[37]? = some (69, 1, .iload_n 2, []) := rfl
theorem pa_Arc_decode_38 : pr_Arc_decode[38]? = some (70, 3, .ifCond .eq (7), [41]) := rfl
theorem pa_Arc_decode_39 : pr_Arc_decode[39]? = some (73, 1, .iconst 1, [1, 0]) := rfl
theorem pa_Arc_decode_40 : pr_Arc_decode[40]? = some (74, 3, .goto (4), [42]) := rfl
theorem pa_Arc_decode_41 : pr_Arc_decode[41]? = some (77, 1, .iconst 0, [0, 0]) := rfl
theorem pa_Arc_decode_42 : pr_Arc_decode[42]? = some (78, 1, .istore_n 2, []) := rfl
theorem pa_Arc_decode_43 : pr_Arc_decode[43]? = some (79, 3, .iinc 3 (1), [1, 0]) := rfl
theorem pa_Arc_decode_44 : pr_Arc_decode[44]? = some (82, 3, .goto (-32), [28]) := rfl
theorem pa_Arc_decode_45 : pr_Arc_decode[45]? = some (85, 1, .iload_n 2, []) := rfl
theorem pa_Arc_decode_46 : pr_Arc_decode[46]? = some (86, 3, .ifCond .eq (7), [49]) := rfl
theorem pa_Arc_decode_47 : pr_Arc_decode[47]? = some (89, 1, .iconst 1, [1, 0]) := rfl
theorem pa_Arc_decode_48 : pr_Arc_decode[48]? = some (90, 3, .goto (4), [50]) := rfl
theorem pa_Arc_decode_49 : pr_Arc_decode[49]? = some (93, 1, .iconst 0, [0, 0]) := rfl
theorem pa_Arc_decode_50 : pr_Arc_decode[50]? = some (94, 1, .ireturn, [0]) := rfl
def pa_Arc_decode := And.intro pa_Arc_decode_0 (And.intro pa_Arc_decode_1 (And.intro pa_Arc_decode_2 (And.intro pa_Arc_decode_3 (And.intro pa_Arc_decode_4 (And.intro pa_Arc_decode_5 (And.intro pa_Arc_decode_6 (And.intro pa_Arc_decode_7 (And.intro pa_Arc_decode_8 (And.intro pa_Arc_decode_9 (And.intro pa_Arc_decode_10 (And.intro pa_Arc_decode_11 (And.intro pa_Arc_decode_12 (And.intro pa_Arc_decode_13 (And.intro pa_Arc_decode_14 (And.intro pa_Arc_decode_15 (And.intro pa_Arc_decode_16 (And.intro pa_Arc_decode_17 (And.intro pa_Arc_decode_18 (And.intro pa_Arc_decode_19 (And.intro pa_Arc_decode_20 (And.intro pa_Arc_decode_21 (And.intro pa_Arc_decode_22 (And.intro pa_Arc_decode_23 (And.intro pa_Arc_decode_24 (And.intro pa_Arc_decode_25 (And.intro pa_Arc_decode_26 (And.intro pa_Arc_decode_27 (And.intro pa_Arc_decode_28 (And.intro pa_Arc_decode_29 (And.intro pa_Arc_decode_30 (And.intro pa_Arc_decode_31 (And.intro pa_Arc_decode_32 (And.intro pa_Arc_decode_33 (And.intro pa_Arc_decode_34 (And.intro pa_Arc_decode_35 (And.intro pa_Arc_decode_36 (And.intro pa_Arc_decode_37 (And.intro pa_Arc_decode_38 (And.intro pa_Arc_decode_39 (And.intro pa_Arc_decode_40 (And.intro pa_Arc_decode_41 (And.intro pa_Arc_decode_42 (And.intro pa_Arc_decode_43 (And.intro pa_Arc_decode_44 (And.intro pa_Arc_decode_45 (And.intro pa_Arc_decode_46 (And.intro pa_Arc_decode_47 (And.intro pa_Arc_decode_48 (And.intro pa_Arc_decode_49 (pa_Arc_decode_50))))))))))))))))))))))))))))))))))))))))))))))))))
end
section
/-! the field of 256 elements: numbers below 256, addition is xor, multiplication by powers of 2 -/
def gf_exT : List Nat := [1, 2, 4, 8, 16, 32, 64, 128, 29, 58, 116, 232, 205, 135, 19, 38, 76, 152, 45, 90, 180, 117, 234, 201, 143, 3, 6, 12, 24, 48, 96, 192, 157, 39, 78, 156, 37, 74, 148, 53, 106, 212, 181, 119, 238, 193, 159, 35, 70, 140, 5, 10, 20, 40, 80, 160, 93, 186, 105, 210, 185, 111, 222, 161, 95, 190, 97, 194, 153, 47, 94, 188, 101, 202, 137, 15, 30, 60, 120, 240, 253, 231, 211, 187, 107, 214, 177, 127, 254, 225, 223, 163, 91, 182, 113, 226, 217, 175, 67, 134, 17, 34, 68, 136, 13, 26, 52, 104, 208, 189, 103, 206, 129, 31, 62, 124, 248, 237, 199, 147, 59, 118, 236, 197, 151, 51, 102, 204, 133, 23, 46, 92, 184, 109, 218, 169, 79, 158, 33, 66, 132, 21, 42, 84, 168, 77, 154, 41, 82, 164, 85, 170, 73, 146, 57, 114, 228, 213, 183, 115, 230, 209, 191, 99, 198, 145, 63, 126, 252, 229, 215, 179, 123, 246, 241, 255, 227, 219, 171, 75, 150, 49, 98, 196, 149, 55, 110, 220, 165, 87, 174, 65, 130, 25, 50, 100, 200, 141, 7, 14, 28, 56, 112, 224, 221, 167, 83, 166, 81, 162, 89, 178, 121, 242, 249, 239, 195, 155, 43, 86, 172, 69, 138, 9, 18, 36, 72, 144, 61, 122, 244, 245, 247, 243, 251, 235, 203, 139, 11, 22, 44, 88, 176, 125, 250, 233, 207, 131, 27, 54, 108, 216, 173, 71, 142]
def gf_lgT : List Nat := [0, 0, 1, 25, 2, 50, 26, 198, 3, 223, 51, 238, 27, 104, 199, 75, 4, 100, 224, 14, 52, 141, 239, 129, 28, 193, 105, 248, 200, 8, 76, 113, 5, 138, 101, 47, 225, 36, 15, 33, 53, 147, 142, 218, 240, 18, 130, 69, 29, 181, 194, 125, 106, 39, 249, 185, 201, 154, 9, 120, 77, 228, 114, 166, 6, 191, 139, 98, 102, 221, 48, 253, 226, 152, 37, 179, 16, 145, 34, 136, 54, 208, 148, 206, 143, 150, 219, 189, 241, 210, 19, 92, 131, 56, 70, 64, 30, 66, 182, 163, 195, 72, 126, 110, 107, 58, 40, 84, 250, 133, 186, 61, 202, 94, 155, 159, 10, 21, 121, 43, 78, 212, 229, 172, 115, 243, 167, 87, 7, 112, 192, 247, 140, 128, 99, 13, 103, 74, 222, 237, 49, 197, 254, 24, 227, 165, 153, 119, 38, 184, 180, 124, 17, 68, 146, 217, 35, 32, 137, 46, 55, 63, 209, 91, 149, 188, 207, 205, 144, 135, 151, 178, 220, 252, 190, 97, 242, 86, 211, 171, 20, 42, 93, 158, 132, 60, 57, 83, 71, 109, 65, 162, 31, 45, 67, 216, 183, 123, 164, 118, 196, 23, 73, 236, 127, 12, 111, 246, 108, 161, 59, 82, 41, 157, 85, 170, 251, 96, 134, 177, 187, 204, 62, 90, 203, 89, 95, 176, 156, 169, 160, 81, 11, 245, 22, 235, 122, 117, 44, 215, 79, 174, 213, 233, 230, 231, 173, 232, 116, 214, 244, 234, 168, 80, 88, 175]
def gf_ex (n : Nat) : Nat := gf_exT.getD (n % 255) 0
def gf_lg (a : Nat) : Nat := gf_lgT.getD a 0
def gf_xt (x : Nat) : Nat := if x < 128 then 2 * x else (2 * x) ^^^ 285
def gf_m (a b : Nat) : Nat := if a = 0 ∨ b = 0 then 0 else gf_ex (gf_lg a + gf_lg b)
def gf_inv (a : Nat) : Nat := gf_ex (255 - gf_lg a)
theorem gf_all {n : Nat} {p : Nat → Bool} (h : (List.range n).all p = true) : ∀ i, i < n → p i = true := fun i hi => List.all_eq_true.mp h i (List.mem_range.mpr hi)
theorem gf_t1 : ∀ i, i < 255 → gf_lg (gf_ex i) = i ∧ 0 < gf_ex i ∧ gf_ex i < 256 := fun i hi => of_decide_eq_true (gf_all (p := fun i => decide (gf_lg (gf_ex i) = i ∧ 0 < gf_ex i ∧ gf_ex i < 256)) (by decide +kernel) i hi)
theorem gf_t2 : ∀ a, a < 256 → a = 0 ∨ (gf_lg a < 255 ∧ gf_ex (gf_lg a) = a) := fun i hi => of_decide_eq_true (gf_all (p := fun a => decide (a = 0 ∨ (gf_lg a < 255 ∧ gf_ex (gf_lg a) = a))) (by decide +kernel) i hi)
theorem gf_t3 : ∀ i, i < 255 → gf_ex (i + 1) = gf_xt (gf_ex i) := fun i hi => of_decide_eq_true (gf_all (p := fun i => decide (gf_ex (i + 1) = gf_xt (gf_ex i))) (by decide +kernel) i hi)
theorem gf_t4 : ∀ x, x < 256 → ∀ y, y < 256 → gf_xt (x ^^^ y) = gf_xt x ^^^ gf_xt y := fun x hx y hy => of_decide_eq_true (gf_all (p := fun y => decide (gf_xt (x ^^^ y) = gf_xt x ^^^ gf_xt y)) (gf_all (p := fun x => (List.range 256).all fun y => decide (gf_xt (x ^^^ y) = gf_xt x ^^^ gf_xt y)) (by decide +kernel) x hx) y hy)
theorem gf_ex_mod (n : Nat) : gf_ex (n % 255) = gf_ex n := by
  unfold gf_ex
  rw [Nat.mod_mod]
theorem gf_ex_pos (n : Nat) : 0 < gf_ex n ∧ gf_ex n < 256 := by
  rw [← gf_ex_mod]
  exact (gf_t1 _ (Nat.mod_lt _ (by decide))).2
theorem gf_lg_ex (n : Nat) : gf_lg (gf_ex n) = n % 255 := by
  rw [← gf_ex_mod]
  exact (gf_t1 _ (Nat.mod_lt _ (by decide))).1
theorem gf_ex_lg {a : Nat} (h : a < 256) (h0 : a ≠ 0) : gf_ex (gf_lg a) = a := by
  rcases gf_t2 a h with h1 | h1
  · exact absurd h1 h0
  · exact h1.2
theorem gf_ex_eq {m n : Nat} (h : m % 255 = n % 255) : gf_ex m = gf_ex n := by
  rw [← gf_ex_mod m, h, gf_ex_mod]
theorem gf_ex_inj {m n : Nat} (h : gf_ex m = gf_ex n) : m % 255 = n % 255 := by
  rw [← gf_lg_ex, h, gf_lg_ex]
theorem gf_ex_add (m n : Nat) : gf_m (gf_ex m) (gf_ex n) = gf_ex (m + n) := by
  unfold gf_m
  rw [if_neg (by have := gf_ex_pos m; have := gf_ex_pos n; omega), gf_lg_ex, gf_lg_ex]
  exact gf_ex_eq (by omega)
theorem gf_m_lt (a b : Nat) : gf_m a b < 256 := by
  unfold gf_m
  split
  · decide
  · exact (gf_ex_pos _).2
theorem gf_m_zero_left (b : Nat) : gf_m 0 b = 0 := by simp [gf_m]
theorem gf_m_zero_right (a : Nat) : gf_m a 0 = 0 := by simp [gf_m]
theorem gf_m_comm (a b : Nat) : gf_m a b = gf_m b a := by
  unfold gf_m
  by_cases h : a = 0 ∨ b = 0
  · rw [if_pos h, if_pos (by omega)]
  · rw [if_neg h, if_neg (by omega), Nat.add_comm]
theorem gf_rep {a : Nat} (h : a < 256) : a = 0 ∨ ∃ i, i < 255 ∧ a = gf_ex i := by
  rcases gf_t2 a h with h1 | h1
  · exact Or.inl h1
  · exact Or.inr ⟨_, h1.1, h1.2.symm⟩
theorem gf_m_assoc {a b c : Nat} (ha : a < 256) (hb : b < 256) (hc : c < 256) : gf_m (gf_m a b) c = gf_m a (gf_m b c) := by
  rcases gf_rep ha with rfl | ⟨i, -, rfl⟩
  · simp [gf_m_zero_left]
  rcases gf_rep hb with rfl | ⟨j, -, rfl⟩
  · simp [gf_m_zero_left, gf_m_zero_right]
  rcases gf_rep hc with rfl | ⟨k, -, rfl⟩
  · simp [gf_m_zero_right]
  rw [gf_ex_add, gf_ex_add, gf_ex_add, gf_ex_add, Nat.add_assoc]
theorem gf_m_one {a : Nat} (ha : a < 256) : gf_m a 1 = a := by
  rcases gf_rep ha with rfl | ⟨i, -, rfl⟩
  · simp [gf_m_zero_left]
  · exact gf_ex_add i 0
theorem gf_one_m {a : Nat} (ha : a < 256) : gf_m 1 a = a := by rw [gf_m_comm]; exact gf_m_one ha
theorem gf_m_eq_zero {a b : Nat} : gf_m a b = 0 ↔ a = 0 ∨ b = 0 := by
  unfold gf_m
  split
  · rename_i h; exact ⟨fun _ => h, fun _ => rfl⟩
  · rename_i h; exact ⟨fun q => by have := gf_ex_pos (gf_lg a + gf_lg b); omega, fun q => absurd q h⟩
theorem gf_xor_lt {a b : Nat} (ha : a < 256) (hb : b < 256) : a ^^^ b < 256 := Nat.xor_lt_two_pow (n := 8) ha hb
theorem gf_m_two {b : Nat} (hb : b < 256) : gf_m 2 b = gf_xt b := by
  rcases gf_rep hb with rfl | ⟨i, hi, rfl⟩
  · rfl
  · rw [← gf_t3 i hi]
    exact (gf_ex_add 1 i).trans (by rw [Nat.add_comm])
theorem gf_distrib {a b c : Nat} (ha : a < 256) (hb : b < 256) (hc : c < 256) : gf_m a (b ^^^ c) = gf_m a b ^^^ gf_m a c := by
  rcases gf_rep ha with rfl | ⟨i, -, rfl⟩
  · simp [gf_m_zero_left]
  clear ha
  induction i with
  | zero =>
    show gf_m 1 _ = gf_m 1 _ ^^^ gf_m 1 _
    rw [gf_one_m (gf_xor_lt hb hc), gf_one_m hb, gf_one_m hc]
  | succ i ih =>
    have e : gf_ex (i + 1) = gf_m 2 (gf_ex i) := (gf_ex_add 1 i).symm ▸ (by rw [Nat.add_comm 1 i])
    have hp := (gf_ex_pos i).2
    rw [e, gf_m_assoc (by decide) hp (gf_xor_lt hb hc), ih, gf_m_two (gf_xor_lt (gf_m_lt _ _) (gf_m_lt _ _)), gf_t4 _ (gf_m_lt _ _) _ (gf_m_lt _ _), ← gf_m_two (gf_m_lt _ _), ← gf_m_two (gf_m_lt _ _), gf_m_assoc (by decide) hp hb, gf_m_assoc (by decide) hp hc]
theorem gf_distrib' {a b c : Nat} (ha : a < 256) (hb : b < 256) (hc : c < 256) : gf_m (b ^^^ c) a = gf_m b a ^^^ gf_m c a := by
  rw [gf_m_comm, gf_distrib ha hb hc, gf_m_comm a b, gf_m_comm a c]
theorem gf_inv_lt (a : Nat) : gf_inv a < 256 := (gf_ex_pos _).2
theorem gf_m_inv {a : Nat} (ha : a < 256) (h0 : a ≠ 0) : gf_m a (gf_inv a) = 1 := by
  rcases gf_t2 a ha with h1 | h1
  · exact absurd h1 h0
  · have : gf_m (gf_ex (gf_lg a)) (gf_ex (255 - gf_lg a)) = gf_ex 255 := by rw [gf_ex_add, show gf_lg a + (255 - gf_lg a) = 255 by omega]
    rw [h1.2] at this
    exact this
theorem gf_cancel {a b c : Nat} (ha : a < 256) (hb : b < 256) (hc : c < 256) (h0 : a ≠ 0) (h : gf_m a b = gf_m a c) : b = c := by
  have h1 := congrArg (gf_m (gf_inv a)) h
  rw [← gf_m_assoc (gf_inv_lt a) ha hb, ← gf_m_assoc (gf_inv_lt a) ha hc, gf_m_comm (gf_inv a) a, gf_m_inv ha h0, gf_one_m hb, gf_one_m hc] at h1
  exact h1
end
section
/-! sums over the field, counting, Vandermonde -/
def gf_s : Nat → (Nat → Nat) → Nat
  | 0, _ => 0
  | n + 1, f => gf_s n f ^^^ f n
theorem gf_s_lt {n : Nat} {f : Nat → Nat} (h : ∀ i, i < n → f i < 256) : gf_s n f < 256 := by
  induction n with
  | zero => exact (by decide : (0 : Nat) < 256)
  | succ n ih => exact gf_xor_lt (ih (fun i hi => h i (by omega))) (h n (by omega))
theorem gf_s_congr {n : Nat} {f g : Nat → Nat} (h : ∀ i, i < n → f i = g i) : gf_s n f = gf_s n g := by
  induction n with
  | zero => rfl
  | succ n ih => rw [gf_s, gf_s, ih (fun i hi => h i (by omega)), h n (by omega)]
theorem gf_s_zero {n : Nat} {f : Nat → Nat} (h : ∀ i, i < n → f i = 0) : gf_s n f = 0 := by
  induction n with
  | zero => rfl
  | succ n ih => rw [gf_s, ih (fun i hi => h i (by omega)), h n (by omega)]; rfl
theorem gf_x4 (a b c d : Nat) : (a ^^^ b) ^^^ (c ^^^ d) = (a ^^^ c) ^^^ (b ^^^ d) := by
  rw [Nat.xor_assoc, Nat.xor_assoc, ← Nat.xor_assoc b c d, Nat.xor_comm b c, Nat.xor_assoc c b d]
theorem gf_s_xor (n : Nat) (f g : Nat → Nat) : gf_s n (fun i => f i ^^^ g i) = gf_s n f ^^^ gf_s n g := by
  induction n with
  | zero => simp [gf_s]
  | succ n ih => rw [gf_s, gf_s, gf_s, ih, gf_x4]
theorem gf_s_mul {n a : Nat} {f : Nat → Nat} (ha : a < 256) (h : ∀ i, i < n → f i < 256) : gf_m a (gf_s n f) = gf_s n (fun i => gf_m a (f i)) := by
  induction n with
  | zero => exact gf_m_zero_right a
  | succ n ih => rw [gf_s, gf_s, gf_distrib ha (gf_s_lt (fun i hi => h i (by omega))) (h n (by omega)), ih (fun i hi => h i (by omega))]
theorem gf_s_one {n : Nat} {f : Nat → Nat} {i0 : Nat} (hi : i0 < n) (h : ∀ i, i < n → i ≠ i0 → f i = 0) : gf_s n f = f i0 := by
  induction n with
  | zero => omega
  | succ n ih =>
    rw [gf_s]
    by_cases h0 : i0 = n
    · subst h0
      rw [gf_s_zero (fun i hi => h i (by omega) (by omega)), Nat.zero_xor]
    · rw [ih (by omega) (fun i hi => h i (by omega)), h n (by omega) (by omega), Nat.xor_zero]
theorem gf_s_swap (n m : Nat) (f : Nat → Nat → Nat) : gf_s n (fun i => gf_s m (fun j => f i j)) = gf_s m (fun j => gf_s n (fun i => f i j)) := by
  induction n with
  | zero => exact (gf_s_zero (fun _ _ => rfl)).symm
  | succ n ih =>
    rw [gf_s, ih, ← gf_s_xor]
    exact gf_s_congr (fun _ _ => rfl)
theorem gf_s_first (n : Nat) (f : Nat → Nat) : gf_s (n + 1) f = f 0 ^^^ gf_s n (fun i => f (i + 1)) := by
  induction n with
  | zero => simp [gf_s]
  | succ n ih => rw [gf_s, ih, gf_s, Nat.xor_assoc]
def gf_cn : Nat → (Nat → Bool) → Nat
  | 0, _ => 0
  | n + 1, p => gf_cn n p + (if p n then 1 else 0)
theorem gf_cn_le {n : Nat} {p q : Nat → Bool} (h : ∀ i, i < n → p i = true → q i = true) : gf_cn n p ≤ gf_cn n q := by
  induction n with
  | zero => exact Nat.le_refl _
  | succ n ih =>
    have h1 := ih (fun i hi => h i (by omega))
    have h2 := h n (by omega)
    simp only [gf_cn]
    cases hp : p n <;> cases hq : q n <;> simp_all <;> omega
theorem gf_cn_congr {n : Nat} {p q : Nat → Bool} (h : ∀ i, i < n → p i = q i) : gf_cn n p = gf_cn n q := by
  induction n with
  | zero => rfl
  | succ n ih => rw [gf_cn, gf_cn, ih (fun i hi => h i (by omega)), h n (by omega)]
theorem gf_cn_lt {n : Nat} {p q : Nat → Bool} (h : ∀ i, i < n → p i = true → q i = true) {i0 : Nat} (hi : i0 < n) (hp : p i0 = false) (hq : q i0 = true) : gf_cn n p + 1 ≤ gf_cn n q := by
  induction n with
  | zero => omega
  | succ n ih =>
    simp only [gf_cn]
    by_cases h0 : i0 = n
    · subst h0
      have := gf_cn_le (n := i0) (fun i hi => h i (by omega))
      rw [hp, hq]
      simp
      omega
    · have h1 := ih (fun i hi => h i (by omega)) (by omega)
      have h2 := h n (by omega)
      cases hp : p n <;> cases hq : q n <;> simp_all <;> omega
theorem gf_cn_zero {n : Nat} {p : Nat → Bool} (h : gf_cn n p = 0) : ∀ i, i < n → p i = false := by
  induction n with
  | zero => intro i hi; omega
  | succ n ih =>
    intro i hi
    simp only [gf_cn] at h
    by_cases h0 : i = n
    · subst h0
      cases hp : p i
      · rfl
      · rw [hp] at h; simp at h
    · exact ih (by omega) i (by omega)
theorem gf_cn_or (n : Nat) (p q : Nat → Bool) : gf_cn n (fun i => p i || q i) ≤ gf_cn n p + gf_cn n q := by
  induction n with
  | zero => exact Nat.le_refl _
  | succ n ih =>
    simp only [gf_cn]
    have hb : ∀ a b : Bool, (if (a || b) = true then 1 else 0) ≤ (if a = true then 1 else 0) + (if b = true then 1 else 0) := by decide
    have := hb (p n) (q n)
    omega
/-- the sums of a word -/
def gf_sy (c : Nat → Nat) (j : Nat) : Nat := gf_s 16 (fun s => gf_m (c s) (gf_ex (j * s)))
theorem gf_sy_lt (c : Nat → Nat) (j : Nat) : gf_sy c j < 256 := gf_s_lt (fun _ _ => gf_m_lt _ _)
theorem gf_sy_xor {c e : Nat → Nat} (hc : ∀ s, s < 16 → c s < 256) (he : ∀ s, s < 16 → e s < 256) (j : Nat) : gf_sy (fun s => c s ^^^ e s) j = gf_sy c j ^^^ gf_sy e j := by
  unfold gf_sy
  rw [← gf_s_xor]
  exact gf_s_congr (fun s hs => gf_distrib' (gf_ex_pos _).2 (hc s hs) (he s hs))
theorem gf_ex_ne {s t : Nat} (hs : s < 255) (ht : t < 255) (h : s ≠ t) : gf_ex s ^^^ gf_ex t ≠ 0 := by
  intro q
  have h1 : gf_ex s = gf_ex t := by
    have h2 := congrArg (fun z => z ^^^ gf_ex t) q
    simp only [Nat.xor_assoc, Nat.xor_self, Nat.xor_zero, Nat.zero_xor] at h2
    exact h2
  have h3 := gf_ex_inj h1
  rw [Nat.mod_eq_of_lt hs, Nat.mod_eq_of_lt ht] at h3
  exact h h3
theorem gf_sy_step {e : Nat → Nat} (he : ∀ s, s < 16 → e s < 256) (x j : Nat) (hx : x < 256) : gf_sy (fun s => gf_m (e s) (gf_ex s ^^^ x)) j = gf_sy e (j + 1) ^^^ gf_m x (gf_sy e j) := by
  unfold gf_sy
  rw [gf_s_mul hx (fun _ _ => gf_m_lt _ _), ← gf_s_xor]
  refine gf_s_congr (fun s hs => ?_)
  have h1 := he s hs
  have h2 := (gf_ex_pos s).2
  have h3 := (gf_ex_pos (j * s)).2
  show gf_m (gf_m (e s) (gf_ex s ^^^ x)) (gf_ex (j * s)) = _
  rw [gf_distrib h1 h2 hx, gf_distrib' h3 (gf_m_lt _ _) (gf_m_lt _ _), gf_m_assoc h1 h2 h3, gf_ex_add, gf_m_comm (e s) x, gf_m_assoc hx h1 h3, show s + j * s = (j + 1) * s by rw [Nat.add_mul]; omega]
/-- a word that is not 0 at n places at most, with n sums 0, is 0 -/
theorem gf_vd : ∀ (n : Nat) (e : Nat → Nat), (∀ s, s < 16 → e s < 256) → gf_cn 16 (fun s => e s != 0) ≤ n → (∀ j, j < n → gf_sy e j = 0) → ∀ s, s < 16 → e s = 0
  | 0, e, _, hc, _ => by
    intro s hs
    have := gf_cn_zero (p := fun s => e s != 0) (by omega) s hs
    simpa using this
  | n + 1, e, he, hc, hj => by
    intro s1 hs1
    refine Classical.byContradiction fun hne => ?_
    have hx := (gf_ex_pos s1).2
    have h1 : ∀ s, s < 16 → gf_m (e s) (gf_ex s ^^^ gf_ex s1) = 0 := by
      refine gf_vd n (fun s => gf_m (e s) (gf_ex s ^^^ gf_ex s1)) (fun s _ => gf_m_lt _ _) ?_ (fun j hj2 => ?_)
      · have := gf_cn_lt (n := 16) (p := fun s => gf_m (e s) (gf_ex s ^^^ gf_ex s1) != 0) (q := fun s => e s != 0) (fun i _ hp => ?_) hs1 (by simp [gf_m_zero_right]) (by simpa using hne)
        · omega
        · simp only [bne_iff_ne, ne_eq] at hp ⊢
          intro q
          exact hp (by rw [q, gf_m_zero_left])
      · rw [gf_sy_step he _ _ hx, hj (j + 1) (by omega), hj j (by omega), gf_m_zero_right]
        rfl
    have h2 : ∀ s, s < 16 → s ≠ s1 → e s = 0 := by
      intro s hs hs2
      rcases gf_m_eq_zero.mp (h1 s hs) with h | h
      · exact h
      · exact absurd h (gf_ex_ne (by omega) (by omega) hs2)
    have h3 := hj 0 (by omega)
    unfold gf_sy at h3
    rw [gf_s_one hs1 (fun s hs hs2 => by rw [h2 s hs hs2, gf_m_zero_left])] at h3
    rw [Nat.zero_mul] at h3
    rcases gf_m_eq_zero.mp h3 with h | h
    · exact hne h
    · have := (gf_ex_pos 0).1
      omega
/-- the word that a column is mended to: sums 0, and near enough -/
def gf_md (c : Nat → Nat) (M : Nat → Bool) (w : Nat → Nat) : Prop := (∀ s, s < 16 → w s < 256) ∧ (∀ j, j < 6 → gf_sy w j = 0) ∧ 2 * gf_cn 16 (fun s => !M s && (w s != c s)) + gf_cn 16 M ≤ 6
theorem gf_md_one {c : Nat → Nat} {M : Nat → Bool} {w v : Nat → Nat} (hw : gf_md c M w) (hv : gf_md c M v) : ∀ s, s < 16 → w s = v s := by
  obtain ⟨w1, w2, w3⟩ := hw
  obtain ⟨v1, v2, v3⟩ := hv
  have h := gf_vd 6 (fun s => w s ^^^ v s) (fun s hs => gf_xor_lt (w1 s hs) (v1 s hs)) ?_ (fun j hj => by rw [gf_sy_xor w1 v1, w2 j hj, v2 j hj]; rfl)
  · intro s hs
    have h1 := congrArg (fun z => z ^^^ v s) (h s hs)
    simp only [Nat.xor_assoc, Nat.xor_self, Nat.xor_zero, Nat.zero_xor] at h1
    exact h1
  · have a1 := gf_cn_le (n := 16) (p := fun s => (w s ^^^ v s) != 0) (q := fun s => M s || ((!M s && (w s != c s)) || (!M s && (v s != c s)))) (fun s _ hp => by
      cases hM : M s
      · simp only [Bool.not_false, Bool.true_and, Bool.false_or, Bool.or_eq_true, bne_iff_ne, ne_eq] at hp ⊢
        by_cases e1 : w s = c s
        · refine Or.inr fun e2 => hp ?_
          rw [e1, e2, Nat.xor_self]
        · exact Or.inl e1
      · simp)
    have a2 := gf_cn_or 16 M (fun s => (!M s && (w s != c s)) || (!M s && (v s != c s)))
    have a3 := gf_cn_or 16 (fun s => !M s && (w s != c s)) (fun s => !M s && (v s != c s))
    omega
end
section
/-! differences of a sequence by places, the polynomials that they are, and roots -/
def gf_dq (x : Nat) (S : Nat → Nat) : Nat → Nat := fun j => S (j + 1) ^^^ gf_m x (S j)
def gf_dl : List Nat → (Nat → Nat) → Nat → Nat
  | [], S => S
  | t :: l, S => gf_dl l (gf_dq (gf_ex t) S)
def gf_pr : List Nat → Nat → Nat
  | [], _ => 1
  | t :: l, x => gf_m (x ^^^ gf_ex t) (gf_pr l x)
def gf_pc : List Nat → Nat → Nat
  | [], i => if i = 0 then 1 else 0
  | t :: l, i => (if i = 0 then 0 else gf_pc l (i - 1)) ^^^ gf_m (gf_ex t) (gf_pc l i)
theorem gf_pr_lt : ∀ (l : List Nat) (x : Nat), gf_pr l x < 256
  | [], _ => (by decide : (1 : Nat) < 256)
  | _ :: _, _ => gf_m_lt _ _
theorem gf_pc_lt : ∀ (l : List Nat) (i : Nat), gf_pc l i < 256
  | [], i => by unfold gf_pc; split <;> decide
  | t :: l, i => by
    unfold gf_pc
    refine gf_xor_lt ?_ (gf_m_lt _ _)
    split
    · decide
    · exact gf_pc_lt l _
theorem gf_pc_top : ∀ (l : List Nat), gf_pc l l.length = 1 ∧ ∀ i, l.length < i → gf_pc l i = 0
  | [] => ⟨rfl, fun i hi => by simp at hi; unfold gf_pc; rw [if_neg (by omega)]⟩
  | t :: l => by
    obtain ⟨h1, h2⟩ := gf_pc_top l
    refine ⟨?_, fun i hi => ?_⟩
    · rw [List.length_cons, gf_pc, if_neg (by omega), Nat.add_sub_cancel, h1, h2 _ (by omega), gf_m_zero_right]
      rfl
    · rw [List.length_cons] at hi
      rw [gf_pc, if_neg (by omega), h2 _ (by omega), h2 _ (by omega), gf_m_zero_right]
      rfl
theorem gf_dq_lt {x : Nat} {S : Nat → Nat} (hS : ∀ j, S j < 256) (j : Nat) : gf_dq x S j < 256 := gf_xor_lt (hS _) (gf_m_lt _ _)
theorem gf_dl_lt : ∀ (l : List Nat) {S : Nat → Nat}, (∀ j, S j < 256) → ∀ j, gf_dl l S j < 256
  | [], _, hS => hS
  | _ :: l, _, hS => gf_dl_lt l (gf_dq_lt hS)
theorem gf_dl_congr : ∀ (l : List Nat) {S S' : Nat → Nat} {j : Nat}, (∀ i, i ≤ l.length → S (j + i) = S' (j + i)) → gf_dl l S j = gf_dl l S' j
  | [], S, S', j, h => h 0 (Nat.le_refl _)
  | t :: l, S, S', j, h => by
    refine gf_dl_congr l (fun i hi => ?_)
    have h1 := h i (by simp; omega)
    have h2 := h (i + 1) (by simp; omega)
    unfold gf_dq
    rw [h1, show j + i + 1 = j + (i + 1) by omega, h2]
theorem gf_dl_xor : ∀ (l : List Nat) {S S' : Nat → Nat}, (∀ j, S j < 256) → (∀ j, S' j < 256) → ∀ j, gf_dl l (fun j => S j ^^^ S' j) j = gf_dl l S j ^^^ gf_dl l S' j
  | [], _, _, _, _, _ => rfl
  | t :: l, S, S', hS, hS', j => by
    have e : gf_dq (gf_ex t) (fun j => S j ^^^ S' j) = fun j => gf_dq (gf_ex t) S j ^^^ gf_dq (gf_ex t) S' j := by
      funext i
      unfold gf_dq
      rw [gf_distrib (gf_ex_pos _).2 (hS i) (hS' i), gf_x4]
    rw [gf_dl, e, gf_dl_xor l (gf_dq_lt hS) (gf_dq_lt hS')]
    rfl
theorem gf_dl_sy : ∀ (l : List Nat) {e : Nat → Nat}, (∀ s, s < 16 → e s < 256) → ∀ j, gf_dl l (gf_sy e) j = gf_sy (fun s => gf_m (e s) (gf_pr l (gf_ex s))) j
  | [], e, he, j => by
    show gf_sy e j = _
    unfold gf_sy
    exact gf_s_congr (fun s hs => by show _ = gf_m (gf_m (e s) 1) _; rw [gf_m_one (he s hs)])
  | t :: l, e, he, j => by
    have e1 : gf_dq (gf_ex t) (gf_sy e) = gf_sy (fun s => gf_m (e s) (gf_ex s ^^^ gf_ex t)) := by
      funext i
      rw [gf_sy_step he _ _ (gf_ex_pos t).2]
      rfl
    rw [gf_dl, e1, gf_dl_sy l (fun s _ => gf_m_lt _ _)]
    unfold gf_sy
    refine gf_s_congr (fun s hs => ?_)
    show gf_m (gf_m (gf_m (e s) (gf_ex s ^^^ gf_ex t)) (gf_pr l (gf_ex s))) _ = gf_m (gf_m (e s) (gf_m (gf_ex s ^^^ gf_ex t) (gf_pr l (gf_ex s)))) _
    rw [gf_m_assoc (he s hs) (gf_xor_lt (gf_ex_pos s).2 (gf_ex_pos t).2) (gf_pr_lt _ _)]
theorem gf_pr_zero : ∀ {l : List Nat} {s : Nat}, s ∈ l → gf_pr l (gf_ex s) = 0
  | t :: l, s, h => by
    rw [gf_pr, gf_m_eq_zero]
    rcases List.mem_cons.mp h with rfl | h
    · exact Or.inl (Nat.xor_self _)
    · exact Or.inr (gf_pr_zero h)
theorem gf_pr_ne : ∀ {l : List Nat} {s : Nat}, s < 16 → (∀ t ∈ l, t < 16) → s ∉ l → gf_pr l (gf_ex s) ≠ 0
  | [], _, _, _, _ => by show (1 : Nat) ≠ 0; decide
  | t :: l, s, hs, hl, h => by
    rw [gf_pr]
    intro q
    rcases gf_m_eq_zero.mp q with q | q
    · exact gf_ex_ne (by omega) (by have := hl t List.mem_cons_self; omega) (fun e => h (by rw [e]; exact List.mem_cons_self)) q
    · exact gf_pr_ne hs (fun t ht => hl t (List.mem_cons_of_mem _ ht)) (fun q => h (List.mem_cons_of_mem _ q)) q
/-- weighing with the coefficients is taking the differences -/
theorem gf_wg : ∀ (l : List Nat) {S : Nat → Nat}, (∀ j, S j < 256) → ∀ j, gf_s (l.length + 1) (fun i => gf_m (gf_pc l i) (S (j + i))) = gf_dl l S j
  | [], S, hS, j => by
    show gf_s 1 _ = S j
    simp only [gf_s, gf_pc, if_true, Nat.zero_xor, Nat.add_zero]
    exact gf_one_m (hS j)
  | t :: l, S, hS, j => by
    rw [gf_dl, ← gf_wg l (gf_dq_lt hS) j, List.length_cons]
    have ht := (gf_ex_pos t).2
    have e1 : gf_s (l.length + 1 + 1) (fun i => gf_m (gf_pc (t :: l) i) (S (j + i))) = gf_s (l.length + 1 + 1) (fun i => gf_m (if i = 0 then 0 else gf_pc l (i - 1)) (S (j + i))) ^^^ gf_s (l.length + 1 + 1) (fun i => gf_m (gf_ex t) (gf_m (gf_pc l i) (S (j + i)))) := by
      rw [← gf_s_xor]
      refine gf_s_congr (fun i hi => ?_)
      rw [gf_pc, gf_distrib' (hS _) (by split; decide; exact gf_pc_lt _ _) (gf_m_lt _ _), gf_m_assoc ht (gf_pc_lt _ _) (hS _)]
    rw [e1, gf_s_first (l.length + 1), if_pos rfl, gf_m_zero_left, Nat.zero_xor]
    rw [show gf_s (l.length + 1 + 1) (fun i => gf_m (gf_ex t) (gf_m (gf_pc l i) (S (j + i)))) = gf_s (l.length + 1) (fun i => gf_m (gf_ex t) (gf_m (gf_pc l i) (S (j + i)))) by
      rw [gf_s, (gf_pc_top l).2 (l.length + 1) (by omega), gf_m_zero_left, gf_m_zero_right, Nat.xor_zero]]
    rw [← gf_s_xor]
    refine gf_s_congr (fun i hi => ?_)
    rw [if_neg (by omega), Nat.add_sub_cancel]
    unfold gf_dq
    rw [gf_distrib (gf_pc_lt _ _) (hS _) (gf_m_lt _ _), show j + (i + 1) = j + i + 1 by omega, ← gf_m_assoc ht (gf_pc_lt _ _) (hS _), gf_m_comm (gf_ex t) (gf_pc l i), gf_m_assoc (gf_pc_lt _ _) ht (hS _)]
/-- differences 0 and a beginning 0: all 0 -/
theorem gf_dl_all : ∀ (l : List Nat) {S : Nat → Nat} {N : Nat}, (∀ j, j + l.length < N → gf_dl l S j = 0) → (∀ i, i < l.length → S i = 0) → ∀ i, i < N → S i = 0
  | [], S, N, h, _ => fun i hi => h i (by simpa using hi)
  | t :: l, S, N, h, h0 => by
    have h1 := gf_dl_all l (S := gf_dq (gf_ex t) S) (N := N - 1) (fun j hj => h j (by simp; omega)) (fun i hi => by
      have a := h0 i (by simp; omega)
      have b := h0 (i + 1) (by simp; omega)
      unfold gf_dq
      rw [a, b, gf_m_zero_right]
      rfl)
    intro i
    induction i with
    | zero => exact fun _ => h0 0 (by simp)
    | succ i ih =>
      intro hi
      have a := h1 i (by omega)
      unfold gf_dq at a
      rw [ih (by omega), gf_m_zero_right, Nat.xor_zero] at a
      exact a
/-- Horner's value -/
def gf_ho (C : Nat → Nat) : Nat → Nat → Nat
  | 0, _ => C 0
  | n + 1, x => gf_m (gf_ho C n x) x ^^^ C (n + 1)
theorem gf_ho_lt {C : Nat → Nat} (hC : ∀ i, C i < 256) : ∀ (n x : Nat), gf_ho C n x < 256
  | 0, _ => hC 0
  | _ + 1, _ => gf_xor_lt (gf_m_lt _ _) (hC _)
theorem gf_ho_div {C : Nat → Nat} (hC : ∀ i, C i < 256) {x r : Nat} (hx : x < 256) (hr : r < 256) : ∀ n, gf_ho C (n + 1) x = gf_m (x ^^^ r) (gf_ho (fun i => gf_ho C i r) n x) ^^^ gf_ho C (n + 1) r
  | 0 => by
    show gf_m (C 0) x ^^^ C 1 = gf_m (x ^^^ r) (C 0) ^^^ (gf_m (C 0) r ^^^ C 1)
    rw [gf_distrib' (hC 0) hx hr, gf_m_comm x, gf_m_comm r, Nat.xor_assoc, ← Nat.xor_assoc (gf_m (C 0) r), Nat.xor_self, Nat.zero_xor]
  | n + 1 => by
    have ih := gf_ho_div hC hx hr n
    have hb : ∀ i, gf_ho C i r < 256 := fun i => gf_ho_lt hC i r
    have hB := gf_ho_lt hb n x
    have hxr := gf_xor_lt hx hr
    rw [gf_ho, ih, gf_distrib' hx (gf_m_lt _ _) (hb _), gf_m_assoc hxr hB hx]
    rw [show gf_ho (fun i => gf_ho C i r) (n + 1) x = gf_m (gf_ho (fun i => gf_ho C i r) n x) x ^^^ gf_ho C (n + 1) r from rfl]
    rw [gf_distrib hxr (gf_m_lt _ _) (hb _), show gf_ho C (n + 1 + 1) r = gf_m (gf_ho C (n + 1) r) r ^^^ C (n + 2) from rfl]
    rw [gf_distrib' (hb _) hx hr, gf_m_comm x (gf_ho C (n + 1) r), gf_m_comm r (gf_ho C (n + 1) r)]
    generalize gf_m (x ^^^ r) (gf_m (gf_ho (fun i => gf_ho C i r) n x) x) = A
    generalize gf_m (gf_ho C (n + 1) r) x = B
    generalize gf_m (gf_ho C (n + 1) r) r = D
    rw [Nat.xor_assoc, Nat.xor_assoc, Nat.xor_assoc, ← Nat.xor_assoc D D, Nat.xor_self, Nat.zero_xor]
/-- no more roots than the degree -/
theorem gf_roots : ∀ (n : Nat) {C : Nat → Nat}, (∀ i, C i < 256) → C 0 ≠ 0 → gf_cn 16 (fun s => gf_ho C n (gf_ex s) == 0) ≤ n
  | 0, C, _, h0 => by
    have := gf_cn_le (n := 16) (p := fun s => gf_ho C 0 (gf_ex s) == 0) (q := fun _ => false) (fun i _ h => absurd (show C 0 = 0 from (beq_iff_eq.mp h)) h0)
    exact Nat.le_trans this (by decide)
  | n + 1, C, hC, h0 => by
    by_cases hr : ∃ s, s < 16 ∧ gf_ho C (n + 1) (gf_ex s) = 0
    · obtain ⟨r, hr1, hr2⟩ := hr
      have ih := gf_roots n (C := fun i => gf_ho C i (gf_ex r)) (fun i => gf_ho_lt hC i _) h0
      have h1 := gf_cn_le (n := 16) (p := fun s => gf_ho C (n + 1) (gf_ex s) == 0) (q := fun s => (s == r) || (gf_ho (fun i => gf_ho C i (gf_ex r)) n (gf_ex s) == 0)) (fun s hs h => by
        simp only [beq_iff_eq, Bool.or_eq_true] at h ⊢
        by_cases hsr : s = r
        · exact Or.inl hsr
        · refine Or.inr ?_
          rw [gf_ho_div hC (gf_ex_pos s).2 (gf_ex_pos r).2, hr2, Nat.xor_zero] at h
          rcases gf_m_eq_zero.mp h with q | q
          · exact absurd q (gf_ex_ne (by omega) (by omega) hsr)
          · exact q)
      have h2 := gf_cn_or 16 (fun s => s == r) (fun s => gf_ho (fun i => gf_ho C i (gf_ex r)) n (gf_ex s) == 0)
      have h3 : ∀ k r, gf_cn k (fun s => s == r) ≤ 1 ∧ (k ≤ r → gf_cn k (fun s => s == r) = 0) := by
        intro k r
        induction k with
        | zero => exact ⟨Nat.zero_le _, fun _ => rfl⟩
        | succ k ih =>
          simp only [gf_cn]
          by_cases hk : k = r
          · subst hk
            rw [ih.2 (Nat.le_refl _)]
            simp
          · have e : ¬ (k == r) = true := by simpa using hk
            rw [if_neg e]
            exact ⟨ih.1, fun q => ih.2 (by omega)⟩
      have h4 := (h3 16 r).1
      omega
    · have := gf_cn_le (n := 16) (p := fun s => gf_ho C (n + 1) (gf_ex s) == 0) (q := fun _ => false) (fun i hi h => absurd ⟨i, hi, by simpa using h⟩ hr)
      exact Nat.le_trans this (by simp [gf_cn])
/-- a recurrence over a power sequence -/
theorem gf_ho_sum {C : Nat → Nat} (hC : ∀ i, C i < 256) (s n : Nat) : ∀ L, L ≤ n → gf_s (L + 1) (fun i => gf_m (C i) (gf_ex ((n - i) * s))) = gf_m (gf_ho C L (gf_ex s)) (gf_ex ((n - L) * s))
  | 0, _ => by simp [gf_s, gf_ho]
  | L + 1, h => by
    rw [gf_s, gf_ho_sum hC s n L (by omega), gf_ho, gf_distrib' (gf_ex_pos _).2 (gf_m_lt _ _) (hC _), gf_m_assoc (gf_ho_lt hC _ _) (gf_ex_pos _).2 (gf_ex_pos _).2, gf_ex_add, show s + (n - (L + 1)) * s = (n - L) * s by rw [show n - L = (n - (L + 1)) + 1 by omega, Nat.add_mul]; omega]
theorem gf_rec_sy {C f : Nat → Nat} (hC : ∀ i, C i < 256) (hf : ∀ s, s < 16 → f s < 256) {L n : Nat} (h : L ≤ n) : gf_s (L + 1) (fun i => gf_m (C i) (gf_sy f (n - i))) = gf_sy (fun s => gf_m (f s) (gf_ho C L (gf_ex s))) (n - L) := by
  have e1 : gf_s (L + 1) (fun i => gf_m (C i) (gf_sy f (n - i))) = gf_s (L + 1) (fun i => gf_s 16 (fun s => gf_m (f s) (gf_m (C i) (gf_ex ((n - i) * s))))) := by
    refine gf_s_congr (fun i hi => ?_)
    unfold gf_sy
    rw [gf_s_mul (hC i) (fun _ _ => gf_m_lt _ _)]
    refine gf_s_congr (fun s hs => ?_)
    rw [← gf_m_assoc (hC i) (hf s hs) (gf_ex_pos _).2, gf_m_comm (C i) (f s), gf_m_assoc (hf s hs) (hC i) (gf_ex_pos _).2]
  rw [e1, gf_s_swap]
  unfold gf_sy
  refine gf_s_congr (fun s hs => ?_)
  rw [← gf_s_mul (hf s hs) (fun _ _ => gf_m_lt _ _), gf_ho_sum hC s n L h, gf_m_assoc (hf s hs) (gf_ho_lt hC _ _) (gf_ex_pos _).2]
end
section
/-! recurrences: Massey's lemma, and the steps of Berlekamp and Massey -/
def gf_gen (C : Nat → Nat) (L : Nat) (T : Nat → Nat) (k : Nat) : Prop := ∀ n, L ≤ n → n < k → gf_s (L + 1) (fun i => gf_m (C i) (T (n - i))) = 0
theorem gf_massey {C D T : Nat → Nat} {L L' k : Nat} (hC : ∀ i, C i < 256) (hD : ∀ i, D i < 256) (hT : ∀ i, T i < 256) (h1 : gf_gen C L T k) (hd : gf_s (L + 1) (fun i => gf_m (C i) (T (k - i))) ≠ 0) (h2 : gf_gen D L' T (k + 1)) (h0 : D 0 = 1) : k + 1 ≤ L + L' := by
  refine Classical.byContradiction fun hn => hd ?_
  have z1 : gf_s (L + 1) (fun i => gf_s (L' + 1) (fun i' => gf_m (C i) (gf_m (D i') (T (k - i - i'))))) = 0 := by
    refine gf_s_zero (fun i hi => ?_)
    rw [← gf_s_mul (hC i) (fun _ _ => gf_m_lt _ _), h2 (k - i) (by omega) (by omega), gf_m_zero_right]
  rw [gf_s_swap, gf_s_first] at z1
  have z2 : gf_s L' (fun i' => gf_s (L + 1) (fun i => gf_m (C i) (gf_m (D (i' + 1)) (T (k - i - (i' + 1)))))) = 0 := by
    refine gf_s_zero (fun i' hi' => ?_)
    have e : gf_s (L + 1) (fun i => gf_m (C i) (gf_m (D (i' + 1)) (T (k - i - (i' + 1))))) = gf_s (L + 1) (fun i => gf_m (D (i' + 1)) (gf_m (C i) (T (k - (i' + 1) - i)))) := by
      refine gf_s_congr (fun i hi => ?_)
      rw [← gf_m_assoc (hC i) (hD _) (hT _), gf_m_comm (C i), gf_m_assoc (hD _) (hC i) (hT _), show k - i - (i' + 1) = k - (i' + 1) - i by omega]
    rw [e, ← gf_s_mul (hD _) (fun _ _ => gf_m_lt _ _), h1 (k - (i' + 1)) (by omega) (by omega), gf_m_zero_right]
  rw [z2, Nat.xor_zero] at z1
  rw [← z1]
  refine gf_s_congr (fun i hi => ?_)
  rw [h0, gf_one_m (hT _), Nat.sub_zero]
/-- the state of the search behind k sums -/
def gf_bm (T : Nat → Nat) (k : Nat) (C B : Nat → Nat) (L m b : Nat) : Prop :=
  (C 0 = 1 ∧ (∀ i, C i < 256) ∧ (∀ i, B i < 256) ∧ (∀ i, L < i → C i = 0) ∧ L ≤ k ∧ gf_gen C L T k ∧ (∀ D L', D 0 = 1 → (∀ i, D i < 256) → gf_gen D L' T k → L ≤ L') ∧ b < 256 ∧ b ≠ 0) ∧
  ((L = 0 ∧ m = k + 1 ∧ b = 1 ∧ B 0 = 1 ∧ ∀ i, 0 < i → B i = 0) ∨
   (0 < L ∧ 1 ≤ m ∧ m ≤ k ∧ ∃ P, P + L = k - m + 1 ∧ (∀ i, P < i → B i = 0) ∧ gf_gen B P T (k - m) ∧ gf_s (P + 1) (fun i => gf_m (B i) (T (k - m - i))) = b))
def gf_one : Nat → Nat := fun i => if i = 0 then 1 else 0
theorem gf_bm_0 (T : Nat → Nat) : gf_bm T 0 gf_one gf_one 0 1 1 := by
  have hl : ∀ i, gf_one i < 256 := fun i => by unfold gf_one; split <;> decide
  exact ⟨⟨rfl, hl, hl, fun i hi => if_neg (by omega), Nat.le_refl _, fun n _ h => by omega, fun _ _ _ _ _ => Nat.zero_le _, by decide, by decide⟩, Or.inl ⟨rfl, rfl, rfl, rfl, fun i hi => if_neg (by omega)⟩⟩
theorem gf_gen_less {D T : Nat → Nat} {L k : Nat} (h : gf_gen D L T (k + 1)) : gf_gen D L T k := fun n h1 h2 => h n h1 (by omega)
/-- no miss -/
theorem gf_bm_zero {T : Nat → Nat} {k : Nat} {C B : Nat → Nat} {L m b : Nat} (h : gf_bm T k C B L m b) (hd : gf_s (L + 1) (fun i => gf_m (C i) (T (k - i))) = 0) : gf_bm T (k + 1) C B L (m + 1) b := by
  obtain ⟨⟨h0, hC, hB, hdeg, hLk, hg, hmin, hb, hb0⟩, hr⟩ := h
  refine ⟨⟨h0, hC, hB, hdeg, by omega, fun n h1 h2 => ?_, fun D L' d0 d1 d2 => hmin D L' d0 d1 (gf_gen_less d2), hb, hb0⟩, ?_⟩
  · by_cases hn : n = k
    · rw [hn]; exact hd
    · exact hg n h1 (by omega)
  · rcases hr with ⟨r1, r2, r3⟩ | ⟨r1, r2, r3, P, r4, r5⟩
    · exact Or.inl ⟨r1, by omega, r3⟩
    · refine Or.inr ⟨r1, by omega, by omega, P, by omega, ?_⟩
      rw [show k + 1 - (m + 1) = k - m by omega]
      exact r5
/-- the recurrence mended by the earlier one -/
def gf_mix (C B : Nat → Nat) (m f : Nat) : Nat → Nat := fun i => C i ^^^ (if i < m then 0 else gf_m f (B (i - m)))
theorem gf_s_shift (n m : Nat) (F : Nat → Nat) : gf_s (n + m) (fun i => if i < m then 0 else F (i - m)) = gf_s n F := by
  induction n with
  | zero => rw [Nat.zero_add]; exact gf_s_zero (fun i hi => if_pos hi)
  | succ n ih => rw [show n + 1 + m = (n + m) + 1 by omega, gf_s, ih, gf_s, if_neg (by omega), Nat.add_sub_cancel]
theorem gf_s_more {n : Nat} {f : Nat → Nat} : ∀ d, (∀ i, n ≤ i → i < n + d → f i = 0) → gf_s (n + d) f = gf_s n f
  | 0, _ => rfl
  | d + 1, h => by rw [← Nat.add_assoc, gf_s, gf_s_more d (fun i h1 h2 => h i h1 (by omega)), h (n + d) (by omega) (by omega), Nat.xor_zero]
theorem gf_s_ext {a b : Nat} {f : Nat → Nat} (hab : a ≤ b) (h : ∀ i, a ≤ i → i < b → f i = 0) : gf_s b f = gf_s a f := by
  obtain ⟨d, rfl⟩ : ∃ d, b = a + d := ⟨b - a, by omega⟩
  exact gf_s_more d h
/-- the mended recurrence's sum at n -/
theorem gf_mix_sum {C B T : Nat → Nat} {L P m f Q n : Nat} (hC : ∀ i, C i < 256) (hB : ∀ i, B i < 256) (hT : ∀ i, T i < 256) (hf : f < 256) (hCd : ∀ i, L < i → C i = 0) (hBd : ∀ i, P < i → B i = 0) (hLQ : L ≤ Q) (hPQ : P + m ≤ Q) :
    gf_s (Q + 1) (fun i => gf_m (gf_mix C B m f i) (T (n - i))) = gf_s (L + 1) (fun i => gf_m (C i) (T (n - i))) ^^^ gf_m f (gf_s (P + 1) (fun i => gf_m (B i) (T (n - m - i)))) := by
  have e1 : gf_s (Q + 1) (fun i => gf_m (gf_mix C B m f i) (T (n - i))) = gf_s (Q + 1) (fun i => gf_m (C i) (T (n - i))) ^^^ gf_s (Q + 1) (fun i => if i < m then 0 else gf_m f (gf_m (B (i - m)) (T (n - m - (i - m))))) := by
    rw [← gf_s_xor]
    refine gf_s_congr (fun i hi => ?_)
    unfold gf_mix
    rw [gf_distrib' (hT _) (hC i) (by split; decide; exact gf_m_lt _ _)]
    by_cases him : i < m
    · rw [if_pos him, if_pos him, gf_m_zero_left]
    · rw [if_neg him, if_neg him, gf_m_assoc hf (hB _) (hT _), show n - m - (i - m) = n - i by omega]
  rw [e1]
  congr 1
  · exact gf_s_ext (by omega) (fun i h1 h2 => by rw [hCd i (by omega), gf_m_zero_left])
  · rw [gf_s_mul hf (fun _ _ => gf_m_lt _ _)]
    rw [gf_s_ext (a := P + 1 + m) (by omega) (fun i h1 h2 => by
      show (if i < m then 0 else gf_m f (gf_m (B (i - m)) (T (n - m - (i - m))))) = 0
      rw [if_neg (by omega), hBd (i - m) (by omega), gf_m_zero_left, gf_m_zero_right])]
    exact gf_s_shift (P + 1) m (fun i => gf_m f (gf_m (B i) (T (n - m - i))))
theorem gf_div {d b : Nat} (hd : d < 256) (hb : b < 256) (h0 : b ≠ 0) : gf_m (gf_m d (gf_inv b)) b = d := by
  rw [gf_m_assoc hd (gf_inv_lt b) hb, gf_m_comm (gf_inv b), gf_m_inv hb h0, gf_m_one hd]
/-- a miss -/
theorem gf_bm_miss {T : Nat → Nat} (hT : ∀ i, T i < 256) {k : Nat} {C B : Nat → Nat} {L m b d : Nat} (h : gf_bm T k C B L m b) (hd : gf_s (L + 1) (fun i => gf_m (C i) (T (k - i))) = d) (hd0 : d ≠ 0) :
    (k < 2 * L → gf_bm T (k + 1) (gf_mix C B m (gf_m d (gf_inv b))) B L (m + 1) b) ∧ (2 * L ≤ k → gf_bm T (k + 1) (gf_mix C B m (gf_m d (gf_inv b))) C (k + 1 - L) 1 d) := by
  obtain ⟨⟨h0, hC, hB, hdeg, hLk, hg, hmin, hb, hb0⟩, hr⟩ := h
  have hdl : d < 256 := by rw [← hd]; exact gf_s_lt (fun _ _ => gf_m_lt _ _)
  have hf : gf_m d (gf_inv b) < 256 := gf_m_lt _ _
  have hm1 : 1 ≤ m := by rcases hr with r | r <;> omega
  have hmix0 : gf_mix C B m (gf_m d (gf_inv b)) 0 = 1 := by
    unfold gf_mix
    rw [if_pos (by omega), h0]
    rfl
  have hmixl : ∀ i, gf_mix C B m (gf_m d (gf_inv b)) i < 256 := fun i => gf_xor_lt (hC i) (by split; decide; exact gf_m_lt _ _)
  have hmas : ∀ D L', D 0 = 1 → (∀ i, D i < 256) → gf_gen D L' T (k + 1) → k + 1 ≤ L + L' := fun D L' d0 d1 d2 => gf_massey hC d1 hT hg (by rw [hd]; exact hd0) d2 d0
  -- the length of the earlier one
  have hP : ∃ P, P + L + m = k + 1 ∧ (∀ i, P < i → B i = 0) ∧ ∀ n, k + 1 - L ≤ n → n < k + 1 → gf_m (gf_m d (gf_inv b)) (gf_s (P + 1) (fun i => gf_m (B i) (T (n - m - i)))) = (if n = k ∧ 0 < L then d else 0) ∨ (L = 0 ∧ k + 1 ≤ n) := by
    rcases hr with ⟨r1, r2, r3, r4, r5⟩ | ⟨r1, r2, r3, P, r4, r5, r6, r7⟩
    · exact ⟨0, by omega, fun i hi => r5 i hi, fun n h1 h2 => Or.inr ⟨r1, by omega⟩⟩
    · refine ⟨P, by omega, r5, fun n h1 h2 => Or.inl ?_⟩
      by_cases hn : n = k
      · subst hn
        rw [if_pos ⟨rfl, r1⟩, r7]
        exact gf_div hdl hb hb0
      · rw [if_neg (fun q => hn q.1), r6 (n - m) (by omega) (by omega), gf_m_zero_right]
  obtain ⟨P, hP1, hP2, hP3⟩ := hP
  have hgen : ∀ Q, L ≤ Q → k + 1 - L ≤ Q → gf_gen (gf_mix C B m (gf_m d (gf_inv b))) Q T (k + 1) := by
    intro Q q1 q2 n n1 n2
    rw [gf_mix_sum hC hB hT hf hdeg hP2 q1 (by omega)]
    rcases hP3 n (by omega) n2 with e | ⟨e1, e2⟩
    · rw [e]
      by_cases hn : n = k
      · subst hn
        rw [hd]
        by_cases hL : 0 < L
        · rw [if_pos ⟨rfl, hL⟩, Nat.xor_self]
        · omega
      · rw [if_neg (fun q => hn q.1), hg n (by omega) (by omega)]
        rfl
    · omega
  have hmdeg : ∀ Q, L ≤ Q → k + 1 - L ≤ Q → ∀ i, Q < i → gf_mix C B m (gf_m d (gf_inv b)) i = 0 := by
    intro Q q1 q2 i hi
    unfold gf_mix
    rw [hdeg i (by omega), Nat.zero_xor]
    split
    · rfl
    · rw [hP2 (i - m) (by omega), gf_m_zero_right]
  constructor
  · intro hk
    refine ⟨⟨hmix0, hmixl, hB, hmdeg L (Nat.le_refl _) (by omega), by omega, hgen L (Nat.le_refl _) (by omega), fun D L' d0 d1 d2 => hmin D L' d0 d1 (gf_gen_less d2), hb, hb0⟩, ?_⟩
    rcases hr with ⟨r1, r2, r3⟩ | ⟨r1, r2, r3, P', r4, r5⟩
    · omega
    · refine Or.inr ⟨r1, by omega, by omega, P', by omega, ?_⟩
      rw [show k + 1 - (m + 1) = k - m by omega]
      exact r5
  · intro hk
    refine ⟨⟨hmix0, hmixl, hC, hmdeg (k + 1 - L) (by omega) (Nat.le_refl _), by omega, hgen (k + 1 - L) (by omega) (Nat.le_refl _), fun D L' d0 d1 d2 => by have := hmas D L' d0 d1 d2; omega, hdl, hd0⟩, Or.inr ⟨by omega, Nat.le_refl _, by omega, L, by omega, hdeg, ?_⟩⟩
    rw [show k + 1 - 1 = k by omega]
    exact ⟨hg, hd⟩
end
section
/-! the mending: the search's answer against the word that is near enough -/
def gf_ul (p : Nat → Bool) : Nat → List Nat
  | 0 => []
  | n + 1 => if p n then n :: gf_ul p n else gf_ul p n
theorem gf_ul_mem (p : Nat → Bool) : ∀ (n s : Nat), s ∈ gf_ul p n ↔ s < n ∧ p s = true
  | 0, s => by simp [gf_ul]
  | n + 1, s => by
    rw [gf_ul]
    by_cases hp : p n = true
    · rw [if_pos hp, List.mem_cons, gf_ul_mem p n]
      constructor
      · rintro (rfl | ⟨h1, h2⟩)
        · exact ⟨by omega, hp⟩
        · exact ⟨by omega, h2⟩
      · rintro ⟨h1, h2⟩
        by_cases hs : s = n
        · exact Or.inl hs
        · exact Or.inr ⟨by omega, h2⟩
    · rw [if_neg hp, gf_ul_mem p n]
      constructor
      · rintro ⟨h1, h2⟩; exact ⟨by omega, h2⟩
      · rintro ⟨h1, h2⟩
        refine ⟨?_, h2⟩
        have : s ≠ n := fun e => hp (by rw [← e]; exact h2)
        omega
theorem gf_ul_len (p : Nat → Bool) : ∀ n, (gf_ul p n).length = gf_cn n p
  | 0 => rfl
  | n + 1 => by
    rw [gf_ul, gf_cn]
    split
    · rw [List.length_cons, gf_ul_len p n]
    · rw [gf_ul_len p n]; rfl
theorem gf_ul_nodup (p : Nat → Bool) : ∀ n, (gf_ul p n).Nodup
  | 0 => List.nodup_nil
  | n + 1 => by
    rw [gf_ul]
    split
    · refine List.nodup_cons.mpr ⟨fun h => ?_, gf_ul_nodup p n⟩
      have := ((gf_ul_mem p n n).mp h).1
      omega
    · exact gf_ul_nodup p n
theorem gf_ul_congr {p q : Nat → Bool} : ∀ n, (∀ i, i < n → p i = q i) → gf_ul p n = gf_ul q n
  | 0, _ => rfl
  | n + 1, h => by rw [gf_ul, gf_ul, h n (by omega), gf_ul_congr n (fun i hi => h i (by omega))]
theorem gf_ul_erase (p : Nat → Bool) (s : Nat) : ∀ n, (gf_ul p n).erase s = gf_ul (fun i => p i && i != s) n
  | 0 => rfl
  | n + 1 => by
    rw [gf_ul, gf_ul]
    by_cases hp : p n = true
    · rw [if_pos hp]
      by_cases hs : n = s
      · subst hs
        rw [List.erase_cons_head, if_neg (by simp)]
        rw [← gf_ul_erase p n n]
        exact (List.erase_of_not_mem (fun h => by have := ((gf_ul_mem p n n).mp h).1; omega)).symm
      · rw [List.erase_cons_tail (by simpa using hs), gf_ul_erase p s n, if_pos (by simp [hp, hs])]
    · rw [if_neg hp, if_neg (by simp [hp]), gf_ul_erase p s n]
theorem gf_xeq {a b : Nat} (h : a ^^^ b = 0) : a = b := by
  have h1 := congrArg (fun z => z ^^^ b) h
  simp only [Nat.xor_assoc, Nat.xor_self, Nat.xor_zero, Nat.zero_xor] at h1
  exact h1
/-- as many differences 0 as there are places: the sequence is 0 -/
theorem gf_dl_inj : ∀ (l : List Nat) {S : Nat → Nat}, (∀ j, S j < 256) → l.Nodup → (∀ t ∈ l, t < 16) → (∀ s ∈ l, gf_dl (l.erase s) S 0 = 0) → ∀ j, j < l.length → S j = 0
  | [], _, _, _, _, _ => fun j hj => by simp at hj
  | t :: l, S, hS, hn, hl, h => by
    obtain ⟨hn1, hn2⟩ := List.nodup_cons.mp hn
    have ht := hl t List.mem_cons_self
    have hl' : ∀ t ∈ l, t < 16 := fun t ht => hl t (List.mem_cons_of_mem _ ht)
    have h1 := gf_dl_inj l (S := gf_dq (gf_ex t) S) (gf_dq_lt hS) hn2 hl' (fun s hs => by
      have h2 := h s (List.mem_cons_of_mem _ hs)
      rw [List.erase_cons_tail (by simp; exact fun e => hn1 (by rw [e]; exact hs))] at h2
      exact h2)
    have h2 : ∀ j, j ≤ l.length → S j = gf_m (S 0) (gf_ex (j * t)) := by
      intro j
      induction j with
      | zero => intro _; rw [Nat.zero_mul]; exact (gf_m_one (hS 0)).symm
      | succ j ih =>
        intro hj
        have a := gf_xeq (h1 j (by omega))
        rw [a, ih (by omega), ← gf_m_assoc (gf_ex_pos t).2 (hS 0) (gf_ex_pos _).2, gf_m_comm (gf_ex t), gf_m_assoc (hS 0) (gf_ex_pos t).2 (gf_ex_pos _).2, gf_ex_add, show t + j * t = (j + 1) * t by rw [Nat.add_mul]; omega]
    have h3 := h t List.mem_cons_self
    rw [List.erase_cons_head] at h3
    have he : ∀ s, s < 16 → (fun s => if s = t then S 0 else 0) s < 256 := fun s _ => by
      show (if s = t then S 0 else 0) < 256
      split
      · exact hS 0
      · decide
    have h4 : ∀ j, gf_sy (fun s => if s = t then S 0 else 0) j = gf_m (S 0) (gf_ex (j * t)) := by
      intro j
      unfold gf_sy
      rw [gf_s_one ht (fun s hs hst => by show gf_m (if s = t then S 0 else 0) _ = 0; rw [if_neg hst, gf_m_zero_left])]
      show gf_m (if t = t then S 0 else 0) _ = _
      rw [if_pos rfl]
    rw [gf_dl_congr l (S' := gf_sy (fun s => if s = t then S 0 else 0)) (fun i hi => by rw [Nat.zero_add, h2 i hi, h4])] at h3
    rw [gf_dl_sy l he] at h3
    unfold gf_sy at h3
    rw [gf_s_one ht (fun s hs hst => by show gf_m (gf_m (if s = t then S 0 else 0) _) _ = 0; rw [if_neg hst, gf_m_zero_left, gf_m_zero_left])] at h3
    have h5 : S 0 = 0 := by
      rcases gf_m_eq_zero.mp h3 with q | q
      · rcases gf_m_eq_zero.mp q with q | q
        · rw [if_pos rfl] at q; exact q
        · exact absurd q (gf_pr_ne ht hl' hn1)
      · have := (gf_ex_pos (0 * t)).1
        omega
    intro j hj
    rw [h2 j (by simp at hj; omega), h5, gf_m_zero_left]
/-- the mended word: at each unknown place the sums, weighed -/
def gf_fix (c : Nat → Nat) (U : Nat → Bool) : Nat → Nat := fun s =>
  if U s then gf_m (gf_dl (gf_ul (fun i => U i && i != s) 16) (gf_sy c) 0) (gf_inv (gf_pr (gf_ul (fun i => U i && i != s) 16) (gf_ex s))) else 0
theorem gf_fix_lt (c : Nat → Nat) (U : Nat → Bool) (s : Nat) : gf_fix c U s < 256 := by
  unfold gf_fix
  split
  · exact gf_m_lt _ _
  · decide
theorem gf_fix_out {c : Nat → Nat} {U : Nat → Bool} {s : Nat} (h : U s = false) : gf_fix c U s = 0 := by
  unfold gf_fix
  rw [if_neg (by rw [h]; decide)]
/-- the first sums of the mended word are 0 -/
theorem gf_fix_first {c : Nat → Nat} (hc : ∀ s, s < 16 → c s < 256) (U : Nat → Bool) : ∀ j, j < gf_cn 16 U → gf_sy (fun s => c s ^^^ gf_fix c U s) j = 0 := by
  have hfl : ∀ s, s < 16 → gf_fix c U s < 256 := fun s _ => gf_fix_lt c U s
  intro j hj
  rw [← gf_ul_len] at hj
  refine gf_dl_inj (gf_ul U 16) (gf_sy_lt _) (gf_ul_nodup U 16) (fun t ht => ((gf_ul_mem U 16 t).mp ht).1) (fun s hs => ?_) j hj
  obtain ⟨hs1, hs2⟩ := (gf_ul_mem U 16 s).mp hs
  have e1 : gf_sy (fun s => c s ^^^ gf_fix c U s) = fun j => gf_sy c j ^^^ gf_sy (gf_fix c U) j := by
    funext j
    exact gf_sy_xor hc hfl j
  rw [gf_ul_erase, e1, gf_dl_xor _ (gf_sy_lt _) (gf_sy_lt _), gf_dl_sy _ hfl]
  have e2 : gf_sy (fun t => gf_m (gf_fix c U t) (gf_pr (gf_ul (fun i => U i && i != s) 16) (gf_ex t))) 0 = gf_m (gf_fix c U s) (gf_pr (gf_ul (fun i => U i && i != s) 16) (gf_ex s)) := by
    unfold gf_sy
    rw [gf_s_one hs1 (fun t ht hts => ?_)]
    · rw [Nat.zero_mul]
      exact gf_m_one (gf_m_lt _ _)
    · dsimp only
      cases hU : U t
      · rw [gf_fix_out hU, gf_m_zero_left, gf_m_zero_left]
      · rw [gf_pr_zero ((gf_ul_mem _ 16 t).mpr ⟨ht, by simp [hU, hts]⟩), gf_m_zero_right, gf_m_zero_left]
  rw [e2]
  have hne : gf_pr (gf_ul (fun i => U i && i != s) 16) (gf_ex s) ≠ 0 := gf_pr_ne hs1 (fun t ht => ((gf_ul_mem _ 16 t).mp ht).1) (fun h => by have := ((gf_ul_mem _ 16 s).mp h).2; simp at this)
  unfold gf_fix
  rw [if_pos hs2, gf_div (gf_dl_lt _ (gf_sy_lt _) _) (gf_pr_lt _ _) hne, Nat.xor_self]
/-- what the search of the places marks -/
def gf_mk (M : Nat → Bool) (C : Nat → Nat) (L : Nat) : Nat → Bool := fun s => M s || (gf_ho C L (gf_ex s) == 0)
theorem gf_cn_split (n : Nat) (M q : Nat → Bool) : gf_cn n (fun s => M s || q s) = gf_cn n M + gf_cn n (fun s => !M s && q s) := by
  induction n with
  | zero => rfl
  | succ n ih =>
    simp only [gf_cn]
    rw [ih]
    have hb : ∀ a b : Bool, (if (a || b) = true then 1 else 0) = (if a = true then 1 else 0) + (if (!a && b) = true then 1 else 0) := by decide
    have := hb (M n) (q n)
    omega
/-- where the search finds as many places as the recurrence is long, the mended word has sums 0 and is near enough -/
theorem gf_mendA {c : Nat → Nat} (hc : ∀ s, s < 16 → c s < 256) {M : Nat → Bool} {C B : Nat → Nat} {L m b : Nat} (hg : gf_cn 16 M ≤ 6) (hbm : gf_bm (gf_dl (gf_ul M 16) (gf_sy c)) (6 - gf_cn 16 M) C B L m b) (h2 : 2 * L ≤ 6 - gf_cn 16 M) (hr : gf_cn 16 (fun s => !M s && (gf_ho C L (gf_ex s) == 0)) = L) :
    gf_md c M (fun s => c s ^^^ gf_fix c (gf_mk M C L) s) := by
  obtain ⟨⟨h0, hC, hB, hdeg, hLk, hgen, hmin, hb, hb0⟩, -⟩ := hbm
  have hfl : ∀ s, s < 16 → gf_fix c (gf_mk M C L) s < 256 := fun s _ => gf_fix_lt _ _ s
  have hU : gf_cn 16 (gf_mk M C L) = gf_cn 16 M + L := by
    have := gf_cn_split 16 M (fun s => gf_ho C L (gf_ex s) == 0)
    rw [hr] at this
    exact this
  refine ⟨fun s hs => gf_xor_lt (hc s hs) (hfl s hs), ?_, ?_⟩
  · have hS0 := gf_fix_first hc (gf_mk M C L)
    rw [hU] at hS0
    have e1 : gf_sy (fun s => c s ^^^ gf_fix c (gf_mk M C L) s) = fun j => gf_sy c j ^^^ gf_sy (gf_fix c (gf_mk M C L)) j := by
      funext j
      exact gf_sy_xor hc hfl j
    -- the sifted sums of the mended word
    have hT0 : ∀ j, j < L → gf_dl (gf_ul M 16) (gf_sy (fun s => c s ^^^ gf_fix c (gf_mk M C L) s)) j = 0 := by
      intro j hj
      rw [gf_dl_congr _ (S' := fun _ => 0) (fun i hi => hS0 (j + i) (by rw [gf_ul_len] at hi; omega))]
      have e2 : (fun _ : Nat => 0) = gf_sy (fun _ => 0) := by
        funext j
        exact (gf_s_zero (fun _ _ => gf_m_zero_left _)).symm
      rw [e2, gf_dl_sy _ (fun _ _ => by decide)]
      exact gf_s_zero (fun _ _ => by dsimp only; rw [gf_m_zero_left, gf_m_zero_left])
    have hT1 : ∀ n, L ≤ n → n < 6 - gf_cn 16 M → gf_s (L + 1) (fun i => gf_m (C i) (gf_dl (gf_ul M 16) (gf_sy (fun s => c s ^^^ gf_fix c (gf_mk M C L) s)) (n - i))) = 0 := by
      intro n n1 n2
      have e3 : gf_s (L + 1) (fun i => gf_m (C i) (gf_dl (gf_ul M 16) (gf_sy (fun s => c s ^^^ gf_fix c (gf_mk M C L) s)) (n - i))) = gf_s (L + 1) (fun i => gf_m (C i) (gf_dl (gf_ul M 16) (gf_sy c) (n - i))) ^^^ gf_s (L + 1) (fun i => gf_m (C i) (gf_sy (fun s => gf_m (gf_fix c (gf_mk M C L) s) (gf_pr (gf_ul M 16) (gf_ex s))) (n - i))) := by
        rw [← gf_s_xor]
        refine gf_s_congr (fun i hi => ?_)
        rw [e1, gf_dl_xor _ (gf_sy_lt _) (gf_sy_lt _), gf_dl_sy _ hfl, gf_distrib (hC i) (gf_dl_lt _ (gf_sy_lt _) _) (gf_sy_lt _ _)]
      rw [e3, hgen n n1 n2, Nat.zero_xor, gf_rec_sy hC (fun _ _ => gf_m_lt _ _) n1]
      refine gf_s_zero (fun s hs => ?_)
      have : gf_m (gf_m (gf_fix c (gf_mk M C L) s) (gf_pr (gf_ul M 16) (gf_ex s))) (gf_ho C L (gf_ex s)) = 0 := by
        cases hM : M s
        · by_cases hq : gf_ho C L (gf_ex s) = 0
          · rw [hq, gf_m_zero_right]
          · rw [gf_fix_out (by simp [gf_mk, hM, hq]), gf_m_zero_left, gf_m_zero_left]
        · rw [gf_pr_zero ((gf_ul_mem M 16 s).mpr ⟨hs, hM⟩), gf_m_zero_right, gf_m_zero_left]
      dsimp only
      rw [this, gf_m_zero_left]
    have hT2 : ∀ n, n < 6 - gf_cn 16 M → gf_dl (gf_ul M 16) (gf_sy (fun s => c s ^^^ gf_fix c (gf_mk M C L) s)) n = 0 := by
      intro n
      induction n using Nat.strongRecOn with
      | _ n ih =>
        intro hn
        by_cases hnL : n < L
        · exact hT0 n hnL
        · have a := hT1 n (by omega) hn
          rw [gf_s_first, gf_s_zero (fun i hi => by rw [ih (n - (i + 1)) (by omega) (by omega), gf_m_zero_right]), Nat.xor_zero, h0, Nat.sub_zero, gf_one_m (gf_dl_lt _ (gf_sy_lt _) _)] at a
          exact a
    exact gf_dl_all (gf_ul M 16) (N := 6) (fun j hj => hT2 j (by rw [gf_ul_len] at hj; omega)) (fun i hi => hS0 i (by rw [gf_ul_len] at hi; omega))
  · have : gf_cn 16 (fun s => !M s && ((c s ^^^ gf_fix c (gf_mk M C L) s) != c s)) ≤ gf_cn 16 (fun s => !M s && (gf_ho C L (gf_ex s) == 0)) := by
      refine gf_cn_le (fun s hs h => ?_)
      simp only [Bool.and_eq_true, Bool.not_eq_true', bne_iff_ne, ne_eq, beq_iff_eq] at h ⊢
      refine ⟨h.1, Classical.byContradiction fun hq => h.2 ?_⟩
      rw [gf_fix_out (by simp [gf_mk, h.1, hq]), Nat.xor_zero]
    dsimp only
    omega
theorem gf_s_rev (n : Nat) (F : Nat → Nat) : gf_s (n + 1) (fun i => F (n - i)) = gf_s (n + 1) F := by
  induction n with
  | zero => rfl
  | succ n ih =>
    rw [gf_s_first, show gf_s (n + 1 + 1) F = gf_s (n + 1) F ^^^ F (n + 1) from rfl, Nat.sub_zero, Nat.xor_comm, ← ih]
    congr 1
    exact gf_s_congr (fun i hi => by rw [show n + 1 - (i + 1) = n - i by omega])
/-- where a near word is there, the search finds it -/
theorem gf_mendB {c w : Nat → Nat} (hc : ∀ s, s < 16 → c s < 256) {M : Nat → Bool} {C B : Nat → Nat} {L m b : Nat} (hbm : gf_bm (gf_dl (gf_ul M 16) (gf_sy c)) (6 - gf_cn 16 M) C B L m b) (hw : gf_md c M w) :
    2 * L ≤ 6 - gf_cn 16 M ∧ gf_cn 16 (fun s => !M s && (gf_ho C L (gf_ex s) == 0)) = L := by
  obtain ⟨⟨h0, hC, hB, hdeg, hLk, hgen, hmin, hb, hb0⟩, -⟩ := hbm
  obtain ⟨w1, w2, w3⟩ := hw
  have hel : ∀ s, s < 16 → c s ^^^ w s < 256 := fun s hs => gf_xor_lt (hc s hs) (w1 s hs)
  have hfl : ∀ s, s < 16 → gf_m (c s ^^^ w s) (gf_pr (gf_ul M 16) (gf_ex s)) < 256 := fun s _ => gf_m_lt _ _
  -- the sifted sums
  have hT : ∀ j, j < 6 - gf_cn 16 M → gf_dl (gf_ul M 16) (gf_sy c) j = gf_sy (fun s => gf_m (c s ^^^ w s) (gf_pr (gf_ul M 16) (gf_ex s))) j := by
    intro j hj
    rw [← gf_dl_sy _ hel]
    refine gf_dl_congr _ (fun i hi => ?_)
    rw [gf_ul_len] at hi
    rw [gf_sy_xor hc w1, w2 (j + i) (by omega), Nat.xor_zero]
  generalize hR : (fun s => !M s && (w s != c s)) = R at w3
  have hf0 : ∀ s, s < 16 → R s = false → gf_m (c s ^^^ w s) (gf_pr (gf_ul M 16) (gf_ex s)) = 0 := by
    intro s hs h
    rw [← hR] at h
    cases hM : M s
    · have : w s = c s := by simpa [hM] using h
      rw [this, Nat.xor_self, gf_m_zero_left]
    · rw [gf_pr_zero ((gf_ul_mem M 16 s).mpr ⟨hs, hM⟩), gf_m_zero_right]
  have hf1 : ∀ s, s < 16 → R s = true → gf_m (c s ^^^ w s) (gf_pr (gf_ul M 16) (gf_ex s)) ≠ 0 := by
    intro s hs h q
    rw [← hR] at h
    simp only [Bool.and_eq_true, Bool.not_eq_true', bne_iff_ne, ne_eq] at h
    rcases gf_m_eq_zero.mp q with q | q
    · exact h.2 (gf_xeq q).symm
    · exact gf_pr_ne hs (fun t ht => ((gf_ul_mem M 16 t).mp ht).1) (fun q => by have := ((gf_ul_mem M 16 s).mp q).2; rw [h.1] at this; cases this) q
  -- a recurrence as long as there are wrong strands
  have hLt : L ≤ gf_cn 16 R := by
    have hlen := gf_ul_len R 16
    have hD0 : gf_pc (gf_ul R 16) (gf_cn 16 R - 0) = 1 := by rw [Nat.sub_zero, ← hlen]; exact (gf_pc_top _).1
    refine hmin (fun i => gf_pc (gf_ul R 16) (gf_cn 16 R - i)) (gf_cn 16 R) hD0 (fun i => gf_pc_lt _ _) (fun n n1 n2 => ?_)
    have e1 : gf_s (gf_cn 16 R + 1) (fun i => gf_m (gf_pc (gf_ul R 16) (gf_cn 16 R - i)) (gf_dl (gf_ul M 16) (gf_sy c) (n - i))) = gf_s (gf_cn 16 R + 1) (fun i => gf_m (gf_pc (gf_ul R 16) i) (gf_dl (gf_ul M 16) (gf_sy c) ((n - gf_cn 16 R) + i))) := by
      rw [← gf_s_rev (gf_cn 16 R) (fun i => gf_m (gf_pc (gf_ul R 16) i) (gf_dl (gf_ul M 16) (gf_sy c) ((n - gf_cn 16 R) + i)))]
      exact gf_s_congr (fun i hi => by rw [show n - gf_cn 16 R + (gf_cn 16 R - i) = n - i by omega])
    rw [e1, ← hlen, gf_wg _ (gf_dl_lt _ (gf_sy_lt _))]
    rw [gf_dl_congr _ (S' := gf_sy (fun s => gf_m (c s ^^^ w s) (gf_pr (gf_ul M 16) (gf_ex s)))) (fun i hi => hT _ (by omega)), gf_dl_sy _ hfl]
    refine gf_s_zero (fun s hs => ?_)
    dsimp only
    cases hRs : R s
    · rw [hf0 s hs hRs, gf_m_zero_left, gf_m_zero_left]
    · rw [gf_pr_zero ((gf_ul_mem R 16 s).mpr ⟨hs, hRs⟩), gf_m_zero_right, gf_m_zero_left]
  -- its roots
  have hroot : ∀ s, s < 16 → R s = true → gf_ho C L (gf_ex s) = 0 := by
    have hv := gf_vd (6 - gf_cn 16 M - L) (fun s => gf_m (gf_m (c s ^^^ w s) (gf_pr (gf_ul M 16) (gf_ex s))) (gf_ho C L (gf_ex s))) (fun s _ => gf_m_lt _ _) ?_ (fun j hj => ?_)
    · intro s hs hRs
      rcases gf_m_eq_zero.mp (hv s hs) with q | q
      · exact absurd q (hf1 s hs hRs)
      · exact q
    · have a := gf_cn_le (n := 16) (p := fun s => gf_m (gf_m (c s ^^^ w s) (gf_pr (gf_ul M 16) (gf_ex s))) (gf_ho C L (gf_ex s)) != 0) (q := R) (fun s hs h => by
        cases hRs : R s
        · simp only [bne_iff_ne, ne_eq] at h
          exact absurd (by rw [hf0 s hs hRs, gf_m_zero_left]) h
        · rfl)
      omega
    · have a := hgen (j + L) (by omega) (by omega)
      have e1 : gf_s (L + 1) (fun i => gf_m (C i) (gf_dl (gf_ul M 16) (gf_sy c) (j + L - i))) = gf_s (L + 1) (fun i => gf_m (C i) (gf_sy (fun s => gf_m (c s ^^^ w s) (gf_pr (gf_ul M 16) (gf_ex s))) (j + L - i))) :=
        gf_s_congr (fun i hi => by rw [hT _ (by omega)])
      rw [e1, gf_rec_sy hC hfl (by omega), Nat.add_sub_cancel] at a
      exact a
  have b1 := gf_roots L hC (by rw [h0]; decide)
  have b2 := gf_cn_le (n := 16) (p := fun s => !M s && (gf_ho C L (gf_ex s) == 0)) (q := fun s => gf_ho C L (gf_ex s) == 0) (fun s _ h => by simp at h ⊢; exact h.2)
  have b3 := gf_cn_le (n := 16) (p := R) (q := fun s => !M s && (gf_ho C L (gf_ex s) == 0)) (fun s hs h => by
    have h' := h
    rw [← hR] at h'
    simp only [Bool.and_eq_true, Bool.not_eq_true', bne_iff_ne, ne_eq, beq_iff_eq] at h' ⊢
    exact ⟨h'.1, hroot s hs h⟩)
  omega
end
section
/-! how the pure machine is evaluated: a row an instruction -/
section
variable {x : Bool} {scr : Option (Nat × (Nat → Int32))} {mc ms : Nat} {O : ma_O} {aux : List Nat} {k : Nat} {ls : List (Option Value)} {st rest : List Value} {c sl : Nat} {S : ma_S} {h : ma_H} {K : ma_K} {Q : ma_P}
theorem ev_iconst {i : Int} {v : Nat} : ma_x x scr mc ms O (.iconst i) [v, 0] k ls st c sl S h K Q = (K (k + 1) ls (.int (nI v) :: st) c sl S h) := rfl
theorem ev_iconst_m {i : Int} {v : Nat} : ma_x x scr mc ms O (.iconst i) [v, 1] k ls st c sl S h K Q = (K (k + 1) ls (.int (-1) :: st) c sl S h) := rfl
theorem ev_bipush {i : Int} {v : Nat} : ma_x x scr mc ms O (.bipush i) [v, 0] k ls st c sl S h K Q = (K (k + 1) ls (.int (nI v) :: st) c sl S h) := rfl
theorem ev_bipush_m {i : Int} {v : Nat} : ma_x x scr mc ms O (.bipush i) [v, 1] k ls st c sl S h K Q = (K (k + 1) ls (.int (-1) :: st) c sl S h) := rfl
theorem ev_sipush {i : Int} {v : Nat} : ma_x x scr mc ms O (.sipush i) [v, 0] k ls st c sl S h K Q = (K (k + 1) ls (.int (nI v) :: st) c sl S h) := rfl
theorem ev_sipush_m {i : Int} {v : Nat} : ma_x x scr mc ms O (.sipush i) [v, 1] k ls st c sl S h K Q = (K (k + 1) ls (.int (-1) :: st) c sl S h) := rfl
theorem ev_ldc {i v w : Nat} : ma_x x scr mc ms O (.ldc i) [v, 0, w] k ls st c sl S h K Q = (K (k + 1) ls (.int (nI v) :: st) c sl S h) := rfl
theorem ev_ldc_w {i v w : Nat} : ma_x x scr mc ms O (.ldc_w i) [v, 0, w] k ls st c sl S h K Q = (K (k + 1) ls (.int (nI v) :: st) c sl S h) := rfl
theorem ev_ldc2_w {i v w : Nat} : ma_x x scr mc ms O (.ldc2_w i) [v, 0, w] k ls st c sl S h K Q = (K (k + 1) ls (.long (lN v) :: st) c sl S h) := rfl
theorem ev_lconst {i : Fin 2} {v : Nat} : ma_x x scr mc ms O (.lconst i) [v] k ls st c sl S h K Q = (K (k + 1) ls (.long (lN v) :: st) c sl S h) := rfl
theorem ev_iload {i : Nat} : ma_x x scr mc ms O (.iload i) aux k ls st c sl S h K Q = (ma_gi ls i fun z => K (k + 1) ls (.int z :: st) c sl S h) := rfl
theorem ev_iload_0 : ma_x x scr mc ms O (.iload_n 0) aux k ls st c sl S h K Q = (ma_gi ls 0 fun z => K (k + 1) ls (.int z :: st) c sl S h) := rfl
theorem ev_iload_1 : ma_x x scr mc ms O (.iload_n 1) aux k ls st c sl S h K Q = (ma_gi ls 1 fun z => K (k + 1) ls (.int z :: st) c sl S h) := rfl
theorem ev_iload_2 : ma_x x scr mc ms O (.iload_n 2) aux k ls st c sl S h K Q = (ma_gi ls 2 fun z => K (k + 1) ls (.int z :: st) c sl S h) := rfl
theorem ev_iload_3 : ma_x x scr mc ms O (.iload_n 3) aux k ls st c sl S h K Q = (ma_gi ls 3 fun z => K (k + 1) ls (.int z :: st) c sl S h) := rfl
theorem ev_lload {i : Nat} : ma_x x scr mc ms O (.lload i) aux k ls st c sl S h K Q = (ma_gl ls i fun z => K (k + 1) ls (.long z :: st) c sl S h) := rfl
theorem ev_lload_0 : ma_x x scr mc ms O (.lload_n 0) aux k ls st c sl S h K Q = (ma_gl ls 0 fun z => K (k + 1) ls (.long z :: st) c sl S h) := rfl
theorem ev_lload_1 : ma_x x scr mc ms O (.lload_n 1) aux k ls st c sl S h K Q = (ma_gl ls 1 fun z => K (k + 1) ls (.long z :: st) c sl S h) := rfl
theorem ev_lload_2 : ma_x x scr mc ms O (.lload_n 2) aux k ls st c sl S h K Q = (ma_gl ls 2 fun z => K (k + 1) ls (.long z :: st) c sl S h) := rfl
theorem ev_lload_3 : ma_x x scr mc ms O (.lload_n 3) aux k ls st c sl S h K Q = (ma_gl ls 3 fun z => K (k + 1) ls (.long z :: st) c sl S h) := rfl
theorem ev_aload {i : Nat} : ma_x x scr mc ms O (.aload i) aux k ls st c sl S h K Q = (ma_gr ls i fun z => K (k + 1) ls (.ref z :: st) c sl S h) := rfl
theorem ev_aload_0 : ma_x x scr mc ms O (.aload_n 0) aux k ls st c sl S h K Q = (ma_gr ls 0 fun z => K (k + 1) ls (.ref z :: st) c sl S h) := rfl
theorem ev_aload_1 : ma_x x scr mc ms O (.aload_n 1) aux k ls st c sl S h K Q = (ma_gr ls 1 fun z => K (k + 1) ls (.ref z :: st) c sl S h) := rfl
theorem ev_aload_2 : ma_x x scr mc ms O (.aload_n 2) aux k ls st c sl S h K Q = (ma_gr ls 2 fun z => K (k + 1) ls (.ref z :: st) c sl S h) := rfl
theorem ev_aload_3 : ma_x x scr mc ms O (.aload_n 3) aux k ls st c sl S h K Q = (ma_gr ls 3 fun z => K (k + 1) ls (.ref z :: st) c sl S h) := rfl
theorem ev_istore {i : Nat} {z : Int32} : ma_x x scr mc ms O (.istore i) aux k ls (.int z :: st) c sl S h K Q = (i < ls.length ∧ K (k + 1) (ma_set1 ls i (.int z)) st c sl S h) := rfl
theorem ev_istore_0 {z : Int32} : ma_x x scr mc ms O (.istore_n 0) aux k ls (.int z :: st) c sl S h K Q = (0 < ls.length ∧ K (k + 1) (ma_set1 ls 0 (.int z)) st c sl S h) := rfl
theorem ev_istore_1 {z : Int32} : ma_x x scr mc ms O (.istore_n 1) aux k ls (.int z :: st) c sl S h K Q = (1 < ls.length ∧ K (k + 1) (ma_set1 ls 1 (.int z)) st c sl S h) := rfl
theorem ev_istore_2 {z : Int32} : ma_x x scr mc ms O (.istore_n 2) aux k ls (.int z :: st) c sl S h K Q = (2 < ls.length ∧ K (k + 1) (ma_set1 ls 2 (.int z)) st c sl S h) := rfl
theorem ev_istore_3 {z : Int32} : ma_x x scr mc ms O (.istore_n 3) aux k ls (.int z :: st) c sl S h K Q = (3 < ls.length ∧ K (k + 1) (ma_set1 ls 3 (.int z)) st c sl S h) := rfl
theorem ev_astore {i : Nat} {z : Nat} : ma_x x scr mc ms O (.astore i) aux k ls (.ref z :: st) c sl S h K Q = (i < ls.length ∧ K (k + 1) (ma_set1 ls i (.ref z)) st c sl S h) := rfl
theorem ev_astore_0 {z : Nat} : ma_x x scr mc ms O (.astore_n 0) aux k ls (.ref z :: st) c sl S h K Q = (0 < ls.length ∧ K (k + 1) (ma_set1 ls 0 (.ref z)) st c sl S h) := rfl
theorem ev_astore_1 {z : Nat} : ma_x x scr mc ms O (.astore_n 1) aux k ls (.ref z :: st) c sl S h K Q = (1 < ls.length ∧ K (k + 1) (ma_set1 ls 1 (.ref z)) st c sl S h) := rfl
theorem ev_astore_2 {z : Nat} : ma_x x scr mc ms O (.astore_n 2) aux k ls (.ref z :: st) c sl S h K Q = (2 < ls.length ∧ K (k + 1) (ma_set1 ls 2 (.ref z)) st c sl S h) := rfl
theorem ev_astore_3 {z : Nat} : ma_x x scr mc ms O (.astore_n 3) aux k ls (.ref z :: st) c sl S h K Q = (3 < ls.length ∧ K (k + 1) (ma_set1 ls 3 (.ref z)) st c sl S h) := rfl
theorem ev_lstore {i : Nat} {z : Int64} : ma_x x scr mc ms O (.lstore i) aux k ls (.long z :: st) c sl S h K Q = (i + 1 < ls.length ∧ K (k + 1) (ma_set2 ls i (.long z)) st c sl S h) := rfl
theorem ev_lstore_0 {z : Int64} : ma_x x scr mc ms O (.lstore_n 0) aux k ls (.long z :: st) c sl S h K Q = (1 < ls.length ∧ K (k + 1) (ma_set2 ls 0 (.long z)) st c sl S h) := rfl
theorem ev_lstore_1 {z : Int64} : ma_x x scr mc ms O (.lstore_n 1) aux k ls (.long z :: st) c sl S h K Q = (2 < ls.length ∧ K (k + 1) (ma_set2 ls 1 (.long z)) st c sl S h) := rfl
theorem ev_lstore_2 {z : Int64} : ma_x x scr mc ms O (.lstore_n 2) aux k ls (.long z :: st) c sl S h K Q = (3 < ls.length ∧ K (k + 1) (ma_set2 ls 2 (.long z)) st c sl S h) := rfl
theorem ev_lstore_3 {z : Int64} : ma_x x scr mc ms O (.lstore_n 3) aux k ls (.long z :: st) c sl S h K Q = (4 < ls.length ∧ K (k + 1) (ma_set2 ls 3 (.long z)) st c sl S h) := rfl
theorem ev_iinc {i v : Nat} {n : Int} : ma_x x scr mc ms O (.iinc i n) [v, 0] k ls st c sl S h K Q = (ma_gi ls i fun z => K (k + 1) (ma_set1 ls i (.int (z + nI v))) st c sl S h) := rfl
theorem ev_iinc_m {i v : Nat} {n : Int} : ma_x x scr mc ms O (.iinc i n) [v, 1] k ls st c sl S h K Q = (ma_gi ls i fun z => K (k + 1) (ma_set1 ls i (.int (z + -1))) st c sl S h) := rfl
theorem ev_iadd {z y : Int32} : ma_x x scr mc ms O (.iadd) aux k ls (.int y :: .int z :: st) c sl S h K Q = (K (k + 1) ls (.int (z + y) :: st) c sl S h) := rfl
theorem ev_isub {z y : Int32} : ma_x x scr mc ms O (.isub) aux k ls (.int y :: .int z :: st) c sl S h K Q = (K (k + 1) ls (.int (z - y) :: st) c sl S h) := rfl
theorem ev_imul {z y : Int32} : ma_x x scr mc ms O (.imul) aux k ls (.int y :: .int z :: st) c sl S h K Q = (K (k + 1) ls (.int (z * y) :: st) c sl S h) := rfl
theorem ev_iand {z y : Int32} : ma_x x scr mc ms O (.iand) aux k ls (.int y :: .int z :: st) c sl S h K Q = (K (k + 1) ls (.int (z &&& y) :: st) c sl S h) := rfl
theorem ev_ior {z y : Int32} : ma_x x scr mc ms O (.ior) aux k ls (.int y :: .int z :: st) c sl S h K Q = (K (k + 1) ls (.int (z ||| y) :: st) c sl S h) := rfl
theorem ev_ixor {z y : Int32} : ma_x x scr mc ms O (.ixor) aux k ls (.int y :: .int z :: st) c sl S h K Q = (K (k + 1) ls (.int (z ^^^ y) :: st) c sl S h) := rfl
theorem ev_ishl {z y : Int32} : ma_x x scr mc ms O (.ishl) aux k ls (.int y :: .int z :: st) c sl S h K Q = (K (k + 1) ls (.int (ma_shl z y) :: st) c sl S h) := rfl
theorem ev_ishr {z y : Int32} : ma_x x scr mc ms O (.ishr) aux k ls (.int y :: .int z :: st) c sl S h K Q = (K (k + 1) ls (.int (ma_shr z y) :: st) c sl S h) := rfl
theorem ev_iushr {z y : Int32} : ma_x x scr mc ms O (.iushr) aux k ls (.int y :: .int z :: st) c sl S h K Q = (K (k + 1) ls (.int (ma_ushr z y) :: st) c sl S h) := rfl
theorem ev_idiv {z y : Int32} : ma_x x scr mc ms O (.idiv) aux k ls (.int y :: .int z :: st) c sl S h K Q = (¬ y = 0 ∧ K (k + 1) ls (.int (z / y) :: st) c sl S h) := rfl
theorem ev_irem {z y : Int32} : ma_x x scr mc ms O (.irem) aux k ls (.int y :: .int z :: st) c sl S h K Q = (¬ y = 0 ∧ K (k + 1) ls (.int (ma_irem z y) :: st) c sl S h) := rfl
theorem ev_ladd {z y : Int64} : ma_x x scr mc ms O (.ladd) aux k ls (.long y :: .long z :: st) c sl S h K Q = (K (k + 1) ls (.long (z + y) :: st) c sl S h) := rfl
theorem ev_lmul {z y : Int64} : ma_x x scr mc ms O (.lmul) aux k ls (.long y :: .long z :: st) c sl S h K Q = (K (k + 1) ls (.long (z * y) :: st) c sl S h) := rfl
theorem ev_land {z y : Int64} : ma_x x scr mc ms O (.land) aux k ls (.long y :: .long z :: st) c sl S h K Q = (K (k + 1) ls (.long (z &&& y) :: st) c sl S h) := rfl
theorem ev_lor {z y : Int64} : ma_x x scr mc ms O (.lor) aux k ls (.long y :: .long z :: st) c sl S h K Q = (K (k + 1) ls (.long (z ||| y) :: st) c sl S h) := rfl
theorem ev_ldiv {z y : Int64} : ma_x x scr mc ms O (.ldiv) aux k ls (.long y :: .long z :: st) c sl S h K Q = (¬ y = 0 ∧ K (k + 1) ls (.long (z / y) :: st) c sl S h) := rfl
theorem ev_lrem {z y : Int64} : ma_x x scr mc ms O (.lrem) aux k ls (.long y :: .long z :: st) c sl S h K Q = (¬ y = 0 ∧ K (k + 1) ls (.long (ma_lrem z y) :: st) c sl S h) := rfl
theorem ev_lcmp {z y : Int64} : ma_x x scr mc ms O (.lcmp) aux k ls (.long y :: .long z :: st) c sl S h K Q = (K (k + 1) ls (.int (lg_cmp z y) :: st) c sl S h) := rfl
theorem ev_lshl {z : Int64} {y : Int32} : ma_x x scr mc ms O (.lshl) aux k ls (.int y :: .long z :: st) c sl S h K Q = (K (k + 1) ls (.long (ma_lshl z y) :: st) c sl S h) := rfl
theorem ev_lushr {z : Int64} {y : Int32} : ma_x x scr mc ms O (.lushr) aux k ls (.int y :: .long z :: st) c sl S h K Q = (K (k + 1) ls (.long (ma_lushr z y) :: st) c sl S h) := rfl
theorem ev_i2l {z : Int32} : ma_x x scr mc ms O (.i2l) aux k ls (.int z :: st) c sl S h K Q = (K (k + 1) ls (.long z.toInt64 :: st) c sl S h) := rfl
theorem ev_l2i {z : Int64} : ma_x x scr mc ms O (.l2i) aux k ls (.long z :: st) c sl S h K Q = (K (k + 1) ls (.int z.toInt32 :: st) c sl S h) := rfl
theorem ev_i2b {z : Int32} : ma_x x scr mc ms O (.i2b) aux k ls (.int z :: st) c sl S h K Q = (K (k + 1) ls (.int z.toInt8.toInt32 :: st) c sl S h) := rfl
theorem ev_goto {o : Int} {t : Nat} : ma_x x scr mc ms O (.goto o) [t] k ls st c sl S h K Q = (K t ls st c sl S h) := rfl
theorem ev_icmp_eq {o : Int} {t : Nat} {z y : Int32} : ma_x x scr mc ms O (.if_icmp .eq o) [t] k ls (.int y :: .int z :: st) c sl S h K Q = ((z = y → K t ls st c sl S h) ∧ (¬ z = y → K (k + 1) ls st c sl S h)) := rfl
theorem ev_if_eq {o : Int} {t : Nat} {z : Int32} : ma_x x scr mc ms O (.ifCond .eq o) [t] k ls (.int z :: st) c sl S h K Q = ((z = nI 0 → K t ls st c sl S h) ∧ (¬ z = nI 0 → K (k + 1) ls st c sl S h)) := rfl
theorem ev_icmp_ne {o : Int} {t : Nat} {z y : Int32} : ma_x x scr mc ms O (.if_icmp .ne o) [t] k ls (.int y :: .int z :: st) c sl S h K Q = ((¬ z = y → K t ls st c sl S h) ∧ (z = y → K (k + 1) ls st c sl S h)) := rfl
theorem ev_if_ne {o : Int} {t : Nat} {z : Int32} : ma_x x scr mc ms O (.ifCond .ne o) [t] k ls (.int z :: st) c sl S h K Q = ((¬ z = nI 0 → K t ls st c sl S h) ∧ (z = nI 0 → K (k + 1) ls st c sl S h)) := rfl
theorem ev_icmp_lt {o : Int} {t : Nat} {z y : Int32} : ma_x x scr mc ms O (.if_icmp .lt o) [t] k ls (.int y :: .int z :: st) c sl S h K Q = ((z < y → K t ls st c sl S h) ∧ (¬ z < y → K (k + 1) ls st c sl S h)) := rfl
theorem ev_if_lt {o : Int} {t : Nat} {z : Int32} : ma_x x scr mc ms O (.ifCond .lt o) [t] k ls (.int z :: st) c sl S h K Q = ((z < nI 0 → K t ls st c sl S h) ∧ (¬ z < nI 0 → K (k + 1) ls st c sl S h)) := rfl
theorem ev_icmp_ge {o : Int} {t : Nat} {z y : Int32} : ma_x x scr mc ms O (.if_icmp .ge o) [t] k ls (.int y :: .int z :: st) c sl S h K Q = ((y ≤ z → K t ls st c sl S h) ∧ (¬ y ≤ z → K (k + 1) ls st c sl S h)) := rfl
theorem ev_if_ge {o : Int} {t : Nat} {z : Int32} : ma_x x scr mc ms O (.ifCond .ge o) [t] k ls (.int z :: st) c sl S h K Q = ((nI 0 ≤ z → K t ls st c sl S h) ∧ (¬ nI 0 ≤ z → K (k + 1) ls st c sl S h)) := rfl
theorem ev_icmp_gt {o : Int} {t : Nat} {z y : Int32} : ma_x x scr mc ms O (.if_icmp .gt o) [t] k ls (.int y :: .int z :: st) c sl S h K Q = ((y < z → K t ls st c sl S h) ∧ (¬ y < z → K (k + 1) ls st c sl S h)) := rfl
theorem ev_if_gt {o : Int} {t : Nat} {z : Int32} : ma_x x scr mc ms O (.ifCond .gt o) [t] k ls (.int z :: st) c sl S h K Q = ((nI 0 < z → K t ls st c sl S h) ∧ (¬ nI 0 < z → K (k + 1) ls st c sl S h)) := rfl
theorem ev_icmp_le {o : Int} {t : Nat} {z y : Int32} : ma_x x scr mc ms O (.if_icmp .le o) [t] k ls (.int y :: .int z :: st) c sl S h K Q = ((z ≤ y → K t ls st c sl S h) ∧ (¬ z ≤ y → K (k + 1) ls st c sl S h)) := rfl
theorem ev_if_le {o : Int} {t : Nat} {z : Int32} : ma_x x scr mc ms O (.ifCond .le o) [t] k ls (.int z :: st) c sl S h K Q = ((z ≤ nI 0 → K t ls st c sl S h) ∧ (¬ z ≤ nI 0 → K (k + 1) ls st c sl S h)) := rfl
theorem ev_dup_int {z : Int32} : ma_x x scr mc ms O (.dup) aux k ls (.int z :: st) c sl S h K Q = (K (k + 1) ls (.int z :: .int z :: st) c sl S h) := propext ⟨fun q => q.2, fun q => ⟨rfl, q⟩⟩
theorem ev_pop_int {z : Int32} : ma_x x scr mc ms O (.pop) aux k ls (.int z :: st) c sl S h K Q = (K (k + 1) ls st c sl S h) := propext ⟨fun q => q.2, fun q => ⟨rfl, q⟩⟩
theorem ev_dup_ref {z : Nat} : ma_x x scr mc ms O (.dup) aux k ls (.ref z :: st) c sl S h K Q = (K (k + 1) ls (.ref z :: .ref z :: st) c sl S h) := propext ⟨fun q => q.2, fun q => ⟨rfl, q⟩⟩
theorem ev_pop_ref {z : Nat} : ma_x x scr mc ms O (.pop) aux k ls (.ref z :: st) c sl S h K Q = (K (k + 1) ls st c sl S h) := propext ⟨fun q => q.2, fun q => ⟨rfl, q⟩⟩
theorem ev_dup2 {i : Int32} {a : Nat} : ma_x x scr mc ms O (.dup2) aux k ls (.int i :: .ref a :: st) c sl S h K Q = (K (k + 1) ls (.int i :: .ref a :: .int i :: .ref a :: st) c sl S h) := propext ⟨fun q => q.2.2, fun q => ⟨rfl, rfl, q⟩⟩
theorem ev_get_int {i ci f n w a : Nat} : ma_x x scr mc ms O (.getfield i) [ci, f, 0, n, w] k ls (.ref a :: st) c sl S h K Q = (ma_sh S a = some (.inl ci) ∧ K (k + 1) ls (.int (h.1 a f) :: st) c sl S h) := rfl
theorem ev_put_int {i ci f n w a : Nat} {z : Int32} : ma_x x scr mc ms O (.putfield i) [ci, f, 0, n, w] k ls (.int z :: .ref a :: st) c sl S h K Q = (ma_sh S a = some (.inl ci) ∧ K (k + 1) ls st c sl S (ma_uI h a f z)) := propext ⟨fun q => q.2, fun q => ⟨rfl, q⟩⟩
theorem ev_get_long {i ci f n w a : Nat} : ma_x x scr mc ms O (.getfield i) [ci, f, 1, n, w] k ls (.ref a :: st) c sl S h K Q = (ma_sh S a = some (.inl ci) ∧ K (k + 1) ls (.long (h.2.1 a f) :: st) c sl S h) := rfl
theorem ev_put_long {i ci f n w a : Nat} {z : Int64} : ma_x x scr mc ms O (.putfield i) [ci, f, 1, n, w] k ls (.long z :: .ref a :: st) c sl S h K Q = (ma_sh S a = some (.inl ci) ∧ K (k + 1) ls st c sl S (ma_uL h a f z)) := propext ⟨fun q => q.2, fun q => ⟨rfl, q⟩⟩
theorem ev_get_ref {i ci f n w a : Nat} : ma_x x scr mc ms O (.getfield i) [ci, f, 2, n, w] k ls (.ref a :: st) c sl S h K Q = (ma_sh S a = some (.inl ci) ∧ K (k + 1) ls (.ref (h.2.2 a f) :: st) c sl S h) := rfl
theorem ev_put_ref {i ci f n w a : Nat} {z : Nat} : ma_x x scr mc ms O (.putfield i) [ci, f, 2, n, w] k ls (.ref z :: .ref a :: st) c sl S h K Q = (ma_sh S a = some (.inl ci) ∧ K (k + 1) ls st c sl S (ma_uR h a f z)) := propext ⟨fun q => q.2, fun q => ⟨rfl, q⟩⟩
theorem ev_iaload {i : Int32} {a : Nat} : ma_x x scr mc ms O (.iaload) [] k ls (.int i :: .ref a :: st) c sl S h K Q = (ma_in S a .int i ∧ K (k + 1) ls (.int (h.1 a i.toNatClampNeg) :: st) c sl S h) := rfl
theorem ev_baload {i : Int32} {a : Nat} : ma_x x scr mc ms O (.baload) [0] k ls (.int i :: .ref a :: st) c sl S h K Q = (ma_in S a .byte i ∧ K (k + 1) ls (.int (h.1 a i.toNatClampNeg) :: st) c sl S h) := rfl
theorem ev_zaload {i : Int32} {a : Nat} : ma_x x scr mc ms O (.baload) [1] k ls (.int i :: .ref a :: st) c sl S h K Q = (ma_in S a .boolean i ∧ K (k + 1) ls (.int (h.1 a i.toNatClampNeg) :: st) c sl S h) := rfl
theorem ev_laload {i : Int32} {a : Nat} : ma_x x scr mc ms O (.laload) aux k ls (.int i :: .ref a :: st) c sl S h K Q = (ma_in S a .long i ∧ K (k + 1) ls (.long (h.2.1 a i.toNatClampNeg) :: st) c sl S h) := rfl
theorem ev_aaload {i : Int32} {a : Nat} : ma_x x scr mc ms O (.aaload) aux k ls (.int i :: .ref a :: st) c sl S h K Q = (ma_in S a (.object ma_row) i ∧ K (k + 1) ls (.ref (h.2.2 a i.toNatClampNeg) :: st) c sl S h) := rfl
theorem ev_iastore {i v : Int32} {a : Nat} : ma_x x scr mc ms O (.iastore) aux k ls (.int v :: .int i :: .ref a :: st) c sl S h K Q = (ma_in S a .int i ∧ K (k + 1) ls st c sl S (ma_uI h a i.toNatClampNeg v)) := rfl
theorem ev_bastore {i v : Int32} {a : Nat} : ma_x x scr mc ms O (.bastore) [0] k ls (.int v :: .int i :: .ref a :: st) c sl S h K Q = (ma_in S a .byte i ∧ K (k + 1) ls st c sl S (ma_uI h a i.toNatClampNeg (vp_nar .byte v))) := rfl
theorem ev_zastore {i v : Int32} {a : Nat} : ma_x x scr mc ms O (.bastore) [1] k ls (.int v :: .int i :: .ref a :: st) c sl S h K Q = (ma_in S a .boolean i ∧ K (k + 1) ls st c sl S (ma_uI h a i.toNatClampNeg (vp_nar .boolean v))) := rfl
theorem ev_lastore {i : Int32} {v : Int64} {a : Nat} : ma_x x scr mc ms O (.lastore) aux k ls (.long v :: .int i :: .ref a :: st) c sl S h K Q = (ma_in S a .long i ∧ K (k + 1) ls st c sl S (ma_uL h a i.toNatClampNeg v)) := rfl
theorem ev_aastore {i : Int32} {v a : Nat} : ma_x x scr mc ms O (.aastore) aux k ls (.ref v :: .int i :: .ref a :: st) c sl S h K Q = (ma_in S a (.object ma_row) i ∧ ma_sh S v = some (.inl ma_rowi) ∧ K (k + 1) ls st c sl S (ma_uR h a i.toNatClampNeg v)) := rfl
theorem ev_arraylength {a : Nat} : ma_x x scr mc ms O (.arraylength) [] k ls (.ref a :: st) c sl S h K Q = (∃ n, ma_sh S a = some (.inr (.int, n)) ∧ K (k + 1) ls (.int (nI n) :: st) c sl S h) := rfl
theorem ev_newarray_int {n : Int32} : ma_x x scr mc ms O (.newarray .int) aux k ls (.int n :: st) c sl S h K Q = (x = true ∧ ∃ N, n = nI N ∧ N ≤ 100000 ∧ c + 1 ≤ mc ∧ sl + N ≤ ms ∧ K (k + 1) ls (.ref (S.length + 2) :: st) (c + 1) (sl + N) (S ++ [.inr (.int, N)]) (ma_z h (S.length + 2))) := rfl
theorem ev_newarray_byte {n : Int32} : ma_x x scr mc ms O (.newarray .byte) aux k ls (.int n :: st) c sl S h K Q = (x = true ∧ ∃ N, n = nI N ∧ N ≤ 100000 ∧ c + 1 ≤ mc ∧ sl + N ≤ ms ∧ K (k + 1) ls (.ref (S.length + 2) :: st) (c + 1) (sl + N) (S ++ [.inr (.byte, N)]) (ma_z h (S.length + 2))) := rfl
theorem ev_newarray_boolean {n : Int32} : ma_x x scr mc ms O (.newarray .boolean) aux k ls (.int n :: st) c sl S h K Q = (x = true ∧ ∃ N, n = nI N ∧ N ≤ 100000 ∧ c + 1 ≤ mc ∧ sl + N ≤ ms ∧ K (k + 1) ls (.ref (S.length + 2) :: st) (c + 1) (sl + N) (S ++ [.inr (.boolean, N)]) (ma_z h (S.length + 2))) := rfl
theorem ev_newarray_long {n : Int32} : ma_x x scr mc ms O (.newarray .long) aux k ls (.int n :: st) c sl S h K Q = (x = true ∧ ∃ N, n = nI N ∧ N ≤ 100000 ∧ c + 1 ≤ mc ∧ sl + N ≤ ms ∧ K (k + 1) ls (.ref (S.length + 2) :: st) (c + 1) (sl + N) (S ++ [.inr (.long, N)]) (ma_z h (S.length + 2))) := rfl
theorem ev_anewarray {i : Nat} {n : Int32} : ma_x x scr mc ms O (.anewarray i) aux k ls (.int n :: st) c sl S h K Q = (x = true ∧ ∃ N, n = nI N ∧ N ≤ 100000 ∧ c + 1 ≤ mc ∧ sl + N ≤ ms ∧ K (k + 1) ls (.ref (S.length + 2) :: st) (c + 1) (sl + N) (S ++ [.inr (.object ma_row, N)]) (ma_z h (S.length + 2))) := rfl
theorem ev_new {i ci N : Nat} {l : List Nat} : ma_x x scr mc ms O (.new i) (ci :: N :: l) k ls st c sl S h K Q = (x = true ∧ c + 1 ≤ mc ∧ sl + N ≤ ms ∧ K (k + 1) ls (.ref (S.length + 2) :: st) (c + 1) (sl + N) (S ++ [.inl ci]) (ma_z h (S.length + 2))) := rfl
theorem ev_virt_0 {i t ci a : Nat} {l : List Nat}  : ma_x x scr mc ms O (.invokevirtual i) (t :: 0 :: ci :: l) k ls (.ref a :: rest) c sl S h K Q = (ma_sh S a = some (.inl ci) ∧ ma_call mc ms O t [.ref a] rest c sl S h (K (k + 1) ls)) := rfl
theorem ev_spec_0 {i t a : Nat} {l : List Nat}  : ma_x x scr mc ms O (.invokespecial i) ((t + 1) :: 0 :: l) k ls (.ref a :: rest) c sl S h K Q = ((∃ ci, ma_sh S a = some (.inl ci)) ∧ ma_call mc ms O (t + 1) [.ref a] rest c sl S h (K (k + 1) ls)) := rfl
theorem ev_stat_0 {i t : Nat} {l : List Nat}  : ma_x x scr mc ms O (.invokestatic i) ((t + 1) :: 0 :: l) k ls (rest) c sl S h K Q = (ma_call mc ms O (t + 1) [] rest c sl S h (K (k + 1) ls)) := rfl
theorem ev_virt_1 {i t ci a : Nat} {l : List Nat} {v1 : Value}  : ma_x x scr mc ms O (.invokevirtual i) (t :: 1 :: ci :: l) k ls (v1 :: .ref a :: rest) c sl S h K Q = (ma_sh S a = some (.inl ci) ∧ ma_call mc ms O t [.ref a, v1] rest c sl S h (K (k + 1) ls)) := rfl
theorem ev_spec_1 {i t a : Nat} {l : List Nat} {v1 : Value}  : ma_x x scr mc ms O (.invokespecial i) ((t + 1) :: 1 :: l) k ls (v1 :: .ref a :: rest) c sl S h K Q = ((∃ ci, ma_sh S a = some (.inl ci)) ∧ ma_call mc ms O (t + 1) [.ref a, v1] rest c sl S h (K (k + 1) ls)) := rfl
theorem ev_stat_1 {i t : Nat} {l : List Nat} {v1 : Value}  : ma_x x scr mc ms O (.invokestatic i) ((t + 1) :: 1 :: l) k ls (v1 :: rest) c sl S h K Q = (ma_call mc ms O (t + 1) [v1] rest c sl S h (K (k + 1) ls)) := rfl
theorem ev_virt_2 {i t ci a : Nat} {l : List Nat} {v1 v2 : Value}  : ma_x x scr mc ms O (.invokevirtual i) (t :: 2 :: ci :: l) k ls (v2 :: v1 :: .ref a :: rest) c sl S h K Q = (ma_sh S a = some (.inl ci) ∧ ma_call mc ms O t [.ref a, v1, v2] rest c sl S h (K (k + 1) ls)) := rfl
theorem ev_spec_2 {i t a : Nat} {l : List Nat} {v1 v2 : Value}  : ma_x x scr mc ms O (.invokespecial i) ((t + 1) :: 2 :: l) k ls (v2 :: v1 :: .ref a :: rest) c sl S h K Q = ((∃ ci, ma_sh S a = some (.inl ci)) ∧ ma_call mc ms O (t + 1) [.ref a, v1, v2] rest c sl S h (K (k + 1) ls)) := rfl
theorem ev_stat_2 {i t : Nat} {l : List Nat} {v1 v2 : Value}  : ma_x x scr mc ms O (.invokestatic i) ((t + 1) :: 2 :: l) k ls (v2 :: v1 :: rest) c sl S h K Q = (ma_call mc ms O (t + 1) [v1, v2] rest c sl S h (K (k + 1) ls)) := rfl
theorem ev_virt_3 {i t ci a : Nat} {l : List Nat} {v1 v2 v3 : Value}  : ma_x x scr mc ms O (.invokevirtual i) (t :: 3 :: ci :: l) k ls (v3 :: v2 :: v1 :: .ref a :: rest) c sl S h K Q = (ma_sh S a = some (.inl ci) ∧ ma_call mc ms O t [.ref a, v1, v2, v3] rest c sl S h (K (k + 1) ls)) := rfl
theorem ev_spec_3 {i t a : Nat} {l : List Nat} {v1 v2 v3 : Value}  : ma_x x scr mc ms O (.invokespecial i) ((t + 1) :: 3 :: l) k ls (v3 :: v2 :: v1 :: .ref a :: rest) c sl S h K Q = ((∃ ci, ma_sh S a = some (.inl ci)) ∧ ma_call mc ms O (t + 1) [.ref a, v1, v2, v3] rest c sl S h (K (k + 1) ls)) := rfl
theorem ev_stat_3 {i t : Nat} {l : List Nat} {v1 v2 v3 : Value}  : ma_x x scr mc ms O (.invokestatic i) ((t + 1) :: 3 :: l) k ls (v3 :: v2 :: v1 :: rest) c sl S h K Q = (ma_call mc ms O (t + 1) [v1, v2, v3] rest c sl S h (K (k + 1) ls)) := rfl
theorem ev_virt_4 {i t ci a : Nat} {l : List Nat} {v1 v2 v3 v4 : Value} : ma_x x scr mc ms O (.invokevirtual i) (t :: 4 :: ci :: l) k ls (v4 :: v3 :: v2 :: v1 :: .ref a :: rest) c sl S h K Q = (ma_sh S a = some (.inl ci) ∧ ma_call mc ms O t [.ref a, v1, v2, v3, v4] rest c sl S h (K (k + 1) ls)) := rfl
theorem ev_objinit {i a : Nat} {l : List Nat} : ma_x x scr mc ms O (.invokespecial i) (0 :: l) k ls (.ref a :: st) c sl S h K Q = ((∃ ci, ma_sh S a = some (.inl ci)) ∧ ma_cat st ≤ 8 ∧ K (k + 1) ls st c sl S h) := rfl
theorem ev_arraycopy {i a a0 : Nat} {n dp sp : Int32} {l : List Nat} : ma_x x scr mc ms O (.invokestatic i) (0 :: l) k ls (.int n :: .int dp :: .ref a :: .int sp :: .ref a0 :: rest) c sl S h K Q = (ma_cat rest ≤ 8 ∧ ∃ N0 N1 d0 d1 m, ma_sh S a0 = some (.inr (.int, N0)) ∧ ma_sh S a = some (.inr (.int, N1)) ∧ sp = nI d0 ∧ dp = nI d1 ∧ n = nI m ∧ d0 + m ≤ N0 ∧ d1 + m ≤ N1 ∧ N0 < 100000 ∧ N1 < 100000 ∧ K (k + 1) ls rest c sl S (ma_cp h a0 d0 a d1 m)) := rfl
theorem ev_ireturn {v : Int32} : ma_x x scr mc ms O (.ireturn) [0] k ls [.int v] c sl S h K Q = (c ≤ mc ∧ sl ≤ ms ∧ (x = true → c = mc) ∧ Q (some (.int v)) S h) := propext ⟨fun q => q.2, fun q => ⟨fun e => absurd e (by decide), q⟩⟩
theorem ev_zreturn {v : Int32} : ma_x x scr mc ms O (.ireturn) [1] k ls [.int v] c sl S h K Q = ((v = nI 0 ∨ v = nI 1) ∧ c ≤ mc ∧ sl ≤ ms ∧ (x = true → c = mc) ∧ Q (some (.int v)) S h) := propext ⟨fun q => ⟨q.1 rfl, q.2⟩, fun q => ⟨fun _ => q.1, q.2⟩⟩
theorem ev_areturn {v : Nat} : ma_x x scr mc ms O (.areturn) aux k ls [.ref v] c sl S h K Q = (c ≤ mc ∧ sl ≤ ms ∧ (x = true → c = mc) ∧ Q (some (.ref v)) S h) := rfl
theorem ev_return : ma_x x scr mc ms O (.return_) aux k ls [] c sl S h K Q = (c ≤ mc ∧ sl ≤ ms ∧ (x = true → c = mc) ∧ Q none S h) := rfl
theorem ev_switch {d lo hi : Int} {offs : Array Int} {t : Nat} {ts : List Nat} {z : Int32} : ma_x x scr mc ms O (.tableswitch d lo hi offs) (t :: ts) k ls (.int z :: st) c sl S h K Q = (ma_sw z (fun t => K t ls st c sl S h) 0 ts ∧ (¬ vp_in z ts.length → K t ls st c sl S h)) := rfl
end
theorem ev_ma_gi_0 {z : Int32} {t : List (Option Value)} {F : Int32 → Prop} : ma_gi (some (.int z) :: t) 0 F = F z := rfl
theorem ev_ma_gi_s {a : Option Value} {n : Nat} {t : List (Option Value)} {F : Int32 → Prop} : ma_gi (a :: t) (n + 1) F = ma_gi t n F := by
  unfold ma_gi
  rw [List.getElem?_cons_succ]
theorem ev_ma_gl_0 {z : Int64} {t : List (Option Value)} {F : Int64 → Prop} : ma_gl (some (.long z) :: t) 0 F = F z := rfl
theorem ev_ma_gl_s {a : Option Value} {n : Nat} {t : List (Option Value)} {F : Int64 → Prop} : ma_gl (a :: t) (n + 1) F = ma_gl t n F := by
  unfold ma_gl
  rw [List.getElem?_cons_succ]
theorem ev_ma_gr_0 {z : Nat} {t : List (Option Value)} {F : Nat → Prop} : ma_gr (some (.ref z) :: t) 0 F = F z := rfl
theorem ev_ma_gr_s {a : Option Value} {n : Nat} {t : List (Option Value)} {F : Nat → Prop} : ma_gr (a :: t) (n + 1) F = ma_gr t n F := by
  unfold ma_gr
  rw [List.getElem?_cons_succ]
theorem ev_set_0 {a : Option Value} {t : List (Option Value)} {v : Value} : ma_set1 (a :: t) 0 v = some v :: t := rfl
theorem ev_set_1n {b : Option Value} {t : List (Option Value)} {v : Value} : ma_set1 (none :: b :: t) 1 v = none :: some v :: t := rfl
theorem ev_set_1i {z : Int32} {b : Option Value} {t : List (Option Value)} {v : Value} : ma_set1 (some (.int z) :: b :: t) 1 v = some (.int z) :: some v :: t := rfl
theorem ev_set_1r {z : Nat} {b : Option Value} {t : List (Option Value)} {v : Value} : ma_set1 (some (.ref z) :: b :: t) 1 v = some (.ref z) :: some v :: t := rfl
theorem ev_set_1l {z : Int64} {b : Option Value} {t : List (Option Value)} {v : Value} : ma_set1 (some (.long z) :: b :: t) 1 v = none :: some v :: t := rfl
theorem ma_kill_s {a : Option Value} {n : Nat} {t : List (Option Value)} : ma_kill (a :: t) (n + 2) = a :: ma_kill t (n + 1) := by
  show (match (a :: t)[n + 1]? with
    | some (some v) => if v.category = 2 then (a :: t).set (n + 1) none else a :: t
    | _ => a :: t) = a :: (match t[n]? with
    | some (some v) => if v.category = 2 then t.set n none else t
    | _ => t)
  rw [List.getElem?_cons_succ]
  split
  · split <;> rfl
  · rfl
theorem ev_set_s {a : Option Value} {n : Nat} {t : List (Option Value)} {v : Value} : ma_set1 (a :: t) (n + 2) v = a :: ma_set1 t (n + 1) v := by
  unfold ma_set1
  rw [ma_kill_s]
  rfl
theorem ev_sel_0 {a b : Option Value} {t : List (Option Value)} {v : Value} : ma_set2 (a :: b :: t) 0 v = some v :: none :: t := rfl
theorem ev_sel_1n {a b : Option Value} {t : List (Option Value)} {v : Value} : ma_set2 (none :: a :: b :: t) 1 v = none :: some v :: none :: t := rfl
theorem ev_sel_1i {z : Int32} {a b : Option Value} {t : List (Option Value)} {v : Value} : ma_set2 (some (.int z) :: a :: b :: t) 1 v = some (.int z) :: some v :: none :: t := rfl
theorem ev_sel_1r {z : Nat} {a b : Option Value} {t : List (Option Value)} {v : Value} : ma_set2 (some (.ref z) :: a :: b :: t) 1 v = some (.ref z) :: some v :: none :: t := rfl
theorem ev_sel_1l {z : Int64} {a b : Option Value} {t : List (Option Value)} {v : Value} : ma_set2 (some (.long z) :: a :: b :: t) 1 v = none :: some v :: none :: t := rfl
theorem ev_sel_s {a : Option Value} {n : Nat} {t : List (Option Value)} {v : Value} : ma_set2 (a :: t) (n + 2) v = a :: ma_set2 t (n + 1) v := by
  unfold ma_set2
  rw [ma_kill_s]
  rfl
theorem ev_cat_0 : ma_cat [] = 0 := rfl
theorem ev_cat_i {z : Int32} {t : List Value} : ma_cat (.int z :: t) = 1 + ma_cat t := rfl
theorem ev_cat_r {z : Nat} {t : List Value} : ma_cat (.ref z :: t) = 1 + ma_cat t := rfl
theorem ev_cat_l {z : Int64} {t : List Value} : ma_cat (.long z :: t) = 2 + ma_cat t := rfl
theorem ev_wp {x : Bool} {scr : Option (Nat × (Nat → Int32))} {mc ms : Nat} {O : ma_O} {P : List ma_E} {Q : ma_P} {cuts : List Nat} {C : ma_K} {n k : Nat} {ls : List (Option Value)} {st : List Value} {c sl : Nat} {S : ma_S} {h : ma_H} : ma_wp x scr mc ms O P Q cuts C (n + 1) k ls st c sl S h = if k ∈ cuts then C k ls st c sl S h else ma_go x scr mc ms O P Q (ma_wp x scr mc ms O P Q cuts C n) k ls st c sl S h := rfl
def ev_A := (And.intro @ev_iconst (And.intro @ev_iconst_m (And.intro @ev_bipush (And.intro @ev_bipush_m (And.intro @ev_sipush (And.intro @ev_sipush_m (And.intro @ev_ldc (And.intro @ev_ldc_w (And.intro @ev_ldc2_w (And.intro @ev_lconst (And.intro @ev_iload (And.intro @ev_iload_0 (And.intro @ev_iload_1 (And.intro @ev_iload_2 (And.intro @ev_iload_3 (And.intro @ev_lload (And.intro @ev_lload_0 (And.intro @ev_lload_1 (And.intro @ev_lload_2 (And.intro @ev_lload_3 (And.intro @ev_aload (And.intro @ev_aload_0 (And.intro @ev_aload_1 (And.intro @ev_aload_2 (And.intro @ev_aload_3 (And.intro @ev_istore (And.intro @ev_istore_0 (And.intro @ev_istore_1 (And.intro @ev_istore_2 (And.intro @ev_istore_3 (And.intro @ev_astore (And.intro @ev_astore_0 (And.intro @ev_astore_1 (And.intro @ev_astore_2 (And.intro @ev_astore_3 (And.intro @ev_lstore (And.intro @ev_lstore_0 (And.intro @ev_lstore_1 (And.intro @ev_lstore_2 @ev_lstore_3)))))))))))))))))))))))))))))))))))))))
def ev_B := (And.intro @ev_iinc (And.intro @ev_iinc_m (And.intro @ev_iadd (And.intro @ev_isub (And.intro @ev_imul (And.intro @ev_iand (And.intro @ev_ior (And.intro @ev_ixor (And.intro @ev_ishl (And.intro @ev_ishr (And.intro @ev_iushr (And.intro @ev_idiv (And.intro @ev_irem (And.intro @ev_ladd (And.intro @ev_lmul (And.intro @ev_land (And.intro @ev_lor (And.intro @ev_ldiv (And.intro @ev_lrem (And.intro @ev_lcmp (And.intro @ev_lshl (And.intro @ev_lushr (And.intro @ev_i2l (And.intro @ev_l2i (And.intro @ev_i2b (And.intro @ev_goto (And.intro @ev_icmp_eq (And.intro @ev_if_eq (And.intro @ev_icmp_ne (And.intro @ev_if_ne (And.intro @ev_icmp_lt (And.intro @ev_if_lt (And.intro @ev_icmp_ge (And.intro @ev_if_ge (And.intro @ev_icmp_gt (And.intro @ev_if_gt (And.intro @ev_icmp_le (And.intro @ev_if_le (And.intro @ev_dup_int @ev_pop_int)))))))))))))))))))))))))))))))))))))))
def ev_C := (And.intro @ev_dup_ref (And.intro @ev_pop_ref (And.intro @ev_dup2 (And.intro @ev_get_int (And.intro @ev_put_int (And.intro @ev_get_long (And.intro @ev_put_long (And.intro @ev_get_ref (And.intro @ev_put_ref (And.intro @ev_iaload (And.intro @ev_baload (And.intro @ev_zaload (And.intro @ev_laload (And.intro @ev_aaload (And.intro @ev_iastore (And.intro @ev_bastore (And.intro @ev_zastore (And.intro @ev_lastore (And.intro @ev_aastore (And.intro @ev_arraylength (And.intro @ev_newarray_int (And.intro @ev_newarray_byte (And.intro @ev_newarray_boolean (And.intro @ev_newarray_long (And.intro @ev_anewarray (And.intro @ev_new (And.intro @ev_virt_0 (And.intro @ev_spec_0 (And.intro @ev_stat_0 (And.intro @ev_virt_1 (And.intro @ev_spec_1 (And.intro @ev_stat_1 (And.intro @ev_virt_2 (And.intro @ev_spec_2 (And.intro @ev_stat_2 (And.intro @ev_virt_3 (And.intro @ev_spec_3 (And.intro @ev_stat_3 (And.intro @ev_virt_4 @ev_objinit)))))))))))))))))))))))))))))))))))))))
def ev_D := (And.intro @ev_arraycopy (And.intro @ev_ireturn (And.intro @ev_zreturn (And.intro @ev_areturn (And.intro @ev_return (And.intro @ev_switch (And.intro @ev_ma_gi_0 (And.intro @ev_ma_gi_s (And.intro @ev_ma_gl_0 (And.intro @ev_ma_gl_s (And.intro @ev_ma_gr_0 (And.intro @ev_ma_gr_s (And.intro @ev_set_0 (And.intro @ev_set_1n (And.intro @ev_set_1i (And.intro @ev_set_1r (And.intro @ev_set_1l (And.intro @ev_set_s (And.intro @ev_sel_0 (And.intro @ev_sel_1n (And.intro @ev_sel_1i (And.intro @ev_sel_1r (And.intro @ev_sel_1l (And.intro @ev_sel_s (And.intro @ev_cat_0 (And.intro @ev_cat_i (And.intro @ev_cat_r (And.intro @ev_cat_l @ev_wp))))))))))))))))))))))))))))
/-- what a method makes nothing: its counts are 0 -/
theorem ma_run0 {l : Launch} {g : ma_G} {x : Bool} {scr : Option (Nat × (Nat → Int32))} {mi : ma_M} {P : List ma_E} {Q : ma_P} (hok : ma_ok mi P) (h1 : mi.2.2.2.2.2.1 = 0) (h2 : mi.2.2.2.2.2.2 = 0) (cuts : List Nat) (n : Nat) {k : Nat} {ls : List (Option Value)} {st : List Value} {c sl : Nat} {S : ma_S} {h : ma_H} (hx : ma_go x scr 0 0 (ma_or l g x) P Q (ma_wp x scr 0 0 (ma_or l g x) P Q cuts (ma_J l g x scr mi P Q) n) k ls st c sl S h) : ma_J l g x scr mi P Q k ls st c sl S h := by
  refine ma_run hok cuts n ?_
  rw [h1, h2]
  exact hx
/-- a call of what makes nothing and answers one thing -/
theorem ma_callD {l : Launch} {g : ma_G} {x : Bool} {mc ms t : Nat} {mi : ma_M} {av rest : List Value} {c sl : Nat} {S : ma_S} {h h1 : ma_H} {r : Option Value} {F : List Value → Nat → Nat → ma_S → ma_H → Prop} (hm : ma_mt[t]? = some mi) (e1 : mi.2.2.2.2.2.1 = 0) (e2 : mi.2.2.2.2.2.2 = 0) (hcat : ma_cat rest ≤ 8) (hc : c ≤ mc) (hs : sl ≤ ms) (hM : ma_PM l g x mi av S h (fun v S' h' => v = r ∧ S' = S ∧ h' = h1)) (hF : F (r.toList ++ rest) c sl S h1) : ma_call mc ms (ma_or l g x) t av rest c sl S h F :=
  ⟨hcat, 0, 0, _, ⟨mi, hm, e1, e2, hM⟩, hc, hs, fun v S' h' q => by obtain ⟨rfl, rfl, rfl⟩ := q; exact hF⟩
/-- a call of what makes nothing -/
theorem ma_callP {l : Launch} {g : ma_G} {x : Bool} {mc ms t : Nat} {mi : ma_M} {av rest : List Value} {c sl : Nat} {S : ma_S} {h : ma_H} {post : ma_P} {F : List Value → Nat → Nat → ma_S → ma_H → Prop} (hm : ma_mt[t]? = some mi) (e1 : mi.2.2.2.2.2.1 = 0) (e2 : mi.2.2.2.2.2.2 = 0) (hcat : ma_cat rest ≤ 8) (hc : c ≤ mc) (hs : sl ≤ ms) (hM : ma_PM l g x mi av S h post) (hF : ∀ v S' h', post v S' h' → F (v.toList ++ rest) c sl S' h') : ma_call mc ms (ma_or l g x) t av rest c sl S h F :=
  ⟨hcat, 0, 0, _, ⟨mi, hm, e1, e2, hM⟩, hc, hs, hF⟩
end
section
/-! the cells of one archive and one reference, in the order in which they are made; from 2 on -/
def GS : ma_S := [.inl 6, .inr (.int, 160), .inr (.object ma_row, 64)] ++ (List.replicate 64 (.inl 0) ++ ([.inr (.object ma_row, 90)] ++ (List.replicate 90 (.inl 0) ++
  [.inl 1, .inr (.int, 255), .inr (.int, 256),
   .inl 4, .inr (.int, 16), .inr (.boolean, 16), .inr (.int, 6), .inr (.int, 6), .inr (.int, 7), .inr (.int, 7), .inr (.int, 7), .inr (.int, 7),
   .inr (.int, 64), .inl 2, .inr (.int, 33),
   .inl 5, .inl 3, .inl 2, .inr (.int, 33), .inr (.int, 64), .inr (.int, 256), .inr (.int, 160), .inr (.int, 4), .inr (.int, 4),
   .inl 7, .inr (.int, 160), .inr (.byte, 2880), .inr (.byte, 5400), .inr (.int, 90), .inr (.int, 160), .inr (.int, 4), .inr (.int, 4), .inr (.int, 33), .inr (.int, 60), .inr (.int, 64), .inr (.int, 256), .inr (.int, 16), .inr (.int, 42), .inr (.int, 6), .inr (.int, 96), .inr (.int, 256),
   .inr (.long, 1)])))
theorem gs_len : GS.length = 200 := by decide +kernel
theorem gs_row {a : Nat} (h : (5 ≤ a ∧ a ≤ 68) ∨ (70 ≤ a ∧ a ≤ 159)) : ma_sh GS a = some (.inl 0) := by
  have hc : ∀ i, i < 160 → (5 ≤ i ∧ i ≤ 68) ∨ (70 ≤ i ∧ i ≤ 159) → ma_sh GS i = some (.inl 0) := by decide +kernel
  exact hc a (by omega) h
theorem gs_2 : ma_sh GS 2 = some (.inl 6) := by decide +kernel
theorem gs_3 : ma_sh GS 3 = some (.inr (.int, 160)) := by decide +kernel
theorem gs_4 : ma_sh GS 4 = some (.inr (.object ma_row, 64)) := by decide +kernel
theorem gs_69 : ma_sh GS 69 = some (.inr (.object ma_row, 90)) := by decide +kernel
theorem gs_160 : ma_sh GS 160 = some (.inl 1) := by decide +kernel
theorem gs_161 : ma_sh GS 161 = some (.inr (.int, 255)) := by decide +kernel
theorem gs_162 : ma_sh GS 162 = some (.inr (.int, 256)) := by decide +kernel
theorem gs_163 : ma_sh GS 163 = some (.inl 4) := by decide +kernel
theorem gs_164 : ma_sh GS 164 = some (.inr (.int, 16)) := by decide +kernel
theorem gs_165 : ma_sh GS 165 = some (.inr (.boolean, 16)) := by decide +kernel
theorem gs_166 : ma_sh GS 166 = some (.inr (.int, 6)) := by decide +kernel
theorem gs_167 : ma_sh GS 167 = some (.inr (.int, 6)) := by decide +kernel
theorem gs_168 : ma_sh GS 168 = some (.inr (.int, 7)) := by decide +kernel
theorem gs_169 : ma_sh GS 169 = some (.inr (.int, 7)) := by decide +kernel
theorem gs_170 : ma_sh GS 170 = some (.inr (.int, 7)) := by decide +kernel
theorem gs_171 : ma_sh GS 171 = some (.inr (.int, 7)) := by decide +kernel
theorem gs_172 : ma_sh GS 172 = some (.inr (.int, 64)) := by decide +kernel
theorem gs_173 : ma_sh GS 173 = some (.inl 2) := by decide +kernel
theorem gs_174 : ma_sh GS 174 = some (.inr (.int, 33)) := by decide +kernel
theorem gs_175 : ma_sh GS 175 = some (.inl 5) := by decide +kernel
theorem gs_176 : ma_sh GS 176 = some (.inl 3) := by decide +kernel
theorem gs_177 : ma_sh GS 177 = some (.inl 2) := by decide +kernel
theorem gs_178 : ma_sh GS 178 = some (.inr (.int, 33)) := by decide +kernel
theorem gs_179 : ma_sh GS 179 = some (.inr (.int, 64)) := by decide +kernel
theorem gs_180 : ma_sh GS 180 = some (.inr (.int, 256)) := by decide +kernel
theorem gs_181 : ma_sh GS 181 = some (.inr (.int, 160)) := by decide +kernel
theorem gs_182 : ma_sh GS 182 = some (.inr (.int, 4)) := by decide +kernel
theorem gs_183 : ma_sh GS 183 = some (.inr (.int, 4)) := by decide +kernel
theorem gs_184 : ma_sh GS 184 = some (.inl 7) := by decide +kernel
theorem gs_185 : ma_sh GS 185 = some (.inr (.int, 160)) := by decide +kernel
theorem gs_186 : ma_sh GS 186 = some (.inr (.byte, 2880)) := by decide +kernel
theorem gs_187 : ma_sh GS 187 = some (.inr (.byte, 5400)) := by decide +kernel
theorem gs_188 : ma_sh GS 188 = some (.inr (.int, 90)) := by decide +kernel
theorem gs_189 : ma_sh GS 189 = some (.inr (.int, 160)) := by decide +kernel
theorem gs_190 : ma_sh GS 190 = some (.inr (.int, 4)) := by decide +kernel
theorem gs_191 : ma_sh GS 191 = some (.inr (.int, 4)) := by decide +kernel
theorem gs_192 : ma_sh GS 192 = some (.inr (.int, 33)) := by decide +kernel
theorem gs_193 : ma_sh GS 193 = some (.inr (.int, 60)) := by decide +kernel
theorem gs_194 : ma_sh GS 194 = some (.inr (.int, 64)) := by decide +kernel
theorem gs_195 : ma_sh GS 195 = some (.inr (.int, 256)) := by decide +kernel
theorem gs_196 : ma_sh GS 196 = some (.inr (.int, 16)) := by decide +kernel
theorem gs_197 : ma_sh GS 197 = some (.inr (.int, 42)) := by decide +kernel
theorem gs_198 : ma_sh GS 198 = some (.inr (.int, 6)) := by decide +kernel
theorem gs_199 : ma_sh GS 199 = some (.inr (.int, 96)) := by decide +kernel
theorem gs_200 : ma_sh GS 200 = some (.inr (.int, 256)) := by decide +kernel
theorem gs_201 : ma_sh GS 201 = some (.inr (.long, 1)) := by decide +kernel
def gs_all := (And.intro gs_2 (And.intro gs_3 (And.intro gs_4 (And.intro gs_69 (And.intro gs_160 (And.intro gs_161 (And.intro gs_162 (And.intro gs_163 (And.intro gs_164 (And.intro gs_165 (And.intro gs_166 (And.intro gs_167 (And.intro gs_168 (And.intro gs_169 (And.intro gs_170 (And.intro gs_171 (And.intro gs_172 (And.intro gs_173 (And.intro gs_174 (And.intro gs_175 (And.intro gs_176 (And.intro gs_177 (And.intro gs_178 (And.intro gs_179 (And.intro gs_180 (And.intro gs_181 (And.intro gs_182 (And.intro gs_183 (And.intro gs_184 (And.intro gs_185 (And.intro gs_186 (And.intro gs_187 (And.intro gs_188 (And.intro gs_189 (And.intro gs_190 (And.intro gs_191 (And.intro gs_192 (And.intro gs_193 (And.intro gs_194 (And.intro gs_195 (And.intro gs_196 (And.intro gs_197 (And.intro gs_198 (And.intro gs_199 (And.intro gs_200 gs_201)))))))))))))))))))))))))))))))))))))))))))))
end
section
/-! the methods by their numbers -/
set_option maxRecDepth 5000 in
theorem mt_Row_append : ma_mt[1]? = some me_Row_append := rfl
set_option maxRecDepth 5000 in
theorem mt_Row_at : ma_mt[2]? = some me_Row_at := rfl
set_option maxRecDepth 5000 in
theorem mt_Row_become : ma_mt[3]? = some me_Row_become := rfl
set_option maxRecDepth 5000 in
theorem mt_Fld_over : ma_mt[4]? = some me_Fld_over := rfl
set_option maxRecDepth 5000 in
theorem mt_Fld_powerOfTwo : ma_mt[5]? = some me_Fld_powerOfTwo := rfl
set_option maxRecDepth 5000 in
theorem mt_Fld_times : ma_mt[6]? = some me_Fld_times := rfl
set_option maxRecDepth 5000 in
theorem mt_Bod_ahead : ma_mt[7]? = some me_Bod_ahead := rfl
set_option maxRecDepth 5000 in
theorem mt_Bod_rise : ma_mt[8]? = some me_Bod_rise := rfl
set_option maxRecDepth 5000 in
theorem mt_Bod_signature : ma_mt[9]? = some me_Bod_signature := rfl
set_option maxRecDepth 5000 in
theorem mt_Bod_sum : ma_mt[10]? = some me_Bod_sum := rfl
set_option maxRecDepth 5000 in
theorem mt_Col_countUnknown : ma_mt[11]? = some me_Col_countUnknown := rfl
set_option maxRecDepth 5000 in
theorem mt_Col_set : ma_mt[12]? = some me_Col_set := rfl
set_option maxRecDepth 5000 in
theorem mt_Dec_loseBlock : ma_mt[13]? = some me_Dec_loseBlock := rfl
set_option maxRecDepth 5000 in
theorem mt_Dec_settleSlots : ma_mt[14]? = some me_Dec_settleSlots := rfl
set_option maxRecDepth 5000 in
theorem mt_Arc_blocksOf : ma_mt[15]? = some me_Arc_blocksOf := rfl
set_option maxRecDepth 5000 in
theorem mt_Arc_clear : ma_mt[16]? = some me_Arc_clear := rfl
set_option maxRecDepth 5000 in
theorem mt_Arc_count : ma_mt[17]? = some me_Arc_count := rfl
set_option maxRecDepth 5000 in
theorem mt_Arc_heap : ma_mt[18]? = some me_Arc_heap := rfl
set_option maxRecDepth 5000 in
theorem mt_Arc_isFull : ma_mt[19]? = some me_Arc_isFull := rfl
set_option maxRecDepth 5000 in
theorem mt_Arc_isSize : ma_mt[20]? = some me_Arc_isSize := rfl
set_option maxRecDepth 5000 in
theorem mt_Arc_isWritten : ma_mt[21]? = some me_Arc_isWritten := rfl
set_option maxRecDepth 5000 in
theorem mt_Arc_load : ma_mt[22]? = some me_Arc_load := rfl
set_option maxRecDepth 5000 in
theorem mt_Arc_nextRead : ma_mt[23]? = some me_Arc_nextRead := rfl
set_option maxRecDepth 5000 in
theorem mt_Arc_shuffle : ma_mt[24]? = some me_Arc_shuffle := rfl
set_option maxRecDepth 5000 in
theorem mt_Mod_clear : ma_mt[25]? = some me_Mod_clear := rfl
set_option maxRecDepth 5000 in
theorem mt_Mod_count : ma_mt[26]? = some me_Mod_count := rfl
set_option maxRecDepth 5000 in
theorem mt_Mod_group : ma_mt[27]? = some me_Mod_group := rfl
set_option maxRecDepth 5000 in
theorem mt_Mod_heap : ma_mt[28]? = some me_Mod_heap := rfl
set_option maxRecDepth 5000 in
theorem mt_Mod_in : ma_mt[29]? = some me_Mod_in := rfl
set_option maxRecDepth 5000 in
theorem mt_Mod_most : ma_mt[30]? = some me_Mod_most := rfl
set_option maxRecDepth 5000 in
theorem mt_Mod_ones : ma_mt[31]? = some me_Mod_ones := rfl
set_option maxRecDepth 5000 in
theorem mt_Mod_shuffle : ma_mt[32]? = some me_Mod_shuffle := rfl
set_option maxRecDepth 5000 in
theorem mt_Mod_signature : ma_mt[33]? = some me_Mod_signature := rfl
set_option maxRecDepth 5000 in
theorem mt_Mod_sum : ma_mt[34]? = some me_Mod_sum := rfl
set_option maxRecDepth 5000 in
theorem mt_Mod_thrown : ma_mt[35]? = some me_Mod_thrown := rfl
set_option maxRecDepth 5000 in
theorem mt_Mod_times : ma_mt[36]? = some me_Mod_times := rfl
set_option maxRecDepth 5000 in
theorem mt_Itg_bitCount : ma_mt[37]? = some me_Itg_bitCount := rfl
set_option maxRecDepth 5000 in
theorem mt_Arr_fill : ma_mt[38]? = some me_Arr_fill := rfl
set_option maxRecDepth 5000 in
theorem mt_Mth_floorMod : ma_mt[39]? = some me_Mth_floorMod := rfl
set_option maxRecDepth 5000 in
theorem mt_Row_init : ma_mt[40]? = some me_Row_init := rfl
set_option maxRecDepth 5000 in
theorem mt_Row_appendPart : ma_mt[41]? = some me_Row_appendPart := rfl
set_option maxRecDepth 5000 in
theorem mt_Fld_init : ma_mt[42]? = some me_Fld_init := rfl
set_option maxRecDepth 5000 in
theorem mt_Bod_init : ma_mt[43]? = some me_Bod_init := rfl
set_option maxRecDepth 5000 in
theorem mt_Bod_put : ma_mt[44]? = some me_Bod_put := rfl
set_option maxRecDepth 5000 in
theorem mt_Bod_spelled : ma_mt[45]? = some me_Bod_spelled := rfl
set_option maxRecDepth 5000 in
theorem mt_Rdr_isDue : ma_mt[46]? = some me_Rdr_isDue := rfl
set_option maxRecDepth 5000 in
theorem mt_Rdr_majority : ma_mt[47]? = some me_Rdr_majority := rfl
set_option maxRecDepth 5000 in
theorem mt_Col_init : ma_mt[48]? = some me_Col_init := rfl
set_option maxRecDepth 5000 in
theorem mt_Col_addUp : ma_mt[49]? = some me_Col_addUp := rfl
set_option maxRecDepth 5000 in
theorem mt_Col_missAt : ma_mt[50]? = some me_Col_missAt := rfl
set_option maxRecDepth 5000 in
theorem mt_Col_polynomialAt : ma_mt[51]? = some me_Col_polynomialAt := rfl
set_option maxRecDepth 5000 in
theorem mt_Col_recurrenceAt : ma_mt[52]? = some me_Col_recurrenceAt := rfl
set_option maxRecDepth 5000 in
theorem mt_Col_spanUnknown : ma_mt[53]? = some me_Col_spanUnknown := rfl
set_option maxRecDepth 5000 in
theorem mt_Col_weigh : ma_mt[54]? = some me_Col_weigh := rfl
set_option maxRecDepth 5000 in
theorem mt_Dec_begin : ma_mt[55]? = some me_Dec_begin := rfl
set_option maxRecDepth 5000 in
theorem mt_Dec_slotOf : ma_mt[56]? = some me_Dec_slotOf := rfl
set_option maxRecDepth 5000 in
theorem mt_Arc_appendCopies : ma_mt[57]? = some me_Arc_appendCopies := rfl
set_option maxRecDepth 5000 in
theorem mt_Arc_forge : ma_mt[58]? = some me_Arc_forge := rfl
set_option maxRecDepth 5000 in
theorem mt_Arc_letter : ma_mt[59]? = some me_Arc_letter := rfl
set_option maxRecDepth 5000 in
theorem mt_Arc_product : ma_mt[60]? = some me_Arc_product := rfl
set_option maxRecDepth 5000 in
theorem mt_Arc_read : ma_mt[61]? = some me_Arc_read := rfl
set_option maxRecDepth 5000 in
theorem mt_Mod_block : ma_mt[62]? = some me_Mod_block := rfl
set_option maxRecDepth 5000 in
theorem mt_Mod_come : ma_mt[63]? = some me_Mod_come := rfl
set_option maxRecDepth 5000 in
theorem mt_Mod_forge : ma_mt[64]? = some me_Mod_forge := rfl
set_option maxRecDepth 5000 in
theorem mt_Mod_inverse : ma_mt[65]? = some me_Mod_inverse := rfl
set_option maxRecDepth 5000 in
theorem mt_Mod_isFound : ma_mt[66]? = some me_Mod_isFound := rfl
set_option maxRecDepth 5000 in
theorem mt_Mod_lay : ma_mt[67]? = some me_Mod_lay := rfl
set_option maxRecDepth 5000 in
theorem mt_Mod_letter : ma_mt[68]? = some me_Mod_letter := rfl
set_option maxRecDepth 5000 in
theorem mt_Mod_load : ma_mt[69]? = some me_Mod_load := rfl
set_option maxRecDepth 5000 in
theorem mt_Mod_out : ma_mt[70]? = some me_Mod_out := rfl
set_option maxRecDepth 5000 in
theorem mt_Mod_power : ma_mt[71]? = some me_Mod_power := rfl
set_option maxRecDepth 5000 in
theorem mt_Mod_product : ma_mt[72]? = some me_Mod_product := rfl
set_option maxRecDepth 5000 in
theorem mt_Mod_slot : ma_mt[73]? = some me_Mod_slot := rfl
set_option maxRecDepth 5000 in
theorem mt_Mod_solved : ma_mt[74]? = some me_Mod_solved := rfl
set_option maxRecDepth 5000 in
theorem mt_Bod_spell : ma_mt[75]? = some me_Bod_spell := rfl
set_option maxRecDepth 5000 in
theorem mt_Rdr_init : ma_mt[76]? = some me_Rdr_init := rfl
set_option maxRecDepth 5000 in
theorem mt_Rdr_restoreCut : ma_mt[77]? = some me_Rdr_restoreCut := rfl
set_option maxRecDepth 5000 in
theorem mt_Rdr_restoreGrown : ma_mt[78]? = some me_Rdr_restoreGrown := rfl
set_option maxRecDepth 5000 in
theorem mt_Rdr_restoreWhole : ma_mt[79]? = some me_Rdr_restoreWhole := rfl
set_option maxRecDepth 5000 in
theorem mt_Rdr_takeTail : ma_mt[80]? = some me_Rdr_takeTail := rfl
set_option maxRecDepth 5000 in
theorem mt_Col_fillUnknown : ma_mt[81]? = some me_Col_fillUnknown := rfl
set_option maxRecDepth 5000 in
theorem mt_Col_findRecurrence : ma_mt[82]? = some me_Col_findRecurrence := rfl
set_option maxRecDepth 5000 in
theorem mt_Col_markWrong : ma_mt[83]? = some me_Col_markWrong := rfl
set_option maxRecDepth 5000 in
theorem mt_Col_siftOutUnknown : ma_mt[84]? = some me_Col_siftOutUnknown := rfl
set_option maxRecDepth 5000 in
theorem mt_Arc_newRows : ma_mt[85]? = some me_Arc_newRows := rfl
set_option maxRecDepth 5000 in
theorem mt_Arc_readCut : ma_mt[86]? = some me_Arc_readCut := rfl
set_option maxRecDepth 5000 in
theorem mt_Arc_readGrown : ma_mt[87]? = some me_Arc_readGrown := rfl
set_option maxRecDepth 5000 in
theorem mt_Mod_init : ma_mt[88]? = some me_Mod_init := rfl
set_option maxRecDepth 5000 in
theorem mt_Mod_isColumn : ma_mt[89]? = some me_Mod_isColumn := rfl
set_option maxRecDepth 5000 in
theorem mt_Mod_read : ma_mt[90]? = some me_Mod_read := rfl
set_option maxRecDepth 5000 in
theorem mt_Mod_readCut : ma_mt[91]? = some me_Mod_readCut := rfl
set_option maxRecDepth 5000 in
theorem mt_Mod_readGrown : ma_mt[92]? = some me_Mod_readGrown := rfl
set_option maxRecDepth 5000 in
theorem mt_Mod_write : ma_mt[93]? = some me_Mod_write := rfl
set_option maxRecDepth 5000 in
theorem mt_Rdr_restore : ma_mt[94]? = some me_Rdr_restore := rfl
set_option maxRecDepth 5000 in
theorem mt_Col_mend : ma_mt[95]? = some me_Col_mend := rfl
set_option maxRecDepth 5000 in
theorem mt_Dec_init : ma_mt[96]? = some me_Dec_init := rfl
set_option maxRecDepth 5000 in
theorem mt_Arc_spellStrand : ma_mt[97]? = some me_Arc_spellStrand := rfl
set_option maxRecDepth 5000 in
theorem mt_Mod_isMended : ma_mt[98]? = some me_Mod_isMended := rfl
set_option maxRecDepth 5000 in
theorem mt_Dec_mendColumn : ma_mt[99]? = some me_Dec_mendColumn := rfl
set_option maxRecDepth 5000 in
theorem mt_Dec_take : ma_mt[100]? = some me_Dec_take := rfl
set_option maxRecDepth 5000 in
theorem mt_Arc_init : ma_mt[101]? = some me_Arc_init := rfl
set_option maxRecDepth 5000 in
theorem mt_Arc_fillBlock : ma_mt[102]? = some me_Arc_fillBlock := rfl
set_option maxRecDepth 5000 in
theorem mt_Mod_decode : ma_mt[103]? = some me_Mod_decode := rfl
set_option maxRecDepth 5000 in
theorem mt_Dec_finishBlock : ma_mt[104]? = some me_Dec_finishBlock := rfl
set_option maxRecDepth 5000 in
theorem mt_Arc_write : ma_mt[105]? = some me_Arc_write := rfl
set_option maxRecDepth 5000 in
theorem mt_Arc_decode : ma_mt[106]? = some me_Arc_decode := rfl
set_option maxRecDepth 5000 in
theorem mt_Arc_newRows90 : ma_mt[107]? = some me_Arc_newRows90 := rfl
end
section
/-! numbers: longs by their unsigned values (the kit's own family, pasted), ints by theirs -/
theorem wb_tb (n : Nat) : (lN n).toBitVec = BitVec.ofNat 64 n := rfl
theorem wb_inj {a b : Int64} (h : a.toBitVec = b.toBitVec) : a = b := Int64.toBitVec_inj.mp h
theorem wb_tn {n : Nat} (h : n < 2 ^ 64) : (lN n).toBitVec.toNat = n := by rw [wb_tb, BitVec.toNat_ofNat, Nat.mod_eq_of_lt h]
theorem wb_of (x : Int64) : ∃ n, n < 2 ^ 64 ∧ x = lN n := ⟨x.toBitVec.toNat, x.toBitVec.isLt, wb_inj (by rw [wb_tb]; simp)⟩
theorem wb_of32 (x : Int32) : ∃ n, n < 2 ^ 32 ∧ x = nI n := ⟨x.toBitVec.toNat, x.toBitVec.isLt, Int32.toBitVec_inj.mp (by show _ = BitVec.ofNat 32 _; simp)⟩
theorem wb_c : ∀ k, k < 64 → ((nI k).toInt64 &&& 63) = lN k := by decide +kernel
theorem wb_cu : ∀ k, k < 64 → ((nI k).toInt64.toUInt64 &&& Int64.toUInt64 63) = UInt64.ofNat k := by decide +kernel
theorem wb_sm : ∀ k, k < 64 → (BitVec.ofNat 64 k).smod 64 = BitVec.ofNat 64 k := by decide +kernel
theorem wb_pw {a b : Nat} (h : a ≤ b) : 2 ^ b = 2 ^ a * 2 ^ (b - a) := by rw [← Nat.pow_add]; congr 1; omega
theorem wb_lt2 {a b : Nat} (h : a < b) : 2 ^ a < 2 ^ b := Nat.pow_lt_pow_right (by decide) h
theorem wb_mod (n : Nat) : lN n = lN (n % 2 ^ 64) := wb_inj (by rw [wb_tb, wb_tb]; apply BitVec.eq_of_toNat_eq; rw [BitVec.toNat_ofNat, BitVec.toNat_ofNat, Nat.mod_mod])
theorem wb_shr {n k : Nat} (hn : n < 2 ^ 64) (hk : k < 64) : ((lN n).toUInt64 >>> ((nI k).toInt64.toUInt64 &&& Int64.toUInt64 63)).toInt64 = lN (n / 2 ^ k) := by
  rw [wb_cu k hk]
  apply wb_inj
  apply BitVec.eq_of_toNat_eq
  show ((lN n).toUInt64 >>> UInt64.ofNat k).toNat = (BitVec.ofNat 64 _).toNat
  have h1 : (UInt64.ofNat k).toNat = k := by
    show (BitVec.ofNat 64 k).toNat = k
    rw [BitVec.toNat_ofNat, Nat.mod_eq_of_lt (by omega)]
  have h2 : (lN n).toUInt64.toNat = n := wb_tn hn
  rw [UInt64.toNat_shiftRight, h1, h2, Nat.mod_eq_of_lt hk, Nat.shiftRight_eq_div_pow, BitVec.toNat_ofNat, Nat.mod_eq_of_lt (Nat.lt_of_le_of_lt (Nat.div_le_self _ _) hn)]
theorem wb_shl (n : Nat) {k : Nat} (hk : k < 64) : lN n <<< ((nI k).toInt64 &&& 63) = lN (n * 2 ^ k) := by
  rw [wb_c k hk]
  apply wb_inj
  rw [Int64.toBitVec_shiftLeft, wb_tb, wb_tb, wb_tb, wb_sm k hk]
  apply BitVec.eq_of_toNat_eq
  rw [BitVec.shiftLeft_eq', BitVec.toNat_shiftLeft, BitVec.toNat_ofNat, BitVec.toNat_ofNat, BitVec.toNat_ofNat, Nat.mod_eq_of_lt (show k < 2 ^ 64 by omega), Nat.shiftLeft_eq, Nat.mul_mod, Nat.mod_mod, ← Nat.mul_mod]
theorem wb_and {a b : Nat} (ha : a < 2 ^ 64) (hb : b < 2 ^ 64) : lN a &&& lN b = lN (a &&& b) := by
  apply wb_inj
  rw [Int64.toBitVec_and, wb_tb, wb_tb, wb_tb]
  apply BitVec.eq_of_toNat_eq
  rw [BitVec.toNat_and, BitVec.toNat_ofNat, BitVec.toNat_ofNat, BitVec.toNat_ofNat, Nat.mod_eq_of_lt ha, Nat.mod_eq_of_lt hb, Nat.mod_eq_of_lt (Nat.and_lt_two_pow _ hb)]
theorem wb_or {a b : Nat} (ha : a < 2 ^ 64) (hb : b < 2 ^ 64) : lN a ||| lN b = lN (a ||| b) := by
  apply wb_inj
  rw [Int64.toBitVec_or, wb_tb, wb_tb, wb_tb]
  apply BitVec.eq_of_toNat_eq
  rw [BitVec.toNat_or, BitVec.toNat_ofNat, BitVec.toNat_ofNat, BitVec.toNat_ofNat, Nat.mod_eq_of_lt ha, Nat.mod_eq_of_lt hb, Nat.mod_eq_of_lt (Nat.or_lt_two_pow ha hb)]
theorem wb_mask {n k : Nat} (hn : n < 2 ^ 64) (hk : k < 64) : lN n &&& lN (2 ^ k - 1) = lN (n % 2 ^ k) := by
  rw [wb_and hn (by have := wb_lt2 hk; omega), Nat.and_two_pow_sub_one_eq_mod]
theorem wb_a1 {n : Nat} (hn : n < 2 ^ 64) : lN n &&& 1 = lN (n % 2) := wb_mask (k := 1) hn (by decide)
theorem wb_bit {n k : Nat} (hn : n < 2 ^ 64) (hk : k < 64) : ((lN n).toUInt64 >>> ((nI k).toInt64.toUInt64 &&& Int64.toUInt64 63)).toInt64 &&& 1 = lN (n / 2 ^ k % 2) := by
  rw [wb_shr hn hk, wb_a1 (Nat.lt_of_le_of_lt (Nat.div_le_self _ _) hn)]
theorem nx_sub (c b : Nat) : nI (c + b) - nI b = nI c := by
  rw [← nI_add]
  exact Int32.add_sub_cancel _ _
theorem nx_sub' {a b : Nat} (h : b ≤ a) : nI a - nI b = nI (a - b) := by
  have := nx_sub (a - b) b
  rwa [Nat.sub_add_cancel h] at this
theorem nx_ne0 {d : Nat} (h0 : 0 < d) (hd : d < 2 ^ 31) : ¬ nI d = 0 := nI_ne0 h0 hd
theorem ma_irem_nI {a d : Nat} (ha : a < 2 ^ 31) (h0 : 0 < d) (hd : d < 2 ^ 31) : ma_irem (nI a) (nI d) = nI (a % d) := pk_rem ha h0 hd
theorem nx_xor (a b : Nat) : nI a ^^^ nI b = nI (a ^^^ b) := by
  apply Int32.toBitVec_inj.mp
  rw [Int32.toBitVec_xor]
  show BitVec.ofNat 32 a ^^^ BitVec.ofNat 32 b = BitVec.ofNat 32 (a ^^^ b)
  apply BitVec.eq_of_toNat_eq
  rw [BitVec.toNat_xor, BitVec.toNat_ofNat, BitVec.toNat_ofNat, BitVec.toNat_ofNat, Nat.xor_mod_two_pow]
theorem ma_in_of {S : ma_S} {a n i : Nat} {ty : FieldType} (hs : ma_sh S a = some (.inr (ty, n))) (hi : i < n) (hn : n < 2 ^ 31) : ma_in S a ty (nI i) := ⟨n, hs, vp_in_nI hi hn⟩
theorem nx_l2i {n : Nat} : (lN n).toInt32 = nI n := lN_i n
end
section
/-! Field: times, over, powerOfTwo -/
def fd_ok (h : ma_H) : Prop := h.2.2 160 0 = 161 ∧ h.2.2 160 1 = 162 ∧ (∀ i, i < 255 → h.1 161 i = nI (gf_ex i)) ∧ (∀ a, 1 ≤ a → a < 256 → h.1 162 a = nI (gf_lg a))
theorem gf_lg_lt {a : Nat} (h : a < 256) : gf_lg a < 255 := by
  rcases gf_t2 a h with h1 | h1
  · subst h1; decide
  · exact h1.1
theorem m_times (l : Launch) (g : ma_G) (x : Bool) {h : ma_H} (hf : fd_ok h) {a b : Nat} (ha : a < 256) (hb : b < 256) : ma_PM l g x me_Fld_times [.ref 160, .int (nI a), .int (nI b)] GS h (fun v S' h' => v = some (.int (nI (gf_m a b))) ∧ S' = GS ∧ h' = h) := by
  obtain ⟨f1, f2, f3, f4⟩ := hf
  refine ma_PM_of (P := pr_Fld_times) (by decide) rfl (Nat.le_of_ble_eq_true rfl) ?_
  show ma_J l g x none me_Fld_times pr_Fld_times _ 0 [some (.ref 160), some (.int (nI a)), some (.int (nI b))] [] 0 0 GS h
  refine ma_run0 po_Fld_times rfl rfl [] 60 ?_
  simp only [pa_Fld_times, ma_go, ev_A, ev_B, ev_C, ev_D, Nat.reduceAdd, List.mem_cons, List.not_mem_nil, or_false, or_self, Nat.reduceEqDiff, reduceCtorEq, ↓reduceIte, List.length_cons, List.length_nil, Nat.reduceLT, Nat.reduceLeDiff, Nat.le_refl, implies_true, true_and, and_true, Option.toList, List.cons_append, List.nil_append, f1, f2, gs_160]
  have la := gf_lg_lt ha
  have lb := gf_lg_lt hb
  have z : ∀ c : Nat, c < 256 → (nI c = nI 0 ↔ c = 0) := fun c hc => nI_eq (by omega) (by omega)
  refine ⟨fun e => ?_, fun e => ⟨fun e2 => ?_, fun e2 => ?_⟩⟩
  · rw [(z a ha).mp e, gf_m_zero_left]
  · have a0 : a ≠ 0 := fun q => e ((z a ha).mpr q)
    have b0 : b ≠ 0 := fun q => e2 ((z b hb).mpr q)
    rw [nI_clamp (by omega), nI_clamp (by omega), f4 a (by omega) ha, f4 b (by omega) hb, nI_add, ma_irem_nI (by omega) (by omega) (by omega), nI_clamp (by omega), f3 _ (Nat.mod_lt _ (by decide))]
    refine ⟨ma_in_of gs_162 ha (by decide), ma_in_of gs_162 hb (by decide), nx_ne0 (by decide) (by decide), ma_in_of gs_161 (Nat.mod_lt _ (by decide)) (by decide), ?_⟩
    rw [gf_ex_mod, gf_m, if_neg (by omega)]
  · rw [(z b hb).mp e2, gf_m_zero_right]
theorem m_powerOfTwo (l : Launch) (g : ma_G) (x : Bool) {h : ma_H} (hf : fd_ok h) {n : Nat} (hn : n < 2 ^ 31) : ma_PM l g x me_Fld_powerOfTwo [.ref 160, .int (nI n)] GS h (fun v S' h' => v = some (.int (nI (gf_ex n))) ∧ S' = GS ∧ h' = h) := by
  obtain ⟨f1, f2, f3, f4⟩ := hf
  refine ma_PM_of (P := pr_Fld_powerOfTwo) (by decide) rfl (Nat.le_of_ble_eq_true rfl) ?_
  show ma_J l g x none me_Fld_powerOfTwo pr_Fld_powerOfTwo _ 0 [some (.ref 160), some (.int (nI n))] [] 0 0 GS h
  refine ma_run0 po_Fld_powerOfTwo rfl rfl [] 60 ?_
  simp only [pa_Fld_powerOfTwo, ma_go, ev_A, ev_B, ev_C, ev_D, Nat.reduceAdd, List.mem_cons, List.not_mem_nil, or_false, or_self, Nat.reduceEqDiff, reduceCtorEq, ↓reduceIte, List.length_cons, List.length_nil, Nat.reduceLT, Nat.reduceLeDiff, Nat.le_refl, implies_true, true_and, and_true, Option.toList, List.cons_append, List.nil_append, f1, f2, gs_160]
  rw [ma_irem_nI hn (by omega) (by omega), nI_clamp (by omega), f3 _ (Nat.mod_lt _ (by decide)), gf_ex_mod]
  exact ⟨nx_ne0 (by decide) (by decide), ma_in_of gs_161 (Nat.mod_lt _ (by decide)) (by decide), rfl⟩
theorem m_over (l : Launch) (g : ma_G) (x : Bool) {h : ma_H} (hf : fd_ok h) {a b : Nat} (ha : a < 256) (hb : b < 256) (hb0 : b ≠ 0) : ma_PM l g x me_Fld_over [.ref 160, .int (nI a), .int (nI b)] GS h (fun v S' h' => v = some (.int (nI (gf_m a (gf_inv b)))) ∧ S' = GS ∧ h' = h) := by
  obtain ⟨f1, f2, f3, f4⟩ := hf
  refine ma_PM_of (P := pr_Fld_over) (by decide) rfl (Nat.le_of_ble_eq_true rfl) ?_
  show ma_J l g x none me_Fld_over pr_Fld_over _ 0 [some (.ref 160), some (.int (nI a)), some (.int (nI b))] [] 0 0 GS h
  refine ma_run0 po_Fld_over rfl rfl [] 60 ?_
  simp only [pa_Fld_over, ma_go, ev_A, ev_B, ev_C, ev_D, Nat.reduceAdd, List.mem_cons, List.not_mem_nil, or_false, or_self, Nat.reduceEqDiff, reduceCtorEq, ↓reduceIte, List.length_cons, List.length_nil, Nat.reduceLT, Nat.reduceLeDiff, Nat.le_refl, implies_true, true_and, and_true, Option.toList, List.cons_append, List.nil_append, f1, f2, gs_160]
  have la := gf_lg_lt ha
  have lb := gf_lg_lt hb
  have z : ∀ c : Nat, c < 256 → (nI c = nI 0 ↔ c = 0) := fun c hc => nI_eq (by omega) (by omega)
  refine ⟨fun e => ?_, fun e => ⟨fun e2 => ?_, fun e2 => ?_⟩⟩
  · rw [(z a ha).mp e, gf_m_zero_left]
  · have a0 : a ≠ 0 := fun q => e ((z a ha).mpr q)
    have e3 : nI (gf_lg a) - nI (gf_lg b) + nI 255 = nI (gf_lg a + 255 - gf_lg b) := by
      rw [← nx_sub' (by omega), ← nI_add, Int32.sub_eq_add_neg, Int32.sub_eq_add_neg, Int32.add_assoc, Int32.add_assoc, Int32.add_comm (-nI (gf_lg b))]
    rw [nI_clamp (by omega), nI_clamp (by omega), f4 a (by omega) ha, f4 b (by omega) hb, e3, ma_irem_nI (by omega) (by omega) (by omega), nI_clamp (by omega), f3 _ (Nat.mod_lt _ (by decide))]
    refine ⟨ma_in_of gs_162 ha (by decide), ma_in_of gs_162 hb (by decide), nx_ne0 (by decide) (by decide), ma_in_of gs_161 (Nat.mod_lt _ (by decide)) (by decide), ?_⟩
    have e4 := gf_ex_add (gf_lg a) (255 - gf_lg b)
    rw [gf_ex_lg ha a0] at e4
    rw [gf_ex_mod, gf_inv, e4, show gf_lg a + (255 - gf_lg b) = gf_lg a + 255 - gf_lg b by omega]
  · exact absurd ((z b hb).mp e2) hb0
end
