/-! the methods by their numbers -/
set_option maxRecDepth 5000 in
theorem mt_Row_append : ma_mt[1]? = some me_Row_append := rfl
set_option maxRecDepth 5000 in
theorem mt_Row_at : ma_mt[2]? = some me_Row_at := rfl
set_option maxRecDepth 5000 in
theorem mt_Row_become : ma_mt[3]? = some me_Row_become := rfl
set_option maxRecDepth 5000 in
theorem mt_Fld_over : ma_mt[4]? = some me_Fld_over := rfl
set_option maxRecDepth 5000 in
theorem mt_Fld_powerOfTwo : ma_mt[5]? = some me_Fld_powerOfTwo := rfl
set_option maxRecDepth 5000 in
theorem mt_Fld_times : ma_mt[6]? = some me_Fld_times := rfl
set_option maxRecDepth 5000 in
theorem mt_Bod_ahead : ma_mt[7]? = some me_Bod_ahead := rfl
set_option maxRecDepth 5000 in
theorem mt_Bod_rise : ma_mt[8]? = some me_Bod_rise := rfl
set_option maxRecDepth 5000 in
theorem mt_Bod_signature : ma_mt[9]? = some me_Bod_signature := rfl
set_option maxRecDepth 5000 in
theorem mt_Bod_sum : ma_mt[10]? = some me_Bod_sum := rfl
set_option maxRecDepth 5000 in
theorem mt_Col_countUnknown : ma_mt[11]? = some me_Col_countUnknown := rfl
set_option maxRecDepth 5000 in
theorem mt_Col_set : ma_mt[12]? = some me_Col_set := rfl
set_option maxRecDepth 5000 in
theorem mt_Dec_loseBlock : ma_mt[13]? = some me_Dec_loseBlock := rfl
set_option maxRecDepth 5000 in
theorem mt_Dec_settleSlots : ma_mt[14]? = some me_Dec_settleSlots := rfl
set_option maxRecDepth 5000 in
theorem mt_Arc_blocksOf : ma_mt[15]? = some me_Arc_blocksOf := rfl
set_option maxRecDepth 5000 in
theorem mt_Arc_clear : ma_mt[16]? = some me_Arc_clear := rfl
set_option maxRecDepth 5000 in
theorem mt_Arc_count : ma_mt[17]? = some me_Arc_count := rfl
set_option maxRecDepth 5000 in
theorem mt_Arc_heap : ma_mt[18]? = some me_Arc_heap := rfl
set_option maxRecDepth 5000 in
theorem mt_Arc_isFull : ma_mt[19]? = some me_Arc_isFull := rfl
set_option maxRecDepth 5000 in
theorem mt_Arc_isSize : ma_mt[20]? = some me_Arc_isSize := rfl
set_option maxRecDepth 5000 in
theorem mt_Arc_isWritten : ma_mt[21]? = some me_Arc_isWritten := rfl
set_option maxRecDepth 5000 in
theorem mt_Arc_load : ma_mt[22]? = some me_Arc_load := rfl
set_option maxRecDepth 5000 in
theorem mt_Arc_nextRead : ma_mt[23]? = some me_Arc_nextRead := rfl
set_option maxRecDepth 5000 in
theorem mt_Arc_shuffle : ma_mt[24]? = some me_Arc_shuffle := rfl
set_option maxRecDepth 5000 in
theorem mt_Mod_clear : ma_mt[25]? = some me_Mod_clear := rfl
set_option maxRecDepth 5000 in
theorem mt_Mod_count : ma_mt[26]? = some me_Mod_count := rfl
set_option maxRecDepth 5000 in
theorem mt_Mod_group : ma_mt[27]? = some me_Mod_group := rfl
set_option maxRecDepth 5000 in
theorem mt_Mod_heap : ma_mt[28]? = some me_Mod_heap := rfl
set_option maxRecDepth 5000 in
theorem mt_Mod_in : ma_mt[29]? = some me_Mod_in := rfl
set_option maxRecDepth 5000 in
theorem mt_Mod_most : ma_mt[30]? = some me_Mod_most := rfl
set_option maxRecDepth 5000 in
theorem mt_Mod_ones : ma_mt[31]? = some me_Mod_ones := rfl
set_option maxRecDepth 5000 in
theorem mt_Mod_shuffle : ma_mt[32]? = some me_Mod_shuffle := rfl
set_option maxRecDepth 5000 in
theorem mt_Mod_signature : ma_mt[33]? = some me_Mod_signature := rfl
set_option maxRecDepth 5000 in
theorem mt_Mod_sum : ma_mt[34]? = some me_Mod_sum := rfl
set_option maxRecDepth 5000 in
theorem mt_Mod_thrown : ma_mt[35]? = some me_Mod_thrown := rfl
set_option maxRecDepth 5000 in
theorem mt_Mod_times : ma_mt[36]? = some me_Mod_times := rfl
set_option maxRecDepth 5000 in
theorem mt_Itg_bitCount : ma_mt[37]? = some me_Itg_bitCount := rfl
set_option maxRecDepth 5000 in
theorem mt_Arr_fill : ma_mt[38]? = some me_Arr_fill := rfl
set_option maxRecDepth 5000 in
theorem mt_Mth_floorMod : ma_mt[39]? = some me_Mth_floorMod := rfl
set_option maxRecDepth 5000 in
theorem mt_Row_init : ma_mt[40]? = some me_Row_init := rfl
set_option maxRecDepth 5000 in
theorem mt_Row_appendPart : ma_mt[41]? = some me_Row_appendPart := rfl
set_option maxRecDepth 5000 in
theorem mt_Fld_init : ma_mt[42]? = some me_Fld_init := rfl
set_option maxRecDepth 5000 in
theorem mt_Bod_init : ma_mt[43]? = some me_Bod_init := rfl
set_option maxRecDepth 5000 in
theorem mt_Bod_put : ma_mt[44]? = some me_Bod_put := rfl
set_option maxRecDepth 5000 in
theorem mt_Bod_spelled : ma_mt[45]? = some me_Bod_spelled := rfl
set_option maxRecDepth 5000 in
theorem mt_Rdr_isDue : ma_mt[46]? = some me_Rdr_isDue := rfl
set_option maxRecDepth 5000 in
theorem mt_Rdr_majority : ma_mt[47]? = some me_Rdr_majority := rfl
set_option maxRecDepth 5000 in
theorem mt_Col_init : ma_mt[48]? = some me_Col_init := rfl
set_option maxRecDepth 5000 in
theorem mt_Col_addUp : ma_mt[49]? = some me_Col_addUp := rfl
set_option maxRecDepth 5000 in
theorem mt_Col_missAt : ma_mt[50]? = some me_Col_missAt := rfl
set_option maxRecDepth 5000 in
theorem mt_Col_polynomialAt : ma_mt[51]? = some me_Col_polynomialAt := rfl
set_option maxRecDepth 5000 in
theorem mt_Col_recurrenceAt : ma_mt[52]? = some me_Col_recurrenceAt := rfl
set_option maxRecDepth 5000 in
theorem mt_Col_spanUnknown : ma_mt[53]? = some me_Col_spanUnknown := rfl
set_option maxRecDepth 5000 in
theorem mt_Col_weigh : ma_mt[54]? = some me_Col_weigh := rfl
set_option maxRecDepth 5000 in
theorem mt_Dec_begin : ma_mt[55]? = some me_Dec_begin := rfl
set_option maxRecDepth 5000 in
theorem mt_Dec_slotOf : ma_mt[56]? = some me_Dec_slotOf := rfl
set_option maxRecDepth 5000 in
theorem mt_Arc_appendCopies : ma_mt[57]? = some me_Arc_appendCopies := rfl
set_option maxRecDepth 5000 in
theorem mt_Arc_forge : ma_mt[58]? = some me_Arc_forge := rfl
set_option maxRecDepth 5000 in
theorem mt_Arc_letter : ma_mt[59]? = some me_Arc_letter := rfl
set_option maxRecDepth 5000 in
theorem mt_Arc_product : ma_mt[60]? = some me_Arc_product := rfl
set_option maxRecDepth 5000 in
theorem mt_Arc_read : ma_mt[61]? = some me_Arc_read := rfl
set_option maxRecDepth 5000 in
theorem mt_Mod_block : ma_mt[62]? = some me_Mod_block := rfl
set_option maxRecDepth 5000 in
theorem mt_Mod_come : ma_mt[63]? = some me_Mod_come := rfl
set_option maxRecDepth 5000 in
theorem mt_Mod_forge : ma_mt[64]? = some me_Mod_forge := rfl
set_option maxRecDepth 5000 in
theorem mt_Mod_inverse : ma_mt[65]? = some me_Mod_inverse := rfl
set_option maxRecDepth 5000 in
theorem mt_Mod_isFound : ma_mt[66]? = some me_Mod_isFound := rfl
set_option maxRecDepth 5000 in
theorem mt_Mod_lay : ma_mt[67]? = some me_Mod_lay := rfl
set_option maxRecDepth 5000 in
theorem mt_Mod_letter : ma_mt[68]? = some me_Mod_letter := rfl
set_option maxRecDepth 5000 in
theorem mt_Mod_load : ma_mt[69]? = some me_Mod_load := rfl
set_option maxRecDepth 5000 in
theorem mt_Mod_out : ma_mt[70]? = some me_Mod_out := rfl
set_option maxRecDepth 5000 in
theorem mt_Mod_power : ma_mt[71]? = some me_Mod_power := rfl
set_option maxRecDepth 5000 in
theorem mt_Mod_product : ma_mt[72]? = some me_Mod_product := rfl
set_option maxRecDepth 5000 in
theorem mt_Mod_slot : ma_mt[73]? = some me_Mod_slot := rfl
set_option maxRecDepth 5000 in
theorem mt_Mod_solved : ma_mt[74]? = some me_Mod_solved := rfl
set_option maxRecDepth 5000 in
theorem mt_Bod_spell : ma_mt[75]? = some me_Bod_spell := rfl
set_option maxRecDepth 5000 in
theorem mt_Rdr_init : ma_mt[76]? = some me_Rdr_init := rfl
set_option maxRecDepth 5000 in
theorem mt_Rdr_restoreCut : ma_mt[77]? = some me_Rdr_restoreCut := rfl
set_option maxRecDepth 5000 in
theorem mt_Rdr_restoreGrown : ma_mt[78]? = some me_Rdr_restoreGrown := rfl
set_option maxRecDepth 5000 in
theorem mt_Rdr_restoreWhole : ma_mt[79]? = some me_Rdr_restoreWhole := rfl
set_option maxRecDepth 5000 in
theorem mt_Rdr_takeTail : ma_mt[80]? = some me_Rdr_takeTail := rfl
set_option maxRecDepth 5000 in
theorem mt_Col_fillUnknown : ma_mt[81]? = some me_Col_fillUnknown := rfl
set_option maxRecDepth 5000 in
theorem mt_Col_findRecurrence : ma_mt[82]? = some me_Col_findRecurrence := rfl
set_option maxRecDepth 5000 in
theorem mt_Col_markWrong : ma_mt[83]? = some me_Col_markWrong := rfl
set_option maxRecDepth 5000 in
theorem mt_Col_siftOutUnknown : ma_mt[84]? = some me_Col_siftOutUnknown := rfl
set_option maxRecDepth 5000 in
theorem mt_Arc_newRows : ma_mt[85]? = some me_Arc_newRows := rfl
set_option maxRecDepth 5000 in
theorem mt_Arc_readCut : ma_mt[86]? = some me_Arc_readCut := rfl
set_option maxRecDepth 5000 in
theorem mt_Arc_readGrown : ma_mt[87]? = some me_Arc_readGrown := rfl
set_option maxRecDepth 5000 in
theorem mt_Mod_init : ma_mt[88]? = some me_Mod_init := rfl
set_option maxRecDepth 5000 in
theorem mt_Mod_isColumn : ma_mt[89]? = some me_Mod_isColumn := rfl
set_option maxRecDepth 5000 in
theorem mt_Mod_read : ma_mt[90]? = some me_Mod_read := rfl
set_option maxRecDepth 5000 in
theorem mt_Mod_readCut : ma_mt[91]? = some me_Mod_readCut := rfl
set_option maxRecDepth 5000 in
theorem mt_Mod_readGrown : ma_mt[92]? = some me_Mod_readGrown := rfl
set_option maxRecDepth 5000 in
theorem mt_Mod_write : ma_mt[93]? = some me_Mod_write := rfl
set_option maxRecDepth 5000 in
theorem mt_Rdr_restore : ma_mt[94]? = some me_Rdr_restore := rfl
set_option maxRecDepth 5000 in
theorem mt_Col_mend : ma_mt[95]? = some me_Col_mend := rfl
set_option maxRecDepth 5000 in
theorem mt_Dec_init : ma_mt[96]? = some me_Dec_init := rfl
set_option maxRecDepth 5000 in
theorem mt_Arc_spellStrand : ma_mt[97]? = some me_Arc_spellStrand := rfl
set_option maxRecDepth 5000 in
theorem mt_Mod_isMended : ma_mt[98]? = some me_Mod_isMended := rfl
set_option maxRecDepth 5000 in
theorem mt_Dec_mendColumn : ma_mt[99]? = some me_Dec_mendColumn := rfl
set_option maxRecDepth 5000 in
theorem mt_Dec_take : ma_mt[100]? = some me_Dec_take := rfl
set_option maxRecDepth 5000 in
theorem mt_Arc_init : ma_mt[101]? = some me_Arc_init := rfl
set_option maxRecDepth 5000 in
theorem mt_Arc_fillBlock : ma_mt[102]? = some me_Arc_fillBlock := rfl
set_option maxRecDepth 5000 in
theorem mt_Mod_decode : ma_mt[103]? = some me_Mod_decode := rfl
set_option maxRecDepth 5000 in
theorem mt_Dec_finishBlock : ma_mt[104]? = some me_Dec_finishBlock := rfl
set_option maxRecDepth 5000 in
theorem mt_Arc_write : ma_mt[105]? = some me_Arc_write := rfl
set_option maxRecDepth 5000 in
theorem mt_Arc_decode : ma_mt[106]? = some me_Arc_decode := rfl
set_option maxRecDepth 5000 in
theorem mt_Arc_newRows90 : ma_mt[107]? = some me_Arc_newRows90 := rfl
