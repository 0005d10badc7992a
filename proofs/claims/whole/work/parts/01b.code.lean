/-! the code of each method is among the words -/
set_option maxRecDepth 30000 in
theorem mc_Row_append : Cond.code me_Row_append.1 me_Row_append.2.1 me_Row_append.2.2.1 me_Row_append.2.2.2.1 ∈ ma_wd := List.mem_filter.mpr ⟨List.mem_of_getElem? (i := 369) rfl, rfl⟩
set_option maxRecDepth 30000 in
theorem mc_Row_at : Cond.code me_Row_at.1 me_Row_at.2.1 me_Row_at.2.2.1 me_Row_at.2.2.2.1 ∈ ma_wd := List.mem_filter.mpr ⟨List.mem_of_getElem? (i := 392) rfl, rfl⟩
set_option maxRecDepth 30000 in
theorem mc_Row_become : Cond.code me_Row_become.1 me_Row_become.2.1 me_Row_become.2.2.1 me_Row_become.2.2.2.1 ∈ ma_wd := List.mem_filter.mpr ⟨List.mem_of_getElem? (i := 365) rfl, rfl⟩
set_option maxRecDepth 30000 in
theorem mc_Fld_over : Cond.code me_Fld_over.1 me_Fld_over.2.1 me_Fld_over.2.2.1 me_Fld_over.2.2.2.1 ∈ ma_wd := List.mem_filter.mpr ⟨List.mem_of_getElem? (i := 324) rfl, rfl⟩
set_option maxRecDepth 30000 in
theorem mc_Fld_powerOfTwo : Cond.code me_Fld_powerOfTwo.1 me_Fld_powerOfTwo.2.1 me_Fld_powerOfTwo.2.2.1 me_Fld_powerOfTwo.2.2.2.1 ∈ ma_wd := List.mem_filter.mpr ⟨List.mem_of_getElem? (i := 290) rfl, rfl⟩
set_option maxRecDepth 30000 in
theorem mc_Fld_times : Cond.code me_Fld_times.1 me_Fld_times.2.1 me_Fld_times.2.2.1 me_Fld_times.2.2.2.1 ∈ ma_wd := List.mem_filter.mpr ⟨List.mem_of_getElem? (i := 294) rfl, rfl⟩
set_option maxRecDepth 30000 in
theorem mc_Bod_ahead : Cond.code me_Bod_ahead.1 me_Bod_ahead.2.1 me_Bod_ahead.2.2.1 me_Bod_ahead.2.2.2.1 ∈ ma_wd := List.mem_filter.mpr ⟨List.mem_of_getElem? (i := 353) rfl, rfl⟩
set_option maxRecDepth 30000 in
theorem mc_Bod_rise : Cond.code me_Bod_rise.1 me_Bod_rise.2.1 me_Bod_rise.2.2.1 me_Bod_rise.2.2.2.1 ∈ ma_wd := List.mem_filter.mpr ⟨List.mem_of_getElem? (i := 361) rfl, rfl⟩
set_option maxRecDepth 30000 in
theorem mc_Bod_signature : Cond.code me_Bod_signature.1 me_Bod_signature.2.1 me_Bod_signature.2.2.1 me_Bod_signature.2.2.2.1 ∈ ma_wd := List.mem_filter.mpr ⟨List.mem_of_getElem? (i := 373) rfl, rfl⟩
set_option maxRecDepth 30000 in
theorem mc_Bod_sum : Cond.code me_Bod_sum.1 me_Bod_sum.2.1 me_Bod_sum.2.2.1 me_Bod_sum.2.2.2.1 ∈ ma_wd := List.mem_filter.mpr ⟨List.mem_of_getElem? (i := 377) rfl, rfl⟩
set_option maxRecDepth 30000 in
theorem mc_Col_countUnknown : Cond.code me_Col_countUnknown.1 me_Col_countUnknown.2.1 me_Col_countUnknown.2.2.1 me_Col_countUnknown.2.2.2.1 ∈ ma_wd := List.mem_filter.mpr ⟨List.mem_of_getElem? (i := 282) rfl, rfl⟩
set_option maxRecDepth 30000 in
theorem mc_Col_set : Cond.code me_Col_set.1 me_Col_set.2.1 me_Col_set.2.2.1 me_Col_set.2.2.2.1 ∈ ma_wd := List.mem_filter.mpr ⟨List.mem_of_getElem? (i := 274) rfl, rfl⟩
set_option maxRecDepth 30000 in
theorem mc_Dec_loseBlock : Cond.code me_Dec_loseBlock.1 me_Dec_loseBlock.2.1 me_Dec_loseBlock.2.2.1 me_Dec_loseBlock.2.2.2.1 ∈ ma_wd := List.mem_filter.mpr ⟨List.mem_of_getElem? (i := 513) rfl, rfl⟩
set_option maxRecDepth 30000 in
theorem mc_Dec_settleSlots : Cond.code me_Dec_settleSlots.1 me_Dec_settleSlots.2.1 me_Dec_settleSlots.2.2.1 me_Dec_settleSlots.2.2.2.1 ∈ ma_wd := List.mem_filter.mpr ⟨List.mem_of_getElem? (i := 503) rfl, rfl⟩
set_option maxRecDepth 30000 in
theorem mc_Arc_blocksOf : Cond.code me_Arc_blocksOf.1 me_Arc_blocksOf.2.1 me_Arc_blocksOf.2.2.1 me_Arc_blocksOf.2.2.2.1 ∈ ma_wd := List.mem_filter.mpr ⟨List.mem_of_getElem? (i := 266) rfl, rfl⟩
set_option maxRecDepth 30000 in
theorem mc_Arc_clear : Cond.code me_Arc_clear.1 me_Arc_clear.2.1 me_Arc_clear.2.2.1 me_Arc_clear.2.2.2.1 ∈ ma_wd := List.mem_filter.mpr ⟨List.mem_of_getElem? (i := 397) rfl, rfl⟩
set_option maxRecDepth 30000 in
theorem mc_Arc_count : Cond.code me_Arc_count.1 me_Arc_count.2.1 me_Arc_count.2.2.1 me_Arc_count.2.2.2.1 ∈ ma_wd := List.mem_filter.mpr ⟨List.mem_of_getElem? (i := 523) rfl, rfl⟩
set_option maxRecDepth 30000 in
theorem mc_Arc_heap : Cond.code me_Arc_heap.1 me_Arc_heap.2.1 me_Arc_heap.2.2.1 me_Arc_heap.2.2.2.1 ∈ ma_wd := List.mem_filter.mpr ⟨List.mem_of_getElem? (i := 438) rfl, rfl⟩
set_option maxRecDepth 30000 in
theorem mc_Arc_isFull : Cond.code me_Arc_isFull.1 me_Arc_isFull.2.1 me_Arc_isFull.2.2.1 me_Arc_isFull.2.2.2.1 ∈ ma_wd := List.mem_filter.mpr ⟨List.mem_of_getElem? (i := 405) rfl, rfl⟩
set_option maxRecDepth 30000 in
theorem mc_Arc_isSize : Cond.code me_Arc_isSize.1 me_Arc_isSize.2.1 me_Arc_isSize.2.2.1 me_Arc_isSize.2.2.2.1 ∈ ma_wd := List.mem_filter.mpr ⟨List.mem_of_getElem? (i := 263) rfl, rfl⟩
set_option maxRecDepth 30000 in
theorem mc_Arc_isWritten : Cond.code me_Arc_isWritten.1 me_Arc_isWritten.2.1 me_Arc_isWritten.2.2.1 me_Arc_isWritten.2.2.2.1 ∈ ma_wd := List.mem_filter.mpr ⟨List.mem_of_getElem? (i := 388) rfl, rfl⟩
set_option maxRecDepth 30000 in
theorem mc_Arc_load : Cond.code me_Arc_load.1 me_Arc_load.2.1 me_Arc_load.2.2.1 me_Arc_load.2.2.2.1 ∈ ma_wd := List.mem_filter.mpr ⟨List.mem_of_getElem? (i := 256) rfl, rfl⟩
set_option maxRecDepth 30000 in
theorem mc_Arc_nextRead : Cond.code me_Arc_nextRead.1 me_Arc_nextRead.2.1 me_Arc_nextRead.2.2.1 me_Arc_nextRead.2.2.2.1 ∈ ma_wd := List.mem_filter.mpr ⟨List.mem_of_getElem? (i := 409) rfl, rfl⟩
set_option maxRecDepth 30000 in
theorem mc_Arc_shuffle : Cond.code me_Arc_shuffle.1 me_Arc_shuffle.2.1 me_Arc_shuffle.2.2.1 me_Arc_shuffle.2.2.2.1 ∈ ma_wd := List.mem_filter.mpr ⟨List.mem_of_getElem? (i := 431) rfl, rfl⟩
set_option maxRecDepth 30000 in
theorem mc_Mod_clear : Cond.code me_Mod_clear.1 me_Mod_clear.2.1 me_Mod_clear.2.2.1 me_Mod_clear.2.2.2.1 ∈ ma_wd := List.mem_filter.mpr ⟨List.mem_of_getElem? (i := 731) rfl, rfl⟩
set_option maxRecDepth 30000 in
theorem mc_Mod_count : Cond.code me_Mod_count.1 me_Mod_count.2.1 me_Mod_count.2.2.1 me_Mod_count.2.2.2.1 ∈ ma_wd := List.mem_filter.mpr ⟨List.mem_of_getElem? (i := 805) rfl, rfl⟩
set_option maxRecDepth 30000 in
theorem mc_Mod_group : Cond.code me_Mod_group.1 me_Mod_group.2.1 me_Mod_group.2.2.1 me_Mod_group.2.2.2.1 ∈ ma_wd := List.mem_filter.mpr ⟨List.mem_of_getElem? (i := 784) rfl, rfl⟩
set_option maxRecDepth 30000 in
theorem mc_Mod_heap : Cond.code me_Mod_heap.1 me_Mod_heap.2.1 me_Mod_heap.2.2.1 me_Mod_heap.2.2.2.1 ∈ ma_wd := List.mem_filter.mpr ⟨List.mem_of_getElem? (i := 764) rfl, rfl⟩
set_option maxRecDepth 30000 in
theorem mc_Mod_in : Cond.code me_Mod_in.1 me_Mod_in.2.1 me_Mod_in.2.2.1 me_Mod_in.2.2.2.1 ∈ ma_wd := List.mem_filter.mpr ⟨List.mem_of_getElem? (i := 702) rfl, rfl⟩
set_option maxRecDepth 30000 in
theorem mc_Mod_most : Cond.code me_Mod_most.1 me_Mod_most.2.1 me_Mod_most.2.2.1 me_Mod_most.2.2.2.1 ∈ ma_wd := List.mem_filter.mpr ⟨List.mem_of_getElem? (i := 776) rfl, rfl⟩
set_option maxRecDepth 30000 in
theorem mc_Mod_ones : Cond.code me_Mod_ones.1 me_Mod_ones.2.1 me_Mod_ones.2.2.1 me_Mod_ones.2.2.2.1 ∈ ma_wd := List.mem_filter.mpr ⟨List.mem_of_getElem? (i := 797) rfl, rfl⟩
set_option maxRecDepth 30000 in
theorem mc_Mod_shuffle : Cond.code me_Mod_shuffle.1 me_Mod_shuffle.2.1 me_Mod_shuffle.2.2.1 me_Mod_shuffle.2.2.2.1 ∈ ma_wd := List.mem_filter.mpr ⟨List.mem_of_getElem? (i := 756) rfl, rfl⟩
set_option maxRecDepth 30000 in
theorem mc_Mod_signature : Cond.code me_Mod_signature.1 me_Mod_signature.2.1 me_Mod_signature.2.2.1 me_Mod_signature.2.2.2.1 ∈ ma_wd := List.mem_filter.mpr ⟨List.mem_of_getElem? (i := 719) rfl, rfl⟩
set_option maxRecDepth 30000 in
theorem mc_Mod_sum : Cond.code me_Mod_sum.1 me_Mod_sum.2.1 me_Mod_sum.2.2.1 me_Mod_sum.2.2.2.1 ∈ ma_wd := List.mem_filter.mpr ⟨List.mem_of_getElem? (i := 723) rfl, rfl⟩
set_option maxRecDepth 30000 in
theorem mc_Mod_thrown : Cond.code me_Mod_thrown.1 me_Mod_thrown.2.1 me_Mod_thrown.2.2.1 me_Mod_thrown.2.2.2.1 ∈ ma_wd := List.mem_filter.mpr ⟨List.mem_of_getElem? (i := 691) rfl, rfl⟩
set_option maxRecDepth 30000 in
theorem mc_Mod_times : Cond.code me_Mod_times.1 me_Mod_times.2.1 me_Mod_times.2.2.1 me_Mod_times.2.2.2.1 ∈ ma_wd := List.mem_filter.mpr ⟨List.mem_of_getElem? (i := 616) rfl, rfl⟩
set_option maxRecDepth 30000 in
theorem mc_Itg_bitCount : Cond.code me_Itg_bitCount.1 me_Itg_bitCount.2.1 me_Itg_bitCount.2.2.1 me_Itg_bitCount.2.2.2.1 ∈ ma_wd := List.mem_filter.mpr ⟨List.mem_of_getElem? (i := 516) rfl, rfl⟩
set_option maxRecDepth 30000 in
theorem mc_Arr_fill : Cond.code me_Arr_fill.1 me_Arr_fill.2.1 me_Arr_fill.2.2.1 me_Arr_fill.2.2.2.1 ∈ ma_wd := List.mem_filter.mpr ⟨List.mem_of_getElem? (i := 305) rfl, rfl⟩
set_option maxRecDepth 30000 in
theorem mc_Mth_floorMod : Cond.code me_Mth_floorMod.1 me_Mth_floorMod.2.1 me_Mth_floorMod.2.2.1 me_Mth_floorMod.2.2.2.1 ∈ ma_wd := List.mem_filter.mpr ⟨List.mem_of_getElem? (i := 471) rfl, rfl⟩
set_option maxRecDepth 30000 in
theorem mc_Row_init : Cond.code me_Row_init.1 me_Row_init.2.1 me_Row_init.2.2.1 me_Row_init.2.2.2.1 ∈ ma_wd := List.mem_filter.mpr ⟨List.mem_of_getElem? (i := 72) rfl, rfl⟩
set_option maxRecDepth 30000 in
theorem mc_Row_appendPart : Cond.code me_Row_appendPart.1 me_Row_appendPart.2.1 me_Row_appendPart.2.2.1 me_Row_appendPart.2.2.2.1 ∈ ma_wd := List.mem_filter.mpr ⟨List.mem_of_getElem? (i := 417) rfl, rfl⟩
set_option maxRecDepth 30000 in
theorem mc_Fld_init : Cond.code me_Fld_init.1 me_Fld_init.2.1 me_Fld_init.2.2.1 me_Fld_init.2.2.2.1 ∈ ma_wd := List.mem_filter.mpr ⟨List.mem_of_getElem? (i := 94) rfl, rfl⟩
set_option maxRecDepth 30000 in
theorem mc_Bod_init : Cond.code me_Bod_init.1 me_Bod_init.2.1 me_Bod_init.2.2.1 me_Bod_init.2.2.2.1 ∈ ma_wd := List.mem_filter.mpr ⟨List.mem_of_getElem? (i := 144) rfl, rfl⟩
set_option maxRecDepth 30000 in
theorem mc_Bod_put : Cond.code me_Bod_put.1 me_Bod_put.2.1 me_Bod_put.2.2.1 me_Bod_put.2.2.2.1 ∈ ma_wd := List.mem_filter.mpr ⟨List.mem_of_getElem? (i := 357) rfl, rfl⟩
set_option maxRecDepth 30000 in
theorem mc_Bod_spelled : Cond.code me_Bod_spelled.1 me_Bod_spelled.2.1 me_Bod_spelled.2.2.1 me_Bod_spelled.2.2.2.1 ∈ ma_wd := List.mem_filter.mpr ⟨List.mem_of_getElem? (i := 489) rfl, rfl⟩
set_option maxRecDepth 30000 in
theorem mc_Rdr_isDue : Cond.code me_Rdr_isDue.1 me_Rdr_isDue.2.1 me_Rdr_isDue.2.2.1 me_Rdr_isDue.2.2.2.1 ∈ ma_wd := List.mem_filter.mpr ⟨List.mem_of_getElem? (i := 475) rfl, rfl⟩
set_option maxRecDepth 30000 in
theorem mc_Rdr_majority : Cond.code me_Rdr_majority.1 me_Rdr_majority.2.1 me_Rdr_majority.2.2.1 me_Rdr_majority.2.2.2.1 ∈ ma_wd := List.mem_filter.mpr ⟨List.mem_of_getElem? (i := 462) rfl, rfl⟩
set_option maxRecDepth 30000 in
theorem mc_Col_init : Cond.code me_Col_init.1 me_Col_init.2.1 me_Col_init.2.2.1 me_Col_init.2.2.2.1 ∈ ma_wd := List.mem_filter.mpr ⟨List.mem_of_getElem? (i := 107) rfl, rfl⟩
set_option maxRecDepth 30000 in
theorem mc_Col_addUp : Cond.code me_Col_addUp.1 me_Col_addUp.2.1 me_Col_addUp.2.2.1 me_Col_addUp.2.2.2.1 ∈ ma_wd := List.mem_filter.mpr ⟨List.mem_of_getElem? (i := 286) rfl, rfl⟩
set_option maxRecDepth 30000 in
theorem mc_Col_missAt : Cond.code me_Col_missAt.1 me_Col_missAt.2.1 me_Col_missAt.2.2.1 me_Col_missAt.2.2.2.1 ∈ ma_wd := List.mem_filter.mpr ⟨List.mem_of_getElem? (i := 317) rfl, rfl⟩
set_option maxRecDepth 30000 in
theorem mc_Col_polynomialAt : Cond.code me_Col_polynomialAt.1 me_Col_polynomialAt.2.1 me_Col_polynomialAt.2.2.1 me_Col_polynomialAt.2.2.2.1 ∈ ma_wd := List.mem_filter.mpr ⟨List.mem_of_getElem? (i := 340) rfl, rfl⟩
set_option maxRecDepth 30000 in
theorem mc_Col_recurrenceAt : Cond.code me_Col_recurrenceAt.1 me_Col_recurrenceAt.2.1 me_Col_recurrenceAt.2.2.1 me_Col_recurrenceAt.2.2.2.1 ∈ ma_wd := List.mem_filter.mpr ⟨List.mem_of_getElem? (i := 332) rfl, rfl⟩
set_option maxRecDepth 30000 in
theorem mc_Col_spanUnknown : Cond.code me_Col_spanUnknown.1 me_Col_spanUnknown.2.1 me_Col_spanUnknown.2.2.1 me_Col_spanUnknown.2.2.2.1 ∈ ma_wd := List.mem_filter.mpr ⟨List.mem_of_getElem? (i := 302) rfl, rfl⟩
set_option maxRecDepth 30000 in
theorem mc_Col_weigh : Cond.code me_Col_weigh.1 me_Col_weigh.2.1 me_Col_weigh.2.2.1 me_Col_weigh.2.2.2.1 ∈ ma_wd := List.mem_filter.mpr ⟨List.mem_of_getElem? (i := 309) rfl, rfl⟩
set_option maxRecDepth 30000 in
theorem mc_Dec_begin : Cond.code me_Dec_begin.1 me_Dec_begin.2.1 me_Dec_begin.2.2.1 me_Dec_begin.2.2.2.1 ∈ ma_wd := List.mem_filter.mpr ⟨List.mem_of_getElem? (i := 446) rfl, rfl⟩
set_option maxRecDepth 30000 in
theorem mc_Dec_slotOf : Cond.code me_Dec_slotOf.1 me_Dec_slotOf.2.1 me_Dec_slotOf.2.2.1 me_Dec_slotOf.2.2.2.1 ∈ ma_wd := List.mem_filter.mpr ⟨List.mem_of_getElem? (i := 494) rfl, rfl⟩
set_option maxRecDepth 30000 in
theorem mc_Arc_appendCopies : Cond.code me_Arc_appendCopies.1 me_Arc_appendCopies.2.1 me_Arc_appendCopies.2.2.1 me_Arc_appendCopies.2.2.2.1 ∈ ma_wd := List.mem_filter.mpr ⟨List.mem_of_getElem? (i := 380) rfl, rfl⟩
set_option maxRecDepth 30000 in
theorem mc_Arc_forge : Cond.code me_Arc_forge.1 me_Arc_forge.2.1 me_Arc_forge.2.2.1 me_Arc_forge.2.2.2.1 ∈ ma_wd := List.mem_filter.mpr ⟨List.mem_of_getElem? (i := 427) rfl, rfl⟩
set_option maxRecDepth 30000 in
theorem mc_Arc_letter : Cond.code me_Arc_letter.1 me_Arc_letter.2.1 me_Arc_letter.2.2.1 me_Arc_letter.2.2.2.1 ∈ ma_wd := List.mem_filter.mpr ⟨List.mem_of_getElem? (i := 384) rfl, rfl⟩
set_option maxRecDepth 30000 in
theorem mc_Arc_product : Cond.code me_Arc_product.1 me_Arc_product.2.1 me_Arc_product.2.2.1 me_Arc_product.2.2.2.1 ∈ ma_wd := List.mem_filter.mpr ⟨List.mem_of_getElem? (i := 527) rfl, rfl⟩
set_option maxRecDepth 30000 in
theorem mc_Arc_read : Cond.code me_Arc_read.1 me_Arc_read.2.1 me_Arc_read.2.2.1 me_Arc_read.2.2.2.1 ∈ ma_wd := List.mem_filter.mpr ⟨List.mem_of_getElem? (i := 401) rfl, rfl⟩
set_option maxRecDepth 30000 in
theorem mc_Mod_block : Cond.code me_Mod_block.1 me_Mod_block.2.1 me_Mod_block.2.2.1 me_Mod_block.2.2.2.1 ∈ ma_wd := List.mem_filter.mpr ⟨List.mem_of_getElem? (i := 809) rfl, rfl⟩
set_option maxRecDepth 30000 in
theorem mc_Mod_come : Cond.code me_Mod_come.1 me_Mod_come.2.1 me_Mod_come.2.2.1 me_Mod_come.2.2.2.1 ∈ ma_wd := List.mem_filter.mpr ⟨List.mem_of_getElem? (i := 739) rfl, rfl⟩
set_option maxRecDepth 30000 in
theorem mc_Mod_forge : Cond.code me_Mod_forge.1 me_Mod_forge.2.1 me_Mod_forge.2.2.1 me_Mod_forge.2.2.2.1 ∈ ma_wd := List.mem_filter.mpr ⟨List.mem_of_getElem? (i := 751) rfl, rfl⟩
set_option maxRecDepth 30000 in
theorem mc_Mod_inverse : Cond.code me_Mod_inverse.1 me_Mod_inverse.2.1 me_Mod_inverse.2.2.1 me_Mod_inverse.2.2.2.1 ∈ ma_wd := List.mem_filter.mpr ⟨List.mem_of_getElem? (i := 619) rfl, rfl⟩
set_option maxRecDepth 30000 in
theorem mc_Mod_isFound : Cond.code me_Mod_isFound.1 me_Mod_isFound.2.1 me_Mod_isFound.2.2.1 me_Mod_isFound.2.2.2.1 ∈ ma_wd := List.mem_filter.mpr ⟨List.mem_of_getElem? (i := 772) rfl, rfl⟩
set_option maxRecDepth 30000 in
theorem mc_Mod_lay : Cond.code me_Mod_lay.1 me_Mod_lay.2.1 me_Mod_lay.2.2.1 me_Mod_lay.2.2.2.1 ∈ ma_wd := List.mem_filter.mpr ⟨List.mem_of_getElem? (i := 714) rfl, rfl⟩
set_option maxRecDepth 30000 in
theorem mc_Mod_letter : Cond.code me_Mod_letter.1 me_Mod_letter.2.1 me_Mod_letter.2.2.1 me_Mod_letter.2.2.2.1 ∈ ma_wd := List.mem_filter.mpr ⟨List.mem_of_getElem? (i := 727) rfl, rfl⟩
set_option maxRecDepth 30000 in
theorem mc_Mod_load : Cond.code me_Mod_load.1 me_Mod_load.2.1 me_Mod_load.2.2.1 me_Mod_load.2.2.2.1 ∈ ma_wd := List.mem_filter.mpr ⟨List.mem_of_getElem? (i := 699) rfl, rfl⟩
set_option maxRecDepth 30000 in
theorem mc_Mod_out : Cond.code me_Mod_out.1 me_Mod_out.2.1 me_Mod_out.2.2.1 me_Mod_out.2.2.2.1 ∈ ma_wd := List.mem_filter.mpr ⟨List.mem_of_getElem? (i := 801) rfl, rfl⟩
set_option maxRecDepth 30000 in
theorem mc_Mod_power : Cond.code me_Mod_power.1 me_Mod_power.2.1 me_Mod_power.2.2.1 me_Mod_power.2.2.2.1 ∈ ma_wd := List.mem_filter.mpr ⟨List.mem_of_getElem? (i := 613) rfl, rfl⟩
set_option maxRecDepth 30000 in
theorem mc_Mod_product : Cond.code me_Mod_product.1 me_Mod_product.2.1 me_Mod_product.2.2.1 me_Mod_product.2.2.2.1 ∈ ma_wd := List.mem_filter.mpr ⟨List.mem_of_getElem? (i := 695) rfl, rfl⟩
set_option maxRecDepth 30000 in
theorem mc_Mod_slot : Cond.code me_Mod_slot.1 me_Mod_slot.2.1 me_Mod_slot.2.2.1 me_Mod_slot.2.2.2.1 ∈ ma_wd := List.mem_filter.mpr ⟨List.mem_of_getElem? (i := 780) rfl, rfl⟩
set_option maxRecDepth 30000 in
theorem mc_Mod_solved : Cond.code me_Mod_solved.1 me_Mod_solved.2.1 me_Mod_solved.2.2.1 me_Mod_solved.2.2.2.1 ∈ ma_wd := List.mem_filter.mpr ⟨List.mem_of_getElem? (i := 710) rfl, rfl⟩
set_option maxRecDepth 30000 in
theorem mc_Bod_spell : Cond.code me_Bod_spell.1 me_Bod_spell.2.1 me_Bod_spell.2.2.1 me_Bod_spell.2.2.2.1 ∈ ma_wd := List.mem_filter.mpr ⟨List.mem_of_getElem? (i := 348) rfl, rfl⟩
set_option maxRecDepth 30000 in
theorem mc_Rdr_init : Cond.code me_Rdr_init.1 me_Rdr_init.2.1 me_Rdr_init.2.2.1 me_Rdr_init.2.2.2.1 ∈ ma_wd := List.mem_filter.mpr ⟨List.mem_of_getElem? (i := 167) rfl, rfl⟩
set_option maxRecDepth 30000 in
theorem mc_Rdr_restoreCut : Cond.code me_Rdr_restoreCut.1 me_Rdr_restoreCut.2.1 me_Rdr_restoreCut.2.2.1 me_Rdr_restoreCut.2.2.2.1 ∈ ma_wd := List.mem_filter.mpr ⟨List.mem_of_getElem? (i := 467) rfl, rfl⟩
set_option maxRecDepth 30000 in
theorem mc_Rdr_restoreGrown : Cond.code me_Rdr_restoreGrown.1 me_Rdr_restoreGrown.2.1 me_Rdr_restoreGrown.2.2.1 me_Rdr_restoreGrown.2.2.2.1 ∈ ma_wd := List.mem_filter.mpr ⟨List.mem_of_getElem? (i := 485) rfl, rfl⟩
set_option maxRecDepth 30000 in
theorem mc_Rdr_restoreWhole : Cond.code me_Rdr_restoreWhole.1 me_Rdr_restoreWhole.2.1 me_Rdr_restoreWhole.2.2.1 me_Rdr_restoreWhole.2.2.2.1 ∈ ma_wd := List.mem_filter.mpr ⟨List.mem_of_getElem? (i := 481) rfl, rfl⟩
set_option maxRecDepth 30000 in
theorem mc_Rdr_takeTail : Cond.code me_Rdr_takeTail.1 me_Rdr_takeTail.2.1 me_Rdr_takeTail.2.2.1 me_Rdr_takeTail.2.2.2.1 ∈ ma_wd := List.mem_filter.mpr ⟨List.mem_of_getElem? (i := 459) rfl, rfl⟩
set_option maxRecDepth 30000 in
theorem mc_Col_fillUnknown : Cond.code me_Col_fillUnknown.1 me_Col_fillUnknown.2.1 me_Col_fillUnknown.2.2.1 me_Col_fillUnknown.2.2.2.1 ∈ ma_wd := List.mem_filter.mpr ⟨List.mem_of_getElem? (i := 336) rfl, rfl⟩
set_option maxRecDepth 30000 in
theorem mc_Col_findRecurrence : Cond.code me_Col_findRecurrence.1 me_Col_findRecurrence.2.1 me_Col_findRecurrence.2.2.1 me_Col_findRecurrence.2.2.2.1 ∈ ma_wd := List.mem_filter.mpr ⟨List.mem_of_getElem? (i := 313) rfl, rfl⟩
set_option maxRecDepth 30000 in
theorem mc_Col_markWrong : Cond.code me_Col_markWrong.1 me_Col_markWrong.2.1 me_Col_markWrong.2.2.1 me_Col_markWrong.2.2.2.1 ∈ ma_wd := List.mem_filter.mpr ⟨List.mem_of_getElem? (i := 328) rfl, rfl⟩
set_option maxRecDepth 30000 in
theorem mc_Col_siftOutUnknown : Cond.code me_Col_siftOutUnknown.1 me_Col_siftOutUnknown.2.1 me_Col_siftOutUnknown.2.2.1 me_Col_siftOutUnknown.2.2.2.1 ∈ ma_wd := List.mem_filter.mpr ⟨List.mem_of_getElem? (i := 298) rfl, rfl⟩
set_option maxRecDepth 30000 in
theorem mc_Arc_newRows : Cond.code me_Arc_newRows.1 me_Arc_newRows.2.1 me_Arc_newRows.2.2.1 me_Arc_newRows.2.2.2.1 ∈ ma_wd := List.mem_filter.mpr ⟨List.mem_of_getElem? (i := 66) rfl, rfl⟩
set_option maxRecDepth 30000 in
theorem mc_Arc_newRows90 : Cond.code me_Arc_newRows90.1 me_Arc_newRows90.2.1 me_Arc_newRows90.2.2.1 me_Arc_newRows90.2.2.2.1 ∈ ma_wd := List.mem_filter.mpr ⟨List.mem_of_getElem? (i := 66) rfl, rfl⟩
set_option maxRecDepth 30000 in
theorem mc_Arc_readCut : Cond.code me_Arc_readCut.1 me_Arc_readCut.2.1 me_Arc_readCut.2.2.1 me_Arc_readCut.2.2.2.1 ∈ ma_wd := List.mem_filter.mpr ⟨List.mem_of_getElem? (i := 413) rfl, rfl⟩
set_option maxRecDepth 30000 in
theorem mc_Arc_readGrown : Cond.code me_Arc_readGrown.1 me_Arc_readGrown.2.1 me_Arc_readGrown.2.2.1 me_Arc_readGrown.2.2.2.1 ∈ ma_wd := List.mem_filter.mpr ⟨List.mem_of_getElem? (i := 423) rfl, rfl⟩
set_option maxRecDepth 30000 in
theorem mc_Mod_init : Cond.code me_Mod_init.1 me_Mod_init.2.1 me_Mod_init.2.2.1 me_Mod_init.2.2.2.1 ∈ ma_wd := List.mem_filter.mpr ⟨List.mem_of_getElem? (i := 609) rfl, rfl⟩
set_option maxRecDepth 30000 in
theorem mc_Mod_isColumn : Cond.code me_Mod_isColumn.1 me_Mod_isColumn.2.1 me_Mod_isColumn.2.2.1 me_Mod_isColumn.2.2.2.1 ∈ ma_wd := List.mem_filter.mpr ⟨List.mem_of_getElem? (i := 793) rfl, rfl⟩
set_option maxRecDepth 30000 in
theorem mc_Mod_read : Cond.code me_Mod_read.1 me_Mod_read.2.1 me_Mod_read.2.2.1 me_Mod_read.2.2.2.1 ∈ ma_wd := List.mem_filter.mpr ⟨List.mem_of_getElem? (i := 735) rfl, rfl⟩
set_option maxRecDepth 30000 in
theorem mc_Mod_readCut : Cond.code me_Mod_readCut.1 me_Mod_readCut.2.1 me_Mod_readCut.2.2.1 me_Mod_readCut.2.2.2.1 ∈ ma_wd := List.mem_filter.mpr ⟨List.mem_of_getElem? (i := 743) rfl, rfl⟩
set_option maxRecDepth 30000 in
theorem mc_Mod_readGrown : Cond.code me_Mod_readGrown.1 me_Mod_readGrown.2.1 me_Mod_readGrown.2.2.1 me_Mod_readGrown.2.2.2.1 ∈ ma_wd := List.mem_filter.mpr ⟨List.mem_of_getElem? (i := 747) rfl, rfl⟩
set_option maxRecDepth 30000 in
theorem mc_Mod_write : Cond.code me_Mod_write.1 me_Mod_write.2.1 me_Mod_write.2.2.1 me_Mod_write.2.2.2.1 ∈ ma_wd := List.mem_filter.mpr ⟨List.mem_of_getElem? (i := 706) rfl, rfl⟩
set_option maxRecDepth 30000 in
theorem mc_Rdr_restore : Cond.code me_Rdr_restore.1 me_Rdr_restore.2.1 me_Rdr_restore.2.2.1 me_Rdr_restore.2.2.2.1 ∈ ma_wd := List.mem_filter.mpr ⟨List.mem_of_getElem? (i := 455) rfl, rfl⟩
set_option maxRecDepth 30000 in
theorem mc_Col_mend : Cond.code me_Col_mend.1 me_Col_mend.2.1 me_Col_mend.2.2.1 me_Col_mend.2.2.2.1 ∈ ma_wd := List.mem_filter.mpr ⟨List.mem_of_getElem? (i := 278) rfl, rfl⟩
set_option maxRecDepth 30000 in
theorem mc_Dec_init : Cond.code me_Dec_init.1 me_Dec_init.2.1 me_Dec_init.2.2.1 me_Dec_init.2.2.2.1 ∈ ma_wd := List.mem_filter.mpr ⟨List.mem_of_getElem? (i := 161) rfl, rfl⟩
set_option maxRecDepth 30000 in
theorem mc_Arc_spellStrand : Cond.code me_Arc_spellStrand.1 me_Arc_spellStrand.2.1 me_Arc_spellStrand.2.2.1 me_Arc_spellStrand.2.2.2.1 ∈ ma_wd := List.mem_filter.mpr ⟨List.mem_of_getElem? (i := 344) rfl, rfl⟩
set_option maxRecDepth 30000 in
theorem mc_Mod_isMended : Cond.code me_Mod_isMended.1 me_Mod_isMended.2.1 me_Mod_isMended.2.2.1 me_Mod_isMended.2.2.2.1 ∈ ma_wd := List.mem_filter.mpr ⟨List.mem_of_getElem? (i := 789) rfl, rfl⟩
set_option maxRecDepth 30000 in
theorem mc_Dec_mendColumn : Cond.code me_Dec_mendColumn.1 me_Dec_mendColumn.2.1 me_Dec_mendColumn.2.2.1 me_Dec_mendColumn.2.2.2.1 ∈ ma_wd := List.mem_filter.mpr ⟨List.mem_of_getElem? (i := 507) rfl, rfl⟩
set_option maxRecDepth 30000 in
theorem mc_Dec_take : Cond.code me_Dec_take.1 me_Dec_take.2.1 me_Dec_take.2.2.1 me_Dec_take.2.2.2.1 ∈ ma_wd := List.mem_filter.mpr ⟨List.mem_of_getElem? (i := 451) rfl, rfl⟩
set_option maxRecDepth 30000 in
theorem mc_Arc_init : Cond.code me_Arc_init.1 me_Arc_init.2.1 me_Arc_init.2.2.1 me_Arc_init.2.2.2.1 ∈ ma_wd := List.mem_filter.mpr ⟨List.mem_of_getElem? (i := 60) rfl, rfl⟩
set_option maxRecDepth 30000 in
theorem mc_Arc_fillBlock : Cond.code me_Arc_fillBlock.1 me_Arc_fillBlock.2.1 me_Arc_fillBlock.2.2.1 me_Arc_fillBlock.2.2.2.1 ∈ ma_wd := List.mem_filter.mpr ⟨List.mem_of_getElem? (i := 270) rfl, rfl⟩
set_option maxRecDepth 30000 in
theorem mc_Mod_decode : Cond.code me_Mod_decode.1 me_Mod_decode.2.1 me_Mod_decode.2.2.1 me_Mod_decode.2.2.2.1 ∈ ma_wd := List.mem_filter.mpr ⟨List.mem_of_getElem? (i := 768) rfl, rfl⟩
set_option maxRecDepth 30000 in
theorem mc_Dec_finishBlock : Cond.code me_Dec_finishBlock.1 me_Dec_finishBlock.2.1 me_Dec_finishBlock.2.2.1 me_Dec_finishBlock.2.2.2.1 ∈ ma_wd := List.mem_filter.mpr ⟨List.mem_of_getElem? (i := 499) rfl, rfl⟩
set_option maxRecDepth 30000 in
theorem mc_Arc_write : Cond.code me_Arc_write.1 me_Arc_write.2.1 me_Arc_write.2.2.1 me_Arc_write.2.2.2.1 ∈ ma_wd := List.mem_filter.mpr ⟨List.mem_of_getElem? (i := 260) rfl, rfl⟩
set_option maxRecDepth 30000 in
theorem mc_Arc_decode : Cond.code me_Arc_decode.1 me_Arc_decode.2.1 me_Arc_decode.2.2.1 me_Arc_decode.2.2.2.1 ∈ ma_wd := List.mem_filter.mpr ⟨List.mem_of_getElem? (i := 442) rfl, rfl⟩
set_option maxRecDepth 30000 in
theorem ma_mtok : ∀ mj ∈ ma_mt, Cond.code mj.1 mj.2.1 mj.2.2.1 mj.2.2.2.1 ∈ ma_wd := List.forall_mem_cons.mpr ⟨mc_Row_append, List.forall_mem_cons.mpr ⟨mc_Row_append, List.forall_mem_cons.mpr ⟨mc_Row_at, List.forall_mem_cons.mpr ⟨mc_Row_become, List.forall_mem_cons.mpr ⟨mc_Fld_over, List.forall_mem_cons.mpr ⟨mc_Fld_powerOfTwo, List.forall_mem_cons.mpr ⟨mc_Fld_times, List.forall_mem_cons.mpr ⟨mc_Bod_ahead, List.forall_mem_cons.mpr ⟨mc_Bod_rise, List.forall_mem_cons.mpr ⟨mc_Bod_signature, List.forall_mem_cons.mpr ⟨mc_Bod_sum, List.forall_mem_cons.mpr ⟨mc_Col_countUnknown, List.forall_mem_cons.mpr ⟨mc_Col_set, List.forall_mem_cons.mpr ⟨mc_Dec_loseBlock, List.forall_mem_cons.mpr ⟨mc_Dec_settleSlots, List.forall_mem_cons.mpr ⟨mc_Arc_blocksOf, List.forall_mem_cons.mpr ⟨mc_Arc_clear, List.forall_mem_cons.mpr ⟨mc_Arc_count, List.forall_mem_cons.mpr ⟨mc_Arc_heap, List.forall_mem_cons.mpr ⟨mc_Arc_isFull, List.forall_mem_cons.mpr ⟨mc_Arc_isSize, List.forall_mem_cons.mpr ⟨mc_Arc_isWritten, List.forall_mem_cons.mpr ⟨mc_Arc_load, List.forall_mem_cons.mpr ⟨mc_Arc_nextRead, List.forall_mem_cons.mpr ⟨mc_Arc_shuffle, List.forall_mem_cons.mpr ⟨mc_Mod_clear, List.forall_mem_cons.mpr ⟨mc_Mod_count, List.forall_mem_cons.mpr ⟨mc_Mod_group, List.forall_mem_cons.mpr ⟨mc_Mod_heap, List.forall_mem_cons.mpr ⟨mc_Mod_in, List.forall_mem_cons.mpr ⟨mc_Mod_most, List.forall_mem_cons.mpr ⟨mc_Mod_ones, List.forall_mem_cons.mpr ⟨mc_Mod_shuffle, List.forall_mem_cons.mpr ⟨mc_Mod_signature, List.forall_mem_cons.mpr ⟨mc_Mod_sum, List.forall_mem_cons.mpr ⟨mc_Mod_thrown, List.forall_mem_cons.mpr ⟨mc_Mod_times, List.forall_mem_cons.mpr ⟨mc_Itg_bitCount, List.forall_mem_cons.mpr ⟨mc_Arr_fill, List.forall_mem_cons.mpr ⟨mc_Mth_floorMod, List.forall_mem_cons.mpr ⟨mc_Row_init, List.forall_mem_cons.mpr ⟨mc_Row_appendPart, List.forall_mem_cons.mpr ⟨mc_Fld_init, List.forall_mem_cons.mpr ⟨mc_Bod_init, List.forall_mem_cons.mpr ⟨mc_Bod_put, List.forall_mem_cons.mpr ⟨mc_Bod_spelled, List.forall_mem_cons.mpr ⟨mc_Rdr_isDue, List.forall_mem_cons.mpr ⟨mc_Rdr_majority, List.forall_mem_cons.mpr ⟨mc_Col_init, List.forall_mem_cons.mpr ⟨mc_Col_addUp, List.forall_mem_cons.mpr ⟨mc_Col_missAt, List.forall_mem_cons.mpr ⟨mc_Col_polynomialAt, List.forall_mem_cons.mpr ⟨mc_Col_recurrenceAt, List.forall_mem_cons.mpr ⟨mc_Col_spanUnknown, List.forall_mem_cons.mpr ⟨mc_Col_weigh, List.forall_mem_cons.mpr ⟨mc_Dec_begin, List.forall_mem_cons.mpr ⟨mc_Dec_slotOf, List.forall_mem_cons.mpr ⟨mc_Arc_appendCopies, List.forall_mem_cons.mpr ⟨mc_Arc_forge, List.forall_mem_cons.mpr ⟨mc_Arc_letter, List.forall_mem_cons.mpr ⟨mc_Arc_product, List.forall_mem_cons.mpr ⟨mc_Arc_read, List.forall_mem_cons.mpr ⟨mc_Mod_block, List.forall_mem_cons.mpr ⟨mc_Mod_come, List.forall_mem_cons.mpr ⟨mc_Mod_forge, List.forall_mem_cons.mpr ⟨mc_Mod_inverse, List.forall_mem_cons.mpr ⟨mc_Mod_isFound, List.forall_mem_cons.mpr ⟨mc_Mod_lay, List.forall_mem_cons.mpr ⟨mc_Mod_letter, List.forall_mem_cons.mpr ⟨mc_Mod_load, List.forall_mem_cons.mpr ⟨mc_Mod_out, List.forall_mem_cons.mpr ⟨mc_Mod_power, List.forall_mem_cons.mpr ⟨mc_Mod_product, List.forall_mem_cons.mpr ⟨mc_Mod_slot, List.forall_mem_cons.mpr ⟨mc_Mod_solved, List.forall_mem_cons.mpr ⟨mc_Bod_spell, List.forall_mem_cons.mpr ⟨mc_Rdr_init, List.forall_mem_cons.mpr ⟨mc_Rdr_restoreCut, List.forall_mem_cons.mpr ⟨mc_Rdr_restoreGrown, List.forall_mem_cons.mpr ⟨mc_Rdr_restoreWhole, List.forall_mem_cons.mpr ⟨mc_Rdr_takeTail, List.forall_mem_cons.mpr ⟨mc_Col_fillUnknown, List.forall_mem_cons.mpr ⟨mc_Col_findRecurrence, List.forall_mem_cons.mpr ⟨mc_Col_markWrong, List.forall_mem_cons.mpr ⟨mc_Col_siftOutUnknown, List.forall_mem_cons.mpr ⟨mc_Arc_newRows, List.forall_mem_cons.mpr ⟨mc_Arc_readCut, List.forall_mem_cons.mpr ⟨mc_Arc_readGrown, List.forall_mem_cons.mpr ⟨mc_Mod_init, List.forall_mem_cons.mpr ⟨mc_Mod_isColumn, List.forall_mem_cons.mpr ⟨mc_Mod_read, List.forall_mem_cons.mpr ⟨mc_Mod_readCut, List.forall_mem_cons.mpr ⟨mc_Mod_readGrown, List.forall_mem_cons.mpr ⟨mc_Mod_write, List.forall_mem_cons.mpr ⟨mc_Rdr_restore, List.forall_mem_cons.mpr ⟨mc_Col_mend, List.forall_mem_cons.mpr ⟨mc_Dec_init, List.forall_mem_cons.mpr ⟨mc_Arc_spellStrand, List.forall_mem_cons.mpr ⟨mc_Mod_isMended, List.forall_mem_cons.mpr ⟨mc_Dec_mendColumn, List.forall_mem_cons.mpr ⟨mc_Dec_take, List.forall_mem_cons.mpr ⟨mc_Arc_init, List.forall_mem_cons.mpr ⟨mc_Arc_fillBlock, List.forall_mem_cons.mpr ⟨mc_Mod_decode, List.forall_mem_cons.mpr ⟨mc_Dec_finishBlock, List.forall_mem_cons.mpr ⟨mc_Arc_write, List.forall_mem_cons.mpr ⟨mc_Arc_decode, List.forall_mem_cons.mpr ⟨mc_Arc_newRows90, fun _ h => absurd h List.not_mem_nil⟩⟩⟩⟩⟩⟩⟩⟩⟩⟩⟩⟩⟩⟩⟩⟩⟩⟩⟩⟩⟩⟩⟩⟩⟩⟩⟩⟩⟩⟩⟩⟩⟩⟩⟩⟩⟩⟩⟩⟩⟩⟩⟩⟩⟩⟩⟩⟩⟩⟩⟩⟩⟩⟩⟩⟩⟩⟩⟩⟩⟩⟩⟩⟩⟩⟩⟩⟩⟩⟩⟩⟩⟩⟩⟩⟩⟩⟩⟩⟩⟩⟩⟩⟩⟩⟩⟩⟩⟩⟩⟩⟩⟩⟩⟩⟩⟩⟩⟩⟩⟩⟩⟩⟩⟩⟩⟩⟩
