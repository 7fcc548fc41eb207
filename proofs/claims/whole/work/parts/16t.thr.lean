theorem thr_1 : thrOk RX6 274 278 "java/lang/IndexOutOfBoundsException" := ⟨⟨wd_503, wd_22, by decide +kernel, by decide⟩, fun w hw => lw_allOf ((by decide +kernel : ∀ w ∈ (vx_atS RX6 278 "java/lang/IndexOutOfBoundsException" excChain).filter goodWord, w ∈ lw_tbl) w hw) (List.mem_filter.mp hw).2, by decide +kernel, by decide +kernel⟩
theorem thr_2 : thrOk RX6 81 85 "java/lang/IllegalArgumentException" := ⟨⟨wd_405, wd_11, by decide +kernel, by decide⟩, fun w hw => lw_allOf ((by decide +kernel : ∀ w ∈ (vx_atS RX6 85 "java/lang/IllegalArgumentException" excChain).filter goodWord, w ∈ lw_tbl) w hw) (List.mem_filter.mp hw).2, by decide +kernel, by decide +kernel⟩
theorem thr_3 : thrOk RX6 258 262 "java/lang/IllegalStateException" := ⟨⟨wd_960, wd_25, by decide +kernel, by decide⟩, fun w hw => lw_allOf ((by decide +kernel : ∀ w ∈ (vx_atS RX6 262 "java/lang/IllegalStateException" excChain).filter goodWord, w ∈ lw_tbl) w hw) (List.mem_filter.mp hw).2, by decide +kernel, by decide +kernel⟩
theorem thr_4 : (Cond.classLink RX6 207 nse ∈ lw_all ∧ Cond.initialized nse ∈ lw_all) ∧ (∀ w ∈ (nx_words.filter vx_no).filter goodWord, w ∈ lw_all) ∧ (∀ w ∈ (nx_words.filter vx_no).filter (fun w => !goodWord w), w ∈ Cond.castable nse nse :: lw_decl.map Cond.declares) := ⟨⟨wd_820, wd_23⟩, fun w hw => lw_allOf ((by decide +kernel : ∀ w ∈ (nx_words.filter vx_no).filter goodWord, w ∈ lw_tbl) w hw) (List.mem_filter.mp hw).2, by decide +kernel⟩
theorem mth_X1_p : Mth yX1_p cX1_p 1 (some .int) 0 := ⟨wd_295, wd_6, by decide +kernel, by decide⟩
theorem mth_X6_moireWith : Mth yX6_moireWith cX6_moireWith 8 (some .double) 3 := ⟨wd_291, wd_1, by decide +kernel, by decide⟩
theorem mth_X6_greatestMoire : Mth yX6_greatestMoire cX6_greatestMoire 9 (some .double) 3 := ⟨wd_864, wd_1, by decide +kernel, by decide⟩
theorem mth_X6_requirePlate : Mth yX6_requirePlate cX6_requirePlate 2 none 1 := ⟨wd_502, wd_1, by decide +kernel, by decide⟩
theorem mth_X6_bestTurn : Mth yX6_bestTurn cX6_bestTurn 9 (some .int) 1 := ⟨wd_860, wd_1, by decide +kernel, by decide⟩
theorem mth_L_bestTurn : Cond.codeWith yL_bestTurn cL_bestTurn 4 (some .int) [(0, 9, 12, 25)] ∈ lw_all ∧ Cond.initialized (yL_bestTurn).cls ∈ lw_all ∧ ((yL_bestTurn).cls ≠ "java/lang/invoke/MethodHandle" ∧ (yL_bestTurn).cls ≠ "java/lang/invoke/VarHandle" ∧ (parseMethodDescriptor (yL_bestTurn).desc).map (fun d => d.parameters.length) = some 3) ∧ 4 ≤ 41 := ⟨wd_856, wd_0, by decide +kernel, by decide⟩
theorem mth_X2_hasDot : Mth yX2_hasDot cX2_hasDot 3 (some .boolean) 2 := ⟨wd_535, wd_2, by decide +kernel, by decide⟩
theorem mth_X5_indexOfCell : Mth yX5_indexOfCell cX5_indexOfCell 3 (some .int) 2 := ⟨wd_311, wd_5, by decide +kernel, by decide⟩
theorem mth_X2_isDotAt : Mth yX2_isDotAt cX2_isDotAt 5 (some .boolean) 4 := ⟨wd_531, wd_2, by decide +kernel, by decide⟩
theorem mth_X2_isSpot : Mth yX2_isSpot cX2_isSpot 5 (some .boolean) 4 := ⟨wd_527, wd_2, by decide +kernel, by decide⟩
theorem mth_X3_rankOf : Mth yX3_rankOf cX3_rankOf 3 (some .int) 2 := ⟨wd_384, wd_3, by decide +kernel, by decide⟩
theorem mth_X2_rankAt : Mth yX2_rankAt cX2_rankAt 5 (some .int) 4 := ⟨wd_380, wd_2, by decide +kernel, by decide⟩
theorem mth_J7_fill_53178 : Mth yJ7_fill_53178 cJ7_fill_53178 4 none 2 := ⟨wd_335, wd_17, by decide +kernel, by decide⟩
theorem mth_J6_bitCount_0f7a4 : Mth yJ6_bitCount_0f7a4 cJ6_bitCount_0f7a4 1 (some .int) 1 := ⟨wd_364, wd_21, by decide +kernel, by decide⟩
theorem mth_X2_isDark : Mth yX2_isDark cX2_isDark 6 (some .boolean) 4 := ⟨wd_375, wd_2, by decide +kernel, by decide⟩
theorem mth_J9_abs_0f7a4 : Mth yJ9_abs_0f7a4 cJ9_abs_0f7a4 1 (some .int) 1 := ⟨wd_358, wd_12, by decide +kernel, by decide⟩
theorem mth_J9_max_7cf53 : Mth yJ9_max_7cf53 cJ9_max_7cf53 2 (some .int) 2 := ⟨wd_361, wd_12, by decide +kernel, by decide⟩
theorem mth_J9_floorMod_7cf53 : Mth yJ9_floorMod_7cf53 cJ9_floorMod_7cf53 3 (some .int) 2 := ⟨wd_355, wd_12, by decide +kernel, by decide⟩
theorem mth_X6_remainder : Mth yX6_remainder cX6_remainder 2 (some .int) 2 := ⟨wd_352, wd_1, by decide +kernel, by decide⟩
theorem mth_X3_measureAt : Mth yX3_measureAt cX3_measureAt 5 (some .int) 2 := ⟨wd_349, wd_3, by decide +kernel, by decide⟩
theorem mth_X3_fit : Mth yX3_fit cX3_fit 6 none 2 := ⟨wd_343, wd_3, by decide +kernel, by decide⟩
theorem mth_X5_isCleaned : Mth yX5_isCleaned cX5_isCleaned 3 (some .boolean) 2 := ⟨wd_371, wd_5, by decide +kernel, by decide⟩
theorem mth_X2_putDots : Mth yX2_putDots cX2_putDots 8 none 2 := ⟨wd_339, wd_2, by decide +kernel, by decide⟩
theorem mth_X0_operand : Mth yX0_operand cX0_operand 5 (some .int) 5 := ⟨wd_318, wd_18, by decide +kernel, by decide⟩
theorem mth_J9_max_f86c9 : Mth yJ9_max_f86c9 cJ9_max_f86c9 4 (some .long) 2 := ⟨wd_332, wd_12, by decide +kernel, by decide⟩
theorem mth_J9_min_f86c9 : Mth yJ9_min_f86c9 cJ9_min_f86c9 4 (some .long) 2 := ⟨wd_329, wd_12, by decide +kernel, by decide⟩
theorem mth_X6_limited : Mth yX6_limited cX6_limited 4 (some .int) 3 := ⟨wd_326, wd_1, by decide +kernel, by decide⟩
theorem mth_X0_result : Mth yX0_result cX0_result 5 (some .int) 3 := ⟨wd_321, wd_18, by decide +kernel, by decide⟩
theorem mth_X0_toneAt : Mth yX0_toneAt cX0_toneAt 11 (some .int) 5 := ⟨wd_315, wd_18, by decide +kernel, by decide⟩
theorem mth_X2_takeTones : Mth yX2_takeTones cX2_takeTones 9 none 2 := ⟨wd_307, wd_2, by decide +kernel, by decide⟩
theorem mth_X2_update : Mth yX2_update cX2_update 3 none 1 := ⟨wd_303, wd_2, by decide +kernel, by decide⟩
theorem mth_X6_requireCell : Mth yX6_requireCell cX6_requireCell 3 none 2 := ⟨wd_782, wd_1, by decide +kernel, by decide⟩
theorem mth_X6_cell : Mth yX6_cell cX6_cell 6 (some .int) 4 := ⟨wd_778, wd_1, by decide +kernel, by decide⟩
theorem mth_L_cell : Cond.codeWith yL_cell cL_cell 7 (some .int) [(0, 14, 17, 25), (0, 14, 21, 13)] ∈ lw_all ∧ Cond.initialized (yL_cell).cls ∈ lw_all ∧ ((yL_cell).cls ≠ "java/lang/invoke/MethodHandle" ∧ (yL_cell).cls ≠ "java/lang/invoke/VarHandle" ∧ (parseMethodDescriptor (yL_cell).desc).map (fun d => d.parameters.length) = some 6) ∧ 7 ≤ 41 := ⟨wd_774, wd_0, by decide +kernel, by decide⟩
theorem mth_X5_cells : Mth yX5_cells cX5_cells 1 (some .int) 0 := ⟨wd_484, wd_5, by decide +kernel, by decide⟩
theorem mth_X2_cellsHaving : Mth yX2_cellsHaving cX2_cellsHaving 5 (some .int) 2 := ⟨wd_480, wd_2, by decide +kernel, by decide⟩
theorem mth_X6_cellsWith : Mth yX6_cellsWith cX6_cellsWith 2 (some .int) 1 := ⟨wd_871, wd_1, by decide +kernel, by decide⟩
theorem mth_L_cellsWith : Cond.codeWith yL_cellsWith cL_cellsWith 4 (some .int) [(0, 9, 12, 13)] ∈ lw_all ∧ Cond.initialized (yL_cellsWith).cls ∈ lw_all ∧ ((yL_cellsWith).cls ≠ "java/lang/invoke/MethodHandle" ∧ (yL_cellsWith).cls ≠ "java/lang/invoke/VarHandle" ∧ (parseMethodDescriptor (yL_cellsWith).desc).map (fun d => d.parameters.length) = some 3) ∧ 4 ≤ 41 := ⟨wd_867, wd_0, by decide +kernel, by decide⟩
theorem mth_X1_become : Mth yX1_become cX1_become 2 none 1 := ⟨wd_893, wd_6, by decide +kernel, by decide⟩
theorem mth_X5_become : Mth yX5_become cX5_become 3 none 1 := ⟨wd_889, wd_5, by decide +kernel, by decide⟩
theorem mth_X6_draftSheet : Mth yX6_draftSheet cX6_draftSheet 1 (some (.object "TonePlates$Sheet")) 0 := ⟨wd_555, wd_1, by decide +kernel, by decide⟩
theorem mth_J9_min_7cf53 : Mth yJ9_min_7cf53 cJ9_min_7cf53 2 (some .int) 2 := ⟨wd_387, wd_12, by decide +kernel, by decide⟩
theorem mth_X2_forgetDots : Mth yX2_forgetDots cX2_forgetDots 1 none 0 := ⟨wd_753, wd_2, by decide +kernel, by decide⟩
theorem mth_X6_useDraft : Mth yX6_useDraft cX6_useDraft 1 none 0 := ⟨wd_749, wd_1, by decide +kernel, by decide⟩
theorem mth_X6_startChange : Mth yX6_startChange cX6_startChange 1 none 0 := ⟨wd_885, wd_1, by decide +kernel, by decide⟩
theorem mth_X6_clean : Mth yX6_clean cX6_clean 5 (some .int) 1 := ⟨wd_933, wd_1, by decide +kernel, by decide⟩
theorem mth_L_clean : Cond.codeWith yL_clean cL_clean 4 (some .int) [(0, 9, 12, 25)] ∈ lw_all ∧ Cond.initialized (yL_clean).cls ∈ lw_all ∧ ((yL_clean).cls ≠ "java/lang/invoke/MethodHandle" ∧ (yL_clean).cls ≠ "java/lang/invoke/VarHandle" ∧ (parseMethodDescriptor (yL_clean).desc).map (fun d => d.parameters.length) = some 3) ∧ 4 ≤ 41 := ⟨wd_929, wd_0, by decide +kernel, by decide⟩
theorem mth_X6_covered : Mth yX6_covered cX6_covered 3 (some .float) 1 := ⟨wd_846, wd_1, by decide +kernel, by decide⟩
theorem mth_L_covered : Cond.codeWith yL_covered cL_covered 4 (some .int) [(0, 9, 12, 25)] ∈ lw_all ∧ Cond.initialized (yL_covered).cls ∈ lw_all ∧ ((yL_covered).cls ≠ "java/lang/invoke/MethodHandle" ∧ (yL_covered).cls ≠ "java/lang/invoke/VarHandle" ∧ (parseMethodDescriptor (yL_covered).desc).map (fun d => d.parameters.length) = some 3) ∧ 4 ≤ 41 := ⟨wd_842, wd_0, by decide +kernel, by decide⟩
theorem mth_X6_dirty : Mth yX6_dirty cX6_dirty 4 (some .int) 1 := ⟨wd_940, wd_1, by decide +kernel, by decide⟩
theorem mth_L_dirty : Cond.codeWith yL_dirty cL_dirty 4 (some .int) [(0, 9, 12, 25)] ∈ lw_all ∧ Cond.initialized (yL_dirty).cls ∈ lw_all ∧ ((yL_dirty).cls ≠ "java/lang/invoke/MethodHandle" ∧ (yL_dirty).cls ≠ "java/lang/invoke/VarHandle" ∧ (parseMethodDescriptor (yL_dirty).desc).map (fun d => d.parameters.length) = some 3) ∧ 4 ≤ 41 := ⟨wd_936, wd_0, by decide +kernel, by decide⟩
theorem mth_X6_fill : Mth yX6_fill cX6_fill 4 (some .int) 2 := ⟨wd_947, wd_1, by decide +kernel, by decide⟩
theorem mth_L_fill : Cond.codeWith yL_fill cL_fill 5 (some .int) [(0, 10, 13, 25), (0, 10, 17, 13)] ∈ lw_all ∧ Cond.initialized (yL_fill).cls ∈ lw_all ∧ ((yL_fill).cls ≠ "java/lang/invoke/MethodHandle" ∧ (yL_fill).cls ≠ "java/lang/invoke/VarHandle" ∧ (parseMethodDescriptor (yL_fill).desc).map (fun d => d.parameters.length) = some 4) ∧ 5 ≤ 41 := ⟨wd_943, wd_0, by decide +kernel, by decide⟩
theorem mth_X5_indexOfName : Mth yX5_indexOfName cX5_indexOfName 4 (some .int) 1 := ⟨wd_674, wd_5, by decide +kernel, by decide⟩
theorem mth_X6_packedName : Mth yX6_packedName cX6_packedName 6 (some .long) 3 := ⟨wd_669, wd_1, by decide +kernel, by decide⟩
theorem mth_X6_requireBuffered : Mth yX6_requireBuffered cX6_requireBuffered 2 none 1 := ⟨wd_550, wd_1, by decide +kernel, by decide⟩
theorem mth_X6_find : Mth yX6_find cX6_find 2 (some .int) 1 := ⟨wd_764, wd_1, by decide +kernel, by decide⟩
theorem mth_L_find : Cond.codeWith yL_find cL_find 4 (some .int) [(0, 9, 12, 13)] ∈ lw_all ∧ Cond.initialized (yL_find).cls ∈ lw_all ∧ ((yL_find).cls ≠ "java/lang/invoke/MethodHandle" ∧ (yL_find).cls ≠ "java/lang/invoke/VarHandle" ∧ (parseMethodDescriptor (yL_find).desc).map (fun d => d.parameters.length) = some 3) ∧ 4 ≤ 41 := ⟨wd_760, wd_0, by decide +kernel, by decide⟩
theorem mth_X6_inks : Mth yX6_inks cX6_inks 3 (some .int) 2 := ⟨wd_803, wd_1, by decide +kernel, by decide⟩
theorem mth_L_inks : Cond.codeWith yL_inks cL_inks 5 (some .int) [(0, 10, 13, 25)] ∈ lw_all ∧ Cond.initialized (yL_inks).cls ∈ lw_all ∧ ((yL_inks).cls ≠ "java/lang/invoke/MethodHandle" ∧ (yL_inks).cls ≠ "java/lang/invoke/VarHandle" ∧ (parseMethodDescriptor (yL_inks).desc).map (fun d => d.parameters.length) = some 4) ∧ 5 ≤ 41 := ⟨wd_799, wd_0, by decide +kernel, by decide⟩
theorem mth_X6_limit : Mth yX6_limit cX6_limit 3 (some .int) 1 := ⟨wd_925, wd_1, by decide +kernel, by decide⟩
theorem mth_L_limit : Cond.codeWith yL_limit cL_limit 4 (some .int) [(0, 9, 12, 13)] ∈ lw_all ∧ Cond.initialized (yL_limit).cls ∈ lw_all ∧ ((yL_limit).cls ≠ "java/lang/invoke/MethodHandle" ∧ (yL_limit).cls ≠ "java/lang/invoke/VarHandle" ∧ (parseMethodDescriptor (yL_limit).desc).map (fun d => d.parameters.length) = some 3) ∧ 4 ≤ 41 := ⟨wd_921, wd_0, by decide +kernel, by decide⟩
theorem mth_X2_forgetTones : Mth yX2_forgetTones cX2_forgetTones 1 none 0 := ⟨wd_395, wd_2, by decide +kernel, by decide⟩
theorem mth_X4_takeRun : Mth yX4_takeRun cX4_takeRun 4 none 3 := ⟨wd_568, wd_4, by decide +kernel, by decide⟩
theorem mth_X4_advance : Mth yX4_advance cX4_advance 1 none 0 := ⟨wd_564, wd_4, by decide +kernel, by decide⟩
theorem mth_X4_fail : Mth yX4_fail cX4_fail 2 (some .boolean) 1 := ⟨wd_629, wd_4, by decide +kernel, by decide⟩
theorem mth_X4_isWord : Mth yX4_isWord cX4_isWord 3 (some .boolean) 1 := ⟨wd_577, wd_4, by decide +kernel, by decide⟩
theorem mth_X4_takeNumber : Mth yX4_takeNumber cX4_takeNumber 5 (some .boolean) 2 := ⟨wd_633, wd_4, by decide +kernel, by decide⟩
theorem mth_X4_isSign : Mth yX4_isSign cX4_isSign 2 (some .boolean) 1 := ⟨wd_647, wd_4, by decide +kernel, by decide⟩
theorem mth_X4_takeSign : Mth yX4_takeSign cX4_takeSign 2 (some .boolean) 1 := ⟨wd_643, wd_4, by decide +kernel, by decide⟩
theorem mth_X5_empty : Mth yX5_empty cX5_empty 3 none 2 := ⟨wd_638, wd_5, by decide +kernel, by decide⟩
theorem mth_X4_readPicture : Mth yX4_readPicture cX4_readPicture 2 (some .boolean) 0 := ⟨wd_572, wd_4, by decide +kernel, by decide⟩
theorem mth_X4_isName : Mth yX4_isName cX4_isName 1 (some .boolean) 0 := ⟨wd_666, wd_4, by decide +kernel, by decide⟩
theorem mth_X4_readInk : Mth yX4_readInk cX4_readInk 2 (some .boolean) 0 := ⟨wd_739, wd_4, by decide +kernel, by decide⟩
theorem mth_X4_readLimit : Mth yX4_readLimit cX4_readLimit 1 (some .boolean) 0 := ⟨wd_745, wd_4, by decide +kernel, by decide⟩
theorem mth_J7_copyOf_59c91 : Mth yJ7_copyOf_59c91 cJ7_copyOf_59c91 3 (some (.array .int)) 2 := ⟨wd_711, wd_17, by decide +kernel, by decide⟩
theorem mth_X0_init : Mth yX0_init cX0_init 2 none 1 := ⟨wd_725, wd_18, by decide +kernel, by decide⟩
theorem mth_X4_addItem : Mth yX4_addItem cX4_addItem 2 none 1 := ⟨wd_699, wd_4, by decide +kernel, by decide⟩
theorem mth_X4_variableHere : Mth yX4_variableHere cX4_variableHere 1 (some .int) 0 := ⟨wd_703, wd_4, by decide +kernel, by decide⟩
theorem mth_X4_readFactor : Mth yX4_readFactor cX4_readFactor 3 (some .boolean) 1 := ⟨wd_695, wd_4, by decide +kernel, by decide⟩
theorem mth_X4_readTerm : Mth yX4_readTerm cX4_readTerm 4 (some .boolean) 1 := ⟨wd_691, wd_4, by decide +kernel, by decide⟩
theorem mth_X4_readSum : Mth yX4_readSum cX4_readSum 4 (some .boolean) 1 := ⟨wd_687, wd_4, by decide +kernel, by decide⟩
theorem mth_X4_shapeHere : Mth yX4_shapeHere cX4_shapeHere 1 (some .int) 0 := ⟨wd_678, wd_4, by decide +kernel, by decide⟩
theorem mth_X5_addPlate : Mth yX5_addPlate cX5_addPlate 8 none 5 := ⟨wd_734, wd_5, by decide +kernel, by decide⟩
theorem mth_X4_readPlate : Mth yX4_readPlate cX4_readPlate 7 (some .boolean) 0 := ⟨wd_662, wd_4, by decide +kernel, by decide⟩
theorem mth_X4_readTones : Mth yX4_readTones cX4_readTones 3 (some .boolean) 0 := ⟨wd_656, wd_4, by decide +kernel, by decide⟩
theorem mth_X4_readStatement : Mth yX4_readStatement cX4_readStatement 1 (some .boolean) 0 := ⟨wd_651, wd_4, by decide +kernel, by decide⟩
theorem mth_X4_read : Mth yX4_read cX4_read 5 (some .boolean) 3 := ⟨wd_559, wd_4, by decide +kernel, by decide⟩
theorem mth_X6_load : Mth yX6_load cX6_load 3 (some .int) 1 := ⟨wd_546, wd_1, by decide +kernel, by decide⟩
theorem mth_L_load : Cond.codeWith yL_load cL_load 4 (some .int) [(0, 9, 12, 13)] ∈ lw_all ∧ Cond.initialized (yL_load).cls ∈ lw_all ∧ ((yL_load).cls ≠ "java/lang/invoke/MethodHandle" ∧ (yL_load).cls ≠ "java/lang/invoke/VarHandle" ∧ (parseMethodDescriptor (yL_load).desc).map (fun d => d.parameters.length) = some 3) ∧ 4 ≤ 41 := ⟨wd_541, wd_0, by decide +kernel, by decide⟩
theorem mth_X6_moire : Mth yX6_moire cX6_moire 4 (some .double) 2 := ⟨wd_853, wd_1, by decide +kernel, by decide⟩
theorem mth_L_moire : Cond.codeWith yL_moire cL_moire 5 (some .int) [(0, 9, 12, 25)] ∈ lw_all ∧ Cond.initialized (yL_moire).cls ∈ lw_all ∧ ((yL_moire).cls ≠ "java/lang/invoke/MethodHandle" ∧ (yL_moire).cls ≠ "java/lang/invoke/VarHandle" ∧ (parseMethodDescriptor (yL_moire).desc).map (fun d => d.parameters.length) = some 4) ∧ 5 ≤ 41 := ⟨wd_849, wd_0, by decide +kernel, by decide⟩
theorem mth_X2_offOf : Mth yX2_offOf cX2_offOf 10 (some .int) 4 := ⟨wd_839, wd_2, by decide +kernel, by decide⟩
theorem mth_X6_blocksAlong : Mth yX6_blocksAlong cX6_blocksAlong 2 (some .int) 2 := ⟨wd_538, wd_1, by decide +kernel, by decide⟩
theorem mth_X6_off : Mth yX6_off cX6_off 6 (some .int) 2 := ⟨wd_819, wd_1, by decide +kernel, by decide⟩
theorem mth_L_off : Cond.codeWith yL_off cL_off 5 (some .int) [(0, 10, 13, 25), (0, 10, 17, 44)] ∈ lw_all ∧ Cond.initialized (yL_off).cls ∈ lw_all ∧ ((yL_off).cls ≠ "java/lang/invoke/MethodHandle" ∧ (yL_off).cls ≠ "java/lang/invoke/VarHandle" ∧ (parseMethodDescriptor (yL_off).desc).map (fun d => d.parameters.length) = some 4) ∧ 5 ≤ 41 := ⟨wd_814, wd_0, by decide +kernel, by decide⟩
theorem mth_X2_dotsOfAll : Mth yX2_dotsOfAll cX2_dotsOfAll 4 (some .int) 1 := ⟨wd_476, wd_2, by decide +kernel, by decide⟩
theorem mth_X6_paint : Mth yX6_paint cX6_paint 8 (some .int) 5 := ⟨wd_879, wd_1, by decide +kernel, by decide⟩
theorem mth_L_paint : Cond.codeWith yL_paint cL_paint 8 (some .int) [(0, 16, 19, 25), (0, 16, 23, 13)] ∈ lw_all ∧ Cond.initialized (yL_paint).cls ∈ lw_all ∧ ((yL_paint).cls ≠ "java/lang/invoke/MethodHandle" ∧ (yL_paint).cls ≠ "java/lang/invoke/VarHandle" ∧ (parseMethodDescriptor (yL_paint).desc).map (fun d => d.parameters.length) = some 7) ∧ 8 ≤ 41 := ⟨wd_875, wd_0, by decide +kernel, by decide⟩
theorem mth_X2_spotsOf : Mth yX2_spotsOf cX2_spotsOf 6 (some .int) 2 := ⟨wd_523, wd_2, by decide +kernel, by decide⟩
theorem mth_X6_sumOfTones : Mth yX6_sumOfTones cX6_sumOfTones 4 (some .int) 2 := ⟨wd_488, wd_1, by decide +kernel, by decide⟩
theorem mth_X6_plate : Mth yX6_plate cX6_plate 4 (some .int) 2 := ⟨wd_498, wd_1, by decide +kernel, by decide⟩
theorem mth_L_plate : Cond.codeWith yL_plate cL_plate 5 (some .int) [(0, 10, 13, 25), (0, 10, 17, 13)] ∈ lw_all ∧ Cond.initialized (yL_plate).cls ∈ lw_all ∧ ((yL_plate).cls ≠ "java/lang/invoke/MethodHandle" ∧ (yL_plate).cls ≠ "java/lang/invoke/VarHandle" ∧ (parseMethodDescriptor (yL_plate).desc).map (fun d => d.parameters.length) = some 4) ∧ 5 ≤ 41 := ⟨wd_769, wd_0, by decide +kernel, by decide⟩
theorem mth_X6_copies : Mth yX6_copies cX6_copies 5 (some .int) 0 := ⟨wd_299, wd_1, by decide +kernel, by decide⟩
theorem mth_X6_press : Mth yX6_press cX6_press 5 (some .int) 1 := ⟨wd_957, wd_1, by decide +kernel, by decide⟩
theorem mth_L_press : Cond.codeWith yL_press cL_press 4 (some .int) [(0, 9, 12, 13), (0, 9, 15, 88)] ∈ lw_all ∧ Cond.initialized (yL_press).cls ∈ lw_all ∧ ((yL_press).cls ≠ "java/lang/invoke/MethodHandle" ∧ (yL_press).cls ≠ "java/lang/invoke/VarHandle" ∧ (parseMethodDescriptor (yL_press).desc).map (fun d => d.parameters.length) = some 3) ∧ 4 ≤ 41 := ⟨wd_952, wd_0, by decide +kernel, by decide⟩
theorem mth_X6_shape : Mth yX6_shape cX6_shape 4 (some .int) 2 := ⟨wd_909, wd_1, by decide +kernel, by decide⟩
theorem mth_L_shape : Cond.codeWith yL_shape cL_shape 5 (some .int) [(0, 10, 13, 25), (0, 10, 17, 13)] ∈ lw_all ∧ Cond.initialized (yL_shape).cls ∈ lw_all ∧ ((yL_shape).cls ≠ "java/lang/invoke/MethodHandle" ∧ (yL_shape).cls ≠ "java/lang/invoke/VarHandle" ∧ (parseMethodDescriptor (yL_shape).desc).map (fun d => d.parameters.length) = some 4) ∧ 5 ≤ 41 := ⟨wd_905, wd_0, by decide +kernel, by decide⟩
theorem mth_X6_shift : Mth yX6_shift cX6_shift 4 (some .int) 3 := ⟨wd_917, wd_1, by decide +kernel, by decide⟩
theorem mth_L_shift : Cond.codeWith yL_shift cL_shift 6 (some .int) [(0, 12, 15, 25), (0, 12, 19, 13)] ∈ lw_all ∧ Cond.initialized (yL_shift).cls ∈ lw_all ∧ ((yL_shift).cls ≠ "java/lang/invoke/MethodHandle" ∧ (yL_shift).cls ≠ "java/lang/invoke/VarHandle" ∧ (parseMethodDescriptor (yL_shift).desc).map (fun d => d.parameters.length) = some 5) ∧ 6 ≤ 41 := ⟨wd_913, wd_0, by decide +kernel, by decide⟩
theorem mth_X5_cleanedOfAll : Mth yX5_cleanedOfAll cX5_cleanedOfAll 3 (some .int) 0 := ⟨wd_492, wd_5, by decide +kernel, by decide⟩
theorem mth_X6_state : Mth yX6_state cX6_state 2 (some .int) 1 := ⟨wd_404, wd_1, by decide +kernel, by decide⟩
theorem mth_L_state : Cond.codeWith yL_state cL_state 4 (some .int) [(0, 9, 12, 13)] ∈ lw_all ∧ Cond.initialized (yL_state).cls ∈ lw_all ∧ ((yL_state).cls ≠ "java/lang/invoke/MethodHandle" ∧ (yL_state).cls ≠ "java/lang/invoke/VarHandle" ∧ (parseMethodDescriptor (yL_state).desc).map (fun d => d.parameters.length) = some 3) ∧ 4 ≤ 41 := ⟨wd_756, wd_0, by decide +kernel, by decide⟩
theorem mth_X6_tone : Mth yX6_tone cX6_tone 3 (some .int) 2 := ⟨wd_796, wd_1, by decide +kernel, by decide⟩
theorem mth_L_tone : Cond.codeWith yL_tone cL_tone 5 (some .int) [(0, 10, 13, 25)] ∈ lw_all ∧ Cond.initialized (yL_tone).cls ∈ lw_all ∧ ((yL_tone).cls ≠ "java/lang/invoke/MethodHandle" ∧ (yL_tone).cls ≠ "java/lang/invoke/VarHandle" ∧ (parseMethodDescriptor (yL_tone).desc).map (fun d => d.parameters.length) = some 4) ∧ 5 ≤ 41 := ⟨wd_792, wd_0, by decide +kernel, by decide⟩
theorem mth_X6_turn : Mth yX6_turn cX6_turn 4 (some .int) 3 := ⟨wd_901, wd_1, by decide +kernel, by decide⟩
theorem mth_L_turn : Cond.codeWith yL_turn cL_turn 6 (some .int) [(0, 12, 15, 25), (0, 12, 19, 13)] ∈ lw_all ∧ Cond.initialized (yL_turn).cls ∈ lw_all ∧ ((yL_turn).cls ≠ "java/lang/invoke/MethodHandle" ∧ (yL_turn).cls ≠ "java/lang/invoke/VarHandle" ∧ (parseMethodDescriptor (yL_turn).desc).map (fun d => d.parameters.length) = some 5) ∧ 6 ≤ 41 := ⟨wd_897, wd_0, by decide +kernel, by decide⟩
theorem mth_X6_why : Mth yX6_why cX6_why 5 (some .int) 3 := ⟨wd_810, wd_1, by decide +kernel, by decide⟩
theorem mth_L_why : Cond.codeWith yL_why cL_why 6 (some .int) [(0, 12, 15, 25)] ∈ lw_all ∧ Cond.initialized (yL_why).cls ∈ lw_all ∧ ((yL_why).cls ≠ "java/lang/invoke/MethodHandle" ∧ (yL_why).cls ≠ "java/lang/invoke/VarHandle" ∧ (parseMethodDescriptor (yL_why).desc).map (fun d => d.parameters.length) = some 5) ∧ 6 ≤ 41 := ⟨wd_806, wd_0, by decide +kernel, by decide⟩
theorem mth_X6_appendWord : Mth yX6_appendWord cX6_appendWord 3 none 1 := ⟨wd_279, wd_1, by decide +kernel, by decide⟩
theorem mth_X6_append : Mth yX6_append cX6_append 6 (some .int) 5 := ⟨wd_275, wd_1, by decide +kernel, by decide⟩
theorem mth_X6_checksum : Mth yX6_checksum cX6_checksum 5 (some .long) 0 := ⟨wd_399, wd_1, by decide +kernel, by decide⟩
theorem mth_X6_errorOffset : Mth yX6_errorOffset cX6_errorOffset 1 (some .int) 0 := ⟨wd_283, wd_1, by decide +kernel, by decide⟩
theorem mth_X3_init : Mth yX3_init cX3_init 1 none 0 := ⟨wd_49, wd_3, by decide +kernel, by decide⟩
theorem mth_X2_init : Mth yX2_init cX2_init 2 none 0 := ⟨wd_40, wd_2, by decide +kernel, by decide⟩
theorem mth_X4_init : Mth yX4_init cX4_init 1 none 0 := ⟨wd_101, wd_4, by decide +kernel, by decide⟩
theorem mth_X1_init : Mth yX1_init cX1_init 1 none 0 := ⟨wd_155, wd_6, by decide +kernel, by decide⟩
theorem mth_X5_init : Mth yX5_init cX5_init 2 none 0 := ⟨wd_148, wd_5, by decide +kernel, by decide⟩
theorem mth_X6_init : Mth yX6_init cX6_init 2 none 0 := ⟨wd_30, wd_1, by decide +kernel, by decide⟩
theorem mth_X6_undo : Mth yX6_undo cX6_undo 1 (some .int) 0 := ⟨wd_391, wd_1, by decide +kernel, by decide⟩
theorem mth_X6_worst : Mth yX6_worst cX6_worst 9 (some .int) 1 := ⟨wd_287, wd_1, by decide +kernel, by decide⟩
theorem mth_X7_four : Mth yX7_four cX7_four 3 none 1 := ⟨wd_1072, wd_7, by decide +kernel, by decide⟩
theorem mth_X7_append : Mth yX7_append cX7_append 6 (some .int) 5 := ⟨wd_1068, wd_7, by decide +kernel, by decide⟩
theorem mth_X7_moireOf : Mth yX7_moireOf cX7_moireOf 9 (some .double) 4 := ⟨wd_1347, wd_7, by decide +kernel, by decide⟩
theorem mth_X7_get : Mth yX7_get cX7_get 2 (some .int) 1 := ⟨wd_1182, wd_7, by decide +kernel, by decide⟩
theorem mth_X7_of : Mth yX7_of cX7_of 3 (some .int) 2 := ⟨wd_1234, wd_7, by decide +kernel, by decide⟩
theorem mth_X7_plates : Mth yX7_plates cX7_plates 1 (some .int) 0 := ⟨wd_1190, wd_7, by decide +kernel, by decide⟩
theorem mth_X7_greatestWith : Mth yX7_greatestWith cX7_greatestWith 7 (some .double) 3 := ⟨wd_1359, wd_7, by decide +kernel, by decide⟩
theorem mth_X7_isIn : Mth yX7_isIn cX7_isIn 3 (some .boolean) 3 := ⟨wd_1083, wd_7, by decide +kernel, by decide⟩
theorem mth_X7_isPlate : Mth yX7_isPlate cX7_isPlate 2 (some .boolean) 1 := ⟨wd_1292, wd_7, by decide +kernel, by decide⟩
theorem mth_X7_right : Mth yX7_right cX7_right 3 (some .boolean) 2 := ⟨wd_1087, wd_7, by decide +kernel, by decide⟩
theorem mth_X7_bestTurn : Mth yX7_bestTurn cX7_bestTurn 4 (some .int) 1 := ⟨wd_1355, wd_7, by decide +kernel, by decide⟩
theorem mth_X7_high : Mth yX7_high cX7_high 1 (some .int) 0 := ⟨wd_1206, wd_7, by decide +kernel, by decide⟩
theorem mth_X7_wide : Mth yX7_wide cX7_wide 1 (some .int) 0 := ⟨wd_1202, wd_7, by decide +kernel, by decide⟩
theorem mth_X7_isCell : Mth yX7_isCell cX7_isCell 3 (some .boolean) 2 := ⟨wd_1272, wd_7, by decide +kernel, by decide⟩
theorem mth_X7_hasDot : Mth yX7_hasDot cX7_hasDot 4 (some .boolean) 3 := ⟨wd_1268, wd_7, by decide +kernel, by decide⟩
theorem mth_X7_isCleaned : Mth yX7_isCleaned cX7_isCleaned 4 (some .boolean) 3 := ⟨wd_1261, wd_7, by decide +kernel, by decide⟩
theorem mth_X7_isSpot : Mth yX7_isSpot cX7_isSpot 4 (some .boolean) 3 := ⟨wd_1304, wd_7, by decide +kernel, by decide⟩
theorem mth_X7_bits : Mth yX7_bits cX7_bits 3 (some .int) 1 := ⟨wd_1264, wd_7, by decide +kernel, by decide⟩
theorem mth_X7_squareOf : Mth yX7_squareOf cX7_squareOf 2 (some .int) 1 := ⟨wd_1230, wd_7, by decide +kernel, by decide⟩
theorem mth_X7_isWanted : Mth yX7_isWanted cX7_isWanted 4 (some .boolean) 2 := ⟨wd_1257, wd_7, by decide +kernel, by decide⟩
theorem mth_X7_measure : Mth yX7_measure cX7_measure 10 (some .int) 5 := ⟨wd_1237, wd_7, by decide +kernel, by decide⟩
theorem mth_X7_laysMeasures : Mth yX7_laysMeasures cX7_laysMeasures 4 none 1 := ⟨wd_1226, wd_7, by decide +kernel, by decide⟩
theorem mth_X7_rankOf : Mth yX7_rankOf cX7_rankOf 5 (some .int) 2 := ⟨wd_1242, wd_7, by decide +kernel, by decide⟩
theorem mth_X7_toneAt : Mth yX7_toneAt cX7_toneAt 3 (some .int) 2 := ⟨wd_1250, wd_7, by decide +kernel, by decide⟩
theorem mth_X7_toneOn : Mth yX7_toneOn cX7_toneOn 15 (some .int) 3 := ⟨wd_1246, wd_7, by decide +kernel, by decide⟩
theorem mth_X7_laysPlate : Mth yX7_laysPlate cX7_laysPlate 7 none 1 := ⟨wd_1222, wd_7, by decide +kernel, by decide⟩
theorem mth_X7_lays : Mth yX7_lays cX7_lays 2 none 0 := ⟨wd_1218, wd_7, by decide +kernel, by decide⟩
theorem mth_X7_cell : Mth yX7_cell cX7_cell 6 (some .int) 4 := ⟨wd_1316, wd_7, by decide +kernel, by decide⟩
theorem mth_X7_cellsOf : Mth yX7_cellsOf cX7_cellsOf 5 (some .int) 1 := ⟨wd_1276, wd_7, by decide +kernel, by decide⟩
theorem mth_X7_cellsWith : Mth yX7_cellsWith cX7_cellsWith 2 (some .int) 1 := ⟨wd_1379, wd_7, by decide +kernel, by decide⟩
theorem mth_X7_joins : Mth yX7_joins cX7_joins 4 (some .long) 2 := ⟨wd_1431, wd_7, by decide +kernel, by decide⟩
theorem mth_X7_dots : Mth yX7_dots cX7_dots 5 (some .int) 1 := ⟨wd_1214, wd_7, by decide +kernel, by decide⟩
theorem mth_X7_allDots : Mth yX7_allDots cX7_allDots 3 (some .int) 0 := ⟨wd_1210, wd_7, by decide +kernel, by decide⟩
theorem mth_X7_cleaned : Mth yX7_cleaned cX7_cleaned 4 (some .int) 1 := ⟨wd_1280, wd_7, by decide +kernel, by decide⟩
theorem mth_X7_toldOf : Mth yX7_toldOf cX7_toldOf 5 (some .int) 1 := ⟨wd_1198, wd_7, by decide +kernel, by decide⟩
theorem mth_X7_blocks : Mth yX7_blocks cX7_blocks 2 (some .int) 1 := ⟨wd_1308, wd_7, by decide +kernel, by decide⟩
theorem mth_X7_spots : Mth yX7_spots cX7_spots 5 (some .int) 1 := ⟨wd_1300, wd_7, by decide +kernel, by decide⟩
theorem mth_X7_sumOn : Mth yX7_sumOn cX7_sumOn 5 (some .int) 1 := ⟨wd_1312, wd_7, by decide +kernel, by decide⟩
theorem mth_X7_toldOfPlate : Mth yX7_toldOfPlate cX7_toldOfPlate 3 (some .int) 2 := ⟨wd_1296, wd_7, by decide +kernel, by decide⟩
theorem mth_X7_checksum : Mth yX7_checksum cX7_checksum 5 (some .long) 0 := ⟨wd_1428, wd_7, by decide +kernel, by decide⟩
theorem mth_X7_change : Mth yX7_change cX7_change 3 none 0 := ⟨wd_1178, wd_7, by decide +kernel, by decide⟩
theorem mth_X7_put : Mth yX7_put cX7_put 3 none 2 := ⟨wd_1186, wd_7, by decide +kernel, by decide⟩
theorem mth_X7_puts : Mth yX7_puts cX7_puts 4 none 3 := ⟨wd_1391, wd_7, by decide +kernel, by decide⟩
theorem mth_X7_clean : Mth yX7_clean cX7_clean 5 (some .int) 1 := ⟨wd_1407, wd_7, by decide +kernel, by decide⟩
theorem mth_X7_possible : Mth yX7_possible cX7_possible 5 (some .int) 0 := ⟨wd_1375, wd_7, by decide +kernel, by decide⟩
theorem mth_X7_copies : Mth yX7_copies cX7_copies 1 (some .int) 0 := ⟨wd_1371, wd_7, by decide +kernel, by decide⟩
theorem mth_X7_covered : Mth yX7_covered cX7_covered 2 (some .float) 1 := ⟨wd_1336, wd_7, by decide +kernel, by decide⟩
theorem mth_X7_dirty : Mth yX7_dirty cX7_dirty 4 (some .int) 1 := ⟨wd_1411, wd_7, by decide +kernel, by decide⟩
theorem mth_X7_errorOffset : Mth yX7_errorOffset cX7_errorOffset 1 (some .int) 0 := ⟨wd_1076, wd_7, by decide +kernel, by decide⟩
theorem mth_X7_fill : Mth yX7_fill cX7_fill 3 (some .int) 2 := ⟨wd_1415, wd_7, by decide +kernel, by decide⟩
theorem mth_X7_find : Mth yX7_find cX7_find 5 (some .int) 1 := ⟨wd_1284, wd_7, by decide +kernel, by decide⟩
theorem mth_X7_begins : Mth yX7_begins cX7_begins 4 none 2 := ⟨wd_986, wd_7, by decide +kernel, by decide⟩
theorem mth_X7_init : Mth yX7_init cX7_init 2 none 0 := ⟨wd_980, wd_7, by decide +kernel, by decide⟩
theorem mth_X7_inks : Mth yX7_inks cX7_inks 3 (some .int) 2 := ⟨wd_1324, wd_7, by decide +kernel, by decide⟩
theorem mth_X7_limit : Mth yX7_limit cX7_limit 3 (some .int) 1 := ⟨wd_1403, wd_7, by decide +kernel, by decide⟩
theorem mth_X7_fails : Mth yX7_fails cX7_fails 3 (some .boolean) 2 := ⟨wd_1113, wd_7, by decide +kernel, by decide⟩
theorem mth_X7_here : Mth yX7_here cX7_here 1 (some .int) 0 := ⟨wd_1104, wd_7, by decide +kernel, by decide⟩
theorem mth_X7_isDigit : Mth yX7_isDigit cX7_isDigit 1 (some .boolean) 1 := ⟨wd_1120, wd_7, by decide +kernel, by decide⟩
theorem mth_X7_reads : Mth yX7_reads cX7_reads 3 (some .boolean) 2 := ⟨wd_1117, wd_7, by decide +kernel, by decide⟩
theorem mth_X7_isLetter : Mth yX7_isLetter cX7_isLetter 1 (some .boolean) 1 := ⟨wd_1107, wd_7, by decide +kernel, by decide⟩
theorem mth_X7_letters : Mth yX7_letters cX7_letters 2 (some .int) 0 := ⟨wd_1100, wd_7, by decide +kernel, by decide⟩
theorem mth_X7_named : Mth yX7_named cX7_named 7 (some .int) 2 := ⟨wd_1138, wd_7, by decide +kernel, by decide⟩
theorem mth_X7_readsInk : Mth yX7_readsInk cX7_readsInk 3 (some .boolean) 0 := ⟨wd_1167, wd_7, by decide +kernel, by decide⟩
theorem mth_X7_emits : Mth yX7_emits cX7_emits 5 none 2 := ⟨wd_1159, wd_7, by decide +kernel, by decide⟩
theorem mth_X7_sign : Mth yX7_sign cX7_sign 2 (some .boolean) 1 := ⟨wd_1125, wd_7, by decide +kernel, by decide⟩
theorem mth_X7_takes : Mth yX7_takes cX7_takes 4 (some .boolean) 1 := ⟨wd_1096, wd_7, by decide +kernel, by decide⟩
theorem mth_X7_readsFactor : Mth yX7_readsFactor cX7_readsFactor 2 (some .boolean) 0 := ⟨wd_1155, wd_7, by decide +kernel, by decide⟩
theorem mth_X7_readsTerm : Mth yX7_readsTerm cX7_readsTerm 2 (some .boolean) 0 := ⟨wd_1151, wd_7, by decide +kernel, by decide⟩
theorem mth_X7_readsSum : Mth yX7_readsSum cX7_readsSum 2 (some .boolean) 0 := ⟨wd_1147, wd_7, by decide +kernel, by decide⟩
theorem mth_X7_readsPlate : Mth yX7_readsPlate cX7_readsPlate 5 (some .boolean) 1 := ⟨wd_1134, wd_7, by decide +kernel, by decide⟩
theorem mth_X7_readsTones : Mth yX7_readsTones cX7_readsTones 4 (some .boolean) 0 := ⟨wd_1173, wd_7, by decide +kernel, by decide⟩
theorem mth_X7_readsStatement : Mth yX7_readsStatement cX7_readsStatement 2 (some .boolean) 0 := ⟨wd_1129, wd_7, by decide +kernel, by decide⟩
theorem mth_X7_readsText : Mth yX7_readsText cX7_readsText 2 (some .boolean) 0 := ⟨wd_1091, wd_7, by decide +kernel, by decide⟩
theorem mth_X7_load : Mth yX7_load cX7_load 3 (some .int) 1 := ⟨wd_1080, wd_7, by decide +kernel, by decide⟩
theorem mth_X7_moireAt : Mth yX7_moireAt cX7_moireAt 3 (some .double) 2 := ⟨wd_1344, wd_7, by decide +kernel, by decide⟩
theorem mth_X7_moire : Mth yX7_moire cX7_moire 3 (some .double) 2 := ⟨wd_1340, wd_7, by decide +kernel, by decide⟩
theorem mth_X7_off : Mth yX7_off cX7_off 9 (some .int) 2 := ⟨wd_1332, wd_7, by decide +kernel, by decide⟩
theorem mth_X7_paint : Mth yX7_paint cX7_paint 8 (some .int) 5 := ⟨wd_1383, wd_7, by decide +kernel, by decide⟩
theorem mth_X7_plate : Mth yX7_plate cX7_plate 3 (some .int) 2 := ⟨wd_1288, wd_7, by decide +kernel, by decide⟩
theorem mth_X7_press : Mth yX7_press cX7_press 5 (some .int) 1 := ⟨wd_1420, wd_7, by decide +kernel, by decide⟩
theorem mth_X7_shape : Mth yX7_shape cX7_shape 4 (some .int) 2 := ⟨wd_1395, wd_7, by decide +kernel, by decide⟩
theorem mth_X7_shift : Mth yX7_shift cX7_shift 4 (some .int) 3 := ⟨wd_1399, wd_7, by decide +kernel, by decide⟩
theorem mth_X7_state : Mth yX7_state cX7_state 2 (some .int) 1 := ⟨wd_1194, wd_7, by decide +kernel, by decide⟩
theorem mth_X7_thrown : Mth yX7_thrown cX7_thrown 1 (some .int) 0 := ⟨wd_1064, wd_7, by decide +kernel, by decide⟩
theorem mth_X7_tone : Mth yX7_tone cX7_tone 3 (some .int) 2 := ⟨wd_1320, wd_7, by decide +kernel, by decide⟩
theorem mth_X7_turn : Mth yX7_turn cX7_turn 4 (some .int) 3 := ⟨wd_1387, wd_7, by decide +kernel, by decide⟩
theorem mth_X7_undo : Mth yX7_undo cX7_undo 1 (some .int) 0 := ⟨wd_1424, wd_7, by decide +kernel, by decide⟩
theorem mth_X7_why : Mth yX7_why cX7_why 4 (some .int) 3 := ⟨wd_1328, wd_7, by decide +kernel, by decide⟩
theorem mth_X7_worst : Mth yX7_worst cX7_worst 6 (some .int) 1 := ⟨wd_1351, wd_7, by decide +kernel, by decide⟩
theorem mth_J0_length_8abf5 : Mth yJ0_length_8abf5 cJ0_length_8abf5 1 (some .int) 0 := ⟨wd_581, wd_13, by decide +kernel, by decide⟩
theorem mth_J0_charAt_5068e : Mth yJ0_charAt_5068e cJ0_charAt_5068e 2 (some .char) 1 := ⟨wd_591, wd_13, by decide +kernel, by decide⟩
theorem mth_J0_coder_7d493 : Mth yJ0_coder_7d493 cJ0_coder_7d493 1 (some .byte) 0 := ⟨wd_585, wd_13, by decide +kernel, by decide⟩
theorem mth_J0_isLatin1_aae02 : Mth yJ0_isLatin1_aae02 cJ0_isLatin1_aae02 1 (some .boolean) 0 := ⟨wd_595, wd_13, by decide +kernel, by decide⟩
theorem mth_J0_checkIndex_df160 : Mth yJ0_checkIndex_df160 cJ0_checkIndex_df160 2 none 2 := ⟨wd_601, wd_13, by decide +kernel, by decide⟩
theorem mth_J1_charAt_3b067 : Mth yJ1_charAt_3b067 cJ1_charAt_3b067 2 (some .char) 2 := ⟨wd_598, wd_14, by decide +kernel, by decide⟩
theorem mth_J3_checkIndex_8e157 : Mth yJ3_checkIndex_8e157 cJ3_checkIndex_8e157 3 (some .int) 3 := ⟨wd_606, wd_15, by decide +kernel, by decide⟩
