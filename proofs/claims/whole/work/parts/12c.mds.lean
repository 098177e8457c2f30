theorem fc_0 : FC 0 RX0 TX0 5 := ⟨by decide, rfl, rfl, fun w hw => List.mem_filter.mpr ⟨(by decide +kernel : ∀ w ∈ u_ws RX0 TX0 5, w ∈ lw_tbl) w hw, (by decide +kernel : ∀ w ∈ u_ws RX0 TX0 5, goodWord w = true) w hw⟩, tyX0_ok, nmX0⟩
theorem fc_1 : FC 1 RX1 TX1 2 := ⟨by decide, rfl, rfl, fun w hw => List.mem_filter.mpr ⟨(by decide +kernel : ∀ w ∈ u_ws RX1 TX1 2, w ∈ lw_tbl) w hw, (by decide +kernel : ∀ w ∈ u_ws RX1 TX1 2, goodWord w = true) w hw⟩, tyX1_ok, nmX1⟩
theorem fc_2 : FC 2 RX2 TX2 4 := ⟨by decide, rfl, rfl, fun w hw => List.mem_filter.mpr ⟨(by decide +kernel : ∀ w ∈ u_ws RX2 TX2 4, w ∈ lw_tbl) w hw, (by decide +kernel : ∀ w ∈ u_ws RX2 TX2 4, goodWord w = true) w hw⟩, tyX2_ok, nmX2⟩
theorem fc_3 : FC 3 RX3 TX3 4 := ⟨by decide, rfl, rfl, fun w hw => List.mem_filter.mpr ⟨(by decide +kernel : ∀ w ∈ u_ws RX3 TX3 4, w ∈ lw_tbl) w hw, (by decide +kernel : ∀ w ∈ u_ws RX3 TX3 4, goodWord w = true) w hw⟩, tyX3_ok, nmX3⟩
theorem fc_4 : FC 4 RX6 TX6 5 := ⟨by decide, rfl, rfl, fun w hw => List.mem_filter.mpr ⟨(by decide +kernel : ∀ w ∈ u_ws RX6 TX6 5, w ∈ lw_tbl) w hw, (by decide +kernel : ∀ w ∈ u_ws RX6 TX6 5, goodWord w = true) w hw⟩, tyX6_ok, nmX6⟩
theorem fc_5 : FC 5 RX7 TX7 2 := ⟨by decide, rfl, rfl, fun w hw => List.mem_filter.mpr ⟨(by decide +kernel : ∀ w ∈ u_ws RX7 TX7 2, w ∈ lw_tbl) w hw, (by decide +kernel : ∀ w ∈ u_ws RX7 TX7 2, goodWord w = true) w hw⟩, tyX7_ok, nmX7⟩
theorem fc_6 : FC 6 RX8 TX8 4 := ⟨by decide, rfl, rfl, fun w hw => List.mem_filter.mpr ⟨(by decide +kernel : ∀ w ∈ u_ws RX8 TX8 4, w ∈ lw_tbl) w hw, (by decide +kernel : ∀ w ∈ u_ws RX8 TX8 4, goodWord w = true) w hw⟩, tyX8_ok, nmX8⟩
theorem fc_7 : FC 7 RX9 TX9 11 := ⟨by decide, rfl, rfl, fun w hw => List.mem_filter.mpr ⟨(by decide +kernel : ∀ w ∈ u_ws RX9 TX9 11, w ∈ lw_tbl) w hw, (by decide +kernel : ∀ w ∈ u_ws RX9 TX9 11, goodWord w = true) w hw⟩, tyX9_ok, nmX9⟩
theorem fc_8 : FC 8 RX10 TX10 30 := ⟨by decide, rfl, rfl, fun w hw => List.mem_filter.mpr ⟨(by decide +kernel : ∀ w ∈ u_ws RX10 TX10 30, w ∈ lw_tbl) w hw, (by decide +kernel : ∀ w ∈ u_ws RX10 TX10 30, goodWord w = true) w hw⟩, tyX10_ok, nmX10⟩
abbrev mX7_init : MD := (yX7_init, cX7_init, 1, none, { frames := 1, cells := 1, slots := 32, locals := 24 })
abbrev mX6_init : MD := (yX6_init, cX6_init, 1, none, { frames := 1, cells := 0, slots := 0, locals := 24 })
abbrev mX3_init : MD := (yX3_init, cX3_init, 1, none, { frames := 1, cells := 3, slots := 48, locals := 24 })
abbrev mX0_init : MD := (yX0_init, cX0_init, 1, none, { frames := 1, cells := 0, slots := 0, locals := 24 })
abbrev mX1_init : MD := (yX1_init, cX1_init, 2, none, { frames := 2, cells := 15, slots := 84, locals := 44 })
abbrev mX2_init : MD := (yX2_init, cX2_init, 1, none, { frames := 1, cells := 3, slots := 63, locals := 24 })
abbrev mX8_init : MD := (yX8_init, cX8_init, 1, none, { frames := 1, cells := 3, slots := 18, locals := 24 })
abbrev mX9_init : MD := (yX9_init, cX9_init, 1, none, { frames := 3, cells := 41, slots := 392, locals := 65 })
abbrev mX10_init : MD := (yX10_init, cX10_init, 1, none, { frames := 1, cells := 13, slots := 455, locals := 24 })
abbrev mX7_put : MD := (yX7_put, cX7_put, 3, some .boolean, { frames := 0, cells := 0, slots := 0, locals := 0 })
abbrev mX9_write : MD := (yX9_write, cX9_write, 2, some .int, { frames := 1, cells := 0, slots := 0, locals := 22 })
abbrev mX10_in : MD := (yX10_in, cX10_in, 6, some .boolean, { frames := 0, cells := 0, slots := 0, locals := 0 })
abbrev mX10_write : MD := (yX10_write, cX10_write, 2, some .int, { frames := 1, cells := 0, slots := 0, locals := 25 })
abbrev mX9_wipe : MD := (yX9_wipe, cX9_wipe, 2, some .int, { frames := 0, cells := 0, slots := 0, locals := 0 })
abbrev mX10_wipe : MD := (yX10_wipe, cX10_wipe, 2, some .int, { frames := 0, cells := 0, slots := 0, locals := 0 })
abbrev mX7_letterAt : MD := (yX7_letterAt, cX7_letterAt, 2, some .int, { frames := 0, cells := 0, slots := 0, locals := 0 })
abbrev mX4_named : MD := (yX4_named, cX4_named, 1, some (.object "CrossTable$Field"), { frames := 0, cells := 0, slots := 0, locals := 0 })
abbrev mX5_startingWith : MD := (yX5_startingWith, cX5_startingWith, 1, some (.object "CrossTable$Measure"), { frames := 0, cells := 0, slots := 0, locals := 0 })
abbrev mJ0_coder_7d493 : MD := (yJ0_coder_7d493, cJ0_coder_7d493, 1, some .byte, { frames := 0, cells := 0, slots := 0, locals := 0 })
abbrev mJ0_length_8abf5 : MD := (yJ0_length_8abf5, cJ0_length_8abf5, 1, some .int, { frames := 1, cells := 0, slots := 0, locals := 20 })
abbrev mJ0_isLatin1_aae02 : MD := (yJ0_isLatin1_aae02, cJ0_isLatin1_aae02, 1, some .boolean, { frames := 0, cells := 0, slots := 0, locals := 0 })
abbrev mJ3_checkIndex_8e157 : MD := (yJ3_checkIndex_8e157, cJ3_checkIndex_8e157, 3, some .int, { frames := 0, cells := 0, slots := 0, locals := 0 })
abbrev mJ0_checkIndex_df160 : MD := (yJ0_checkIndex_df160, cJ0_checkIndex_df160, 2, none, { frames := 1, cells := 0, slots := 0, locals := 22 })
abbrev mJ1_charAt_3b067 : MD := (yJ1_charAt_3b067, cJ1_charAt_3b067, 2, some .char, { frames := 2, cells := 0, slots := 0, locals := 43 })
abbrev mJ0_charAt_5068e : MD := (yJ0_charAt_5068e, cJ0_charAt_5068e, 2, some .char, { frames := 3, cells := 0, slots := 0, locals := 64 })
abbrev mX7_spelt : MD := (yX7_spelt, cX7_spelt, 3, some .int, { frames := 4, cells := 0, slots := 0, locals := 85 })
abbrev mX7_figureAt : MD := (yX7_figureAt, cX7_figureAt, 3, some .int, { frames := 1, cells := 0, slots := 0, locals := 21 })
abbrev mX7_readInto : MD := (yX7_readInto, cX7_readInto, 8, some .int, { frames := 5, cells := 0, slots := 0, locals := 107 })
abbrev mX9_fault : MD := (yX9_fault, cX9_fault, 1, some .int, { frames := 6, cells := 0, slots := 0, locals := 134 })
abbrev mX10_fieldOf : MD := (yX10_fieldOf, cX10_fieldOf, 1, some .int, { frames := 0, cells := 0, slots := 0, locals := 0 })
abbrev mX10_letterOf : MD := (yX10_letterOf, cX10_letterOf, 2, some .int, { frames := 0, cells := 0, slots := 0, locals := 0 })
abbrev mX10_readEnd : MD := (yX10_readEnd, cX10_readEnd, 2, some .int, { frames := 1, cells := 0, slots := 0, locals := 25 })
abbrev mX10_readText : MD := (yX10_readText, cX10_readText, 2, some .int, { frames := 2, cells := 0, slots := 0, locals := 46 })
abbrev mX10_fault : MD := (yX10_fault, cX10_fault, 1, some .int, { frames := 3, cells := 0, slots := 0, locals := 67 })
abbrev mJ7_fill_53178 : MD := (yJ7_fill_53178, cJ7_fill_53178, 4, none, { frames := 0, cells := 0, slots := 0, locals := 0 })
abbrev mX4_binOf : MD := (yX4_binOf, cX4_binOf, 2, some .int, { frames := 0, cells := 0, slots := 0, locals := 0 })
abbrev mX4_keyOf : MD := (yX4_keyOf, cX4_keyOf, 4, some .int, { frames := 1, cells := 0, slots := 0, locals := 24 })
abbrev mX2_gather : MD := (yX2_gather, cX2_gather, 6, none, { frames := 2, cells := 0, slots := 0, locals := 47 })
abbrev mJ6_bitCount_0f7a4 : MD := (yJ6_bitCount_0f7a4, cJ6_bitCount_0f7a4, 1, some .int, { frames := 0, cells := 0, slots := 0, locals := 0 })
abbrev mX3_missing : MD := (yX3_missing, cX3_missing, 3, some .int, { frames := 0, cells := 0, slots := 0, locals := 0 })
abbrev mX3_sumOf : MD := (yX3_sumOf, cX3_sumOf, 4, some .int, { frames := 0, cells := 0, slots := 0, locals := 0 })
abbrev mX3_mostOf : MD := (yX3_mostOf, cX3_mostOf, 4, some .int, { frames := 0, cells := 0, slots := 0, locals := 0 })
abbrev mX3_leastOf : MD := (yX3_leastOf, cX3_leastOf, 4, some .int, { frames := 0, cells := 0, slots := 0, locals := 0 })
abbrev mJ13_bitCount_95d88 : MD := (yJ13_bitCount_95d88, cJ13_bitCount_95d88, 2, some .int, { frames := 0, cells := 0, slots := 0, locals := 0 })
abbrev mX3_kindsOf : MD := (yX3_kindsOf, cX3_kindsOf, 7, some .int, { frames := 1, cells := 0, slots := 0, locals := 21 })
abbrev mX5_of : MD := (yX5_of, cX5_of, 4, some .int, { frames := 2, cells := 0, slots := 0, locals := 47 })
abbrev mX2_greatestBut : MD := (yX2_greatestBut, cX2_greatestBut, 6, some .int, { frames := 0, cells := 0, slots := 0, locals := 0 })
abbrev mX2_closeUp : MD := (yX2_closeUp, cX2_closeUp, 5, none, { frames := 0, cells := 0, slots := 0, locals := 0 })
abbrev mX2_foldRest : MD := (yX2_foldRest, cX2_foldRest, 6, none, { frames := 3, cells := 0, slots := 0, locals := 70 })
abbrev mX9_rowsOf : MD := (yX9_rowsOf, cX9_rowsOf, 2, some (.object "CrossTable$Axis"), { frames := 4, cells := 0, slots := 0, locals := 95 })
abbrev mX9_plan : MD := (yX9_plan, cX9_plan, 2, some .int, { frames := 6, cells := 0, slots := 0, locals := 134 })
abbrev mX10_many : MD := (yX10_many, cX10_many, 2, some .int, { frames := 0, cells := 0, slots := 0, locals := 0 })
abbrev mX10_at : MD := (yX10_at, cX10_at, 3, some .int, { frames := 0, cells := 0, slots := 0, locals := 0 })
abbrev mX10_keyOf : MD := (yX10_keyOf, cX10_keyOf, 5, some .int, { frames := 1, cells := 0, slots := 0, locals := 22 })
abbrev mX10_groupOf : MD := (yX10_groupOf, cX10_groupOf, 6, some .int, { frames := 2, cells := 0, slots := 0, locals := 46 })
abbrev mX10_has : MD := (yX10_has, cX10_has, 2, some .boolean, { frames := 0, cells := 0, slots := 0, locals := 0 })
abbrev mX10_amountOf : MD := (yX10_amountOf, cX10_amountOf, 3, some .int, { frames := 1, cells := 0, slots := 0, locals := 22 })
abbrev mX10_twinsOf : MD := (yX10_twinsOf, cX10_twinsOf, 6, some .int, { frames := 2, cells := 0, slots := 0, locals := 44 })
abbrev mX10_measureOf : MD := (yX10_measureOf, cX10_measureOf, 11, some .int, { frames := 3, cells := 0, slots := 0, locals := 69 })
abbrev mX10_pick : MD := (yX10_pick, cX10_pick, 8, none, { frames := 4, cells := 0, slots := 0, locals := 99 })
abbrev mX10_findRows : MD := (yX10_findRows, cX10_findRows, 7, none, { frames := 5, cells := 0, slots := 0, locals := 126 })
abbrev mX10_plan : MD := (yX10_plan, cX10_plan, 1, some .int, { frames := 6, cells := 0, slots := 0, locals := 152 })
abbrev mX9_word : MD := (yX9_word, cX9_word, 3, some .int, { frames := 4, cells := 0, slots := 0, locals := 85 })
abbrev mX10_word : MD := (yX10_word, cX10_word, 2, some .int, { frames := 1, cells := 0, slots := 0, locals := 25 })
abbrev mX9_isAmount : MD := (yX9_isAmount, cX9_isAmount, 1, some .boolean, { frames := 0, cells := 0, slots := 0, locals := 0 })
abbrev mX9_isEntry : MD := (yX9_isEntry, cX9_isEntry, 3, some .boolean, { frames := 1, cells := 0, slots := 0, locals := 20 })
abbrev mX3_hasRoom : MD := (yX3_hasRoom, cX3_hasRoom, 1, some .boolean, { frames := 0, cells := 0, slots := 0, locals := 0 })
abbrev mX1_next : MD := (yX1_next, cX1_next, 3, some (.object "CrossTable$Act"), { frames := 0, cells := 0, slots := 0, locals := 0 })
abbrev mX0_tell : MD := (yX0_tell, cX0_tell, 6, none, { frames := 0, cells := 0, slots := 0, locals := 0 })
abbrev mX3_shift : MD := (yX3_shift, cX3_shift, 4, none, { frames := 1, cells := 0, slots := 0, locals := 26 })
abbrev mX3_insert : MD := (yX3_insert, cX3_insert, 5, none, { frames := 2, cells := 0, slots := 0, locals := 49 })
abbrev mX3_append : MD := (yX3_append, cX3_append, 4, none, { frames := 3, cells := 0, slots := 0, locals := 73 })
abbrev mX9_add : MD := (yX9_add, cX9_add, 4, some .int, { frames := 4, cells := 0, slots := 0, locals := 96 })
abbrev mX10_isEntry : MD := (yX10_isEntry, cX10_isEntry, 3, some .boolean, { frames := 1, cells := 0, slots := 0, locals := 25 })
abbrev mX10_keepAct : MD := (yX10_keepAct, cX10_keepAct, 2, none, { frames := 0, cells := 0, slots := 0, locals := 0 })
abbrev mX10_asOne : MD := (yX10_asOne, cX10_asOne, 3, some .int, { frames := 0, cells := 0, slots := 0, locals := 0 })
abbrev mX10_addOn : MD := (yX10_addOn, cX10_addOn, 3, none, { frames := 1, cells := 0, slots := 0, locals := 21 })
abbrev mX10_add : MD := (yX10_add, cX10_add, 4, some .int, { frames := 2, cells := 0, slots := 0, locals := 47 })
abbrev mX3_has : MD := (yX3_has, cX3_has, 2, some .boolean, { frames := 0, cells := 0, slots := 0, locals := 0 })
abbrev mX3_remove : MD := (yX3_remove, cX3_remove, 2, none, { frames := 2, cells := 0, slots := 0, locals := 49 })
abbrev mX9_drop : MD := (yX9_drop, cX9_drop, 3, some .int, { frames := 3, cells := 0, slots := 0, locals := 70 })
abbrev mX10_isThere : MD := (yX10_isThere, cX10_isThere, 2, some .boolean, { frames := 1, cells := 0, slots := 0, locals := 25 })
abbrev mX10_dropOn : MD := (yX10_dropOn, cX10_dropOn, 4, none, { frames := 1, cells := 0, slots := 0, locals := 21 })
abbrev mX10_drop : MD := (yX10_drop, cX10_drop, 3, some .int, { frames := 2, cells := 0, slots := 0, locals := 46 })
abbrev mX9_change : MD := (yX9_change, cX9_change, 4, some .int, { frames := 1, cells := 0, slots := 0, locals := 25 })
abbrev mX10_change : MD := (yX10_change, cX10_change, 4, some .int, { frames := 2, cells := 0, slots := 0, locals := 46 })
abbrev mX1_takeLast : MD := (yX1_takeLast, cX1_takeLast, 1, some (.object "CrossTable$Act"), { frames := 0, cells := 0, slots := 0, locals := 0 })
abbrev mX0_takeBack : MD := (yX0_takeBack, cX0_takeBack, 2, none, { frames := 3, cells := 0, slots := 0, locals := 73 })
abbrev mX9_undo : MD := (yX9_undo, cX9_undo, 2, some .int, { frames := 4, cells := 0, slots := 0, locals := 94 })
abbrev mX10_undo : MD := (yX10_undo, cX10_undo, 2, some .int, { frames := 0, cells := 0, slots := 0, locals := 0 })
abbrev mX2_keyOfEntry : MD := (yX2_keyOfEntry, cX2_keyOfEntry, 3, some .int, { frames := 0, cells := 0, slots := 0, locals := 0 })
abbrev mX9_columnsOf : MD := (yX9_columnsOf, cX9_columnsOf, 2, some (.object "CrossTable$Axis"), { frames := 3, cells := 0, slots := 0, locals := 72 })
abbrev mX9_entry : MD := (yX9_entry, cX9_entry, 3, some .int, { frames := 5, cells := 0, slots := 0, locals := 116 })
abbrev mX10_rowKeyOf : MD := (yX10_rowKeyOf, cX10_rowKeyOf, 4, some .int, { frames := 1, cells := 0, slots := 0, locals := 21 })
abbrev mX10_entry : MD := (yX10_entry, cX10_entry, 3, some .int, { frames := 6, cells := 0, slots := 0, locals := 152 })
abbrev mX9_isOneOfTwo : MD := (yX9_isOneOfTwo, cX9_isOneOfTwo, 1, some .boolean, { frames := 0, cells := 0, slots := 0, locals := 0 })
abbrev mX9_isAxis : MD := (yX9_isAxis, cX9_isAxis, 1, some .boolean, { frames := 1, cells := 0, slots := 0, locals := 20 })
abbrev mX9_axisOf : MD := (yX9_axisOf, cX9_axisOf, 2, some (.object "CrossTable$Axis"), { frames := 5, cells := 0, slots := 0, locals := 116 })
abbrev mX2_has : MD := (yX2_has, cX2_has, 2, some .boolean, { frames := 0, cells := 0, slots := 0, locals := 0 })
abbrev mX9_key : MD := (yX9_key, cX9_key, 4, some .int, { frames := 6, cells := 0, slots := 0, locals := 137 })
abbrev mX10_findColumns : MD := (yX10_findColumns, cX10_findColumns, 4, none, { frames := 3, cells := 0, slots := 0, locals := 71 })
abbrev mX10_key : MD := (yX10_key, cX10_key, 3, some .int, { frames := 6, cells := 0, slots := 0, locals := 152 })
abbrev mX2_setOf : MD := (yX2_setOf, cX2_setOf, 3, some .int, { frames := 0, cells := 0, slots := 0, locals := 0 })
abbrev mX9_cellOf : MD := (yX9_cellOf, cX9_cellOf, 4, some .int, { frames := 5, cells := 0, slots := 0, locals := 116 })
abbrev mX9_measureOf : MD := (yX9_measureOf, cX9_measureOf, 3, some .int, { frames := 3, cells := 0, slots := 0, locals := 70 })
abbrev mX9_cell : MD := (yX9_cell, cX9_cell, 3, some .int, { frames := 6, cells := 0, slots := 0, locals := 139 })
abbrev mX10_rowOf : MD := (yX10_rowOf, cX10_rowOf, 4, some .int, { frames := 0, cells := 0, slots := 0, locals := 0 })
abbrev mX10_columnOf : MD := (yX10_columnOf, cX10_columnOf, 4, some .int, { frames := 0, cells := 0, slots := 0, locals := 0 })
abbrev mX10_cell : MD := (yX10_cell, cX10_cell, 3, some .int, { frames := 6, cells := 0, slots := 0, locals := 152 })
abbrev mX9_drill : MD := (yX9_drill, cX9_drill, 3, some .int, { frames := 6, cells := 0, slots := 0, locals := 139 })
abbrev mX10_drill : MD := (yX10_drill, cX10_drill, 3, some .int, { frames := 6, cells := 0, slots := 0, locals := 152 })
abbrev mX9_along : MD := (yX9_along, cX9_along, 3, some .int, { frames := 6, cells := 0, slots := 0, locals := 137 })
abbrev mX10_along : MD := (yX10_along, cX10_along, 3, some .int, { frames := 6, cells := 0, slots := 0, locals := 152 })
abbrev mX3_all : MD := (yX3_all, cX3_all, 1, some .int, { frames := 0, cells := 0, slots := 0, locals := 0 })
abbrev mX9_totalOf : MD := (yX9_totalOf, cX9_totalOf, 2, some .int, { frames := 4, cells := 0, slots := 0, locals := 92 })
abbrev mX9_total : MD := (yX9_total, cX9_total, 1, some .int, { frames := 5, cells := 0, slots := 0, locals := 113 })
abbrev mX10_allOf : MD := (yX10_allOf, cX10_allOf, 2, some .int, { frames := 1, cells := 0, slots := 0, locals := 21 })
abbrev mX10_total : MD := (yX10_total, cX10_total, 1, some .int, { frames := 4, cells := 0, slots := 0, locals := 99 })
abbrev mX3_copyFrom : MD := (yX3_copyFrom, cX3_copyFrom, 2, none, { frames := 1, cells := 0, slots := 0, locals := 26 })
abbrev mX9_would : MD := (yX9_would, cX9_would, 5, some .int, { frames := 5, cells := 0, slots := 0, locals := 116 })
abbrev mX10_layTrial : MD := (yX10_layTrial, cX10_layTrial, 2, none, { frames := 0, cells := 0, slots := 0, locals := 0 })
abbrev mX10_would : MD := (yX10_would, cX10_would, 5, some .int, { frames := 6, cells := 0, slots := 0, locals := 152 })
abbrev mX9_best : MD := (yX9_best, cX9_best, 6, some .int, { frames := 4, cells := 0, slots := 0, locals := 92 })
abbrev mX10_best : MD := (yX10_best, cX10_best, 7, some .int, { frames := 4, cells := 0, slots := 0, locals := 99 })
abbrev mX9_addToTrial : MD := (yX9_addToTrial, cX9_addToTrial, 5, some .boolean, { frames := 4, cells := 0, slots := 0, locals := 96 })
abbrev mX9_dropFromTrial : MD := (yX9_dropFromTrial, cX9_dropFromTrial, 3, some .boolean, { frames := 3, cells := 0, slots := 0, locals := 70 })
abbrev mX9_changeInTrial : MD := (yX9_changeInTrial, cX9_changeInTrial, 4, some .boolean, { frames := 1, cells := 0, slots := 0, locals := 21 })
abbrev mX9_stands : MD := (yX9_stands, cX9_stands, 6, some .boolean, { frames := 6, cells := 0, slots := 0, locals := 139 })
abbrev mX9_judge : MD := (yX9_judge, cX9_judge, 7, some .int, { frames := 7, cells := 0, slots := 0, locals := 164 })
abbrev mX10_tenThousandTo : MD := (yX10_tenThousandTo, cX10_tenThousandTo, 4, some .long, { frames := 0, cells := 0, slots := 0, locals := 0 })
abbrev mX10_tryThing : MD := (yX10_tryThing, cX10_tryThing, 7, some .boolean, { frames := 6, cells := 0, slots := 0, locals := 152 })
abbrev mX10_judge : MD := (yX10_judge, cX10_judge, 6, some .int, { frames := 7, cells := 0, slots := 0, locals := 178 })
abbrev mX9_isRowKey : MD := (yX9_isRowKey, cX9_isRowKey, 1, some .boolean, { frames := 0, cells := 0, slots := 0, locals := 0 })
abbrev mX9_isSeenMeasure : MD := (yX9_isSeenMeasure, cX9_isSeenMeasure, 1, some .boolean, { frames := 0, cells := 0, slots := 0, locals := 0 })
abbrev mX8_put : MD := (yX8_put, cX8_put, 5, some .boolean, { frames := 0, cells := 0, slots := 0, locals := 0 })
abbrev mX9_see : MD := (yX9_see, cX9_see, 4, some .int, { frames := 1, cells := 0, slots := 0, locals := 24 })
abbrev mX10_see : MD := (yX10_see, cX10_see, 5, some .int, { frames := 1, cells := 0, slots := 0, locals := 25 })
abbrev mX9_unsee : MD := (yX9_unsee, cX9_unsee, 2, some .int, { frames := 0, cells := 0, slots := 0, locals := 0 })
abbrev mX10_unsee : MD := (yX10_unsee, cX10_unsee, 2, some .int, { frames := 0, cells := 0, slots := 0, locals := 0 })
abbrev mX9_isAllSeenSo : MD := (yX9_isAllSeenSo, cX9_isAllSeenSo, 7, some .boolean, { frames := 5, cells := 0, slots := 0, locals := 116 })
abbrev mX9_hidden : MD := (yX9_hidden, cX9_hidden, 9, some .int, { frames := 6, cells := 0, slots := 0, locals := 142 })
abbrev mX10_mayBe : MD := (yX10_mayBe, cX10_mayBe, 4, some .boolean, { frames := 6, cells := 0, slots := 0, locals := 152 })
abbrev mX10_hidden : MD := (yX10_hidden, cX10_hidden, 6, some .int, { frames := 7, cells := 0, slots := 0, locals := 175 })
abbrev mX2_union : MD := (yX2_union, cX2_union, 4, some .int, { frames := 0, cells := 0, slots := 0, locals := 0 })
abbrev mX9_noneAsZero : MD := (yX9_noneAsZero, cX9_noneAsZero, 1, some .int, { frames := 0, cells := 0, slots := 0, locals := 0 })
abbrev mX9_worthOf : MD := (yX9_worthOf, cX9_worthOf, 2, some .int, { frames := 4, cells := 0, slots := 0, locals := 92 })
abbrev mX9_commonDivisor : MD := (yX9_commonDivisor, cX9_commonDivisor, 6, some .int, { frames := 0, cells := 0, slots := 0, locals := 0 })
abbrev mX9_fraction : MD := (yX9_fraction, cX9_fraction, 4, some .int, { frames := 1, cells := 0, slots := 0, locals := 25 })
abbrev mX9_share : MD := (yX9_share, cX9_share, 9, some .int, { frames := 5, cells := 0, slots := 0, locals := 116 })
abbrev mX10_ones : MD := (yX10_ones, cX10_ones, 3, some .int, { frames := 0, cells := 0, slots := 0, locals := 0 })
abbrev mX10_factorial : MD := (yX10_factorial, cX10_factorial, 3, some .int, { frames := 0, cells := 0, slots := 0, locals := 0 })
abbrev mX10_measureBy : MD := (yX10_measureBy, cX10_measureBy, 4, some .int, { frames := 4, cells := 0, slots := 0, locals := 99 })
abbrev mX10_worthBy : MD := (yX10_worthBy, cX10_worthBy, 3, some .int, { frames := 5, cells := 0, slots := 0, locals := 122 })
abbrev mX10_common : MD := (yX10_common, cX10_common, 5, some .int, { frames := 0, cells := 0, slots := 0, locals := 0 })
abbrev mX10_share : MD := (yX10_share, cX10_share, 6, some .int, { frames := 6, cells := 0, slots := 0, locals := 152 })
abbrev mX9_power : MD := (yX9_power, cX9_power, 4, some .int, { frames := 0, cells := 0, slots := 0, locals := 0 })
abbrev mX9_lost : MD := (yX9_lost, cX9_lost, 8, some .int, { frames := 5, cells := 0, slots := 0, locals := 116 })
abbrev mX10_lost : MD := (yX10_lost, cX10_lost, 9, some .int, { frames := 6, cells := 0, slots := 0, locals := 152 })
abbrev mX9_seed : MD := (yX9_seed, cX9_seed, 5, some .long, { frames := 0, cells := 0, slots := 0, locals := 0 })
abbrev mX10_seed : MD := (yX10_seed, cX10_seed, 5, some .long, { frames := 0, cells := 0, slots := 0, locals := 0 })
abbrev mX9_drawIntoTrial : MD := (yX9_drawIntoTrial, cX9_drawIntoTrial, 2, none, { frames := 4, cells := 0, slots := 0, locals := 96 })
abbrev mX9_drawn : MD := (yX9_drawn, cX9_drawn, 4, some .int, { frames := 5, cells := 0, slots := 0, locals := 117 })
abbrev mX10_drawn : MD := (yX10_drawn, cX10_drawn, 6, some .int, { frames := 4, cells := 0, slots := 0, locals := 99 })
abbrev mX9_isSlot : MD := (yX9_isSlot, cX9_isSlot, 1, some .boolean, { frames := 0, cells := 0, slots := 0, locals := 0 })
abbrev mX9_keep : MD := (yX9_keep, cX9_keep, 3, some .int, { frames := 2, cells := 4, slots := 52, locals := 47 })
abbrev mX10_keep : MD := (yX10_keep, cX10_keep, 3, some .int, { frames := 1, cells := 0, slots := 0, locals := 25 })
abbrev mX9_again : MD := (yX9_again, cX9_again, 3, some .int, { frames := 2, cells := 0, slots := 0, locals := 47 })
abbrev mX10_again : MD := (yX10_again, cX10_again, 3, some .int, { frames := 1, cells := 0, slots := 0, locals := 25 })
abbrev mX2_meetings : MD := (yX2_meetings, cX2_meetings, 5, some .int, { frames := 0, cells := 0, slots := 0, locals := 0 })
abbrev mX9_count : MD := (yX9_count, cX9_count, 2, some .int, { frames := 5, cells := 0, slots := 0, locals := 116 })
abbrev mX10_filledCells : MD := (yX10_filledCells, cX10_filledCells, 4, some .int, { frames := 0, cells := 0, slots := 0, locals := 0 })
abbrev mX10_missingAmounts : MD := (yX10_missingAmounts, cX10_missingAmounts, 3, some .int, { frames := 2, cells := 0, slots := 0, locals := 44 })
abbrev mX10_count : MD := (yX10_count, cX10_count, 2, some .int, { frames := 6, cells := 0, slots := 0, locals := 152 })
abbrev mL_law : MD := (yL_law, cL_law, 4, some .boolean, room_1)
theorem cs_X7_init : CS mX7_init 0 := ⟨wd_80, wd_48, by decide, by decide, by decide +kernel⟩
theorem cs_X6_init : CS mX6_init 0 := ⟨wd_95, wd_49, by decide, by decide, by decide +kernel⟩
theorem cs_X3_init : CS mX3_init 0 := ⟨wd_133, wd_53, by decide, by decide, by decide +kernel⟩
theorem cs_X0_init : CS mX0_init 0 := ⟨wd_168, wd_55, by decide, by decide, by decide +kernel⟩
theorem cs_X1_init : CS mX1_init 0 := ⟨wd_161, wd_54, by decide, by decide, by decide +kernel⟩
theorem cs_X2_init : CS mX2_init 0 := ⟨wd_198, wd_56, by decide, by decide, by decide +kernel⟩
theorem cs_X8_init : CS mX8_init 0 := ⟨wd_219, wd_57, by decide, by decide, by decide +kernel⟩
theorem cs_X9_init : CS mX9_init 0 := ⟨wd_72, wd_47, by decide, by decide, by decide +kernel⟩
theorem cs_X10_init : CS mX10_init 0 := ⟨wd_727, wd_58, by decide, by decide, by decide +kernel⟩
theorem cs_X7_put : CS mX7_put 1 := ⟨wd_281, wd_48, by decide, by decide, by decide +kernel⟩
theorem cs_X9_write : CS mX9_write 1 := ⟨wd_277, wd_47, by decide, by decide, by decide +kernel⟩
theorem cs_X10_in : CS mX10_in 3 := ⟨wd_827, wd_58, by decide, by decide, by decide +kernel⟩
theorem cs_X10_write : CS mX10_write 1 := ⟨wd_823, wd_58, by decide, by decide, by decide +kernel⟩
theorem cs_X9_wipe : CS mX9_wipe 0 := ⟨wd_285, wd_47, by decide, by decide, by decide +kernel⟩
theorem cs_X10_wipe : CS mX10_wipe 0 := ⟨wd_831, wd_58, by decide, by decide, by decide +kernel⟩
theorem cs_X7_letterAt : CS mX7_letterAt 1 := ⟨wd_297, wd_48, by decide, by decide, by decide +kernel⟩
theorem cs_X4_named : CS mX4_named 1 := ⟨wd_300, wd_51, by decide, by decide, by decide +kernel⟩
theorem cs_X5_startingWith : CS mX5_startingWith 1 := ⟨wd_310, wd_52, by decide, by decide, by decide +kernel⟩
theorem cs_J0_coder_7d493 : CS mJ0_coder_7d493 0 := ⟨wd_331, wd_59, by decide, by decide, by decide +kernel⟩
theorem cs_J0_length_8abf5 : CS mJ0_length_8abf5 0 := ⟨wd_327, wd_59, by decide, by decide, by decide +kernel⟩
theorem cs_J0_isLatin1_aae02 : CS mJ0_isLatin1_aae02 0 := ⟨wd_341, wd_59, by decide, by decide, by decide +kernel⟩
theorem cs_J3_checkIndex_8e157 : CS mJ3_checkIndex_8e157 3 := ⟨wd_352, wd_61, by decide, by decide, by decide +kernel⟩
theorem cs_J0_checkIndex_df160 : CS mJ0_checkIndex_df160 2 := ⟨wd_347, wd_59, by decide, by decide, by decide +kernel⟩
theorem cs_J1_charAt_3b067 : CS mJ1_charAt_3b067 2 := ⟨wd_344, wd_60, by decide, by decide, by decide +kernel⟩
theorem cs_J0_charAt_5068e : CS mJ0_charAt_5068e 1 := ⟨wd_337, wd_59, by decide, by decide, by decide +kernel⟩
theorem cs_X7_spelt : CS mX7_spelt 1 := ⟨wd_323, wd_48, by decide, by decide, by decide +kernel⟩
theorem cs_X7_figureAt : CS mX7_figureAt 1 := ⟨wd_375, wd_48, by decide, by decide, by decide +kernel⟩
theorem cs_X7_readInto : CS mX7_readInto 1 := ⟨wd_293, wd_48, by decide, by decide, by decide +kernel⟩
theorem cs_X9_fault : CS mX9_fault 0 := ⟨wd_289, wd_47, by decide, by decide, by decide +kernel⟩
theorem cs_X10_fieldOf : CS mX10_fieldOf 1 := ⟨wd_842, wd_58, by decide, by decide, by decide +kernel⟩
theorem cs_X10_letterOf : CS mX10_letterOf 2 := ⟨wd_846, wd_58, by decide, by decide, by decide +kernel⟩
theorem cs_X10_readEnd : CS mX10_readEnd 1 := ⟨wd_850, wd_58, by decide, by decide, by decide +kernel⟩
theorem cs_X10_readText : CS mX10_readText 0 := ⟨wd_839, wd_58, by decide, by decide, by decide +kernel⟩
theorem cs_X10_fault : CS mX10_fault 0 := ⟨wd_835, wd_58, by decide, by decide, by decide +kernel⟩
theorem cs_J7_fill_53178 : CS mJ7_fill_53178 2 := ⟨wd_390, wd_63, by decide, by decide, by decide +kernel⟩
theorem cs_X4_binOf : CS mX4_binOf 2 := ⟨wd_400, wd_51, by decide, by decide, by decide +kernel⟩
theorem cs_X4_keyOf : CS mX4_keyOf 3 := ⟨wd_394, wd_51, by decide, by decide, by decide +kernel⟩
theorem cs_X2_gather : CS mX2_gather 3 := ⟨wd_387, wd_56, by decide, by decide, by decide +kernel⟩
theorem cs_J6_bitCount_0f7a4 : CS mJ6_bitCount_0f7a4 1 := ⟨wd_411, wd_65, by decide, by decide, by decide +kernel⟩
theorem cs_X3_missing : CS mX3_missing 0 := ⟨wd_418, wd_53, by decide, by decide, by decide +kernel⟩
theorem cs_X3_sumOf : CS mX3_sumOf 1 := ⟨wd_422, wd_53, by decide, by decide, by decide +kernel⟩
theorem cs_X3_mostOf : CS mX3_mostOf 1 := ⟨wd_426, wd_53, by decide, by decide, by decide +kernel⟩
theorem cs_X3_leastOf : CS mX3_leastOf 1 := ⟨wd_430, wd_53, by decide, by decide, by decide +kernel⟩
theorem cs_J13_bitCount_95d88 : CS mJ13_bitCount_95d88 1 := ⟨wd_437, wd_66, by decide, by decide, by decide +kernel⟩
theorem cs_X3_kindsOf : CS mX3_kindsOf 1 := ⟨wd_434, wd_53, by decide, by decide, by decide +kernel⟩
theorem cs_X5_of : CS mX5_of 2 := ⟨wd_408, wd_52, by decide, by decide, by decide +kernel⟩
theorem cs_X2_greatestBut : CS mX2_greatestBut 1 := ⟨wd_444, wd_56, by decide, by decide, by decide +kernel⟩
theorem cs_X2_closeUp : CS mX2_closeUp 1 := ⟨wd_448, wd_56, by decide, by decide, by decide +kernel⟩
theorem cs_X2_foldRest : CS mX2_foldRest 3 := ⟨wd_404, wd_56, by decide, by decide, by decide +kernel⟩
theorem cs_X9_rowsOf : CS mX9_rowsOf 1 := ⟨wd_383, wd_47, by decide, by decide, by decide +kernel⟩
theorem cs_X9_plan : CS mX9_plan 0 := ⟨wd_379, wd_47, by decide, by decide, by decide +kernel⟩
theorem cs_X10_many : CS mX10_many 1 := ⟨wd_870, wd_58, by decide, by decide, by decide +kernel⟩
theorem cs_X10_at : CS mX10_at 2 := ⟨wd_878, wd_58, by decide, by decide, by decide +kernel⟩
theorem cs_X10_keyOf : CS mX10_keyOf 3 := ⟨wd_874, wd_58, by decide, by decide, by decide +kernel⟩
theorem cs_X10_groupOf : CS mX10_groupOf 3 := ⟨wd_866, wd_58, by decide, by decide, by decide +kernel⟩
theorem cs_X10_has : CS mX10_has 2 := ⟨wd_893, wd_58, by decide, by decide, by decide +kernel⟩
theorem cs_X10_amountOf : CS mX10_amountOf 2 := ⟨wd_897, wd_58, by decide, by decide, by decide +kernel⟩
theorem cs_X10_twinsOf : CS mX10_twinsOf 2 := ⟨wd_890, wd_58, by decide, by decide, by decide +kernel⟩
theorem cs_X10_measureOf : CS mX10_measureOf 2 := ⟨wd_886, wd_58, by decide, by decide, by decide +kernel⟩
theorem cs_X10_pick : CS mX10_pick 2 := ⟨wd_882, wd_58, by decide, by decide, by decide +kernel⟩
theorem cs_X10_findRows : CS mX10_findRows 1 := ⟨wd_862, wd_58, by decide, by decide, by decide +kernel⟩
theorem cs_X10_plan : CS mX10_plan 0 := ⟨wd_858, wd_58, by decide, by decide, by decide +kernel⟩
theorem cs_X9_word : CS mX9_word 1 := ⟨wd_452, wd_47, by decide, by decide, by decide +kernel⟩
theorem cs_X10_word : CS mX10_word 1 := ⟨wd_901, wd_58, by decide, by decide, by decide +kernel⟩
theorem cs_X9_isAmount : CS mX9_isAmount 1 := ⟨wd_464, wd_47, by decide, by decide, by decide +kernel⟩
theorem cs_X9_isEntry : CS mX9_isEntry 3 := ⟨wd_461, wd_47, by decide, by decide, by decide +kernel⟩
theorem cs_X3_hasRoom : CS mX3_hasRoom 0 := ⟨wd_468, wd_53, by decide, by decide, by decide +kernel⟩
theorem cs_X1_next : CS mX1_next 0 := ⟨wd_472, wd_54, by decide, by decide, by decide +kernel⟩
theorem cs_X0_tell : CS mX0_tell 5 := ⟨wd_476, wd_55, by decide, by decide, by decide +kernel⟩
theorem cs_X3_shift : CS mX3_shift 3 := ⟨wd_489, wd_53, by decide, by decide, by decide +kernel⟩
theorem cs_X3_insert : CS mX3_insert 4 := ⟨wd_484, wd_53, by decide, by decide, by decide +kernel⟩
theorem cs_X3_append : CS mX3_append 3 := ⟨wd_480, wd_53, by decide, by decide, by decide +kernel⟩
theorem cs_X9_add : CS mX9_add 3 := ⟨wd_458, wd_47, by decide, by decide, by decide +kernel⟩
theorem cs_X10_isEntry : CS mX10_isEntry 3 := ⟨wd_909, wd_58, by decide, by decide, by decide +kernel⟩
theorem cs_X10_keepAct : CS mX10_keepAct 0 := ⟨wd_916, wd_58, by decide, by decide, by decide +kernel⟩
theorem cs_X10_asOne : CS mX10_asOne 3 := ⟨wd_919, wd_58, by decide, by decide, by decide +kernel⟩
theorem cs_X10_addOn : CS mX10_addOn 2 := ⟨wd_923, wd_58, by decide, by decide, by decide +kernel⟩
theorem cs_X10_add : CS mX10_add 3 := ⟨wd_906, wd_58, by decide, by decide, by decide +kernel⟩
theorem cs_X3_has : CS mX3_has 1 := ⟨wd_500, wd_53, by decide, by decide, by decide +kernel⟩
theorem cs_X3_remove : CS mX3_remove 1 := ⟨wd_504, wd_53, by decide, by decide, by decide +kernel⟩
theorem cs_X9_drop : CS mX9_drop 1 := ⟨wd_496, wd_47, by decide, by decide, by decide +kernel⟩
theorem cs_X10_isThere : CS mX10_isThere 1 := ⟨wd_931, wd_58, by decide, by decide, by decide +kernel⟩
theorem cs_X10_dropOn : CS mX10_dropOn 2 := ⟨wd_935, wd_58, by decide, by decide, by decide +kernel⟩
theorem cs_X10_drop : CS mX10_drop 1 := ⟨wd_927, wd_58, by decide, by decide, by decide +kernel⟩
theorem cs_X9_change : CS mX9_change 2 := ⟨wd_509, wd_47, by decide, by decide, by decide +kernel⟩
theorem cs_X10_change : CS mX10_change 2 := ⟨wd_939, wd_58, by decide, by decide, by decide +kernel⟩
theorem cs_X1_takeLast : CS mX1_takeLast 0 := ⟨wd_517, wd_54, by decide, by decide, by decide +kernel⟩
theorem cs_X0_takeBack : CS mX0_takeBack 1 := ⟨wd_521, wd_55, by decide, by decide, by decide +kernel⟩
theorem cs_X9_undo : CS mX9_undo 0 := ⟨wd_513, wd_47, by decide, by decide, by decide +kernel⟩
theorem cs_X10_undo : CS mX10_undo 0 := ⟨wd_943, wd_58, by decide, by decide, by decide +kernel⟩
theorem cs_X2_keyOfEntry : CS mX2_keyOfEntry 1 := ⟨wd_532, wd_56, by decide, by decide, by decide +kernel⟩
theorem cs_X9_columnsOf : CS mX9_columnsOf 1 := ⟨wd_536, wd_47, by decide, by decide, by decide +kernel⟩
theorem cs_X9_entry : CS mX9_entry 2 := ⟨wd_528, wd_47, by decide, by decide, by decide +kernel⟩
theorem cs_X10_rowKeyOf : CS mX10_rowKeyOf 1 := ⟨wd_951, wd_58, by decide, by decide, by decide +kernel⟩
theorem cs_X10_entry : CS mX10_entry 2 := ⟨wd_947, wd_58, by decide, by decide, by decide +kernel⟩
theorem cs_X9_isOneOfTwo : CS mX9_isOneOfTwo 1 := ⟨wd_546, wd_47, by decide, by decide, by decide +kernel⟩
theorem cs_X9_isAxis : CS mX9_isAxis 1 := ⟨wd_543, wd_47, by decide, by decide, by decide +kernel⟩
theorem cs_X9_axisOf : CS mX9_axisOf 1 := ⟨wd_550, wd_47, by decide, by decide, by decide +kernel⟩
theorem cs_X2_has : CS mX2_has 1 := ⟨wd_554, wd_56, by decide, by decide, by decide +kernel⟩
theorem cs_X9_key : CS mX9_key 2 := ⟨wd_540, wd_47, by decide, by decide, by decide +kernel⟩
theorem cs_X10_findColumns : CS mX10_findColumns 1 := ⟨wd_959, wd_58, by decide, by decide, by decide +kernel⟩
theorem cs_X10_key : CS mX10_key 2 := ⟨wd_955, wd_58, by decide, by decide, by decide +kernel⟩
theorem cs_X2_setOf : CS mX2_setOf 1 := ⟨wd_566, wd_56, by decide, by decide, by decide +kernel⟩
theorem cs_X9_cellOf : CS mX9_cellOf 3 := ⟨wd_562, wd_47, by decide, by decide, by decide +kernel⟩
theorem cs_X9_measureOf : CS mX9_measureOf 2 := ⟨wd_570, wd_47, by decide, by decide, by decide +kernel⟩
theorem cs_X9_cell : CS mX9_cell 2 := ⟨wd_558, wd_47, by decide, by decide, by decide +kernel⟩
theorem cs_X10_rowOf : CS mX10_rowOf 1 := ⟨wd_967, wd_58, by decide, by decide, by decide +kernel⟩
theorem cs_X10_columnOf : CS mX10_columnOf 1 := ⟨wd_971, wd_58, by decide, by decide, by decide +kernel⟩
theorem cs_X10_cell : CS mX10_cell 2 := ⟨wd_963, wd_58, by decide, by decide, by decide +kernel⟩
theorem cs_X9_drill : CS mX9_drill 2 := ⟨wd_575, wd_47, by decide, by decide, by decide +kernel⟩
theorem cs_X10_drill : CS mX10_drill 2 := ⟨wd_975, wd_58, by decide, by decide, by decide +kernel⟩
theorem cs_X9_along : CS mX9_along 2 := ⟨wd_579, wd_47, by decide, by decide, by decide +kernel⟩
theorem cs_X10_along : CS mX10_along 2 := ⟨wd_979, wd_58, by decide, by decide, by decide +kernel⟩
theorem cs_X3_all : CS mX3_all 0 := ⟨wd_591, wd_53, by decide, by decide, by decide +kernel⟩
theorem cs_X9_totalOf : CS mX9_totalOf 1 := ⟨wd_587, wd_47, by decide, by decide, by decide +kernel⟩
theorem cs_X9_total : CS mX9_total 0 := ⟨wd_583, wd_47, by decide, by decide, by decide +kernel⟩
theorem cs_X10_allOf : CS mX10_allOf 1 := ⟨wd_987, wd_58, by decide, by decide, by decide +kernel⟩
theorem cs_X10_total : CS mX10_total 0 := ⟨wd_983, wd_58, by decide, by decide, by decide +kernel⟩
theorem cs_X3_copyFrom : CS mX3_copyFrom 1 := ⟨wd_599, wd_53, by decide, by decide, by decide +kernel⟩
theorem cs_X9_would : CS mX9_would 4 := ⟨wd_595, wd_47, by decide, by decide, by decide +kernel⟩
theorem cs_X10_layTrial : CS mX10_layTrial 0 := ⟨wd_995, wd_58, by decide, by decide, by decide +kernel⟩
theorem cs_X10_would : CS mX10_would 4 := ⟨wd_991, wd_58, by decide, by decide, by decide +kernel⟩
theorem cs_X9_best : CS mX9_best 1 := ⟨wd_603, wd_47, by decide, by decide, by decide +kernel⟩
theorem cs_X10_best : CS mX10_best 1 := ⟨wd_999, wd_58, by decide, by decide, by decide +kernel⟩
theorem cs_X9_addToTrial : CS mX9_addToTrial 3 := ⟨wd_617, wd_47, by decide, by decide, by decide +kernel⟩
theorem cs_X9_dropFromTrial : CS mX9_dropFromTrial 1 := ⟨wd_621, wd_47, by decide, by decide, by decide +kernel⟩
theorem cs_X9_changeInTrial : CS mX9_changeInTrial 2 := ⟨wd_625, wd_47, by decide, by decide, by decide +kernel⟩
theorem cs_X9_stands : CS mX9_stands 1 := ⟨wd_613, wd_47, by decide, by decide, by decide +kernel⟩
theorem cs_X9_judge : CS mX9_judge 2 := ⟨wd_607, wd_47, by decide, by decide, by decide +kernel⟩
theorem cs_X10_tenThousandTo : CS mX10_tenThousandTo 1 := ⟨wd_1006, wd_58, by decide, by decide, by decide +kernel⟩
theorem cs_X10_tryThing : CS mX10_tryThing 3 := ⟨wd_1011, wd_58, by decide, by decide, by decide +kernel⟩
theorem cs_X10_judge : CS mX10_judge 2 := ⟨wd_1003, wd_58, by decide, by decide, by decide +kernel⟩
theorem cs_X9_isRowKey : CS mX9_isRowKey 1 := ⟨wd_632, wd_47, by decide, by decide, by decide +kernel⟩
theorem cs_X9_isSeenMeasure : CS mX9_isSeenMeasure 1 := ⟨wd_635, wd_47, by decide, by decide, by decide +kernel⟩
theorem cs_X8_put : CS mX8_put 3 := ⟨wd_639, wd_57, by decide, by decide, by decide +kernel⟩
theorem cs_X9_see : CS mX9_see 3 := ⟨wd_629, wd_47, by decide, by decide, by decide +kernel⟩
theorem cs_X10_see : CS mX10_see 3 := ⟨wd_1015, wd_58, by decide, by decide, by decide +kernel⟩
theorem cs_X9_unsee : CS mX9_unsee 0 := ⟨wd_643, wd_47, by decide, by decide, by decide +kernel⟩
theorem cs_X10_unsee : CS mX10_unsee 0 := ⟨wd_1021, wd_58, by decide, by decide, by decide +kernel⟩
theorem cs_X9_isAllSeenSo : CS mX9_isAllSeenSo 3 := ⟨wd_653, wd_47, by decide, by decide, by decide +kernel⟩
theorem cs_X9_hidden : CS mX9_hidden 1 := ⟨wd_647, wd_47, by decide, by decide, by decide +kernel⟩
theorem cs_X10_mayBe : CS mX10_mayBe 1 := ⟨wd_1029, wd_58, by decide, by decide, by decide +kernel⟩
theorem cs_X10_hidden : CS mX10_hidden 1 := ⟨wd_1025, wd_58, by decide, by decide, by decide +kernel⟩
theorem cs_X2_union : CS mX2_union 1 := ⟨wd_664, wd_56, by decide, by decide, by decide +kernel⟩
theorem cs_X9_noneAsZero : CS mX9_noneAsZero 1 := ⟨wd_671, wd_47, by decide, by decide, by decide +kernel⟩
theorem cs_X9_worthOf : CS mX9_worthOf 1 := ⟨wd_668, wd_47, by decide, by decide, by decide +kernel⟩
theorem cs_X9_commonDivisor : CS mX9_commonDivisor 2 := ⟨wd_680, wd_47, by decide, by decide, by decide +kernel⟩
theorem cs_X9_fraction : CS mX9_fraction 3 := ⟨wd_674, wd_47, by decide, by decide, by decide +kernel⟩
theorem cs_X9_share : CS mX9_share 2 := ⟨wd_657, wd_47, by decide, by decide, by decide +kernel⟩
theorem cs_X10_ones : CS mX10_ones 1 := ⟨wd_1036, wd_58, by decide, by decide, by decide +kernel⟩
theorem cs_X10_factorial : CS mX10_factorial 1 := ⟨wd_1039, wd_58, by decide, by decide, by decide +kernel⟩
theorem cs_X10_measureBy : CS mX10_measureBy 1 := ⟨wd_1047, wd_58, by decide, by decide, by decide +kernel⟩
theorem cs_X10_worthBy : CS mX10_worthBy 1 := ⟨wd_1043, wd_58, by decide, by decide, by decide +kernel⟩
theorem cs_X10_common : CS mX10_common 2 := ⟨wd_1050, wd_58, by decide, by decide, by decide +kernel⟩
theorem cs_X10_share : CS mX10_share 2 := ⟨wd_1033, wd_58, by decide, by decide, by decide +kernel⟩
theorem cs_X9_power : CS mX9_power 2 := ⟨wd_688, wd_47, by decide, by decide, by decide +kernel⟩
theorem cs_X9_lost : CS mX9_lost 3 := ⟨wd_685, wd_47, by decide, by decide, by decide +kernel⟩
theorem cs_X10_lost : CS mX10_lost 3 := ⟨wd_1054, wd_58, by decide, by decide, by decide +kernel⟩
theorem cs_X9_seed : CS mX9_seed 1 := ⟨wd_692, wd_47, by decide, by decide, by decide +kernel⟩
theorem cs_X10_seed : CS mX10_seed 1 := ⟨wd_1060, wd_58, by decide, by decide, by decide +kernel⟩
theorem cs_X9_drawIntoTrial : CS mX9_drawIntoTrial 1 := ⟨wd_702, wd_47, by decide, by decide, by decide +kernel⟩
theorem cs_X9_drawn : CS mX9_drawn 1 := ⟨wd_696, wd_47, by decide, by decide, by decide +kernel⟩
theorem cs_X10_drawn : CS mX10_drawn 1 := ⟨wd_1064, wd_58, by decide, by decide, by decide +kernel⟩
theorem cs_X9_isSlot : CS mX9_isSlot 1 := ⟨wd_709, wd_47, by decide, by decide, by decide +kernel⟩
theorem cs_X9_keep : CS mX9_keep 1 := ⟨wd_706, wd_47, by decide, by decide, by decide +kernel⟩
theorem cs_X10_keep : CS mX10_keep 1 := ⟨wd_1070, wd_58, by decide, by decide, by decide +kernel⟩
theorem cs_X9_again : CS mX9_again 1 := ⟨wd_713, wd_47, by decide, by decide, by decide +kernel⟩
theorem cs_X10_again : CS mX10_again 1 := ⟨wd_1074, wd_58, by decide, by decide, by decide +kernel⟩
theorem cs_X2_meetings : CS mX2_meetings 1 := ⟨wd_721, wd_56, by decide, by decide, by decide +kernel⟩
theorem cs_X9_count : CS mX9_count 1 := ⟨wd_717, wd_47, by decide, by decide, by decide +kernel⟩
theorem cs_X10_filledCells : CS mX10_filledCells 0 := ⟨wd_1082, wd_58, by decide, by decide, by decide +kernel⟩
theorem cs_X10_missingAmounts : CS mX10_missingAmounts 0 := ⟨wd_1086, wd_58, by decide, by decide, by decide +kernel⟩
theorem cs_X10_count : CS mX10_count 1 := ⟨wd_1078, wd_58, by decide, by decide, by decide +kernel⟩
