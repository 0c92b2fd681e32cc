/-! FACTS of the claim: words, classes, methods, cells -/
theorem xcf0 : xCF 0 RX0 TX0 5 tyX0 := ⟨rfl, fun w hw => List.mem_filter.mpr ⟨(by decide +kernel : ∀ w ∈ u_ws RX0 TX0 5, w ∈ lw_tbl) w hw, (by decide +kernel : ∀ w ∈ u_ws RX0 TX0 5, xgood w = true) w hw⟩, rfl, by decide +kernel, tyX0_ok, nmX0⟩
theorem xcf1 : xCF 1 RX1 TX1 3 tyX1 := ⟨rfl, fun w hw => List.mem_filter.mpr ⟨(by decide +kernel : ∀ w ∈ u_ws RX1 TX1 3, w ∈ lw_tbl) w hw, (by decide +kernel : ∀ w ∈ u_ws RX1 TX1 3, xgood w = true) w hw⟩, rfl, by decide +kernel, tyX1_ok, nmX1⟩
theorem xcf2 : xCF 2 RX2 TX2 8 tyX2 := ⟨rfl, fun w hw => List.mem_filter.mpr ⟨(by decide +kernel : ∀ w ∈ u_ws RX2 TX2 8, w ∈ lw_tbl) w hw, (by decide +kernel : ∀ w ∈ u_ws RX2 TX2 8, xgood w = true) w hw⟩, rfl, by decide +kernel, tyX2_ok, nmX2⟩
theorem xcf3 : xCF 3 RX3 TX3 8 tyX3 := ⟨rfl, fun w hw => List.mem_filter.mpr ⟨(by decide +kernel : ∀ w ∈ u_ws RX3 TX3 8, w ∈ lw_tbl) w hw, (by decide +kernel : ∀ w ∈ u_ws RX3 TX3 8, xgood w = true) w hw⟩, rfl, by decide +kernel, tyX3_ok, nmX3⟩
theorem xcf4 : xCF 4 RX4 TX4 2 tyX4 := ⟨rfl, fun w hw => List.mem_filter.mpr ⟨(by decide +kernel : ∀ w ∈ u_ws RX4 TX4 2, w ∈ lw_tbl) w hw, (by decide +kernel : ∀ w ∈ u_ws RX4 TX4 2, xgood w = true) w hw⟩, rfl, by decide +kernel, tyX4_ok, nmX4⟩
theorem xcf5 : xCF 5 RX5 TX5 3 tyX5 := ⟨rfl, fun w hw => List.mem_filter.mpr ⟨(by decide +kernel : ∀ w ∈ u_ws RX5 TX5 3, w ∈ lw_tbl) w hw, (by decide +kernel : ∀ w ∈ u_ws RX5 TX5 3, xgood w = true) w hw⟩, rfl, by decide +kernel, tyX5_ok, nmX5⟩
theorem xcf6 : xCF 6 RX6 TX6 7 tyX6 := ⟨rfl, fun w hw => List.mem_filter.mpr ⟨(by decide +kernel : ∀ w ∈ u_ws RX6 TX6 7, w ∈ lw_tbl) w hw, (by decide +kernel : ∀ w ∈ u_ws RX6 TX6 7, xgood w = true) w hw⟩, rfl, by decide +kernel, tyX6_ok, nmX6⟩
theorem xcf7 : xCF 7 RX7 TX7 2 tyX7 := ⟨rfl, fun w hw => List.mem_filter.mpr ⟨(by decide +kernel : ∀ w ∈ u_ws RX7 TX7 2, w ∈ lw_tbl) w hw, (by decide +kernel : ∀ w ∈ u_ws RX7 TX7 2, xgood w = true) w hw⟩, rfl, by decide +kernel, tyX7_ok, nmX7⟩
theorem xcf8 : xCF 8 RX8 TX8 4 tyX8 := ⟨rfl, fun w hw => List.mem_filter.mpr ⟨(by decide +kernel : ∀ w ∈ u_ws RX8 TX8 4, w ∈ lw_tbl) w hw, (by decide +kernel : ∀ w ∈ u_ws RX8 TX8 4, xgood w = true) w hw⟩, rfl, by decide +kernel, tyX8_ok, nmX8⟩
theorem xcf9 : xCF 9 RX9 TX9 9 tyX9 := ⟨rfl, fun w hw => List.mem_filter.mpr ⟨(by decide +kernel : ∀ w ∈ u_ws RX9 TX9 9, w ∈ lw_tbl) w hw, (by decide +kernel : ∀ w ∈ u_ws RX9 TX9 9, xgood w = true) w hw⟩, rfl, by decide +kernel, tyX9_ok, nmX9⟩
theorem xcf10 : xCF 10 RX10 TX10 7 tyX10 := ⟨rfl, fun w hw => List.mem_filter.mpr ⟨(by decide +kernel : ∀ w ∈ u_ws RX10 TX10 7, w ∈ lw_tbl) w hw, (by decide +kernel : ∀ w ∈ u_ws RX10 TX10 7, xgood w = true) w hw⟩, rfl, by decide +kernel, tyX10_ok, nmX10⟩
theorem xcf11 : xCF 11 RX11 TX11 17 tyX11 := ⟨rfl, fun w hw => List.mem_filter.mpr ⟨(by decide +kernel : ∀ w ∈ u_ws RX11 TX11 17, w ∈ lw_tbl) w hw, (by decide +kernel : ∀ w ∈ u_ws RX11 TX11 17, xgood w = true) w hw⟩, rfl, by decide +kernel, tyX11_ok, nmX11⟩
theorem xcf12 : xCF 12 RX12 TX12 86 tyX12 := ⟨rfl, fun w hw => List.mem_filter.mpr ⟨(by decide +kernel : ∀ w ∈ u_ws RX12 TX12 86, w ∈ lw_tbl) w hw, (by decide +kernel : ∀ w ∈ u_ws RX12 TX12 86, xgood w = true) w hw⟩, rfl, by decide +kernel, tyX12_ok, nmX12⟩
abbrev mX7_append : xM := (RX7, cX7_append, 5, (some .int), false, 0, 0, none)
abbrev mX11_feed : xM := (RX11, cX11_feed, 4, (some .int), false, 1, 24, none)
abbrev mX4_clear : xM := (RX4, cX4_clear, 1, none, false, 0, 0, none)
abbrev mX4_append : xM := (RX4, cX4_append, 2, (some .boolean), false, 0, 0, none)
abbrev mX7_read : xM := (RX7, cX7_read, 7, (some .boolean), false, 1, 21, none)
abbrev mX7_takeRow : xM := (RX7, cX7_takeRow, 3, (some .boolean), false, 2, 47, none)
abbrev mX5_at : xM := (RX5, cX5_at, 4, (some .int), false, 0, 0, none)
abbrev mX4_at : xM := (RX4, cX4_at, 2, (some .int), false, 0, 0, none)
abbrev mX5_order : xM := (RX5, cX5_order, 5, (some .int), false, 1, 23, none)
abbrev mX1_place : xM := (RX1, cX1_place, 5, (some .int), false, 2, 47, none)
abbrev mX1_numberOf : xM := (RX1, cX1_numberOf, 3, (some .int), false, 3, 71, none)
abbrev mX5_isFull : xM := (RX5, cX5_isFull, 1, (some .boolean), false, 0, 0, none)
abbrev mX5_insert : xM := (RX5, cX5_insert, 3, none, false, 1, 28, none)
abbrev mX1_grow : xM := (RX1, cX1_grow, 5, (some .int), false, 4, 93, none)
abbrev mX11_add : xM := (RX11, cX11_add, 3, (some .int), false, 5, 117, none)
abbrev mX5_remove : xM := (RX5, cX5_remove, 3, none, false, 1, 28, none)
abbrev mX1_remove : xM := (RX1, cX1_remove, 4, (some .int), false, 4, 93, none)
abbrev mX11_drop : xM := (RX11, cX11_drop, 1, (some .int), false, 5, 116, none)
abbrev mX11_find : xM := (RX11, cX11_find, 1, (some .int), false, 4, 93, none)
abbrev mX1_countOf : xM := (RX1, cX1_countOf, 2, (some .int), false, 0, 0, none)
abbrev mX5_sizeOf : xM := (RX5, cX5_sizeOf, 2, (some .int), false, 0, 0, none)
abbrev mX11_word : xM := (RX11, cX11_word, 3, (some .int), false, 1, 23, none)
abbrev mX5_shared : xM := (RX5, cX5_shared, 3, (some .int), false, 1, 23, none)
abbrev mX1_nodes : xM := (RX1, cX1_nodes, 3, (some .int), false, 2, 45, none)
abbrev mX11_count : xM := (RX11, cX11_count, 2, (some .int), false, 3, 67, none)
abbrev mX6_setKind : xM := (RX6, cX6_setKind, 4, (some .int), false, 0, 0, none)
abbrev mX6_exchange : xM := (RX6, cX6_exchange, 4, (some .int), false, 0, 0, none)
abbrev mX6_setByLetters : xM := (RX6, cX6_setByLetters, 5, (some .int), false, 1, 23, none)
abbrev mX11_price : xM := (RX11, cX11_price, 5, (some .int), false, 2, 47, none)
abbrev mX7_seek : xM := (RX7, cX7_seek, 5, (some .int), false, 0, 0, none)
abbrev mX7_takeTwo : xM := (RX7, cX7_takeTwo, 6, (some .boolean), false, 2, 47, none)
abbrev mX5_append : xM := (RX5, cX5_append, 2, none, false, 2, 50, none)
abbrev mX6_addSound : xM := (RX6, cX6_addSound, 5, (some .int), false, 3, 71, none)
abbrev mX11_sound : xM := (RX11, cX11_sound, 3, (some .int), false, 4, 95, none)
abbrev mX11_model : xM := (RX11, cX11_model, 3, (some .int), false, 0, 0, none)
abbrev mX6_codes : xM := (RX6, cX6_codes, 1, (some .int), false, 0, 0, none)
abbrev mX6_byLetters : xM := (RX6, cX6_byLetters, 4, (some .int), false, 0, 0, none)
abbrev mX5_standsIn : xM := (RX5, cX5_standsIn, 7, (some .boolean), false, 0, 0, none)
abbrev mX6_soundPrice : xM := (RX6, cX6_soundPrice, 2, (some .int), false, 0, 0, none)
abbrev mX6_priceAt : xM := (RX6, cX6_priceAt, 9, (some .int), false, 1, 26, none)
abbrev mX6_meantTaken : xM := (RX6, cX6_meantTaken, 2, (some .int), false, 1, 21, none)
abbrev mX6_typedTaken : xM := (RX6, cX6_typedTaken, 2, (some .int), false, 1, 21, none)
abbrev mX10_sumBy : xM := (RX10, cX10_sumBy, 8, (some .int), false, 2, 54, none)
abbrev mX10_leastFrom : xM := (RX10, cX10_leastFrom, 7, (some .int), false, 3, 81, none)
abbrev mX10_measure : xM := (RX10, cX10_measure, 6, (some .int), false, 4, 107, none)
abbrev mX10_firstCode : xM := (RX10, cX10_firstCode, 7, (some .int), false, 3, 81, none)
abbrev mX10_trace : xM := (RX10, cX10_trace, 6, none, false, 4, 107, none)
abbrev mX11_distance : xM := (RX11, cX11_distance, 2, (some .int), false, 5, 132, none)
abbrev mX10_codeAt : xM := (RX10, cX10_codeAt, 2, (some .int), false, 0, 0, none)
abbrev mX10_tell : xM := (RX10, cX10_tell, 4, (some .int), false, 1, 28, none)
abbrev mX11_way : xM := (RX11, cX11_way, 3, (some .int), false, 2, 51, none)
abbrev mX11_isNoBound : xM := (RX11, cX11_isNoBound, 1, (some .boolean), false, 0, 0, none)
abbrev mX3_clear : xM := (RX3, cX3_clear, 2, none, false, 1, 28, none)
abbrev mX5_copyTo : xM := (RX5, cX5_copyTo, 4, none, false, 1, 23, none)
abbrev mX6_mayStand : xM := (RX6, cX6_mayStand, 4, (some .boolean), false, 1, 26, none)
abbrev mX9_reach : xM := (RX9, cX9_reach, 10, none, false, 2, 54, none)
abbrev mX9_fill : xM := (RX9, cX9_fill, 5, none, false, 3, 83, none)
abbrev mX9_sumUp : xM := (RX9, cX9_sumUp, 7, none, false, 1, 28, none)
abbrev mX9_isLeft : xM := (RX9, cX9_isLeft, 4, (some .boolean), false, 1, 28, none)
abbrev mX3_keep : xM := (RX3, cX3_keep, 6, none, false, 1, 28, none)
abbrev mX9_descend : xM := (RX9, cX9_descend, 7, (some .int), false, 4, 107, none)
abbrev mX9_go : xM := (RX9, cX9_go, 10, none, false, 5, 133, none)
abbrev mX1_share : xM := (RX1, cX1_share, 2, (some .int), false, 1, 21, none)
abbrev mX0_isAhead : xM := (RX0, cX0_isAhead, 5, (some .boolean), false, 1, 21, none)
abbrev mX0_move : xM := (RX0, cX0_move, 4, none, false, 0, 0, none)
abbrev mX0_lay : xM := (RX0, cX0_lay, 6, none, false, 2, 45, none)
abbrev mX0_gather : xM := (RX0, cX0_gather, 5, (some .int), false, 3, 70, none)
abbrev mX11_near : xM := (RX11, cX11_near, 3, (some .int), false, 6, 162, none)
abbrev mX11_nearest : xM := (RX11, cX11_nearest, 3, (some .int), false, 6, 162, none)
abbrev mX11_complete : xM := (RX11, cX11_complete, 3, (some .int), false, 6, 162, none)
abbrev mX0_tell : xM := (RX0, cX0_tell, 3, (some .int), false, 0, 0, none)
abbrev mX11_found : xM := (RX11, cX11_found, 3, (some .int), false, 1, 22, none)
abbrev mX3_stateAt : xM := (RX3, cX3_stateAt, 4, (some .int), false, 0, 0, none)
abbrev mX3_least : xM := (RX3, cX3_least, 4, (some .int), false, 1, 28, none)
abbrev mX3_tell : xM := (RX3, cX3_tell, 3, (some .int), false, 2, 51, none)
abbrev mX11_node : xM := (RX11, cX11_node, 3, (some .int), false, 3, 73, none)
abbrev mX11_pair : xM := (RX11, cX11_pair, 1, (some .int), false, 3, 72, none)
abbrev mJ7_fill_53178 : xM := (RJ7, cJ7_fill_53178, 4, none, false, 0, 0, none)
abbrev mX11_readPair : xM := (RX11, cX11_readPair, 2, none, false, 2, 46, none)
abbrev mX11_noteWay : xM := (RX11, cX11_noteWay, 6, (some .boolean), false, 1, 21, none)
abbrev mX11_findWays : xM := (RX11, cX11_findWays, 3, (some .boolean), false, 5, 132, none)
abbrev mX6_setByCounts : xM := (RX6, cX6_setByCounts, 4, (some .boolean), false, 0, 0, none)
abbrev mX11_learn : xM := (RX11, cX11_learn, 5, (some .int), false, 6, 154, none)
abbrev mX11_spread : xM := (RX11, cX11_spread, 3, (some .int), false, 5, 132, none)
abbrev mX5_clear : xM := (RX5, cX5_clear, 1, none, false, 0, 0, none)
abbrev mX7_takeText : xM := (RX7, cX7_takeText, 7, (some .boolean), false, 3, 71, none)
abbrev mX2_clear : xM := (RX2, cX2_clear, 2, none, false, 1, 28, none)
abbrev mX2_cellOf : xM := (RX2, cX2_cellOf, 3, (some .int), false, 0, 0, none)
abbrev mX2_offer : xM := (RX2, cX2_offer, 7, none, false, 1, 22, none)
abbrev mX2_offers : xM := (RX2, cX2_offers, 4, (some .boolean), false, 1, 22, none)
abbrev mX6_kindPrice : xM := (RX6, cX6_kindPrice, 2, (some .int), false, 0, 0, none)
abbrev mX11_offerSplit : xM := (RX11, cX11_offerSplit, 3, none, false, 4, 93, none)
abbrev mX11_offerJoin : xM := (RX11, cX11_offerJoin, 5, none, false, 4, 93, none)
abbrev mX11_offerMended : xM := (RX11, cX11_offerMended, 3, none, false, 4, 94, none)
abbrev mX2_taken : xM := (RX2, cX2_taken, 1, (some .int), false, 0, 0, none)
abbrev mX2_sumBy : xM := (RX2, cX2_sumBy, 5, (some .int), false, 1, 22, none)
abbrev mX2_bestKind : xM := (RX2, cX2_bestKind, 4, (some .int), false, 2, 46, none)
abbrev mX2_choose : xM := (RX2, cX2_choose, 3, (some .int), false, 3, 69, none)
abbrev mX11_mend : xM := (RX11, cX11_mend, 5, (some .int), false, 6, 162, none)
abbrev mX2_tell : xM := (RX2, cX2_tell, 6, (some .int), false, 1, 22, none)
abbrev mX11_part : xM := (RX11, cX11_part, 3, (some .int), false, 2, 47, none)
abbrev mX11_isThing : xM := (RX11, cX11_isThing, 3, (some .boolean), false, 0, 0, none)
abbrev mX8_refuse : xM := (RX8, cX8_refuse, 2, (some .int), false, 0, 0, none)
abbrev mX8_clear : xM := (RX8, cX8_clear, 3, none, false, 0, 0, none)
abbrev mX8_lay : xM := (RX8, cX8_lay, 3, none, false, 0, 0, none)
abbrev mX11_layLetters : xM := (RX11, cX11_layLetters, 4, none, false, 1, 23, none)
abbrev mX11_layState : xM := (RX11, cX11_layState, 4, none, false, 1, 23, none)
abbrev mX11_layPrices : xM := (RX11, cX11_layPrices, 3, none, false, 1, 22, none)
abbrev mX11_layTruths : xM := (RX11, cX11_layTruths, 6, none, false, 1, 23, none)
abbrev mX8_done : xM := (RX8, cX8_done, 2, (some .int), false, 0, 0, none)
abbrev mX11_put : xM := (RX11, cX11_put, 4, (some .int), false, 2, 48, none)
abbrev mX8_whyNot : xM := (RX8, cX8_whyNot, 3, (some .int), false, 0, 0, none)
abbrev mX8_read : xM := (RX8, cX8_read, 6, (some .int), false, 1, 28, none)
abbrev mX8_copy : xM := (RX8, cX8_copy, 7, (some .int), false, 1, 28, none)
abbrev mX8_layAmongStates : xM := (RX8, cX8_layAmongStates, 3, (some .int), false, 1, 22, none)
abbrev mX8_work : xM := (RX8, cX8_work, 4, (some .int), false, 2, 54, none)
abbrev mX11_forge : xM := (RX11, cX11_forge, 4, (some .int), false, 3, 77, none)
abbrev mX11_status : xM := (RX11, cX11_status, 1, (some .int), false, 0, 0, none)
abbrev mX12_in : xM := (RX12, cX12_in, 3, (some .boolean), false, 0, 0, none)
abbrev mX12_min : xM := (RX12, cX12_min, 2, (some .int), false, 0, 0, none)
abbrev mX12_feed : xM := (RX12, cX12_feed, 5, (some .int), false, 1, 22, none)
abbrev mX12_reads : xM := (RX12, cX12_reads, 7, (some .boolean), false, 1, 22, none)
abbrev mX12_readsOne : xM := (RX12, cX12_readsOne, 1, (some .boolean), false, 2, 48, none)
abbrev mX12_readsTwo : xM := (RX12, cX12_readsTwo, 2, (some .boolean), false, 2, 48, none)
abbrev mX12_takeA : xM := (RX12, cX12_takeA, 3, none, false, 0, 0, none)
abbrev mX12_takeB : xM := (RX12, cX12_takeB, 3, none, false, 0, 0, none)
abbrev mX12_wordA : xM := (RX12, cX12_wordA, 3, none, false, 0, 0, none)
abbrev mX12_compares : xM := (RX12, cX12_compares, 7, (some .int), false, 0, 0, none)
abbrev mX12_wordOf : xM := (RX12, cX12_wordOf, 5, (some .int), false, 1, 26, none)
abbrev mX12_moveWord : xM := (RX12, cX12_moveWord, 4, none, false, 0, 0, none)
abbrev mX12_add : xM := (RX12, cX12_add, 6, (some .int), false, 3, 68, none)
abbrev mX12_drop : xM := (RX12, cX12_drop, 4, (some .int), false, 3, 68, none)
abbrev mX12_find : xM := (RX12, cX12_find, 1, (some .int), false, 3, 68, none)
abbrev mX12_word : xM := (RX12, cX12_word, 3, (some .int), false, 1, 22, none)
abbrev mX12_alike : xM := (RX12, cX12_alike, 3, (some .int), false, 0, 0, none)
abbrev mX12_nodes : xM := (RX12, cX12_nodes, 3, (some .int), false, 1, 22, none)
abbrev mX12_count : xM := (RX12, cX12_count, 2, (some .int), false, 2, 44, none)
abbrev mX12_price : xM := (RX12, cX12_price, 6, (some .int), false, 1, 22, none)
abbrev mX12_sound : xM := (RX12, cX12_sound, 4, (some .int), false, 3, 69, none)
abbrev mX12_model : xM := (RX12, cX12_model, 3, (some .int), false, 1, 22, none)
abbrev mX12_share : xM := (RX12, cX12_share, 16, (some .int), false, 0, 0, none)
abbrev mX12_swapPrice : xM := (RX12, cX12_swapPrice, 3, (some .int), false, 0, 0, none)
abbrev mX12_leftPrice : xM := (RX12, cX12_leftPrice, 2, (some .int), false, 0, 0, none)
abbrev mX12_putPrice : xM := (RX12, cX12_putPrice, 2, (some .int), false, 0, 0, none)
abbrev mX12_hasSound : xM := (RX12, cX12_hasSound, 5, (some .boolean), false, 0, 0, none)
abbrev mX12_slip : xM := (RX12, cX12_slip, 7, (some .int), false, 1, 24, none)
abbrev mX12_sums : xM := (RX12, cX12_sums, 6, none, false, 2, 50, none)
abbrev mX12_ways : xM := (RX12, cX12_ways, 5, none, false, 2, 50, none)
abbrev mX12_distance : xM := (RX12, cX12_distance, 2, (some .int), false, 3, 75, none)
abbrev mX12_way : xM := (RX12, cX12_way, 3, (some .int), false, 1, 22, none)
abbrev mX12_stateRow : xM := (RX12, cX12_stateRow, 10, none, false, 2, 50, none)
abbrev mX12_leastOf : xM := (RX12, cX12_leastOf, 4, (some .int), false, 1, 21, none)
abbrev mX12_meets : xM := (RX12, cX12_meets, 6, (some .boolean), false, 3, 79, none)
abbrev mX12_walk : xM := (RX12, cX12_walk, 7, none, false, 4, 104, none)
abbrev mX12_distanceTo : xM := (RX12, cX12_distanceTo, 2, (some .int), false, 3, 75, none)
abbrev mX12_beginningTo : xM := (RX12, cX12_beginningTo, 5, (some .int), false, 3, 79, none)
abbrev mX12_isAhead : xM := (RX12, cX12_isAhead, 7, (some .boolean), false, 0, 0, none)
abbrev mX12_tries : xM := (RX12, cX12_tries, 7, none, false, 4, 103, none)
abbrev mX12_keeps : xM := (RX12, cX12_keeps, 3, (some .int), false, 1, 21, none)
abbrev mX12_near : xM := (RX12, cX12_near, 3, (some .int), false, 5, 130, none)
abbrev mX12_nearest : xM := (RX12, cX12_nearest, 3, (some .int), false, 5, 129, none)
abbrev mX12_complete : xM := (RX12, cX12_complete, 3, (some .int), false, 5, 130, none)
abbrev mX12_found : xM := (RX12, cX12_found, 3, (some .int), false, 1, 22, none)
abbrev mX12_node : xM := (RX12, cX12_node, 3, (some .int), false, 1, 22, none)
abbrev mX12_pair : xM := (RX12, cX12_pair, 2, (some .int), false, 3, 69, none)
abbrev mX12_takePair : xM := (RX12, cX12_takePair, 3, none, false, 0, 0, none)
abbrev mX12_learn : xM := (RX12, cX12_learn, 7, (some .int), false, 3, 75, none)
abbrev mX12_spread : xM := (RX12, cX12_spread, 3, (some .int), false, 3, 75, none)
abbrev mX12_together : xM := (RX12, cX12_together, 4, (some .int), false, 2, 50, none)
abbrev mX12_isWord : xM := (RX12, cX12_isWord, 2, (some .int), false, 2, 50, none)
abbrev mX12_parting : xM := (RX12, cX12_parting, 3, (some .int), false, 2, 50, none)
abbrev mX12_partAt : xM := (RX12, cX12_partAt, 5, (some .int), false, 3, 73, none)
abbrev mX12_mend : xM := (RX12, cX12_mend, 7, (some .int), false, 5, 129, none)
abbrev mX12_part : xM := (RX12, cX12_part, 3, (some .int), false, 1, 22, none)
abbrev mX12_refused : xM := (RX12, cX12_refused, 2, (some .int), false, 0, 0, none)
abbrev mX12_done : xM := (RX12, cX12_done, 2, (some .int), false, 0, 0, none)
abbrev mX12_put : xM := (RX12, cX12_put, 7, (some .int), false, 1, 22, none)
abbrev mX12_forge : xM := (RX12, cX12_forge, 7, (some .int), false, 1, 22, none)
abbrev mX12_status : xM := (RX12, cX12_status, 1, (some .int), false, 0, 0, none)
abbrev mL_law (L : Nat) (xs : Nat → Int32) : xM := (RL, code, 4, some .boolean, false, 9, 374, some (L, xs))
theorem xq0 : Cond.selects "WordMender$Tape" yX7_append yX7_append ∈ xtbl := xq_of 0 (by decide +kernel) (by decide +kernel)
theorem xq1 : Cond.selects "WordMender$Tape" yX7_takeRow yX7_takeRow ∈ xtbl := xq_of 1 (by decide +kernel) (by decide +kernel)
theorem xq2 : Cond.selects "WordMender$Tape" yX7_read yX7_read ∈ xtbl := xq_of 2 (by decide +kernel) (by decide +kernel)
theorem xq3 : Cond.selects "WordMender$Row" yX4_clear yX4_clear ∈ xtbl := xq_of 3 (by decide +kernel) (by decide +kernel)
theorem xq4 : Cond.selects "WordMender$Row" yX4_append yX4_append ∈ xtbl := xq_of 4 (by decide +kernel) (by decide +kernel)
theorem xq5 : Cond.selects "WordMender$Lexicon" yX1_grow yX1_grow ∈ xtbl := xq_of 5 (by decide +kernel) (by decide +kernel)
theorem xq6 : Cond.selects "WordMender$Lexicon" yX1_numberOf yX1_numberOf ∈ xtbl := xq_of 6 (by decide +kernel) (by decide +kernel)
theorem xq7 : Cond.selects "WordMender$Lexicon" yX1_place yX1_place ∈ xtbl := xq_of 7 (by decide +kernel) (by decide +kernel)
theorem xq8 : Cond.selects "WordMender$Rows" yX5_order yX5_order ∈ xtbl := xq_of 8 (by decide +kernel) (by decide +kernel)
theorem xq9 : Cond.selects "WordMender$Rows" yX5_at yX5_at ∈ xtbl := xq_of 9 (by decide +kernel) (by decide +kernel)
theorem xq10 : Cond.selects "WordMender$Row" yX4_at yX4_at ∈ xtbl := xq_of 10 (by decide +kernel) (by decide +kernel)
theorem xq11 : Cond.selects "WordMender$Rows" yX5_isFull yX5_isFull ∈ xtbl := xq_of 11 (by decide +kernel) (by decide +kernel)
theorem xq12 : Cond.selects "WordMender$Rows" yX5_insert yX5_insert ∈ xtbl := xq_of 12 (by decide +kernel) (by decide +kernel)
theorem xq13 : Cond.selects "WordMender$Lexicon" yX1_remove yX1_remove ∈ xtbl := xq_of 13 (by decide +kernel) (by decide +kernel)
theorem xq14 : Cond.selects "WordMender$Rows" yX5_remove yX5_remove ∈ xtbl := xq_of 14 (by decide +kernel) (by decide +kernel)
theorem xq15 : Cond.selects "WordMender$Lexicon" yX1_countOf yX1_countOf ∈ xtbl := xq_of 15 (by decide +kernel) (by decide +kernel)
theorem xq16 : Cond.selects "WordMender$Rows" yX5_sizeOf yX5_sizeOf ∈ xtbl := xq_of 16 (by decide +kernel) (by decide +kernel)
theorem xq17 : Cond.selects "WordMender$Lexicon" yX1_nodes yX1_nodes ∈ xtbl := xq_of 17 (by decide +kernel) (by decide +kernel)
theorem xq18 : Cond.selects "WordMender$Rows" yX5_shared yX5_shared ∈ xtbl := xq_of 18 (by decide +kernel) (by decide +kernel)
theorem xq19 : Cond.selects "WordMender$Slips" yX6_setKind yX6_setKind ∈ xtbl := xq_of 19 (by decide +kernel) (by decide +kernel)
theorem xq20 : Cond.selects "WordMender$Slips" yX6_setByLetters yX6_setByLetters ∈ xtbl := xq_of 20 (by decide +kernel) (by decide +kernel)
theorem xq21 : Cond.selects "WordMender$Tape" yX7_takeTwo yX7_takeTwo ∈ xtbl := xq_of 21 (by decide +kernel) (by decide +kernel)
theorem xq22 : Cond.selects "WordMender$Tape" yX7_seek yX7_seek ∈ xtbl := xq_of 22 (by decide +kernel) (by decide +kernel)
theorem xq23 : Cond.selects "WordMender$Slips" yX6_addSound yX6_addSound ∈ xtbl := xq_of 23 (by decide +kernel) (by decide +kernel)
theorem xq24 : Cond.selects "WordMender$Rows" yX5_append yX5_append ∈ xtbl := xq_of 24 (by decide +kernel) (by decide +kernel)
theorem xq25 : Cond.selects "WordMender$Way" yX10_measure yX10_measure ∈ xtbl := xq_of 25 (by decide +kernel) (by decide +kernel)
theorem xq26 : Cond.selects "WordMender$Way" yX10_leastFrom yX10_leastFrom ∈ xtbl := xq_of 26 (by decide +kernel) (by decide +kernel)
theorem xq27 : Cond.selects "WordMender$Slips" yX6_codes yX6_codes ∈ xtbl := xq_of 27 (by decide +kernel) (by decide +kernel)
theorem xq28 : Cond.selects "WordMender$Way" yX10_sumBy yX10_sumBy ∈ xtbl := xq_of 28 (by decide +kernel) (by decide +kernel)
theorem xq29 : Cond.selects "WordMender$Slips" yX6_priceAt yX6_priceAt ∈ xtbl := xq_of 29 (by decide +kernel) (by decide +kernel)
theorem xq30 : Cond.selects "WordMender$Rows" yX5_standsIn yX5_standsIn ∈ xtbl := xq_of 30 (by decide +kernel) (by decide +kernel)
theorem xq31 : Cond.selects "WordMender$Slips" yX6_soundPrice yX6_soundPrice ∈ xtbl := xq_of 31 (by decide +kernel) (by decide +kernel)
theorem xq32 : Cond.selects "WordMender$Slips" yX6_meantTaken yX6_meantTaken ∈ xtbl := xq_of 32 (by decide +kernel) (by decide +kernel)
theorem xq33 : Cond.selects "WordMender$Slips" yX6_typedTaken yX6_typedTaken ∈ xtbl := xq_of 33 (by decide +kernel) (by decide +kernel)
theorem xq34 : Cond.selects "WordMender$Way" yX10_trace yX10_trace ∈ xtbl := xq_of 34 (by decide +kernel) (by decide +kernel)
theorem xq35 : Cond.selects "WordMender$Way" yX10_firstCode yX10_firstCode ∈ xtbl := xq_of 35 (by decide +kernel) (by decide +kernel)
theorem xq36 : Cond.selects "WordMender$Way" yX10_tell yX10_tell ∈ xtbl := xq_of 36 (by decide +kernel) (by decide +kernel)
theorem xq37 : Cond.selects "WordMender$Way" yX10_codeAt yX10_codeAt ∈ xtbl := xq_of 37 (by decide +kernel) (by decide +kernel)
theorem xq38 : Cond.selects "WordMender$Walk" yX9_go yX9_go ∈ xtbl := xq_of 38 (by decide +kernel) (by decide +kernel)
theorem xq39 : Cond.selects "WordMender$Met" yX3_clear yX3_clear ∈ xtbl := xq_of 39 (by decide +kernel) (by decide +kernel)
theorem xq40 : Cond.selects "WordMender$Rows" yX5_copyTo yX5_copyTo ∈ xtbl := xq_of 40 (by decide +kernel) (by decide +kernel)
theorem xq41 : Cond.selects "WordMender$Walk" yX9_descend yX9_descend ∈ xtbl := xq_of 41 (by decide +kernel) (by decide +kernel)
theorem xq42 : Cond.selects "WordMender$Walk" yX9_fill yX9_fill ∈ xtbl := xq_of 42 (by decide +kernel) (by decide +kernel)
theorem xq43 : Cond.selects "WordMender$Walk" yX9_reach yX9_reach ∈ xtbl := xq_of 43 (by decide +kernel) (by decide +kernel)
theorem xq44 : Cond.selects "WordMender$Slips" yX6_mayStand yX6_mayStand ∈ xtbl := xq_of 44 (by decide +kernel) (by decide +kernel)
theorem xq45 : Cond.selects "WordMender$Walk" yX9_sumUp yX9_sumUp ∈ xtbl := xq_of 45 (by decide +kernel) (by decide +kernel)
theorem xq46 : Cond.selects "WordMender$Walk" yX9_isLeft yX9_isLeft ∈ xtbl := xq_of 46 (by decide +kernel) (by decide +kernel)
theorem xq47 : Cond.selects "WordMender$Met" yX3_keep yX3_keep ∈ xtbl := xq_of 47 (by decide +kernel) (by decide +kernel)
theorem xq48 : Cond.selects "WordMender$Found" yX0_gather yX0_gather ∈ xtbl := xq_of 48 (by decide +kernel) (by decide +kernel)
theorem xq49 : Cond.selects "WordMender$Found" yX0_lay yX0_lay ∈ xtbl := xq_of 49 (by decide +kernel) (by decide +kernel)
theorem xq50 : Cond.selects "WordMender$Lexicon" yX1_share yX1_share ∈ xtbl := xq_of 50 (by decide +kernel) (by decide +kernel)
theorem xq51 : Cond.selects "WordMender$Found" yX0_isAhead yX0_isAhead ∈ xtbl := xq_of 51 (by decide +kernel) (by decide +kernel)
theorem xq52 : Cond.selects "WordMender$Found" yX0_move yX0_move ∈ xtbl := xq_of 52 (by decide +kernel) (by decide +kernel)
theorem xq53 : Cond.selects "WordMender$Found" yX0_tell yX0_tell ∈ xtbl := xq_of 53 (by decide +kernel) (by decide +kernel)
theorem xq54 : Cond.selects "WordMender$Met" yX3_tell yX3_tell ∈ xtbl := xq_of 54 (by decide +kernel) (by decide +kernel)
theorem xq55 : Cond.selects "WordMender$Met" yX3_least yX3_least ∈ xtbl := xq_of 55 (by decide +kernel) (by decide +kernel)
theorem xq56 : Cond.selects "WordMender$Met" yX3_stateAt yX3_stateAt ∈ xtbl := xq_of 56 (by decide +kernel) (by decide +kernel)
theorem xq57 : Cond.selects "WordMender" yX11_findWays yX11_findWays ∈ xtbl := xq_of 57 (by decide +kernel) (by decide +kernel)
theorem xq58 : Cond.selects "WordMender" yX11_readPair yX11_readPair ∈ xtbl := xq_of 58 (by decide +kernel) (by decide +kernel)
theorem xq59 : Cond.selects "WordMender" yX11_noteWay yX11_noteWay ∈ xtbl := xq_of 59 (by decide +kernel) (by decide +kernel)
theorem xq60 : Cond.selects "WordMender$Slips" yX6_setByCounts yX6_setByCounts ∈ xtbl := xq_of 60 (by decide +kernel) (by decide +kernel)
theorem xq61 : Cond.selects "WordMender$Tape" yX7_takeText yX7_takeText ∈ xtbl := xq_of 61 (by decide +kernel) (by decide +kernel)
theorem xq62 : Cond.selects "WordMender$Rows" yX5_clear yX5_clear ∈ xtbl := xq_of 62 (by decide +kernel) (by decide +kernel)
theorem xq63 : Cond.selects "WordMender$Mending" yX2_clear yX2_clear ∈ xtbl := xq_of 63 (by decide +kernel) (by decide +kernel)
theorem xq64 : Cond.selects "WordMender$Mending" yX2_offer yX2_offer ∈ xtbl := xq_of 64 (by decide +kernel) (by decide +kernel)
theorem xq65 : Cond.selects "WordMender$Mending" yX2_cellOf yX2_cellOf ∈ xtbl := xq_of 65 (by decide +kernel) (by decide +kernel)
theorem xq66 : Cond.selects "WordMender" yX11_offerSplit yX11_offerSplit ∈ xtbl := xq_of 66 (by decide +kernel) (by decide +kernel)
theorem xq67 : Cond.selects "WordMender$Mending" yX2_offers yX2_offers ∈ xtbl := xq_of 67 (by decide +kernel) (by decide +kernel)
theorem xq68 : Cond.selects "WordMender$Slips" yX6_kindPrice yX6_kindPrice ∈ xtbl := xq_of 68 (by decide +kernel) (by decide +kernel)
theorem xq69 : Cond.selects "WordMender" yX11_offerJoin yX11_offerJoin ∈ xtbl := xq_of 69 (by decide +kernel) (by decide +kernel)
theorem xq70 : Cond.selects "WordMender" yX11_offerMended yX11_offerMended ∈ xtbl := xq_of 70 (by decide +kernel) (by decide +kernel)
theorem xq71 : Cond.selects "WordMender$Mending" yX2_choose yX2_choose ∈ xtbl := xq_of 71 (by decide +kernel) (by decide +kernel)
theorem xq72 : Cond.selects "WordMender$Mending" yX2_bestKind yX2_bestKind ∈ xtbl := xq_of 72 (by decide +kernel) (by decide +kernel)
theorem xq73 : Cond.selects "WordMender$Mending" yX2_sumBy yX2_sumBy ∈ xtbl := xq_of 73 (by decide +kernel) (by decide +kernel)
theorem xq74 : Cond.selects "WordMender$Mending" yX2_tell yX2_tell ∈ xtbl := xq_of 74 (by decide +kernel) (by decide +kernel)
theorem xq75 : Cond.selects "WordMender" yX11_isThing yX11_isThing ∈ xtbl := xq_of 75 (by decide +kernel) (by decide +kernel)
theorem xq76 : Cond.selects "WordMender$Trays" yX8_refuse yX8_refuse ∈ xtbl := xq_of 76 (by decide +kernel) (by decide +kernel)
theorem xq77 : Cond.selects "WordMender$Trays" yX8_clear yX8_clear ∈ xtbl := xq_of 77 (by decide +kernel) (by decide +kernel)
theorem xq78 : Cond.selects "WordMender" yX11_layLetters yX11_layLetters ∈ xtbl := xq_of 78 (by decide +kernel) (by decide +kernel)
theorem xq79 : Cond.selects "WordMender$Trays" yX8_lay yX8_lay ∈ xtbl := xq_of 79 (by decide +kernel) (by decide +kernel)
theorem xq80 : Cond.selects "WordMender" yX11_layState yX11_layState ∈ xtbl := xq_of 80 (by decide +kernel) (by decide +kernel)
theorem xq81 : Cond.selects "WordMender" yX11_layPrices yX11_layPrices ∈ xtbl := xq_of 81 (by decide +kernel) (by decide +kernel)
theorem xq82 : Cond.selects "WordMender" yX11_layTruths yX11_layTruths ∈ xtbl := xq_of 82 (by decide +kernel) (by decide +kernel)
theorem xq83 : Cond.selects "WordMender$Trays" yX8_done yX8_done ∈ xtbl := xq_of 83 (by decide +kernel) (by decide +kernel)
theorem xq84 : Cond.selects "WordMender$Trays" yX8_work yX8_work ∈ xtbl := xq_of 84 (by decide +kernel) (by decide +kernel)
theorem xq85 : Cond.selects "WordMender$Trays" yX8_read yX8_read ∈ xtbl := xq_of 85 (by decide +kernel) (by decide +kernel)
theorem xq86 : Cond.selects "WordMender$Trays" yX8_whyNot yX8_whyNot ∈ xtbl := xq_of 86 (by decide +kernel) (by decide +kernel)
theorem xq87 : Cond.selects "WordMender$Trays" yX8_copy yX8_copy ∈ xtbl := xq_of 87 (by decide +kernel) (by decide +kernel)
theorem xq88 : Cond.selects "WordMender$Trays" yX8_layAmongStates yX8_layAmongStates ∈ xtbl := xq_of 88 (by decide +kernel) (by decide +kernel)
theorem xq89 : Cond.selects "WordMenderModel" yX12_readsOne yX12_readsOne ∈ xtbl := xq_of 89 (by decide +kernel) (by decide +kernel)
theorem xq90 : Cond.selects "WordMenderModel" yX12_reads yX12_reads ∈ xtbl := xq_of 90 (by decide +kernel) (by decide +kernel)
theorem xq91 : Cond.selects "WordMenderModel" yX12_wordOf yX12_wordOf ∈ xtbl := xq_of 91 (by decide +kernel) (by decide +kernel)
theorem xq92 : Cond.selects "WordMenderModel" yX12_compares yX12_compares ∈ xtbl := xq_of 92 (by decide +kernel) (by decide +kernel)
theorem xq93 : Cond.selects "WordMenderModel" yX12_moveWord yX12_moveWord ∈ xtbl := xq_of 93 (by decide +kernel) (by decide +kernel)
theorem xq94 : Cond.selects "WordMenderModel" yX12_nodes yX12_nodes ∈ xtbl := xq_of 94 (by decide +kernel) (by decide +kernel)
theorem xq95 : Cond.selects "WordMenderModel" yX12_alike yX12_alike ∈ xtbl := xq_of 95 (by decide +kernel) (by decide +kernel)
theorem xq96 : Cond.selects "WordMenderModel" yX12_readsTwo yX12_readsTwo ∈ xtbl := xq_of 96 (by decide +kernel) (by decide +kernel)
theorem xq97 : Cond.selects "WordMenderModel" yX12_takeA yX12_takeA ∈ xtbl := xq_of 97 (by decide +kernel) (by decide +kernel)
theorem xq98 : Cond.selects "WordMenderModel" yX12_takeB yX12_takeB ∈ xtbl := xq_of 98 (by decide +kernel) (by decide +kernel)
theorem xq99 : Cond.selects "WordMenderModel" yX12_sums yX12_sums ∈ xtbl := xq_of 99 (by decide +kernel) (by decide +kernel)
theorem xq100 : Cond.selects "WordMenderModel" yX12_slip yX12_slip ∈ xtbl := xq_of 100 (by decide +kernel) (by decide +kernel)
theorem xq101 : Cond.selects "WordMenderModel" yX12_swapPrice yX12_swapPrice ∈ xtbl := xq_of 101 (by decide +kernel) (by decide +kernel)
theorem xq102 : Cond.selects "WordMenderModel" yX12_leftPrice yX12_leftPrice ∈ xtbl := xq_of 102 (by decide +kernel) (by decide +kernel)
theorem xq103 : Cond.selects "WordMenderModel" yX12_putPrice yX12_putPrice ∈ xtbl := xq_of 103 (by decide +kernel) (by decide +kernel)
theorem xq104 : Cond.selects "WordMenderModel" yX12_hasSound yX12_hasSound ∈ xtbl := xq_of 104 (by decide +kernel) (by decide +kernel)
theorem xq105 : Cond.selects "WordMenderModel" yX12_ways yX12_ways ∈ xtbl := xq_of 105 (by decide +kernel) (by decide +kernel)
theorem xq106 : Cond.selects "WordMenderModel" yX12_walk yX12_walk ∈ xtbl := xq_of 106 (by decide +kernel) (by decide +kernel)
theorem xq107 : Cond.selects "WordMenderModel" yX12_meets yX12_meets ∈ xtbl := xq_of 107 (by decide +kernel) (by decide +kernel)
theorem xq108 : Cond.selects "WordMenderModel" yX12_stateRow yX12_stateRow ∈ xtbl := xq_of 108 (by decide +kernel) (by decide +kernel)
theorem xq109 : Cond.selects "WordMenderModel" yX12_leastOf yX12_leastOf ∈ xtbl := xq_of 109 (by decide +kernel) (by decide +kernel)
theorem xq110 : Cond.selects "WordMenderModel" yX12_tries yX12_tries ∈ xtbl := xq_of 110 (by decide +kernel) (by decide +kernel)
theorem xq111 : Cond.selects "WordMenderModel" yX12_beginningTo yX12_beginningTo ∈ xtbl := xq_of 111 (by decide +kernel) (by decide +kernel)
theorem xq112 : Cond.selects "WordMenderModel" yX12_wordA yX12_wordA ∈ xtbl := xq_of 112 (by decide +kernel) (by decide +kernel)
theorem xq113 : Cond.selects "WordMenderModel" yX12_distanceTo yX12_distanceTo ∈ xtbl := xq_of 113 (by decide +kernel) (by decide +kernel)
theorem xq114 : Cond.selects "WordMenderModel" yX12_share yX12_share ∈ xtbl := xq_of 114 (by decide +kernel) (by decide +kernel)
theorem xq115 : Cond.selects "WordMenderModel" yX12_isAhead yX12_isAhead ∈ xtbl := xq_of 115 (by decide +kernel) (by decide +kernel)
theorem xq116 : Cond.selects "WordMenderModel" yX12_keeps yX12_keeps ∈ xtbl := xq_of 116 (by decide +kernel) (by decide +kernel)
theorem xq117 : Cond.selects "WordMenderModel" yX12_takePair yX12_takePair ∈ xtbl := xq_of 117 (by decide +kernel) (by decide +kernel)
theorem xq118 : Cond.selects "WordMenderModel" yX12_isWord yX12_isWord ∈ xtbl := xq_of 118 (by decide +kernel) (by decide +kernel)
theorem xq119 : Cond.selects "WordMenderModel" yX12_partAt yX12_partAt ∈ xtbl := xq_of 119 (by decide +kernel) (by decide +kernel)
theorem xq120 : Cond.selects "WordMenderModel" yX12_together yX12_together ∈ xtbl := xq_of 120 (by decide +kernel) (by decide +kernel)
theorem xq121 : Cond.selects "WordMenderModel" yX12_parting yX12_parting ∈ xtbl := xq_of 121 (by decide +kernel) (by decide +kernel)
theorem xq122 : Cond.selects "WordMenderModel" yX12_refused yX12_refused ∈ xtbl := xq_of 122 (by decide +kernel) (by decide +kernel)
theorem xq123 : Cond.selects "WordMenderModel" yX12_done yX12_done ∈ xtbl := xq_of 123 (by decide +kernel) (by decide +kernel)
theorem xq125 : Cond.initialized "WordMender" ∈ xtbl := xq_of 125 (by decide +kernel) (by decide +kernel)
theorem xq126 : Cond.initialized "WordMender$Tape" ∈ xtbl := xq_of 126 (by decide +kernel) (by decide +kernel)
theorem xq127 : Cond.initialized "WordMender$Lexicon" ∈ xtbl := xq_of 127 (by decide +kernel) (by decide +kernel)
theorem xq128 : Cond.initialized "WordMender$Rows" ∈ xtbl := xq_of 128 (by decide +kernel) (by decide +kernel)
theorem xq129 : Cond.initialized "java/lang/Math" ∈ xtbl := xq_of 129 (by decide +kernel) (by decide +kernel)
theorem xq130 : Cond.initialized "WordMender$Slips" ∈ xtbl := xq_of 130 (by decide +kernel) (by decide +kernel)
theorem xq131 : Cond.initialized "WordMender$Row" ∈ xtbl := xq_of 131 (by decide +kernel) (by decide +kernel)
theorem xq132 : Cond.initialized "WordMender$Way" ∈ xtbl := xq_of 132 (by decide +kernel) (by decide +kernel)
theorem xq133 : Cond.initialized "WordMender$Walk" ∈ xtbl := xq_of 133 (by decide +kernel) (by decide +kernel)
theorem xq134 : Cond.initialized "WordMender$Met" ∈ xtbl := xq_of 134 (by decide +kernel) (by decide +kernel)
theorem xq135 : Cond.initialized "WordMender$Found" ∈ xtbl := xq_of 135 (by decide +kernel) (by decide +kernel)
theorem xq136 : Cond.initialized "WordMender$Mending" ∈ xtbl := xq_of 136 (by decide +kernel) (by decide +kernel)
theorem xq137 : Cond.initialized "WordMender$Trays" ∈ xtbl := xq_of 137 (by decide +kernel) (by decide +kernel)
theorem xq138 : Cond.initialized "WordMenderModel" ∈ xtbl := xq_of 138 (by decide +kernel) (by decide +kernel)
theorem xq139 : Cond.initialized "java/lang/System" ∈ xtbl := xq_of 139 (by decide +kernel) (by decide +kernel)
theorem xq140 : Cond.initialized "java/util/Arrays" ∈ xtbl := xq_of 140 (by decide +kernel) (by decide +kernel)
theorem xq155 : Cond.fieldLink "WordMender$Tape" (9) "WordMender$Tape" "bytes" "[I" ∈ xtbl := xq_of 155 (by decide +kernel) (by decide +kernel)
theorem xq156 : Cond.fieldLink "WordMender$Tape" (15) "WordMender$Tape" "size" "I" ∈ xtbl := xq_of 156 (by decide +kernel) (by decide +kernel)
theorem xq157 : Cond.fieldLinkNest "WordMender" (154) "WordMender$Tape" "size" "I" "WordMender" ∈ xnst := xn_of 157 (by decide +kernel) (by decide +kernel)
theorem xq177 : Cond.static Lib.Math.max.name ∈ xtbl := xq_of 177 (by decide +kernel) (by decide +kernel)
theorem xq178 : Cond.code Lib.Math.max.name Lib.Math.max.code 2 (some .int) ∈ xtbl := xq_of 178 (by decide +kernel) (by decide +kernel)
theorem xq179 : Cond.fieldLink "WordMender$Rows" (15) "WordMender$Rows" "letters" "[I" ∈ xtbl := xq_of 179 (by decide +kernel) (by decide +kernel)
theorem xq180 : Cond.fieldLink "WordMender$Rows" (21) "WordMender$Rows" "sizes" "[I" ∈ xtbl := xq_of 180 (by decide +kernel) (by decide +kernel)
theorem xq181 : Cond.fieldLink "WordMender$Rows" (24) "WordMender$Rows" "size" "I" ∈ xtbl := xq_of 181 (by decide +kernel) (by decide +kernel)
theorem xq182 : Cond.fieldLinkNest "WordMender$Found" (35) "WordMender$Rows" "size" "I" "WordMender" ∈ xnst := xn_of 182 (by decide +kernel) (by decide +kernel)
theorem xq183 : Cond.fieldLinkNest "WordMender$Lexicon" (24) "WordMender$Rows" "size" "I" "WordMender" ∈ xnst := xn_of 183 (by decide +kernel) (by decide +kernel)
theorem xq184 : Cond.fieldLinkNest "WordMender$Walk" (63) "WordMender$Rows" "size" "I" "WordMender" ∈ xnst := xn_of 184 (by decide +kernel) (by decide +kernel)
theorem xq185 : Cond.fieldLinkNest "WordMender" (132) "WordMender$Rows" "size" "I" "WordMender" ∈ xnst := xn_of 185 (by decide +kernel) (by decide +kernel)
theorem xq186 : Cond.fieldLinkNest "WordMender$Slips" (43) "WordMender$Rows" "size" "I" "WordMender" ∈ xnst := xn_of 186 (by decide +kernel) (by decide +kernel)
theorem xq194 : Cond.fieldLink "WordMender$Lexicon" (14) "WordMender$Lexicon" "words" "LWordMender$Rows;" ∈ xtbl := xq_of 194 (by decide +kernel) (by decide +kernel)
theorem xq195 : Cond.fieldLinkNest "WordMender$Found" (29) "WordMender$Lexicon" "words" "LWordMender$Rows;" "WordMender" ∈ xnst := xn_of 195 (by decide +kernel) (by decide +kernel)
theorem xq196 : Cond.fieldLinkNest "WordMender$Walk" (57) "WordMender$Lexicon" "words" "LWordMender$Rows;" "WordMender" ∈ xnst := xn_of 196 (by decide +kernel) (by decide +kernel)
theorem xq197 : Cond.fieldLinkNest "WordMender" (129) "WordMender$Lexicon" "words" "LWordMender$Rows;" "WordMender" ∈ xnst := xn_of 197 (by decide +kernel) (by decide +kernel)
theorem xq198 : Cond.fieldLink "WordMender$Lexicon" (20) "WordMender$Lexicon" "counts" "[I" ∈ xtbl := xq_of 198 (by decide +kernel) (by decide +kernel)
theorem xq199 : Cond.fieldLink "WordMender$Lexicon" (70) "WordMender$Lexicon" "weight" "I" ∈ xtbl := xq_of 199 (by decide +kernel) (by decide +kernel)
theorem xq200 : Cond.fieldLinkNest "WordMender" (181) "WordMender$Lexicon" "weight" "I" "WordMender" ∈ xnst := xn_of 200 (by decide +kernel) (by decide +kernel)
theorem xq216 : Cond.fieldLink "WordMender$Slips" (9) "WordMender$Slips" "kinds" "[I" ∈ xtbl := xq_of 216 (by decide +kernel) (by decide +kernel)
theorem xq217 : Cond.fieldLink "WordMender$Slips" (15) "WordMender$Slips" "swaps" "[I" ∈ xtbl := xq_of 217 (by decide +kernel) (by decide +kernel)
theorem xq218 : Cond.fieldLink "WordMender$Slips" (18) "WordMender$Slips" "leftsOut" "[I" ∈ xtbl := xq_of 218 (by decide +kernel) (by decide +kernel)
theorem xq219 : Cond.fieldLink "WordMender$Slips" (21) "WordMender$Slips" "putsIn" "[I" ∈ xtbl := xq_of 219 (by decide +kernel) (by decide +kernel)
theorem xq220 : Cond.fieldLink "WordMender$Slips" (29) "WordMender$Slips" "firsts" "LWordMender$Rows;" ∈ xtbl := xq_of 220 (by decide +kernel) (by decide +kernel)
theorem xq221 : Cond.fieldLinkNest "WordMender" (151) "WordMender$Slips" "firsts" "LWordMender$Rows;" "WordMender" ∈ xnst := xn_of 221 (by decide +kernel) (by decide +kernel)
theorem xq222 : Cond.fieldLink "WordMender$Slips" (33) "WordMender$Slips" "seconds" "LWordMender$Rows;" ∈ xtbl := xq_of 222 (by decide +kernel) (by decide +kernel)
theorem xq223 : Cond.fieldLink "WordMender$Slips" (36) "WordMender$Slips" "sounds" "[I" ∈ xtbl := xq_of 223 (by decide +kernel) (by decide +kernel)
theorem xq245 : Cond.fieldLink "WordMender$Row" (9) "WordMender$Row" "letters" "[I" ∈ xtbl := xq_of 245 (by decide +kernel) (by decide +kernel)
theorem xq246 : Cond.fieldLinkNest "WordMender$Rows" (58) "WordMender$Row" "letters" "[I" "WordMender" ∈ xnst := xn_of 246 (by decide +kernel) (by decide +kernel)
theorem xq247 : Cond.fieldLinkNest "WordMender$Way" (31) "WordMender$Row" "size" "I" "WordMender" ∈ xnst := xn_of 247 (by decide +kernel) (by decide +kernel)
theorem xq248 : Cond.fieldLink "WordMender$Row" (15) "WordMender$Row" "size" "I" ∈ xtbl := xq_of 248 (by decide +kernel) (by decide +kernel)
theorem xq249 : Cond.fieldLinkNest "WordMender$Walk" (49) "WordMender$Row" "size" "I" "WordMender" ∈ xnst := xn_of 249 (by decide +kernel) (by decide +kernel)
theorem xq250 : Cond.fieldLinkNest "WordMender$Rows" (59) "WordMender$Row" "size" "I" "WordMender" ∈ xnst := xn_of 250 (by decide +kernel) (by decide +kernel)
theorem xq264 : Cond.fieldLink "WordMender$Way" (27) "WordMender$Way" "slips" "LWordMender$Slips;" ∈ xtbl := xq_of 264 (by decide +kernel) (by decide +kernel)
theorem xq265 : Cond.fieldLink "WordMender$Way" (9) "WordMender$Way" "sums" "[I" ∈ xtbl := xq_of 265 (by decide +kernel) (by decide +kernel)
theorem xq266 : Cond.fieldLink "WordMender$Way" (15) "WordMender$Way" "codes" "[I" ∈ xtbl := xq_of 266 (by decide +kernel) (by decide +kernel)
theorem xq267 : Cond.fieldLink "WordMender$Way" (18) "WordMender$Way" "prices" "[I" ∈ xtbl := xq_of 267 (by decide +kernel) (by decide +kernel)
theorem xq268 : Cond.fieldLink "WordMender$Way" (21) "WordMender$Way" "meantPlaces" "[I" ∈ xtbl := xq_of 268 (by decide +kernel) (by decide +kernel)
theorem xq269 : Cond.fieldLink "WordMender$Way" (24) "WordMender$Way" "typedPlaces" "[I" ∈ xtbl := xq_of 269 (by decide +kernel) (by decide +kernel)
theorem xq270 : Cond.fieldLink "WordMender$Way" (67) "WordMender$Way" "size" "I" ∈ xtbl := xq_of 270 (by decide +kernel) (by decide +kernel)
theorem xq271 : Cond.fieldLinkNest "WordMender" (192) "WordMender$Way" "size" "I" "WordMender" ∈ xnst := xn_of 271 (by decide +kernel) (by decide +kernel)
theorem xq299 : Cond.fieldLink "WordMender$Met" (9) "WordMender$Met" "depths" "[I" ∈ xtbl := xq_of 299 (by decide +kernel) (by decide +kernel)
theorem xq300 : Cond.fieldLink "WordMender$Met" (15) "WordMender$Met" "letters" "[I" ∈ xtbl := xq_of 300 (by decide +kernel) (by decide +kernel)
theorem xq301 : Cond.fieldLink "WordMender$Met" (18) "WordMender$Met" "areWords" "[Z" ∈ xtbl := xq_of 301 (by decide +kernel) (by decide +kernel)
theorem xq302 : Cond.fieldLink "WordMender$Met" (22) "WordMender$Met" "areLeft" "[Z" ∈ xtbl := xq_of 302 (by decide +kernel) (by decide +kernel)
theorem xq303 : Cond.fieldLink "WordMender$Met" (25) "WordMender$Met" "states" "[I" ∈ xtbl := xq_of 303 (by decide +kernel) (by decide +kernel)
theorem xq304 : Cond.fieldLink "WordMender$Met" (28) "WordMender$Met" "size" "I" ∈ xtbl := xq_of 304 (by decide +kernel) (by decide +kernel)
theorem xq305 : Cond.fieldLinkNest "WordMender" (159) "WordMender$Met" "size" "I" "WordMender" ∈ xnst := xn_of 305 (by decide +kernel) (by decide +kernel)
theorem xq306 : Cond.fieldLink "WordMender$Met" (32) "WordMender$Met" "left" "I" ∈ xtbl := xq_of 306 (by decide +kernel) (by decide +kernel)
theorem xq307 : Cond.fieldLinkNest "WordMender" (162) "WordMender$Met" "left" "I" "WordMender" ∈ xnst := xn_of 307 (by decide +kernel) (by decide +kernel)
theorem xq308 : Cond.fieldLink "WordMender$Met" (44) "WordMender$Met" "places" "I" ∈ xtbl := xq_of 308 (by decide +kernel) (by decide +kernel)
theorem xq309 : Cond.fieldLinkNest "WordMender" (320) "WordMender$Met" "places" "I" "WordMender" ∈ xnst := xn_of 309 (by decide +kernel) (by decide +kernel)
theorem xq330 : Cond.fieldLink "WordMender$Walk" (41) "WordMender$Walk" "lexicon" "LWordMender$Lexicon;" ∈ xtbl := xq_of 330 (by decide +kernel) (by decide +kernel)
theorem xq331 : Cond.fieldLink "WordMender$Walk" (45) "WordMender$Walk" "slips" "LWordMender$Slips;" ∈ xtbl := xq_of 331 (by decide +kernel) (by decide +kernel)
theorem xq332 : Cond.fieldLink "WordMender$Walk" (12) "WordMender$Walk" "met" "LWordMender$Met;" ∈ xtbl := xq_of 332 (by decide +kernel) (by decide +kernel)
theorem xq333 : Cond.fieldLinkNest "WordMender" (155) "WordMender$Walk" "met" "LWordMender$Met;" "WordMender" ∈ xnst := xn_of 333 (by decide +kernel) (by decide +kernel)
theorem xq334 : Cond.fieldLink "WordMender$Walk" (21) "WordMender$Walk" "meant" "LWordMender$Row;" ∈ xtbl := xq_of 334 (by decide +kernel) (by decide +kernel)
theorem xq335 : Cond.fieldLink "WordMender$Walk" (25) "WordMender$Walk" "states" "[I" ∈ xtbl := xq_of 335 (by decide +kernel) (by decide +kernel)
theorem xq336 : Cond.fieldLink "WordMender$Walk" (29) "WordMender$Walk" "leasts" "[I" ∈ xtbl := xq_of 336 (by decide +kernel) (by decide +kernel)
theorem xq337 : Cond.fieldLink "WordMender$Walk" (32) "WordMender$Walk" "bests" "[I" ∈ xtbl := xq_of 337 (by decide +kernel) (by decide +kernel)
theorem xq338 : Cond.fieldLink "WordMender$Walk" (35) "WordMender$Walk" "wholes" "[I" ∈ xtbl := xq_of 338 (by decide +kernel) (by decide +kernel)
theorem xq339 : Cond.fieldLinkNest "WordMender" (204) "WordMender$Walk" "wholes" "[I" "WordMender" ∈ xnst := xn_of 339 (by decide +kernel) (by decide +kernel)
theorem xq340 : Cond.fieldLink "WordMender$Walk" (38) "WordMender$Walk" "begun" "[I" ∈ xtbl := xq_of 340 (by decide +kernel) (by decide +kernel)
theorem xq341 : Cond.fieldLinkNest "WordMender" (212) "WordMender$Walk" "begun" "[I" "WordMender" ∈ xnst := xn_of 341 (by decide +kernel) (by decide +kernel)
theorem xq367 : Cond.fieldLink "WordMender$Found" (21) "WordMender$Found" "lexicon" "LWordMender$Lexicon;" ∈ xtbl := xq_of 367 (by decide +kernel) (by decide +kernel)
theorem xq368 : Cond.fieldLink "WordMender$Found" (9) "WordMender$Found" "numbers" "[I" ∈ xtbl := xq_of 368 (by decide +kernel) (by decide +kernel)
theorem xq369 : Cond.fieldLink "WordMender$Found" (15) "WordMender$Found" "distances" "[I" ∈ xtbl := xq_of 369 (by decide +kernel) (by decide +kernel)
theorem xq370 : Cond.fieldLink "WordMender$Found" (18) "WordMender$Found" "shares" "[I" ∈ xtbl := xq_of 370 (by decide +kernel) (by decide +kernel)
theorem xq371 : Cond.fieldLink "WordMender$Found" (25) "WordMender$Found" "size" "I" ∈ xtbl := xq_of 371 (by decide +kernel) (by decide +kernel)
theorem xq372 : Cond.fieldLinkNest "WordMender" (165) "WordMender$Found" "size" "I" "WordMender" ∈ xnst := xn_of 372 (by decide +kernel) (by decide +kernel)
theorem xq390 : Cond.fieldLink "WordMender$Mending" (9) "WordMender$Mending" "prices" "[I" ∈ xtbl := xq_of 390 (by decide +kernel) (by decide +kernel)
theorem xq391 : Cond.fieldLink "WordMender$Mending" (15) "WordMender$Mending" "firsts" "[I" ∈ xtbl := xq_of 391 (by decide +kernel) (by decide +kernel)
theorem xq392 : Cond.fieldLink "WordMender$Mending" (18) "WordMender$Mending" "seconds" "[I" ∈ xtbl := xq_of 392 (by decide +kernel) (by decide +kernel)
theorem xq393 : Cond.fieldLink "WordMender$Mending" (21) "WordMender$Mending" "sums" "[I" ∈ xtbl := xq_of 393 (by decide +kernel) (by decide +kernel)
theorem xq394 : Cond.fieldLink "WordMender$Mending" (24) "WordMender$Mending" "kinds" "[I" ∈ xtbl := xq_of 394 (by decide +kernel) (by decide +kernel)
theorem xq395 : Cond.fieldLink "WordMender$Mending" (27) "WordMender$Mending" "starts" "[I" ∈ xtbl := xq_of 395 (by decide +kernel) (by decide +kernel)
theorem xq396 : Cond.fieldLink "WordMender$Mending" (39) "WordMender$Mending" "rows" "I" ∈ xtbl := xq_of 396 (by decide +kernel) (by decide +kernel)
theorem xq397 : Cond.fieldLink "WordMender$Mending" (43) "WordMender$Mending" "size" "I" ∈ xtbl := xq_of 397 (by decide +kernel) (by decide +kernel)
theorem xq421 : Cond.fieldLink "WordMender$Trays" (9) "WordMender$Trays" "things" "[I" ∈ xtbl := xq_of 421 (by decide +kernel) (by decide +kernel)
theorem xq422 : Cond.fieldLink "WordMender$Trays" (15) "WordMender$Trays" "sizes" "[I" ∈ xtbl := xq_of 422 (by decide +kernel) (by decide +kernel)
theorem xq423 : Cond.fieldLink "WordMender$Trays" (18) "WordMender$Trays" "cells" "[I" ∈ xtbl := xq_of 423 (by decide +kernel) (by decide +kernel)
theorem xq424 : Cond.fieldLink "WordMender$Trays" (21) "WordMender$Trays" "status" "I" ∈ xtbl := xq_of 424 (by decide +kernel) (by decide +kernel)
theorem xq425 : Cond.fieldLinkNest "WordMender" (300) "WordMender$Trays" "status" "I" "WordMender" ∈ xnst := xn_of 425 (by decide +kernel) (by decide +kernel)
theorem xq435 : Cond.fieldLink "WordMender" (12) "WordMender" "tape" "LWordMender$Tape;" ∈ xtbl := xq_of 435 (by decide +kernel) (by decide +kernel)
theorem xq436 : Cond.fieldLink "WordMender" (19) "WordMender" "lexicon" "LWordMender$Lexicon;" ∈ xtbl := xq_of 436 (by decide +kernel) (by decide +kernel)
theorem xq437 : Cond.fieldLink "WordMender" (26) "WordMender" "slips" "LWordMender$Slips;" ∈ xtbl := xq_of 437 (by decide +kernel) (by decide +kernel)
theorem xq438 : Cond.fieldLink "WordMender" (33) "WordMender" "meant" "LWordMender$Row;" ∈ xtbl := xq_of 438 (by decide +kernel) (by decide +kernel)
theorem xq439 : Cond.fieldLink "WordMender" (37) "WordMender" "typed" "LWordMender$Row;" ∈ xtbl := xq_of 439 (by decide +kernel) (by decide +kernel)
theorem xq440 : Cond.fieldLink "WordMender" (45) "WordMender" "text" "LWordMender$Rows;" ∈ xtbl := xq_of 440 (by decide +kernel) (by decide +kernel)
theorem xq441 : Cond.fieldLink "WordMender" (54) "WordMender" "latestWay" "LWordMender$Way;" ∈ xtbl := xq_of 441 (by decide +kernel) (by decide +kernel)
theorem xq442 : Cond.fieldLink "WordMender" (58) "WordMender" "trialWay" "LWordMender$Way;" ∈ xtbl := xq_of 442 (by decide +kernel) (by decide +kernel)
theorem xq443 : Cond.fieldLink "WordMender" (61) "WordMender" "pairsMeant" "LWordMender$Rows;" ∈ xtbl := xq_of 443 (by decide +kernel) (by decide +kernel)
theorem xq444 : Cond.fieldLink "WordMender" (64) "WordMender" "pairsTyped" "LWordMender$Rows;" ∈ xtbl := xq_of 444 (by decide +kernel) (by decide +kernel)
theorem xq445 : Cond.fieldLink "WordMender" (67) "WordMender" "roundCodes" "[I" ∈ xtbl := xq_of 445 (by decide +kernel) (by decide +kernel)
theorem xq446 : Cond.fieldLink "WordMender" (71) "WordMender" "roundCounts" "[I" ∈ xtbl := xq_of 446 (by decide +kernel) (by decide +kernel)
theorem xq447 : Cond.fieldLink "WordMender" (79) "WordMender" "walk" "LWordMender$Walk;" ∈ xtbl := xq_of 447 (by decide +kernel) (by decide +kernel)
theorem xq448 : Cond.fieldLink "WordMender" (88) "WordMender" "latestFound" "LWordMender$Found;" ∈ xtbl := xq_of 448 (by decide +kernel) (by decide +kernel)
theorem xq449 : Cond.fieldLink "WordMender" (92) "WordMender" "firstFound" "LWordMender$Found;" ∈ xtbl := xq_of 449 (by decide +kernel) (by decide +kernel)
theorem xq450 : Cond.fieldLink "WordMender" (98) "WordMender" "mending" "LWordMender$Mending;" ∈ xtbl := xq_of 450 (by decide +kernel) (by decide +kernel)
theorem xq451 : Cond.fieldLink "WordMender" (105) "WordMender" "trays" "LWordMender$Trays;" ∈ xtbl := xq_of 451 (by decide +kernel) (by decide +kernel)
theorem xq487 : Cond.methodLink "WordMenderLaw" (15) yX11_feed ∈ xtbl := xq_of 487 (by decide +kernel) (by decide +kernel)
theorem xq488 : Cond.instanceMethod yX11_feed ∈ xtbl := xq_of 488 (by decide +kernel) (by decide +kernel)
theorem xq489 : Cond.selects "WordMender" yX11_feed yX11_feed ∈ xtbl := xq_of 489 (by decide +kernel) (by decide +kernel)
theorem xq490 : Cond.code yX11_feed cX11_feed 4 (some .int) ∈ xtbl := xq_of 490 (by decide +kernel) (by decide +kernel)
theorem xq491 : Cond.methodLinkNest "WordMender" (109) yX7_append "WordMender" ∈ xnst := xn_of 491 (by decide +kernel) (by decide +kernel)
theorem xq493 : Cond.instanceMethod yX7_append ∈ xtbl := xq_of 493 (by decide +kernel) (by decide +kernel)
theorem xq494 : Cond.code yX7_append cX7_append 5 (some .int) ∈ xtbl := xq_of 494 (by decide +kernel) (by decide +kernel)
theorem xq495 : Cond.methodLink "WordMenderLaw" (20) yX11_add ∈ xtbl := xq_of 495 (by decide +kernel) (by decide +kernel)
theorem xq496 : Cond.instanceMethod yX11_add ∈ xtbl := xq_of 496 (by decide +kernel) (by decide +kernel)
theorem xq497 : Cond.selects "WordMender" yX11_add yX11_add ∈ xtbl := xq_of 497 (by decide +kernel) (by decide +kernel)
theorem xq498 : Cond.code yX11_add cX11_add 3 (some .int) ∈ xtbl := xq_of 498 (by decide +kernel) (by decide +kernel)
theorem xq499 : Cond.methodLinkNest "WordMender" (113) yX7_takeRow "WordMender" ∈ xnst := xn_of 499 (by decide +kernel) (by decide +kernel)
theorem xq501 : Cond.instanceMethod yX7_takeRow ∈ xtbl := xq_of 501 (by decide +kernel) (by decide +kernel)
theorem xq502 : Cond.code yX7_takeRow cX7_takeRow 3 (some .boolean) ∈ xtbl := xq_of 502 (by decide +kernel) (by decide +kernel)
theorem xq503 : Cond.methodLink "WordMender$Tape" (19) yX7_read ∈ xtbl := xq_of 503 (by decide +kernel) (by decide +kernel)
theorem xq505 : Cond.instanceMethod yX7_read ∈ xtbl := xq_of 505 (by decide +kernel) (by decide +kernel)
theorem xq506 : Cond.code yX7_read cX7_read 7 (some .boolean) ∈ xtbl := xq_of 506 (by decide +kernel) (by decide +kernel)
theorem xq507 : Cond.methodLinkNest "WordMender$Tape" (36) yX4_clear "WordMender" ∈ xnst := xn_of 507 (by decide +kernel) (by decide +kernel)
theorem xq509 : Cond.instanceMethod yX4_clear ∈ xtbl := xq_of 509 (by decide +kernel) (by decide +kernel)
theorem xq510 : Cond.code yX4_clear cX4_clear 1 none ∈ xtbl := xq_of 510 (by decide +kernel) (by decide +kernel)
theorem xq511 : Cond.methodLinkNest "WordMender$Tape" (39) yX4_append "WordMender" ∈ xnst := xn_of 511 (by decide +kernel) (by decide +kernel)
theorem xq513 : Cond.instanceMethod yX4_append ∈ xtbl := xq_of 513 (by decide +kernel) (by decide +kernel)
theorem xq514 : Cond.code yX4_append cX4_append 2 (some .boolean) ∈ xtbl := xq_of 514 (by decide +kernel) (by decide +kernel)
theorem xq515 : Cond.constant "WordMender" 117 (Int32.ofInt (100000)) ∈ xtbl := xq_of 515 (by decide +kernel) (by decide +kernel)
theorem xq516 : Cond.methodLinkNest "WordMender" (118) yX1_grow "WordMender" ∈ xnst := xn_of 516 (by decide +kernel) (by decide +kernel)
theorem xq518 : Cond.instanceMethod yX1_grow ∈ xtbl := xq_of 518 (by decide +kernel) (by decide +kernel)
theorem xq519 : Cond.code yX1_grow cX1_grow 5 (some .int) ∈ xtbl := xq_of 519 (by decide +kernel) (by decide +kernel)
theorem xq520 : Cond.methodLink "WordMender$Lexicon" (36) yX1_numberOf ∈ xtbl := xq_of 520 (by decide +kernel) (by decide +kernel)
theorem xq522 : Cond.instanceMethod yX1_numberOf ∈ xtbl := xq_of 522 (by decide +kernel) (by decide +kernel)
theorem xq523 : Cond.code yX1_numberOf cX1_numberOf 3 (some .int) ∈ xtbl := xq_of 523 (by decide +kernel) (by decide +kernel)
theorem xq524 : Cond.methodLink "WordMender$Lexicon" (32) yX1_place ∈ xtbl := xq_of 524 (by decide +kernel) (by decide +kernel)
theorem xq526 : Cond.instanceMethod yX1_place ∈ xtbl := xq_of 526 (by decide +kernel) (by decide +kernel)
theorem xq527 : Cond.code yX1_place cX1_place 5 (some .int) ∈ xtbl := xq_of 527 (by decide +kernel) (by decide +kernel)
theorem xq528 : Cond.methodLinkNest "WordMender$Lexicon" (28) yX5_order "WordMender" ∈ xnst := xn_of 528 (by decide +kernel) (by decide +kernel)
theorem xq530 : Cond.instanceMethod yX5_order ∈ xtbl := xq_of 530 (by decide +kernel) (by decide +kernel)
theorem xq531 : Cond.code yX5_order cX5_order 5 (some .int) ∈ xtbl := xq_of 531 (by decide +kernel) (by decide +kernel)
theorem xq532 : Cond.methodLink "WordMender$Rows" (37) yX5_at ∈ xtbl := xq_of 532 (by decide +kernel) (by decide +kernel)
theorem xq534 : Cond.instanceMethod yX5_at ∈ xtbl := xq_of 534 (by decide +kernel) (by decide +kernel)
theorem xq535 : Cond.code yX5_at cX5_at 4 (some .int) ∈ xtbl := xq_of 535 (by decide +kernel) (by decide +kernel)
theorem xq536 : Cond.methodLinkNest "WordMender$Rows" (60) yX4_at "WordMender" ∈ xnst := xn_of 536 (by decide +kernel) (by decide +kernel)
theorem xq538 : Cond.instanceMethod yX4_at ∈ xtbl := xq_of 538 (by decide +kernel) (by decide +kernel)
theorem xq539 : Cond.code yX4_at cX4_at 2 (some .int) ∈ xtbl := xq_of 539 (by decide +kernel) (by decide +kernel)
theorem xq540 : Cond.constant "WordMender$Lexicon" 39 (Int32.ofInt (100000)) ∈ xtbl := xq_of 540 (by decide +kernel) (by decide +kernel)
theorem xq541 : Cond.methodLink "WordMender$Lexicon" (40) Lib.Math.min.name ∈ xtbl := xq_of 541 (by decide +kernel) (by decide +kernel)
theorem xq542 : Cond.static Lib.Math.min.name ∈ xtbl := xq_of 542 (by decide +kernel) (by decide +kernel)
theorem xq543 : Cond.code Lib.Math.min.name Lib.Math.min.code 2 (some .int) ∈ xtbl := xq_of 543 (by decide +kernel) (by decide +kernel)
theorem xq544 : Cond.methodLinkNest "WordMender$Lexicon" (46) yX5_isFull "WordMender" ∈ xnst := xn_of 544 (by decide +kernel) (by decide +kernel)
theorem xq546 : Cond.instanceMethod yX5_isFull ∈ xtbl := xq_of 546 (by decide +kernel) (by decide +kernel)
theorem xq547 : Cond.code yX5_isFull cX5_isFull 1 (some .boolean) ∈ xtbl := xq_of 547 (by decide +kernel) (by decide +kernel)
theorem xq548 : Cond.methodLink "WordMender$Lexicon" (50) arraycopyName ∈ xtbl := xq_of 548 (by decide +kernel) (by decide +kernel)
theorem xq549 : Cond.static arraycopyName ∈ xtbl := xq_of 549 (by decide +kernel) (by decide +kernel)
theorem xq550 : Cond.native arraycopyName ∈ xtbl := xq_of 550 (by decide +kernel) (by decide +kernel)
theorem xq551 : Cond.methodLinkNest "WordMender$Lexicon" (56) yX5_insert "WordMender" ∈ xnst := xn_of 551 (by decide +kernel) (by decide +kernel)
theorem xq553 : Cond.instanceMethod yX5_insert ∈ xtbl := xq_of 553 (by decide +kernel) (by decide +kernel)
theorem xq554 : Cond.code yX5_insert cX5_insert 3 none ∈ xtbl := xq_of 554 (by decide +kernel) (by decide +kernel)
theorem xq555 : Cond.methodLink "WordMender$Rows" (48) yX5_isFull ∈ xtbl := xq_of 555 (by decide +kernel) (by decide +kernel)
theorem xq556 : Cond.methodLink "WordMender$Rows" (52) arraycopyName ∈ xtbl := xq_of 556 (by decide +kernel) (by decide +kernel)
theorem xq557 : Cond.methodLink "WordMenderLaw" (25) yX11_drop ∈ xtbl := xq_of 557 (by decide +kernel) (by decide +kernel)
theorem xq558 : Cond.instanceMethod yX11_drop ∈ xtbl := xq_of 558 (by decide +kernel) (by decide +kernel)
theorem xq559 : Cond.selects "WordMender" yX11_drop yX11_drop ∈ xtbl := xq_of 559 (by decide +kernel) (by decide +kernel)
theorem xq560 : Cond.code yX11_drop cX11_drop 1 (some .int) ∈ xtbl := xq_of 560 (by decide +kernel) (by decide +kernel)
theorem xq561 : Cond.methodLinkNest "WordMender" (122) yX1_remove "WordMender" ∈ xnst := xn_of 561 (by decide +kernel) (by decide +kernel)
theorem xq563 : Cond.instanceMethod yX1_remove ∈ xtbl := xq_of 563 (by decide +kernel) (by decide +kernel)
theorem xq564 : Cond.code yX1_remove cX1_remove 4 (some .int) ∈ xtbl := xq_of 564 (by decide +kernel) (by decide +kernel)
theorem xq565 : Cond.methodLinkNest "WordMender$Lexicon" (60) yX5_remove "WordMender" ∈ xnst := xn_of 565 (by decide +kernel) (by decide +kernel)
theorem xq567 : Cond.instanceMethod yX5_remove ∈ xtbl := xq_of 567 (by decide +kernel) (by decide +kernel)
theorem xq568 : Cond.code yX5_remove cX5_remove 3 none ∈ xtbl := xq_of 568 (by decide +kernel) (by decide +kernel)
theorem xq569 : Cond.methodLink "WordMenderLaw" (30) yX11_find ∈ xtbl := xq_of 569 (by decide +kernel) (by decide +kernel)
theorem xq570 : Cond.instanceMethod yX11_find ∈ xtbl := xq_of 570 (by decide +kernel) (by decide +kernel)
theorem xq571 : Cond.selects "WordMender" yX11_find yX11_find ∈ xtbl := xq_of 571 (by decide +kernel) (by decide +kernel)
theorem xq572 : Cond.code yX11_find cX11_find 1 (some .int) ∈ xtbl := xq_of 572 (by decide +kernel) (by decide +kernel)
theorem xq573 : Cond.methodLinkNest "WordMender" (126) yX1_numberOf "WordMender" ∈ xnst := xn_of 573 (by decide +kernel) (by decide +kernel)
theorem xq574 : Cond.methodLink "WordMenderLaw" (34) yX11_word ∈ xtbl := xq_of 574 (by decide +kernel) (by decide +kernel)
theorem xq575 : Cond.instanceMethod yX11_word ∈ xtbl := xq_of 575 (by decide +kernel) (by decide +kernel)
theorem xq576 : Cond.selects "WordMender" yX11_word yX11_word ∈ xtbl := xq_of 576 (by decide +kernel) (by decide +kernel)
theorem xq577 : Cond.code yX11_word cX11_word 3 (some .int) ∈ xtbl := xq_of 577 (by decide +kernel) (by decide +kernel)
theorem xq578 : Cond.methodLinkNest "WordMender" (136) yX1_countOf "WordMender" ∈ xnst := xn_of 578 (by decide +kernel) (by decide +kernel)
theorem xq580 : Cond.instanceMethod yX1_countOf ∈ xtbl := xq_of 580 (by decide +kernel) (by decide +kernel)
theorem xq581 : Cond.code yX1_countOf cX1_countOf 2 (some .int) ∈ xtbl := xq_of 581 (by decide +kernel) (by decide +kernel)
theorem xq582 : Cond.methodLinkNest "WordMender" (140) yX5_sizeOf "WordMender" ∈ xnst := xn_of 582 (by decide +kernel) (by decide +kernel)
theorem xq584 : Cond.instanceMethod yX5_sizeOf ∈ xtbl := xq_of 584 (by decide +kernel) (by decide +kernel)
theorem xq585 : Cond.code yX5_sizeOf cX5_sizeOf 2 (some .int) ∈ xtbl := xq_of 585 (by decide +kernel) (by decide +kernel)
theorem xq586 : Cond.methodLinkNest "WordMender" (143) yX5_at "WordMender" ∈ xnst := xn_of 586 (by decide +kernel) (by decide +kernel)
theorem xq587 : Cond.methodLink "WordMenderLaw" (39) yX11_count ∈ xtbl := xq_of 587 (by decide +kernel) (by decide +kernel)
theorem xq588 : Cond.instanceMethod yX11_count ∈ xtbl := xq_of 588 (by decide +kernel) (by decide +kernel)
theorem xq589 : Cond.selects "WordMender" yX11_count yX11_count ∈ xtbl := xq_of 589 (by decide +kernel) (by decide +kernel)
theorem xq590 : Cond.code yX11_count cX11_count 2 (some .int) ∈ xtbl := xq_of 590 (by decide +kernel) (by decide +kernel)
theorem xq591 : Cond.methodLinkNest "WordMender" (147) yX1_nodes "WordMender" ∈ xnst := xn_of 591 (by decide +kernel) (by decide +kernel)
theorem xq593 : Cond.instanceMethod yX1_nodes ∈ xtbl := xq_of 593 (by decide +kernel) (by decide +kernel)
theorem xq594 : Cond.code yX1_nodes cX1_nodes 3 (some .int) ∈ xtbl := xq_of 594 (by decide +kernel) (by decide +kernel)
theorem xq595 : Cond.methodLinkNest "WordMender$Lexicon" (63) yX5_sizeOf "WordMender" ∈ xnst := xn_of 595 (by decide +kernel) (by decide +kernel)
theorem xq596 : Cond.methodLinkNest "WordMender$Lexicon" (67) yX5_shared "WordMender" ∈ xnst := xn_of 596 (by decide +kernel) (by decide +kernel)
theorem xq598 : Cond.instanceMethod yX5_shared ∈ xtbl := xq_of 598 (by decide +kernel) (by decide +kernel)
theorem xq599 : Cond.code yX5_shared cX5_shared 3 (some .int) ∈ xtbl := xq_of 599 (by decide +kernel) (by decide +kernel)
theorem xq600 : Cond.methodLink "WordMender$Rows" (33) yX5_sizeOf ∈ xtbl := xq_of 600 (by decide +kernel) (by decide +kernel)
theorem xq601 : Cond.methodLink "WordMenderLaw" (43) yX11_price ∈ xtbl := xq_of 601 (by decide +kernel) (by decide +kernel)
theorem xq602 : Cond.instanceMethod yX11_price ∈ xtbl := xq_of 602 (by decide +kernel) (by decide +kernel)
theorem xq603 : Cond.selects "WordMender" yX11_price yX11_price ∈ xtbl := xq_of 603 (by decide +kernel) (by decide +kernel)
theorem xq604 : Cond.code yX11_price cX11_price 5 (some .int) ∈ xtbl := xq_of 604 (by decide +kernel) (by decide +kernel)
theorem xq605 : Cond.methodLinkNest "WordMender" (166) yX6_setKind "WordMender" ∈ xnst := xn_of 605 (by decide +kernel) (by decide +kernel)
theorem xq607 : Cond.instanceMethod yX6_setKind ∈ xtbl := xq_of 607 (by decide +kernel) (by decide +kernel)
theorem xq608 : Cond.code yX6_setKind cX6_setKind 4 (some .int) ∈ xtbl := xq_of 608 (by decide +kernel) (by decide +kernel)
theorem xq609 : Cond.methodLinkNest "WordMender" (169) yX6_setByLetters "WordMender" ∈ xnst := xn_of 609 (by decide +kernel) (by decide +kernel)
theorem xq611 : Cond.instanceMethod yX6_setByLetters ∈ xtbl := xq_of 611 (by decide +kernel) (by decide +kernel)
theorem xq612 : Cond.code yX6_setByLetters cX6_setByLetters 5 (some .int) ∈ xtbl := xq_of 612 (by decide +kernel) (by decide +kernel)
theorem xq613 : Cond.methodLink "WordMender$Slips" (39) yX6_exchange ∈ xtbl := xq_of 613 (by decide +kernel) (by decide +kernel)
theorem xq614 : Cond.static yX6_exchange ∈ xtbl := xq_of 614 (by decide +kernel) (by decide +kernel)
theorem xq615 : Cond.code yX6_exchange cX6_exchange 4 (some .int) ∈ xtbl := xq_of 615 (by decide +kernel) (by decide +kernel)
theorem xq616 : Cond.methodLink "WordMenderLaw" (48) yX11_sound ∈ xtbl := xq_of 616 (by decide +kernel) (by decide +kernel)
theorem xq617 : Cond.instanceMethod yX11_sound ∈ xtbl := xq_of 617 (by decide +kernel) (by decide +kernel)
theorem xq618 : Cond.selects "WordMender" yX11_sound yX11_sound ∈ xtbl := xq_of 618 (by decide +kernel) (by decide +kernel)
theorem xq619 : Cond.code yX11_sound cX11_sound 3 (some .int) ∈ xtbl := xq_of 619 (by decide +kernel) (by decide +kernel)
theorem xq620 : Cond.methodLinkNest "WordMender" (173) yX7_takeTwo "WordMender" ∈ xnst := xn_of 620 (by decide +kernel) (by decide +kernel)
theorem xq622 : Cond.instanceMethod yX7_takeTwo ∈ xtbl := xq_of 622 (by decide +kernel) (by decide +kernel)
theorem xq623 : Cond.code yX7_takeTwo cX7_takeTwo 6 (some .boolean) ∈ xtbl := xq_of 623 (by decide +kernel) (by decide +kernel)
theorem xq624 : Cond.methodLink "WordMender$Tape" (23) yX7_seek ∈ xtbl := xq_of 624 (by decide +kernel) (by decide +kernel)
theorem xq626 : Cond.instanceMethod yX7_seek ∈ xtbl := xq_of 626 (by decide +kernel) (by decide +kernel)
theorem xq627 : Cond.code yX7_seek cX7_seek 5 (some .int) ∈ xtbl := xq_of 627 (by decide +kernel) (by decide +kernel)
theorem xq628 : Cond.methodLinkNest "WordMender" (177) yX6_addSound "WordMender" ∈ xnst := xn_of 628 (by decide +kernel) (by decide +kernel)
theorem xq630 : Cond.instanceMethod yX6_addSound ∈ xtbl := xq_of 630 (by decide +kernel) (by decide +kernel)
theorem xq631 : Cond.code yX6_addSound cX6_addSound 5 (some .int) ∈ xtbl := xq_of 631 (by decide +kernel) (by decide +kernel)
theorem xq632 : Cond.methodLinkNest "WordMender$Slips" (47) yX5_isFull "WordMender" ∈ xnst := xn_of 632 (by decide +kernel) (by decide +kernel)
theorem xq633 : Cond.methodLinkNest "WordMender$Slips" (51) yX5_append "WordMender" ∈ xnst := xn_of 633 (by decide +kernel) (by decide +kernel)
theorem xq635 : Cond.instanceMethod yX5_append ∈ xtbl := xq_of 635 (by decide +kernel) (by decide +kernel)
theorem xq636 : Cond.code yX5_append cX5_append 2 none ∈ xtbl := xq_of 636 (by decide +kernel) (by decide +kernel)
theorem xq637 : Cond.methodLink "WordMender$Rows" (44) yX5_insert ∈ xtbl := xq_of 637 (by decide +kernel) (by decide +kernel)
theorem xq638 : Cond.methodLink "WordMenderLaw" (52) yX11_model ∈ xtbl := xq_of 638 (by decide +kernel) (by decide +kernel)
theorem xq639 : Cond.instanceMethod yX11_model ∈ xtbl := xq_of 639 (by decide +kernel) (by decide +kernel)
theorem xq640 : Cond.selects "WordMender" yX11_model yX11_model ∈ xtbl := xq_of 640 (by decide +kernel) (by decide +kernel)
theorem xq641 : Cond.code yX11_model cX11_model 3 (some .int) ∈ xtbl := xq_of 641 (by decide +kernel) (by decide +kernel)
theorem xq642 : Cond.methodLink "WordMenderLaw" (56) yX11_distance ∈ xtbl := xq_of 642 (by decide +kernel) (by decide +kernel)
theorem xq643 : Cond.instanceMethod yX11_distance ∈ xtbl := xq_of 643 (by decide +kernel) (by decide +kernel)
theorem xq644 : Cond.selects "WordMender" yX11_distance yX11_distance ∈ xtbl := xq_of 644 (by decide +kernel) (by decide +kernel)
theorem xq645 : Cond.code yX11_distance cX11_distance 2 (some .int) ∈ xtbl := xq_of 645 (by decide +kernel) (by decide +kernel)
theorem xq646 : Cond.methodLinkNest "WordMender" (184) yX10_measure "WordMender" ∈ xnst := xn_of 646 (by decide +kernel) (by decide +kernel)
theorem xq648 : Cond.instanceMethod yX10_measure ∈ xtbl := xq_of 648 (by decide +kernel) (by decide +kernel)
theorem xq649 : Cond.code yX10_measure cX10_measure 6 (some .int) ∈ xtbl := xq_of 649 (by decide +kernel) (by decide +kernel)
theorem xq650 : Cond.methodLink "WordMender$Way" (37) yX10_leastFrom ∈ xtbl := xq_of 650 (by decide +kernel) (by decide +kernel)
theorem xq652 : Cond.instanceMethod yX10_leastFrom ∈ xtbl := xq_of 652 (by decide +kernel) (by decide +kernel)
theorem xq653 : Cond.code yX10_leastFrom cX10_leastFrom 7 (some .int) ∈ xtbl := xq_of 653 (by decide +kernel) (by decide +kernel)
theorem xq654 : Cond.constant "WordMender$Way" 41 (Int32.ofInt (1000000)) ∈ xtbl := xq_of 654 (by decide +kernel) (by decide +kernel)
theorem xq655 : Cond.methodLinkNest "WordMender$Way" (42) yX6_codes "WordMender" ∈ xnst := xn_of 655 (by decide +kernel) (by decide +kernel)
theorem xq657 : Cond.instanceMethod yX6_codes ∈ xtbl := xq_of 657 (by decide +kernel) (by decide +kernel)
theorem xq658 : Cond.code yX6_codes cX6_codes 1 (some .int) ∈ xtbl := xq_of 658 (by decide +kernel) (by decide +kernel)
theorem xq659 : Cond.methodLink "WordMender$Way" (47) yX10_sumBy ∈ xtbl := xq_of 659 (by decide +kernel) (by decide +kernel)
theorem xq661 : Cond.instanceMethod yX10_sumBy ∈ xtbl := xq_of 661 (by decide +kernel) (by decide +kernel)
theorem xq662 : Cond.code yX10_sumBy cX10_sumBy 8 (some .int) ∈ xtbl := xq_of 662 (by decide +kernel) (by decide +kernel)
theorem xq663 : Cond.methodLinkNest "WordMender$Way" (57) yX6_priceAt "WordMender" ∈ xnst := xn_of 663 (by decide +kernel) (by decide +kernel)
theorem xq665 : Cond.instanceMethod yX6_priceAt ∈ xtbl := xq_of 665 (by decide +kernel) (by decide +kernel)
theorem xq666 : Cond.code yX6_priceAt cX6_priceAt 9 (some .int) ∈ xtbl := xq_of 666 (by decide +kernel) (by decide +kernel)
theorem xq667 : Cond.methodLinkNest "WordMender$Slips" (69) yX4_at "WordMender" ∈ xnst := xn_of 667 (by decide +kernel) (by decide +kernel)
theorem xq668 : Cond.methodLink "WordMender$Slips" (74) yX6_byLetters ∈ xtbl := xq_of 668 (by decide +kernel) (by decide +kernel)
theorem xq669 : Cond.static yX6_byLetters ∈ xtbl := xq_of 669 (by decide +kernel) (by decide +kernel)
theorem xq670 : Cond.code yX6_byLetters cX6_byLetters 4 (some .int) ∈ xtbl := xq_of 670 (by decide +kernel) (by decide +kernel)
theorem xq671 : Cond.methodLinkNest "WordMender$Slips" (65) yX5_standsIn "WordMender" ∈ xnst := xn_of 671 (by decide +kernel) (by decide +kernel)
theorem xq673 : Cond.instanceMethod yX5_standsIn ∈ xtbl := xq_of 673 (by decide +kernel) (by decide +kernel)
theorem xq674 : Cond.code yX5_standsIn cX5_standsIn 7 (some .boolean) ∈ xtbl := xq_of 674 (by decide +kernel) (by decide +kernel)
theorem xq675 : Cond.methodLink "WordMender$Slips" (77) yX6_soundPrice ∈ xtbl := xq_of 675 (by decide +kernel) (by decide +kernel)
theorem xq677 : Cond.instanceMethod yX6_soundPrice ∈ xtbl := xq_of 677 (by decide +kernel) (by decide +kernel)
theorem xq678 : Cond.code yX6_soundPrice cX6_soundPrice 2 (some .int) ∈ xtbl := xq_of 678 (by decide +kernel) (by decide +kernel)
theorem xq679 : Cond.methodLinkNest "WordMender$Way" (60) yX6_meantTaken "WordMender" ∈ xnst := xn_of 679 (by decide +kernel) (by decide +kernel)
theorem xq681 : Cond.instanceMethod yX6_meantTaken ∈ xtbl := xq_of 681 (by decide +kernel) (by decide +kernel)
theorem xq682 : Cond.code yX6_meantTaken cX6_meantTaken 2 (some .int) ∈ xtbl := xq_of 682 (by decide +kernel) (by decide +kernel)
theorem xq683 : Cond.fieldLink "WordMender$Slips" (55) "WordMender$Slips" "MEANT_TAKEN" "[I" ∈ xtbl := xq_of 683 (by decide +kernel) (by decide +kernel)
theorem xq685 : Cond.methodLinkNest "WordMender$Slips" (58) yX5_sizeOf "WordMender" ∈ xnst := xn_of 685 (by decide +kernel) (by decide +kernel)
theorem xq686 : Cond.methodLinkNest "WordMender$Way" (64) yX6_typedTaken "WordMender" ∈ xnst := xn_of 686 (by decide +kernel) (by decide +kernel)
theorem xq688 : Cond.instanceMethod yX6_typedTaken ∈ xtbl := xq_of 688 (by decide +kernel) (by decide +kernel)
theorem xq689 : Cond.code yX6_typedTaken cX6_typedTaken 2 (some .int) ∈ xtbl := xq_of 689 (by decide +kernel) (by decide +kernel)
theorem xq690 : Cond.fieldLink "WordMender$Slips" (62) "WordMender$Slips" "TYPED_TAKEN" "[I" ∈ xtbl := xq_of 690 (by decide +kernel) (by decide +kernel)
theorem xq692 : Cond.methodLink "WordMender$Way" (51) Lib.Math.min.name ∈ xtbl := xq_of 692 (by decide +kernel) (by decide +kernel)
theorem xq693 : Cond.methodLinkNest "WordMender" (188) yX10_trace "WordMender" ∈ xnst := xn_of 693 (by decide +kernel) (by decide +kernel)
theorem xq695 : Cond.instanceMethod yX10_trace ∈ xtbl := xq_of 695 (by decide +kernel) (by decide +kernel)
theorem xq696 : Cond.code yX10_trace cX10_trace 6 none ∈ xtbl := xq_of 696 (by decide +kernel) (by decide +kernel)
theorem xq697 : Cond.methodLink "WordMender$Way" (68) yX10_firstCode ∈ xtbl := xq_of 697 (by decide +kernel) (by decide +kernel)
theorem xq699 : Cond.instanceMethod yX10_firstCode ∈ xtbl := xq_of 699 (by decide +kernel) (by decide +kernel)
theorem xq700 : Cond.code yX10_firstCode cX10_firstCode 7 (some .int) ∈ xtbl := xq_of 700 (by decide +kernel) (by decide +kernel)
theorem xq701 : Cond.methodLink "WordMenderLaw" (60) yX11_way ∈ xtbl := xq_of 701 (by decide +kernel) (by decide +kernel)
theorem xq702 : Cond.instanceMethod yX11_way ∈ xtbl := xq_of 702 (by decide +kernel) (by decide +kernel)
theorem xq703 : Cond.selects "WordMender" yX11_way yX11_way ∈ xtbl := xq_of 703 (by decide +kernel) (by decide +kernel)
theorem xq704 : Cond.code yX11_way cX11_way 3 (some .int) ∈ xtbl := xq_of 704 (by decide +kernel) (by decide +kernel)
theorem xq705 : Cond.methodLinkNest "WordMender" (193) yX10_tell "WordMender" ∈ xnst := xn_of 705 (by decide +kernel) (by decide +kernel)
theorem xq707 : Cond.instanceMethod yX10_tell ∈ xtbl := xq_of 707 (by decide +kernel) (by decide +kernel)
theorem xq708 : Cond.code yX10_tell cX10_tell 4 (some .int) ∈ xtbl := xq_of 708 (by decide +kernel) (by decide +kernel)
theorem xq709 : Cond.methodLink "WordMender$Way" (71) yX10_codeAt ∈ xtbl := xq_of 709 (by decide +kernel) (by decide +kernel)
theorem xq711 : Cond.instanceMethod yX10_codeAt ∈ xtbl := xq_of 711 (by decide +kernel) (by decide +kernel)
theorem xq712 : Cond.code yX10_codeAt cX10_codeAt 2 (some .int) ∈ xtbl := xq_of 712 (by decide +kernel) (by decide +kernel)
theorem xq713 : Cond.methodLink "WordMenderLaw" (64) yX11_near ∈ xtbl := xq_of 713 (by decide +kernel) (by decide +kernel)
theorem xq714 : Cond.instanceMethod yX11_near ∈ xtbl := xq_of 714 (by decide +kernel) (by decide +kernel)
theorem xq715 : Cond.selects "WordMender" yX11_near yX11_near ∈ xtbl := xq_of 715 (by decide +kernel) (by decide +kernel)
theorem xq716 : Cond.code yX11_near cX11_near 3 (some .int) ∈ xtbl := xq_of 716 (by decide +kernel) (by decide +kernel)
theorem xq717 : Cond.methodLink "WordMender" (196) yX11_isNoBound ∈ xtbl := xq_of 717 (by decide +kernel) (by decide +kernel)
theorem xq718 : Cond.static yX11_isNoBound ∈ xtbl := xq_of 718 (by decide +kernel) (by decide +kernel)
theorem xq719 : Cond.code yX11_isNoBound cX11_isNoBound 1 (some .boolean) ∈ xtbl := xq_of 719 (by decide +kernel) (by decide +kernel)
theorem xq720 : Cond.constant "WordMender" 303 (Int32.ofInt (99999)) ∈ xtbl := xq_of 720 (by decide +kernel) (by decide +kernel)
theorem xq721 : Cond.methodLinkNest "WordMender" (200) yX9_go "WordMender" ∈ xnst := xn_of 721 (by decide +kernel) (by decide +kernel)
theorem xq723 : Cond.instanceMethod yX9_go ∈ xtbl := xq_of 723 (by decide +kernel) (by decide +kernel)
theorem xq724 : Cond.code yX9_go cX9_go 10 none ∈ xtbl := xq_of 724 (by decide +kernel) (by decide +kernel)
theorem xq725 : Cond.methodLinkNest "WordMender$Walk" (53) yX3_clear "WordMender" ∈ xnst := xn_of 725 (by decide +kernel) (by decide +kernel)
theorem xq727 : Cond.instanceMethod yX3_clear ∈ xtbl := xq_of 727 (by decide +kernel) (by decide +kernel)
theorem xq728 : Cond.code yX3_clear cX3_clear 2 none ∈ xtbl := xq_of 728 (by decide +kernel) (by decide +kernel)
theorem xq729 : Cond.methodLink "WordMender$Met" (35) Lib.Math.min.name ∈ xtbl := xq_of 729 (by decide +kernel) (by decide +kernel)
theorem xq730 : Cond.methodLink "WordMender$Met" (41) Lib.Math.max.name ∈ xtbl := xq_of 730 (by decide +kernel) (by decide +kernel)
theorem xq731 : Cond.methodLinkNest "WordMender$Walk" (66) yX5_copyTo "WordMender" ∈ xnst := xn_of 731 (by decide +kernel) (by decide +kernel)
theorem xq733 : Cond.instanceMethod yX5_copyTo ∈ xtbl := xq_of 733 (by decide +kernel) (by decide +kernel)
theorem xq734 : Cond.code yX5_copyTo cX5_copyTo 4 none ∈ xtbl := xq_of 734 (by decide +kernel) (by decide +kernel)
theorem xq735 : Cond.methodLinkNest "WordMender$Rows" (28) yX4_clear "WordMender" ∈ xnst := xn_of 735 (by decide +kernel) (by decide +kernel)
theorem xq736 : Cond.methodLinkNest "WordMender$Rows" (40) yX4_append "WordMender" ∈ xnst := xn_of 736 (by decide +kernel) (by decide +kernel)
theorem xq737 : Cond.methodLinkNest "WordMender$Walk" (70) yX5_shared "WordMender" ∈ xnst := xn_of 737 (by decide +kernel) (by decide +kernel)
theorem xq738 : Cond.methodLink "WordMender$Walk" (74) yX9_descend ∈ xtbl := xq_of 738 (by decide +kernel) (by decide +kernel)
theorem xq740 : Cond.instanceMethod yX9_descend ∈ xtbl := xq_of 740 (by decide +kernel) (by decide +kernel)
theorem xq741 : Cond.code yX9_descend cX9_descend 7 (some .int) ∈ xtbl := xq_of 741 (by decide +kernel) (by decide +kernel)
theorem xq742 : Cond.methodLink "WordMender$Walk" (85) Lib.Math.max.name ∈ xtbl := xq_of 742 (by decide +kernel) (by decide +kernel)
theorem xq743 : Cond.methodLink "WordMender$Walk" (88) yX9_fill ∈ xtbl := xq_of 743 (by decide +kernel) (by decide +kernel)
theorem xq745 : Cond.instanceMethod yX9_fill ∈ xtbl := xq_of 745 (by decide +kernel) (by decide +kernel)
theorem xq746 : Cond.code yX9_fill cX9_fill 5 none ∈ xtbl := xq_of 746 (by decide +kernel) (by decide +kernel)
theorem xq747 : Cond.constant "WordMender$Walk" 84 (Int32.ofInt (1000000)) ∈ xtbl := xq_of 747 (by decide +kernel) (by decide +kernel)
theorem xq748 : Cond.methodLinkNest "WordMender$Walk" (105) yX6_codes "WordMender" ∈ xnst := xn_of 748 (by decide +kernel) (by decide +kernel)
theorem xq749 : Cond.methodLink "WordMender$Walk" (111) yX9_reach ∈ xtbl := xq_of 749 (by decide +kernel) (by decide +kernel)
theorem xq751 : Cond.instanceMethod yX9_reach ∈ xtbl := xq_of 751 (by decide +kernel) (by decide +kernel)
theorem xq752 : Cond.code yX9_reach cX9_reach 10 none ∈ xtbl := xq_of 752 (by decide +kernel) (by decide +kernel)
theorem xq753 : Cond.methodLinkNest "WordMender$Walk" (115) yX6_meantTaken "WordMender" ∈ xnst := xn_of 753 (by decide +kernel) (by decide +kernel)
theorem xq754 : Cond.methodLinkNest "WordMender$Walk" (118) yX6_mayStand "WordMender" ∈ xnst := xn_of 754 (by decide +kernel) (by decide +kernel)
theorem xq756 : Cond.instanceMethod yX6_mayStand ∈ xtbl := xq_of 756 (by decide +kernel) (by decide +kernel)
theorem xq757 : Cond.code yX6_mayStand cX6_mayStand 4 (some .boolean) ∈ xtbl := xq_of 757 (by decide +kernel) (by decide +kernel)
theorem xq758 : Cond.methodLinkNest "WordMender$Walk" (122) yX6_typedTaken "WordMender" ∈ xnst := xn_of 758 (by decide +kernel) (by decide +kernel)
theorem xq759 : Cond.methodLinkNest "WordMender$Walk" (125) yX6_priceAt "WordMender" ∈ xnst := xn_of 759 (by decide +kernel) (by decide +kernel)
theorem xq760 : Cond.methodLink "WordMender$Walk" (91) yX9_sumUp ∈ xtbl := xq_of 760 (by decide +kernel) (by decide +kernel)
theorem xq762 : Cond.instanceMethod yX9_sumUp ∈ xtbl := xq_of 762 (by decide +kernel) (by decide +kernel)
theorem xq763 : Cond.code yX9_sumUp cX9_sumUp 7 none ∈ xtbl := xq_of 763 (by decide +kernel) (by decide +kernel)
theorem xq764 : Cond.methodLink "WordMender$Walk" (78) Lib.Math.min.name ∈ xtbl := xq_of 764 (by decide +kernel) (by decide +kernel)
theorem xq765 : Cond.methodLink "WordMender$Walk" (94) yX9_isLeft ∈ xtbl := xq_of 765 (by decide +kernel) (by decide +kernel)
theorem xq767 : Cond.instanceMethod yX9_isLeft ∈ xtbl := xq_of 767 (by decide +kernel) (by decide +kernel)
theorem xq768 : Cond.code yX9_isLeft cX9_isLeft 4 (some .boolean) ∈ xtbl := xq_of 768 (by decide +kernel) (by decide +kernel)
theorem xq769 : Cond.methodLinkNest "WordMender$Walk" (98) yX4_at "WordMender" ∈ xnst := xn_of 769 (by decide +kernel) (by decide +kernel)
theorem xq770 : Cond.methodLinkNest "WordMender$Walk" (101) yX3_keep "WordMender" ∈ xnst := xn_of 770 (by decide +kernel) (by decide +kernel)
theorem xq772 : Cond.instanceMethod yX3_keep ∈ xtbl := xq_of 772 (by decide +kernel) (by decide +kernel)
theorem xq773 : Cond.code yX3_keep cX3_keep 6 none ∈ xtbl := xq_of 773 (by decide +kernel) (by decide +kernel)
theorem xq774 : Cond.methodLink "WordMender$Met" (47) arraycopyName ∈ xtbl := xq_of 774 (by decide +kernel) (by decide +kernel)
theorem xq775 : Cond.methodLinkNest "WordMender" (207) yX0_gather "WordMender" ∈ xnst := xn_of 775 (by decide +kernel) (by decide +kernel)
theorem xq777 : Cond.instanceMethod yX0_gather ∈ xtbl := xq_of 777 (by decide +kernel) (by decide +kernel)
theorem xq778 : Cond.code yX0_gather cX0_gather 5 (some .int) ∈ xtbl := xq_of 778 (by decide +kernel) (by decide +kernel)
theorem xq779 : Cond.methodLink "WordMender$Found" (38) Lib.Math.min.name ∈ xtbl := xq_of 779 (by decide +kernel) (by decide +kernel)
theorem xq780 : Cond.methodLink "WordMender$Found" (44) yX0_lay ∈ xtbl := xq_of 780 (by decide +kernel) (by decide +kernel)
theorem xq782 : Cond.instanceMethod yX0_lay ∈ xtbl := xq_of 782 (by decide +kernel) (by decide +kernel)
theorem xq783 : Cond.code yX0_lay cX0_lay 6 none ∈ xtbl := xq_of 783 (by decide +kernel) (by decide +kernel)
theorem xq784 : Cond.methodLinkNest "WordMender$Found" (48) yX1_share "WordMender" ∈ xnst := xn_of 784 (by decide +kernel) (by decide +kernel)
theorem xq786 : Cond.instanceMethod yX1_share ∈ xtbl := xq_of 786 (by decide +kernel) (by decide +kernel)
theorem xq787 : Cond.code yX1_share cX1_share 2 (some .int) ∈ xtbl := xq_of 787 (by decide +kernel) (by decide +kernel)
theorem xq788 : Cond.constantFloat "WordMender$Lexicon" 73 (1148846080) ∈ xtbl := xq_of 788 (by decide +kernel) (by decide +kernel)
theorem xq789 : Cond.methodLink "WordMender$Lexicon" (74) yX1_countOf ∈ xtbl := xq_of 789 (by decide +kernel) (by decide +kernel)
theorem xq790 : Cond.methodLink "WordMender$Found" (52) yX0_isAhead ∈ xtbl := xq_of 790 (by decide +kernel) (by decide +kernel)
theorem xq792 : Cond.instanceMethod yX0_isAhead ∈ xtbl := xq_of 792 (by decide +kernel) (by decide +kernel)
theorem xq793 : Cond.code yX0_isAhead cX0_isAhead 5 (some .boolean) ∈ xtbl := xq_of 793 (by decide +kernel) (by decide +kernel)
theorem xq794 : Cond.methodLinkNest "WordMender$Found" (59) yX1_countOf "WordMender" ∈ xnst := xn_of 794 (by decide +kernel) (by decide +kernel)
theorem xq795 : Cond.methodLink "WordMender$Found" (56) yX0_move ∈ xtbl := xq_of 795 (by decide +kernel) (by decide +kernel)
theorem xq797 : Cond.instanceMethod yX0_move ∈ xtbl := xq_of 797 (by decide +kernel) (by decide +kernel)
theorem xq798 : Cond.code yX0_move cX0_move 4 none ∈ xtbl := xq_of 798 (by decide +kernel) (by decide +kernel)
theorem xq799 : Cond.methodLink "WordMenderLaw" (68) yX11_nearest ∈ xtbl := xq_of 799 (by decide +kernel) (by decide +kernel)
theorem xq800 : Cond.instanceMethod yX11_nearest ∈ xtbl := xq_of 800 (by decide +kernel) (by decide +kernel)
theorem xq801 : Cond.selects "WordMender" yX11_nearest yX11_nearest ∈ xtbl := xq_of 801 (by decide +kernel) (by decide +kernel)
theorem xq802 : Cond.code yX11_nearest cX11_nearest 3 (some .int) ∈ xtbl := xq_of 802 (by decide +kernel) (by decide +kernel)
theorem xq803 : Cond.constant "WordMender" 211 (Int32.ofInt (1000000)) ∈ xtbl := xq_of 803 (by decide +kernel) (by decide +kernel)
theorem xq804 : Cond.methodLink "WordMenderLaw" (72) yX11_complete ∈ xtbl := xq_of 804 (by decide +kernel) (by decide +kernel)
theorem xq805 : Cond.instanceMethod yX11_complete ∈ xtbl := xq_of 805 (by decide +kernel) (by decide +kernel)
theorem xq806 : Cond.selects "WordMender" yX11_complete yX11_complete ∈ xtbl := xq_of 806 (by decide +kernel) (by decide +kernel)
theorem xq807 : Cond.code yX11_complete cX11_complete 3 (some .int) ∈ xtbl := xq_of 807 (by decide +kernel) (by decide +kernel)
theorem xq808 : Cond.methodLink "WordMenderLaw" (76) yX11_found ∈ xtbl := xq_of 808 (by decide +kernel) (by decide +kernel)
theorem xq809 : Cond.instanceMethod yX11_found ∈ xtbl := xq_of 809 (by decide +kernel) (by decide +kernel)
theorem xq810 : Cond.selects "WordMender" yX11_found yX11_found ∈ xtbl := xq_of 810 (by decide +kernel) (by decide +kernel)
theorem xq811 : Cond.code yX11_found cX11_found 3 (some .int) ∈ xtbl := xq_of 811 (by decide +kernel) (by decide +kernel)
theorem xq812 : Cond.methodLinkNest "WordMender" (215) yX0_tell "WordMender" ∈ xnst := xn_of 812 (by decide +kernel) (by decide +kernel)
theorem xq814 : Cond.instanceMethod yX0_tell ∈ xtbl := xq_of 814 (by decide +kernel) (by decide +kernel)
theorem xq815 : Cond.code yX0_tell cX0_tell 3 (some .int) ∈ xtbl := xq_of 815 (by decide +kernel) (by decide +kernel)
theorem xq816 : Cond.methodLink "WordMenderLaw" (80) yX11_node ∈ xtbl := xq_of 816 (by decide +kernel) (by decide +kernel)
theorem xq817 : Cond.instanceMethod yX11_node ∈ xtbl := xq_of 817 (by decide +kernel) (by decide +kernel)
theorem xq818 : Cond.selects "WordMender" yX11_node yX11_node ∈ xtbl := xq_of 818 (by decide +kernel) (by decide +kernel)
theorem xq819 : Cond.code yX11_node cX11_node 3 (some .int) ∈ xtbl := xq_of 819 (by decide +kernel) (by decide +kernel)
theorem xq820 : Cond.methodLinkNest "WordMender" (216) yX3_tell "WordMender" ∈ xnst := xn_of 820 (by decide +kernel) (by decide +kernel)
theorem xq822 : Cond.instanceMethod yX3_tell ∈ xtbl := xq_of 822 (by decide +kernel) (by decide +kernel)
theorem xq823 : Cond.code yX3_tell cX3_tell 3 (some .int) ∈ xtbl := xq_of 823 (by decide +kernel) (by decide +kernel)
theorem xq824 : Cond.methodLink "WordMender$Met" (53) yX3_least ∈ xtbl := xq_of 824 (by decide +kernel) (by decide +kernel)
theorem xq826 : Cond.instanceMethod yX3_least ∈ xtbl := xq_of 826 (by decide +kernel) (by decide +kernel)
theorem xq827 : Cond.code yX3_least cX3_least 4 (some .int) ∈ xtbl := xq_of 827 (by decide +kernel) (by decide +kernel)
theorem xq828 : Cond.constant "WordMender$Met" 60 (Int32.ofInt (1000000)) ∈ xtbl := xq_of 828 (by decide +kernel) (by decide +kernel)
theorem xq829 : Cond.methodLink "WordMender$Met" (57) yX3_stateAt ∈ xtbl := xq_of 829 (by decide +kernel) (by decide +kernel)
theorem xq831 : Cond.instanceMethod yX3_stateAt ∈ xtbl := xq_of 831 (by decide +kernel) (by decide +kernel)
theorem xq832 : Cond.code yX3_stateAt cX3_stateAt 4 (some .int) ∈ xtbl := xq_of 832 (by decide +kernel) (by decide +kernel)
theorem xq833 : Cond.methodLink "WordMenderLaw" (84) yX11_pair ∈ xtbl := xq_of 833 (by decide +kernel) (by decide +kernel)
theorem xq834 : Cond.instanceMethod yX11_pair ∈ xtbl := xq_of 834 (by decide +kernel) (by decide +kernel)
theorem xq835 : Cond.selects "WordMender" yX11_pair yX11_pair ∈ xtbl := xq_of 835 (by decide +kernel) (by decide +kernel)
theorem xq836 : Cond.code yX11_pair cX11_pair 1 (some .int) ∈ xtbl := xq_of 836 (by decide +kernel) (by decide +kernel)
theorem xq837 : Cond.methodLinkNest "WordMender" (217) yX5_isFull "WordMender" ∈ xnst := xn_of 837 (by decide +kernel) (by decide +kernel)
theorem xq838 : Cond.methodLinkNest "WordMender" (221) yX5_append "WordMender" ∈ xnst := xn_of 838 (by decide +kernel) (by decide +kernel)
theorem xq839 : Cond.methodLink "WordMenderLaw" (88) yX11_learn ∈ xtbl := xq_of 839 (by decide +kernel) (by decide +kernel)
theorem xq840 : Cond.instanceMethod yX11_learn ∈ xtbl := xq_of 840 (by decide +kernel) (by decide +kernel)
theorem xq841 : Cond.selects "WordMender" yX11_learn yX11_learn ∈ xtbl := xq_of 841 (by decide +kernel) (by decide +kernel)
theorem xq842 : Cond.code yX11_learn cX11_learn 5 (some .int) ∈ xtbl := xq_of 842 (by decide +kernel) (by decide +kernel)
theorem xq843 : Cond.methodLink "WordMender" (224) yJ7_fill_53178 ∈ xtbl := xq_of 843 (by decide +kernel) (by decide +kernel)
theorem xq844 : Cond.static yJ7_fill_53178 ∈ xtbl := xq_of 844 (by decide +kernel) (by decide +kernel)
theorem xq845 : Cond.code yJ7_fill_53178 cJ7_fill_53178 4 none ∈ xtbl := xq_of 845 (by decide +kernel) (by decide +kernel)
theorem xq846 : Cond.methodLink "WordMender" (230) yX11_findWays ∈ xtbl := xq_of 846 (by decide +kernel) (by decide +kernel)
theorem xq848 : Cond.instanceMethod yX11_findWays ∈ xtbl := xq_of 848 (by decide +kernel) (by decide +kernel)
theorem xq849 : Cond.code yX11_findWays cX11_findWays 3 (some .boolean) ∈ xtbl := xq_of 849 (by decide +kernel) (by decide +kernel)
theorem xq850 : Cond.methodLink "WordMender" (237) yX11_readPair ∈ xtbl := xq_of 850 (by decide +kernel) (by decide +kernel)
theorem xq852 : Cond.instanceMethod yX11_readPair ∈ xtbl := xq_of 852 (by decide +kernel) (by decide +kernel)
theorem xq853 : Cond.code yX11_readPair cX11_readPair 2 none ∈ xtbl := xq_of 853 (by decide +kernel) (by decide +kernel)
theorem xq854 : Cond.methodLinkNest "WordMender" (247) yX5_copyTo "WordMender" ∈ xnst := xn_of 854 (by decide +kernel) (by decide +kernel)
theorem xq855 : Cond.methodLink "WordMender" (304) yX11_noteWay ∈ xtbl := xq_of 855 (by decide +kernel) (by decide +kernel)
theorem xq857 : Cond.instanceMethod yX11_noteWay ∈ xtbl := xq_of 857 (by decide +kernel) (by decide +kernel)
theorem xq858 : Cond.code yX11_noteWay cX11_noteWay 6 (some .boolean) ∈ xtbl := xq_of 858 (by decide +kernel) (by decide +kernel)
theorem xq859 : Cond.methodLinkNest "WordMender" (307) yX10_codeAt "WordMender" ∈ xnst := xn_of 859 (by decide +kernel) (by decide +kernel)
theorem xq860 : Cond.methodLinkNest "WordMender" (233) yX6_setByCounts "WordMender" ∈ xnst := xn_of 860 (by decide +kernel) (by decide +kernel)
theorem xq862 : Cond.instanceMethod yX6_setByCounts ∈ xtbl := xq_of 862 (by decide +kernel) (by decide +kernel)
theorem xq863 : Cond.code yX6_setByCounts cX6_setByCounts 4 (some .boolean) ∈ xtbl := xq_of 863 (by decide +kernel) (by decide +kernel)
theorem xq864 : Cond.methodLink "WordMenderLaw" (92) yX11_spread ∈ xtbl := xq_of 864 (by decide +kernel) (by decide +kernel)
theorem xq865 : Cond.instanceMethod yX11_spread ∈ xtbl := xq_of 865 (by decide +kernel) (by decide +kernel)
theorem xq866 : Cond.selects "WordMender" yX11_spread yX11_spread ∈ xtbl := xq_of 866 (by decide +kernel) (by decide +kernel)
theorem xq867 : Cond.code yX11_spread cX11_spread 3 (some .int) ∈ xtbl := xq_of 867 (by decide +kernel) (by decide +kernel)
theorem xq868 : Cond.methodLink "WordMenderLaw" (96) yX11_mend ∈ xtbl := xq_of 868 (by decide +kernel) (by decide +kernel)
theorem xq869 : Cond.instanceMethod yX11_mend ∈ xtbl := xq_of 869 (by decide +kernel) (by decide +kernel)
theorem xq870 : Cond.selects "WordMender" yX11_mend yX11_mend ∈ xtbl := xq_of 870 (by decide +kernel) (by decide +kernel)
theorem xq871 : Cond.code yX11_mend cX11_mend 5 (some .int) ∈ xtbl := xq_of 871 (by decide +kernel) (by decide +kernel)
theorem xq872 : Cond.methodLinkNest "WordMender" (240) yX7_takeText "WordMender" ∈ xnst := xn_of 872 (by decide +kernel) (by decide +kernel)
theorem xq874 : Cond.instanceMethod yX7_takeText ∈ xtbl := xq_of 874 (by decide +kernel) (by decide +kernel)
theorem xq875 : Cond.code yX7_takeText cX7_takeText 7 (some .boolean) ∈ xtbl := xq_of 875 (by decide +kernel) (by decide +kernel)
theorem xq876 : Cond.methodLinkNest "WordMender$Tape" (27) yX5_clear "WordMender" ∈ xnst := xn_of 876 (by decide +kernel) (by decide +kernel)
theorem xq878 : Cond.instanceMethod yX5_clear ∈ xtbl := xq_of 878 (by decide +kernel) (by decide +kernel)
theorem xq879 : Cond.code yX5_clear cX5_clear 1 none ∈ xtbl := xq_of 879 (by decide +kernel) (by decide +kernel)
theorem xq880 : Cond.methodLinkNest "WordMender$Tape" (32) yX5_append "WordMender" ∈ xnst := xn_of 880 (by decide +kernel) (by decide +kernel)
theorem xq881 : Cond.methodLinkNest "WordMender" (244) yX2_clear "WordMender" ∈ xnst := xn_of 881 (by decide +kernel) (by decide +kernel)
theorem xq883 : Cond.instanceMethod yX2_clear ∈ xtbl := xq_of 883 (by decide +kernel) (by decide +kernel)
theorem xq884 : Cond.code yX2_clear cX2_clear 2 none ∈ xtbl := xq_of 884 (by decide +kernel) (by decide +kernel)
theorem xq885 : Cond.methodLink "WordMender$Mending" (30) Lib.Math.min.name ∈ xtbl := xq_of 885 (by decide +kernel) (by decide +kernel)
theorem xq886 : Cond.methodLink "WordMender$Mending" (36) Lib.Math.max.name ∈ xtbl := xq_of 886 (by decide +kernel) (by decide +kernel)
theorem xq887 : Cond.methodLink "WordMender$Mending" (46) yJ7_fill_53178 ∈ xtbl := xq_of 887 (by decide +kernel) (by decide +kernel)
theorem xq888 : Cond.methodLinkNest "WordMender" (251) yX2_offer "WordMender" ∈ xnst := xn_of 888 (by decide +kernel) (by decide +kernel)
theorem xq890 : Cond.instanceMethod yX2_offer ∈ xtbl := xq_of 890 (by decide +kernel) (by decide +kernel)
theorem xq891 : Cond.code yX2_offer cX2_offer 7 none ∈ xtbl := xq_of 891 (by decide +kernel) (by decide +kernel)
theorem xq892 : Cond.methodLink "WordMender$Mending" (52) yX2_cellOf ∈ xtbl := xq_of 892 (by decide +kernel) (by decide +kernel)
theorem xq894 : Cond.instanceMethod yX2_cellOf ∈ xtbl := xq_of 894 (by decide +kernel) (by decide +kernel)
theorem xq895 : Cond.code yX2_cellOf cX2_cellOf 3 (some .int) ∈ xtbl := xq_of 895 (by decide +kernel) (by decide +kernel)
theorem xq896 : Cond.methodLink "WordMender" (255) yX11_offerSplit ∈ xtbl := xq_of 896 (by decide +kernel) (by decide +kernel)
theorem xq898 : Cond.instanceMethod yX11_offerSplit ∈ xtbl := xq_of 898 (by decide +kernel) (by decide +kernel)
theorem xq899 : Cond.code yX11_offerSplit cX11_offerSplit 3 none ∈ xtbl := xq_of 899 (by decide +kernel) (by decide +kernel)
theorem xq900 : Cond.methodLinkNest "WordMender" (258) yX2_offers "WordMender" ∈ xnst := xn_of 900 (by decide +kernel) (by decide +kernel)
theorem xq902 : Cond.instanceMethod yX2_offers ∈ xtbl := xq_of 902 (by decide +kernel) (by decide +kernel)
theorem xq903 : Cond.code yX2_offers cX2_offers 4 (some .boolean) ∈ xtbl := xq_of 903 (by decide +kernel) (by decide +kernel)
theorem xq904 : Cond.methodLinkNest "WordMender" (310) yX4_append "WordMender" ∈ xnst := xn_of 904 (by decide +kernel) (by decide +kernel)
theorem xq905 : Cond.methodLinkNest "WordMender" (312) yX6_kindPrice "WordMender" ∈ xnst := xn_of 905 (by decide +kernel) (by decide +kernel)
theorem xq907 : Cond.instanceMethod yX6_kindPrice ∈ xtbl := xq_of 907 (by decide +kernel) (by decide +kernel)
theorem xq908 : Cond.code yX6_kindPrice cX6_kindPrice 2 (some .int) ∈ xtbl := xq_of 908 (by decide +kernel) (by decide +kernel)
theorem xq909 : Cond.methodLink "WordMender" (262) yX11_offerJoin ∈ xtbl := xq_of 909 (by decide +kernel) (by decide +kernel)
theorem xq911 : Cond.instanceMethod yX11_offerJoin ∈ xtbl := xq_of 911 (by decide +kernel) (by decide +kernel)
theorem xq912 : Cond.code yX11_offerJoin cX11_offerJoin 5 none ∈ xtbl := xq_of 912 (by decide +kernel) (by decide +kernel)
theorem xq913 : Cond.methodLinkNest "WordMender" (315) yX4_clear "WordMender" ∈ xnst := xn_of 913 (by decide +kernel) (by decide +kernel)
theorem xq914 : Cond.methodLink "WordMender" (265) yX11_offerMended ∈ xtbl := xq_of 914 (by decide +kernel) (by decide +kernel)
theorem xq916 : Cond.instanceMethod yX11_offerMended ∈ xtbl := xq_of 916 (by decide +kernel) (by decide +kernel)
theorem xq917 : Cond.code yX11_offerMended cX11_offerMended 3 none ∈ xtbl := xq_of 917 (by decide +kernel) (by decide +kernel)
theorem xq918 : Cond.methodLinkNest "WordMender" (269) yX2_choose "WordMender" ∈ xnst := xn_of 918 (by decide +kernel) (by decide +kernel)
theorem xq920 : Cond.instanceMethod yX2_choose ∈ xtbl := xq_of 920 (by decide +kernel) (by decide +kernel)
theorem xq921 : Cond.code yX2_choose cX2_choose 3 (some .int) ∈ xtbl := xq_of 921 (by decide +kernel) (by decide +kernel)
theorem xq922 : Cond.methodLink "WordMender$Mending" (55) yX2_bestKind ∈ xtbl := xq_of 922 (by decide +kernel) (by decide +kernel)
theorem xq924 : Cond.instanceMethod yX2_bestKind ∈ xtbl := xq_of 924 (by decide +kernel) (by decide +kernel)
theorem xq925 : Cond.code yX2_bestKind cX2_bestKind 4 (some .int) ∈ xtbl := xq_of 925 (by decide +kernel) (by decide +kernel)
theorem xq926 : Cond.methodLink "WordMender$Mending" (65) yX2_offers ∈ xtbl := xq_of 926 (by decide +kernel) (by decide +kernel)
theorem xq927 : Cond.methodLink "WordMender$Mending" (59) yX2_sumBy ∈ xtbl := xq_of 927 (by decide +kernel) (by decide +kernel)
theorem xq929 : Cond.instanceMethod yX2_sumBy ∈ xtbl := xq_of 929 (by decide +kernel) (by decide +kernel)
theorem xq930 : Cond.code yX2_sumBy cX2_sumBy 5 (some .int) ∈ xtbl := xq_of 930 (by decide +kernel) (by decide +kernel)
theorem xq931 : Cond.methodLink "WordMender$Mending" (62) yX2_taken ∈ xtbl := xq_of 931 (by decide +kernel) (by decide +kernel)
theorem xq932 : Cond.static yX2_taken ∈ xtbl := xq_of 932 (by decide +kernel) (by decide +kernel)
theorem xq933 : Cond.code yX2_taken cX2_taken 1 (some .int) ∈ xtbl := xq_of 933 (by decide +kernel) (by decide +kernel)
theorem xq934 : Cond.methodLink "WordMenderLaw" (100) yX11_part ∈ xtbl := xq_of 934 (by decide +kernel) (by decide +kernel)
theorem xq935 : Cond.instanceMethod yX11_part ∈ xtbl := xq_of 935 (by decide +kernel) (by decide +kernel)
theorem xq936 : Cond.selects "WordMender" yX11_part yX11_part ∈ xtbl := xq_of 936 (by decide +kernel) (by decide +kernel)
theorem xq937 : Cond.code yX11_part cX11_part 3 (some .int) ∈ xtbl := xq_of 937 (by decide +kernel) (by decide +kernel)
theorem xq938 : Cond.methodLinkNest "WordMender" (272) yX2_tell "WordMender" ∈ xnst := xn_of 938 (by decide +kernel) (by decide +kernel)
theorem xq940 : Cond.instanceMethod yX2_tell ∈ xtbl := xq_of 940 (by decide +kernel) (by decide +kernel)
theorem xq941 : Cond.code yX2_tell cX2_tell 6 (some .int) ∈ xtbl := xq_of 941 (by decide +kernel) (by decide +kernel)
theorem xq942 : Cond.methodLink "WordMenderLaw" (104) yX11_put ∈ xtbl := xq_of 942 (by decide +kernel) (by decide +kernel)
theorem xq943 : Cond.instanceMethod yX11_put ∈ xtbl := xq_of 943 (by decide +kernel) (by decide +kernel)
theorem xq944 : Cond.selects "WordMender" yX11_put yX11_put ∈ xtbl := xq_of 944 (by decide +kernel) (by decide +kernel)
theorem xq945 : Cond.code yX11_put cX11_put 4 (some .int) ∈ xtbl := xq_of 945 (by decide +kernel) (by decide +kernel)
theorem xq946 : Cond.methodLink "WordMender" (273) yX11_isThing ∈ xtbl := xq_of 946 (by decide +kernel) (by decide +kernel)
theorem xq948 : Cond.instanceMethod yX11_isThing ∈ xtbl := xq_of 948 (by decide +kernel) (by decide +kernel)
theorem xq949 : Cond.code yX11_isThing cX11_isThing 3 (some .boolean) ∈ xtbl := xq_of 949 (by decide +kernel) (by decide +kernel)
theorem xq950 : Cond.methodLinkNest "WordMender" (276) yX8_refuse "WordMender" ∈ xnst := xn_of 950 (by decide +kernel) (by decide +kernel)
theorem xq952 : Cond.instanceMethod yX8_refuse ∈ xtbl := xq_of 952 (by decide +kernel) (by decide +kernel)
theorem xq953 : Cond.code yX8_refuse cX8_refuse 2 (some .int) ∈ xtbl := xq_of 953 (by decide +kernel) (by decide +kernel)
theorem xq954 : Cond.methodLinkNest "WordMender" (279) yX8_clear "WordMender" ∈ xnst := xn_of 954 (by decide +kernel) (by decide +kernel)
theorem xq956 : Cond.instanceMethod yX8_clear ∈ xtbl := xq_of 956 (by decide +kernel) (by decide +kernel)
theorem xq957 : Cond.code yX8_clear cX8_clear 3 none ∈ xtbl := xq_of 957 (by decide +kernel) (by decide +kernel)
theorem xq958 : Cond.methodLink "WordMender" (281) yX11_layLetters ∈ xtbl := xq_of 958 (by decide +kernel) (by decide +kernel)
theorem xq960 : Cond.instanceMethod yX11_layLetters ∈ xtbl := xq_of 960 (by decide +kernel) (by decide +kernel)
theorem xq961 : Cond.code yX11_layLetters cX11_layLetters 4 none ∈ xtbl := xq_of 961 (by decide +kernel) (by decide +kernel)
theorem xq962 : Cond.methodLinkNest "WordMender" (317) yX8_lay "WordMender" ∈ xnst := xn_of 962 (by decide +kernel) (by decide +kernel)
theorem xq964 : Cond.instanceMethod yX8_lay ∈ xtbl := xq_of 964 (by decide +kernel) (by decide +kernel)
theorem xq965 : Cond.code yX8_lay cX8_lay 3 none ∈ xtbl := xq_of 965 (by decide +kernel) (by decide +kernel)
theorem xq966 : Cond.methodLink "WordMender" (284) yX11_layState ∈ xtbl := xq_of 966 (by decide +kernel) (by decide +kernel)
theorem xq968 : Cond.instanceMethod yX11_layState ∈ xtbl := xq_of 968 (by decide +kernel) (by decide +kernel)
theorem xq969 : Cond.code yX11_layState cX11_layState 4 none ∈ xtbl := xq_of 969 (by decide +kernel) (by decide +kernel)
theorem xq970 : Cond.methodLinkNest "WordMender" (323) yX3_stateAt "WordMender" ∈ xnst := xn_of 970 (by decide +kernel) (by decide +kernel)
theorem xq971 : Cond.methodLink "WordMender" (287) yX11_layPrices ∈ xtbl := xq_of 971 (by decide +kernel) (by decide +kernel)
theorem xq973 : Cond.instanceMethod yX11_layPrices ∈ xtbl := xq_of 973 (by decide +kernel) (by decide +kernel)
theorem xq974 : Cond.code yX11_layPrices cX11_layPrices 3 none ∈ xtbl := xq_of 974 (by decide +kernel) (by decide +kernel)
theorem xq975 : Cond.methodLink "WordMender" (290) yX11_layTruths ∈ xtbl := xq_of 975 (by decide +kernel) (by decide +kernel)
theorem xq977 : Cond.instanceMethod yX11_layTruths ∈ xtbl := xq_of 977 (by decide +kernel) (by decide +kernel)
theorem xq978 : Cond.code yX11_layTruths cX11_layTruths 6 none ∈ xtbl := xq_of 978 (by decide +kernel) (by decide +kernel)
theorem xq979 : Cond.methodLinkNest "WordMender" (293) yX8_done "WordMender" ∈ xnst := xn_of 979 (by decide +kernel) (by decide +kernel)
theorem xq981 : Cond.instanceMethod yX8_done ∈ xtbl := xq_of 981 (by decide +kernel) (by decide +kernel)
theorem xq982 : Cond.code yX8_done cX8_done 2 (some .int) ∈ xtbl := xq_of 982 (by decide +kernel) (by decide +kernel)
theorem xq983 : Cond.methodLink "WordMenderLaw" (109) yX11_forge ∈ xtbl := xq_of 983 (by decide +kernel) (by decide +kernel)
theorem xq984 : Cond.instanceMethod yX11_forge ∈ xtbl := xq_of 984 (by decide +kernel) (by decide +kernel)
theorem xq985 : Cond.selects "WordMender" yX11_forge yX11_forge ∈ xtbl := xq_of 985 (by decide +kernel) (by decide +kernel)
theorem xq986 : Cond.code yX11_forge cX11_forge 4 (some .int) ∈ xtbl := xq_of 986 (by decide +kernel) (by decide +kernel)
theorem xq987 : Cond.methodLinkNest "WordMender" (296) yX8_work "WordMender" ∈ xnst := xn_of 987 (by decide +kernel) (by decide +kernel)
theorem xq989 : Cond.instanceMethod yX8_work ∈ xtbl := xq_of 989 (by decide +kernel) (by decide +kernel)
theorem xq990 : Cond.code yX8_work cX8_work 4 (some .int) ∈ xtbl := xq_of 990 (by decide +kernel) (by decide +kernel)
theorem xq991 : Cond.methodLink "WordMender$Trays" (25) yX8_refuse ∈ xtbl := xq_of 991 (by decide +kernel) (by decide +kernel)
theorem xq992 : Cond.methodLink "WordMender$Trays" (29) yX8_read ∈ xtbl := xq_of 992 (by decide +kernel) (by decide +kernel)
theorem xq994 : Cond.instanceMethod yX8_read ∈ xtbl := xq_of 994 (by decide +kernel) (by decide +kernel)
theorem xq995 : Cond.code yX8_read cX8_read 6 (some .int) ∈ xtbl := xq_of 995 (by decide +kernel) (by decide +kernel)
theorem xq996 : Cond.methodLink "WordMender$Trays" (43) yX8_whyNot ∈ xtbl := xq_of 996 (by decide +kernel) (by decide +kernel)
theorem xq998 : Cond.instanceMethod yX8_whyNot ∈ xtbl := xq_of 998 (by decide +kernel) (by decide +kernel)
theorem xq999 : Cond.code yX8_whyNot cX8_whyNot 3 (some .int) ∈ xtbl := xq_of 999 (by decide +kernel) (by decide +kernel)
theorem xq1000 : Cond.methodLink "WordMender$Trays" (46) Lib.Math.min.name ∈ xtbl := xq_of 1000 (by decide +kernel) (by decide +kernel)
theorem xq1001 : Cond.methodLink "WordMender$Trays" (33) yX8_done ∈ xtbl := xq_of 1001 (by decide +kernel) (by decide +kernel)
theorem xq1002 : Cond.methodLink "WordMender$Trays" (36) yX8_copy ∈ xtbl := xq_of 1002 (by decide +kernel) (by decide +kernel)
theorem xq1004 : Cond.instanceMethod yX8_copy ∈ xtbl := xq_of 1004 (by decide +kernel) (by decide +kernel)
theorem xq1005 : Cond.code yX8_copy cX8_copy 7 (some .int) ∈ xtbl := xq_of 1005 (by decide +kernel) (by decide +kernel)
theorem xq1006 : Cond.methodLink "WordMender$Trays" (40) yX8_layAmongStates ∈ xtbl := xq_of 1006 (by decide +kernel) (by decide +kernel)
theorem xq1008 : Cond.instanceMethod yX8_layAmongStates ∈ xtbl := xq_of 1008 (by decide +kernel) (by decide +kernel)
theorem xq1009 : Cond.code yX8_layAmongStates cX8_layAmongStates 3 (some .int) ∈ xtbl := xq_of 1009 (by decide +kernel) (by decide +kernel)
theorem xq1010 : Cond.methodLink "WordMenderLaw" (113) yX11_status ∈ xtbl := xq_of 1010 (by decide +kernel) (by decide +kernel)
theorem xq1011 : Cond.instanceMethod yX11_status ∈ xtbl := xq_of 1011 (by decide +kernel) (by decide +kernel)
theorem xq1012 : Cond.selects "WordMender" yX11_status yX11_status ∈ xtbl := xq_of 1012 (by decide +kernel) (by decide +kernel)
theorem xq1013 : Cond.code yX11_status cX11_status 1 (some .int) ∈ xtbl := xq_of 1013 (by decide +kernel) (by decide +kernel)
theorem xq1020 : Cond.fieldLink "WordMenderModel" (7) "WordMenderModel" "tape" "[I" ∈ xtbl := xq_of 1020 (by decide +kernel) (by decide +kernel)
theorem xq1021 : Cond.fieldLink "WordMenderModel" (219) "WordMenderModel" "tapeN" "I" ∈ xtbl := xq_of 1021 (by decide +kernel) (by decide +kernel)
theorem xq1022 : Cond.fieldLink "WordMenderModel" (222) "WordMenderModel" "rows" "I" ∈ xtbl := xq_of 1022 (by decide +kernel) (by decide +kernel)
theorem xq1023 : Cond.fieldLink "WordMenderModel" (13) "WordMenderModel" "rowLen" "[I" ∈ xtbl := xq_of 1023 (by decide +kernel) (by decide +kernel)
theorem xq1024 : Cond.fieldLink "WordMenderModel" (16) "WordMenderModel" "rowLet" "[I" ∈ xtbl := xq_of 1024 (by decide +kernel) (by decide +kernel)
theorem xq1025 : Cond.fieldLink "WordMenderModel" (234) "WordMenderModel" "words" "I" ∈ xtbl := xq_of 1025 (by decide +kernel) (by decide +kernel)
theorem xq1026 : Cond.fieldLink "WordMenderModel" (19) "WordMenderModel" "wLen" "[I" ∈ xtbl := xq_of 1026 (by decide +kernel) (by decide +kernel)
theorem xq1027 : Cond.fieldLink "WordMenderModel" (22) "WordMenderModel" "wLet" "[I" ∈ xtbl := xq_of 1027 (by decide +kernel) (by decide +kernel)
theorem xq1028 : Cond.fieldLink "WordMenderModel" (25) "WordMenderModel" "wCount" "[I" ∈ xtbl := xq_of 1028 (by decide +kernel) (by decide +kernel)
theorem xq1029 : Cond.fieldLink "WordMenderModel" (28) "WordMenderModel" "kindPrice" "[I" ∈ xtbl := xq_of 1029 (by decide +kernel) (by decide +kernel)
theorem xq1030 : Cond.fieldLink "WordMenderModel" (31) "WordMenderModel" "swap" "[I" ∈ xtbl := xq_of 1030 (by decide +kernel) (by decide +kernel)
theorem xq1031 : Cond.fieldLink "WordMenderModel" (34) "WordMenderModel" "leftOut" "[I" ∈ xtbl := xq_of 1031 (by decide +kernel) (by decide +kernel)
theorem xq1032 : Cond.fieldLink "WordMenderModel" (37) "WordMenderModel" "putIn" "[I" ∈ xtbl := xq_of 1032 (by decide +kernel) (by decide +kernel)
theorem xq1033 : Cond.fieldLink "WordMenderModel" (40) "WordMenderModel" "splits" "I" ∈ xtbl := xq_of 1033 (by decide +kernel) (by decide +kernel)
theorem xq1034 : Cond.fieldLink "WordMenderModel" (44) "WordMenderModel" "joins" "I" ∈ xtbl := xq_of 1034 (by decide +kernel) (by decide +kernel)
theorem xq1035 : Cond.fieldLink "WordMenderModel" (285) "WordMenderModel" "weight" "I" ∈ xtbl := xq_of 1035 (by decide +kernel) (by decide +kernel)
theorem xq1036 : Cond.fieldLink "WordMenderModel" (266) "WordMenderModel" "sounds" "I" ∈ xtbl := xq_of 1036 (by decide +kernel) (by decide +kernel)
theorem xq1037 : Cond.fieldLink "WordMenderModel" (47) "WordMenderModel" "sFirst" "[I" ∈ xtbl := xq_of 1037 (by decide +kernel) (by decide +kernel)
theorem xq1038 : Cond.fieldLink "WordMenderModel" (50) "WordMenderModel" "sFirstLet" "[I" ∈ xtbl := xq_of 1038 (by decide +kernel) (by decide +kernel)
theorem xq1039 : Cond.fieldLink "WordMenderModel" (53) "WordMenderModel" "sSecond" "[I" ∈ xtbl := xq_of 1039 (by decide +kernel) (by decide +kernel)
theorem xq1040 : Cond.fieldLink "WordMenderModel" (56) "WordMenderModel" "sSecondLet" "[I" ∈ xtbl := xq_of 1040 (by decide +kernel) (by decide +kernel)
theorem xq1041 : Cond.fieldLink "WordMenderModel" (59) "WordMenderModel" "sPrice" "[I" ∈ xtbl := xq_of 1041 (by decide +kernel) (by decide +kernel)
theorem xq1042 : Cond.fieldLink "WordMenderModel" (228) "WordMenderModel" "aLen" "I" ∈ xtbl := xq_of 1042 (by decide +kernel) (by decide +kernel)
theorem xq1043 : Cond.fieldLink "WordMenderModel" (231) "WordMenderModel" "bLen" "I" ∈ xtbl := xq_of 1043 (by decide +kernel) (by decide +kernel)
theorem xq1044 : Cond.fieldLink "WordMenderModel" (62) "WordMenderModel" "a" "[I" ∈ xtbl := xq_of 1044 (by decide +kernel) (by decide +kernel)
theorem xq1045 : Cond.fieldLink "WordMenderModel" (65) "WordMenderModel" "b" "[I" ∈ xtbl := xq_of 1045 (by decide +kernel) (by decide +kernel)
theorem xq1046 : Cond.fieldLink "WordMenderModel" (68) "WordMenderModel" "best" "[I" ∈ xtbl := xq_of 1046 (by decide +kernel) (by decide +kernel)
theorem xq1047 : Cond.fieldLink "WordMenderModel" (319) "WordMenderModel" "slips" "I" ∈ xtbl := xq_of 1047 (by decide +kernel) (by decide +kernel)
theorem xq1048 : Cond.fieldLink "WordMenderModel" (71) "WordMenderModel" "slipKind" "[I" ∈ xtbl := xq_of 1048 (by decide +kernel) (by decide +kernel)
theorem xq1049 : Cond.fieldLink "WordMenderModel" (74) "WordMenderModel" "slipPrice" "[I" ∈ xtbl := xq_of 1049 (by decide +kernel) (by decide +kernel)
theorem xq1050 : Cond.fieldLink "WordMenderModel" (77) "WordMenderModel" "slipI" "[I" ∈ xtbl := xq_of 1050 (by decide +kernel) (by decide +kernel)
theorem xq1051 : Cond.fieldLink "WordMenderModel" (80) "WordMenderModel" "slipJ" "[I" ∈ xtbl := xq_of 1051 (by decide +kernel) (by decide +kernel)
theorem xq1052 : Cond.fieldLink "WordMenderModel" (83) "WordMenderModel" "slipSound" "[I" ∈ xtbl := xq_of 1052 (by decide +kernel) (by decide +kernel)
theorem xq1053 : Cond.fieldLink "WordMenderModel" (86) "WordMenderModel" "wayN" "I" ∈ xtbl := xq_of 1053 (by decide +kernel) (by decide +kernel)
theorem xq1054 : Cond.fieldLink "WordMenderModel" (89) "WordMenderModel" "wayKind" "[I" ∈ xtbl := xq_of 1054 (by decide +kernel) (by decide +kernel)
theorem xq1055 : Cond.fieldLink "WordMenderModel" (92) "WordMenderModel" "wayPrice" "[I" ∈ xtbl := xq_of 1055 (by decide +kernel) (by decide +kernel)
theorem xq1056 : Cond.fieldLink "WordMenderModel" (95) "WordMenderModel" "wayI" "[I" ∈ xtbl := xq_of 1056 (by decide +kernel) (by decide +kernel)
theorem xq1057 : Cond.fieldLink "WordMenderModel" (98) "WordMenderModel" "wayJ" "[I" ∈ xtbl := xq_of 1057 (by decide +kernel) (by decide +kernel)
theorem xq1058 : Cond.fieldLink "WordMenderModel" (101) "WordMenderModel" "waySound" "[I" ∈ xtbl := xq_of 1058 (by decide +kernel) (by decide +kernel)
theorem xq1059 : Cond.fieldLink "WordMenderModel" (272) "WordMenderModel" "met" "I" ∈ xtbl := xq_of 1059 (by decide +kernel) (by decide +kernel)
theorem xq1060 : Cond.fieldLink "WordMenderModel" (275) "WordMenderModel" "leftMany" "I" ∈ xtbl := xq_of 1060 (by decide +kernel) (by decide +kernel)
theorem xq1061 : Cond.fieldLink "WordMenderModel" (104) "WordMenderModel" "nDepth" "[I" ∈ xtbl := xq_of 1061 (by decide +kernel) (by decide +kernel)
theorem xq1062 : Cond.fieldLink "WordMenderModel" (107) "WordMenderModel" "nLetter" "[I" ∈ xtbl := xq_of 1062 (by decide +kernel) (by decide +kernel)
theorem xq1063 : Cond.fieldLink "WordMenderModel" (110) "WordMenderModel" "nLeast" "[I" ∈ xtbl := xq_of 1063 (by decide +kernel) (by decide +kernel)
theorem xq1064 : Cond.fieldLink "WordMenderModel" (113) "WordMenderModel" "nLeft" "[I" ∈ xtbl := xq_of 1064 (by decide +kernel) (by decide +kernel)
theorem xq1065 : Cond.fieldLink "WordMenderModel" (116) "WordMenderModel" "nWord" "[I" ∈ xtbl := xq_of 1065 (by decide +kernel) (by decide +kernel)
theorem xq1066 : Cond.fieldLink "WordMenderModel" (119) "WordMenderModel" "nState" "[I" ∈ xtbl := xq_of 1066 (by decide +kernel) (by decide +kernel)
theorem xq1067 : Cond.fieldLink "WordMenderModel" (341) "WordMenderModel" "walkLen" "I" ∈ xtbl := xq_of 1067 (by decide +kernel) (by decide +kernel)
theorem xq1068 : Cond.fieldLink "WordMenderModel" (122) "WordMenderModel" "rowState" "[I" ∈ xtbl := xq_of 1068 (by decide +kernel) (by decide +kernel)
theorem xq1070 : Cond.fieldLink "WordMenderModel" (128) "WordMenderModel" "frameFrom" "[I" ∈ xtbl := xq_of 1070 (by decide +kernel) (by decide +kernel)
theorem xq1071 : Cond.fieldLink "WordMenderModel" (131) "WordMenderModel" "frameTo" "[I" ∈ xtbl := xq_of 1071 (by decide +kernel) (by decide +kernel)
theorem xq1072 : Cond.fieldLink "WordMenderModel" (134) "WordMenderModel" "frameAt" "[I" ∈ xtbl := xq_of 1072 (by decide +kernel) (by decide +kernel)
theorem xq1073 : Cond.fieldLink "WordMenderModel" (278) "WordMenderModel" "found" "I" ∈ xtbl := xq_of 1073 (by decide +kernel) (by decide +kernel)
theorem xq1074 : Cond.fieldLink "WordMenderModel" (137) "WordMenderModel" "fWord" "[I" ∈ xtbl := xq_of 1074 (by decide +kernel) (by decide +kernel)
theorem xq1075 : Cond.fieldLink "WordMenderModel" (140) "WordMenderModel" "fDistance" "[I" ∈ xtbl := xq_of 1075 (by decide +kernel) (by decide +kernel)
theorem xq1076 : Cond.fieldLink "WordMenderModel" (143) "WordMenderModel" "fShare" "[I" ∈ xtbl := xq_of 1076 (by decide +kernel) (by decide +kernel)
theorem xq1077 : Cond.fieldLink "WordMenderModel" (351) "WordMenderModel" "trying" "I" ∈ xtbl := xq_of 1077 (by decide +kernel) (by decide +kernel)
theorem xq1078 : Cond.fieldLink "WordMenderModel" (146) "WordMenderModel" "tWord" "[I" ∈ xtbl := xq_of 1078 (by decide +kernel) (by decide +kernel)
theorem xq1079 : Cond.fieldLink "WordMenderModel" (149) "WordMenderModel" "tDistance" "[I" ∈ xtbl := xq_of 1079 (by decide +kernel) (by decide +kernel)
theorem xq1080 : Cond.fieldLink "WordMenderModel" (152) "WordMenderModel" "tShare" "[I" ∈ xtbl := xq_of 1080 (by decide +kernel) (by decide +kernel)
theorem xq1081 : Cond.fieldLink "WordMenderModel" (269) "WordMenderModel" "pairs" "I" ∈ xtbl := xq_of 1081 (by decide +kernel) (by decide +kernel)
theorem xq1082 : Cond.fieldLink "WordMenderModel" (155) "WordMenderModel" "pA" "[I" ∈ xtbl := xq_of 1082 (by decide +kernel) (by decide +kernel)
theorem xq1083 : Cond.fieldLink "WordMenderModel" (158) "WordMenderModel" "pALet" "[I" ∈ xtbl := xq_of 1083 (by decide +kernel) (by decide +kernel)
theorem xq1084 : Cond.fieldLink "WordMenderModel" (161) "WordMenderModel" "pB" "[I" ∈ xtbl := xq_of 1084 (by decide +kernel) (by decide +kernel)
theorem xq1085 : Cond.fieldLink "WordMenderModel" (164) "WordMenderModel" "pBLet" "[I" ∈ xtbl := xq_of 1085 (by decide +kernel) (by decide +kernel)
theorem xq1086 : Cond.fieldLink "WordMenderModel" (167) "WordMenderModel" "oldLen" "[I" ∈ xtbl := xq_of 1086 (by decide +kernel) (by decide +kernel)
theorem xq1087 : Cond.fieldLink "WordMenderModel" (170) "WordMenderModel" "oldKind" "[I" ∈ xtbl := xq_of 1087 (by decide +kernel) (by decide +kernel)
theorem xq1088 : Cond.fieldLink "WordMenderModel" (173) "WordMenderModel" "c" "[I" ∈ xtbl := xq_of 1088 (by decide +kernel) (by decide +kernel)
theorem xq1089 : Cond.fieldLink "WordMenderModel" (176) "WordMenderModel" "parts" "I" ∈ xtbl := xq_of 1089 (by decide +kernel) (by decide +kernel)
theorem xq1090 : Cond.fieldLink "WordMenderModel" (396) "WordMenderModel" "mendSum" "I" ∈ xtbl := xq_of 1090 (by decide +kernel) (by decide +kernel)
theorem xq1091 : Cond.fieldLink "WordMenderModel" (179) "WordMenderModel" "partKind" "[I" ∈ xtbl := xq_of 1091 (by decide +kernel) (by decide +kernel)
theorem xq1092 : Cond.fieldLink "WordMenderModel" (182) "WordMenderModel" "partPrice" "[I" ∈ xtbl := xq_of 1092 (by decide +kernel) (by decide +kernel)
theorem xq1093 : Cond.fieldLink "WordMenderModel" (185) "WordMenderModel" "partFirst" "[I" ∈ xtbl := xq_of 1093 (by decide +kernel) (by decide +kernel)
theorem xq1094 : Cond.fieldLink "WordMenderModel" (188) "WordMenderModel" "partSecond" "[I" ∈ xtbl := xq_of 1094 (by decide +kernel) (by decide +kernel)
theorem xq1095 : Cond.fieldLink "WordMenderModel" (191) "WordMenderModel" "partRows" "[I" ∈ xtbl := xq_of 1095 (by decide +kernel) (by decide +kernel)
theorem xq1096 : Cond.fieldLink "WordMenderModel" (194) "WordMenderModel" "mBest" "[I" ∈ xtbl := xq_of 1096 (by decide +kernel) (by decide +kernel)
theorem xq1097 : Cond.fieldLink "WordMenderModel" (197) "WordMenderModel" "near" "[I" ∈ xtbl := xq_of 1097 (by decide +kernel) (by decide +kernel)
theorem xq1098 : Cond.fieldLink "WordMenderModel" (200) "WordMenderModel" "nearPrice" "[I" ∈ xtbl := xq_of 1098 (by decide +kernel) (by decide +kernel)
theorem xq1099 : Cond.fieldLink "WordMenderModel" (203) "WordMenderModel" "tray" "[I" ∈ xtbl := xq_of 1099 (by decide +kernel) (by decide +kernel)
theorem xq1100 : Cond.fieldLink "WordMenderModel" (206) "WordMenderModel" "trayLen" "[I" ∈ xtbl := xq_of 1100 (by decide +kernel) (by decide +kernel)
theorem xq1101 : Cond.fieldLink "WordMenderModel" (209) "WordMenderModel" "trayCell" "[I" ∈ xtbl := xq_of 1101 (by decide +kernel) (by decide +kernel)
theorem xq1102 : Cond.fieldLink "WordMenderModel" (399) "WordMenderModel" "status" "I" ∈ xtbl := xq_of 1102 (by decide +kernel) (by decide +kernel)
theorem xq1103 : Cond.fieldLink "WordMenderModel" (296) "WordMenderModel" "goI" "I" ∈ xtbl := xq_of 1103 (by decide +kernel) (by decide +kernel)
theorem xq1104 : Cond.fieldLink "WordMenderModel" (299) "WordMenderModel" "goJ" "I" ∈ xtbl := xq_of 1104 (by decide +kernel) (by decide +kernel)
theorem xq1105 : Cond.fieldLink "WordMenderModel" (212) "WordMenderModel" "both" "[I" ∈ xtbl := xq_of 1105 (by decide +kernel) (by decide +kernel)
theorem xq1279 : Cond.methodLink "WordMenderLaw" (19) yX12_feed ∈ xtbl := xq_of 1279 (by decide +kernel) (by decide +kernel)
theorem xq1280 : Cond.instanceMethod yX12_feed ∈ xtbl := xq_of 1280 (by decide +kernel) (by decide +kernel)
theorem xq1281 : Cond.selects "WordMenderModel" yX12_feed yX12_feed ∈ xtbl := xq_of 1281 (by decide +kernel) (by decide +kernel)
theorem xq1282 : Cond.code yX12_feed cX12_feed 5 (some .int) ∈ xtbl := xq_of 1282 (by decide +kernel) (by decide +kernel)
theorem xq1283 : Cond.methodLink "WordMenderModel" (215) yX12_in ∈ xtbl := xq_of 1283 (by decide +kernel) (by decide +kernel)
theorem xq1284 : Cond.static yX12_in ∈ xtbl := xq_of 1284 (by decide +kernel) (by decide +kernel)
theorem xq1285 : Cond.code yX12_in cX12_in 3 (some .boolean) ∈ xtbl := xq_of 1285 (by decide +kernel) (by decide +kernel)
theorem xq1286 : Cond.methodLink "WordMenderLaw" (24) yX12_add ∈ xtbl := xq_of 1286 (by decide +kernel) (by decide +kernel)
theorem xq1287 : Cond.instanceMethod yX12_add ∈ xtbl := xq_of 1287 (by decide +kernel) (by decide +kernel)
theorem xq1288 : Cond.selects "WordMenderModel" yX12_add yX12_add ∈ xtbl := xq_of 1288 (by decide +kernel) (by decide +kernel)
theorem xq1289 : Cond.code yX12_add cX12_add 6 (some .int) ∈ xtbl := xq_of 1289 (by decide +kernel) (by decide +kernel)
theorem xq1290 : Cond.methodLink "WordMenderModel" (241) yX12_readsOne ∈ xtbl := xq_of 1290 (by decide +kernel) (by decide +kernel)
theorem xq1292 : Cond.instanceMethod yX12_readsOne ∈ xtbl := xq_of 1292 (by decide +kernel) (by decide +kernel)
theorem xq1293 : Cond.code yX12_readsOne cX12_readsOne 1 (some .boolean) ∈ xtbl := xq_of 1293 (by decide +kernel) (by decide +kernel)
theorem xq1294 : Cond.methodLink "WordMenderModel" (225) yX12_reads ∈ xtbl := xq_of 1294 (by decide +kernel) (by decide +kernel)
theorem xq1296 : Cond.instanceMethod yX12_reads ∈ xtbl := xq_of 1296 (by decide +kernel) (by decide +kernel)
theorem xq1297 : Cond.code yX12_reads cX12_reads 7 (some .boolean) ∈ xtbl := xq_of 1297 (by decide +kernel) (by decide +kernel)
theorem xq1298 : Cond.constant "WordMenderModel" 245 (Int32.ofInt (100000)) ∈ xtbl := xq_of 1298 (by decide +kernel) (by decide +kernel)
theorem xq1299 : Cond.methodLink "WordMenderModel" (246) yX12_wordOf ∈ xtbl := xq_of 1299 (by decide +kernel) (by decide +kernel)
theorem xq1301 : Cond.instanceMethod yX12_wordOf ∈ xtbl := xq_of 1301 (by decide +kernel) (by decide +kernel)
theorem xq1302 : Cond.code yX12_wordOf cX12_wordOf 5 (some .int) ∈ xtbl := xq_of 1302 (by decide +kernel) (by decide +kernel)
theorem xq1303 : Cond.methodLink "WordMenderModel" (237) yX12_compares ∈ xtbl := xq_of 1303 (by decide +kernel) (by decide +kernel)
theorem xq1305 : Cond.instanceMethod yX12_compares ∈ xtbl := xq_of 1305 (by decide +kernel) (by decide +kernel)
theorem xq1306 : Cond.code yX12_compares cX12_compares 7 (some .int) ∈ xtbl := xq_of 1306 (by decide +kernel) (by decide +kernel)
theorem xq1307 : Cond.methodLink "WordMenderModel" (250) yX12_min ∈ xtbl := xq_of 1307 (by decide +kernel) (by decide +kernel)
theorem xq1308 : Cond.static yX12_min ∈ xtbl := xq_of 1308 (by decide +kernel) (by decide +kernel)
theorem xq1309 : Cond.code yX12_min cX12_min 2 (some .int) ∈ xtbl := xq_of 1309 (by decide +kernel) (by decide +kernel)
theorem xq1310 : Cond.methodLink "WordMenderModel" (254) yX12_moveWord ∈ xtbl := xq_of 1310 (by decide +kernel) (by decide +kernel)
theorem xq1312 : Cond.instanceMethod yX12_moveWord ∈ xtbl := xq_of 1312 (by decide +kernel) (by decide +kernel)
theorem xq1313 : Cond.code yX12_moveWord cX12_moveWord 4 none ∈ xtbl := xq_of 1313 (by decide +kernel) (by decide +kernel)
theorem xq1314 : Cond.methodLink "WordMenderLaw" (29) yX12_drop ∈ xtbl := xq_of 1314 (by decide +kernel) (by decide +kernel)
theorem xq1315 : Cond.instanceMethod yX12_drop ∈ xtbl := xq_of 1315 (by decide +kernel) (by decide +kernel)
theorem xq1316 : Cond.selects "WordMenderModel" yX12_drop yX12_drop ∈ xtbl := xq_of 1316 (by decide +kernel) (by decide +kernel)
theorem xq1317 : Cond.code yX12_drop cX12_drop 4 (some .int) ∈ xtbl := xq_of 1317 (by decide +kernel) (by decide +kernel)
theorem xq1318 : Cond.methodLink "WordMenderLaw" (33) yX12_find ∈ xtbl := xq_of 1318 (by decide +kernel) (by decide +kernel)
theorem xq1319 : Cond.instanceMethod yX12_find ∈ xtbl := xq_of 1319 (by decide +kernel) (by decide +kernel)
theorem xq1320 : Cond.selects "WordMenderModel" yX12_find yX12_find ∈ xtbl := xq_of 1320 (by decide +kernel) (by decide +kernel)
theorem xq1321 : Cond.code yX12_find cX12_find 1 (some .int) ∈ xtbl := xq_of 1321 (by decide +kernel) (by decide +kernel)
theorem xq1322 : Cond.methodLink "WordMenderLaw" (38) yX12_word ∈ xtbl := xq_of 1322 (by decide +kernel) (by decide +kernel)
theorem xq1323 : Cond.instanceMethod yX12_word ∈ xtbl := xq_of 1323 (by decide +kernel) (by decide +kernel)
theorem xq1324 : Cond.selects "WordMenderModel" yX12_word yX12_word ∈ xtbl := xq_of 1324 (by decide +kernel) (by decide +kernel)
theorem xq1325 : Cond.code yX12_word cX12_word 3 (some .int) ∈ xtbl := xq_of 1325 (by decide +kernel) (by decide +kernel)
theorem xq1326 : Cond.methodLink "WordMenderLaw" (42) yX12_count ∈ xtbl := xq_of 1326 (by decide +kernel) (by decide +kernel)
theorem xq1327 : Cond.instanceMethod yX12_count ∈ xtbl := xq_of 1327 (by decide +kernel) (by decide +kernel)
theorem xq1328 : Cond.selects "WordMenderModel" yX12_count yX12_count ∈ xtbl := xq_of 1328 (by decide +kernel) (by decide +kernel)
theorem xq1329 : Cond.code yX12_count cX12_count 2 (some .int) ∈ xtbl := xq_of 1329 (by decide +kernel) (by decide +kernel)
theorem xq1330 : Cond.methodLink "WordMenderModel" (262) yX12_nodes ∈ xtbl := xq_of 1330 (by decide +kernel) (by decide +kernel)
theorem xq1332 : Cond.instanceMethod yX12_nodes ∈ xtbl := xq_of 1332 (by decide +kernel) (by decide +kernel)
theorem xq1333 : Cond.code yX12_nodes cX12_nodes 3 (some .int) ∈ xtbl := xq_of 1333 (by decide +kernel) (by decide +kernel)
theorem xq1334 : Cond.methodLink "WordMenderModel" (258) yX12_alike ∈ xtbl := xq_of 1334 (by decide +kernel) (by decide +kernel)
theorem xq1336 : Cond.instanceMethod yX12_alike ∈ xtbl := xq_of 1336 (by decide +kernel) (by decide +kernel)
theorem xq1337 : Cond.code yX12_alike cX12_alike 3 (some .int) ∈ xtbl := xq_of 1337 (by decide +kernel) (by decide +kernel)
theorem xq1338 : Cond.methodLink "WordMenderLaw" (47) yX12_price ∈ xtbl := xq_of 1338 (by decide +kernel) (by decide +kernel)
theorem xq1339 : Cond.instanceMethod yX12_price ∈ xtbl := xq_of 1339 (by decide +kernel) (by decide +kernel)
theorem xq1340 : Cond.selects "WordMenderModel" yX12_price yX12_price ∈ xtbl := xq_of 1340 (by decide +kernel) (by decide +kernel)
theorem xq1341 : Cond.code yX12_price cX12_price 6 (some .int) ∈ xtbl := xq_of 1341 (by decide +kernel) (by decide +kernel)
theorem xq1342 : Cond.methodLink "WordMenderLaw" (51) yX12_sound ∈ xtbl := xq_of 1342 (by decide +kernel) (by decide +kernel)
theorem xq1343 : Cond.instanceMethod yX12_sound ∈ xtbl := xq_of 1343 (by decide +kernel) (by decide +kernel)
theorem xq1344 : Cond.selects "WordMenderModel" yX12_sound yX12_sound ∈ xtbl := xq_of 1344 (by decide +kernel) (by decide +kernel)
theorem xq1345 : Cond.code yX12_sound cX12_sound 4 (some .int) ∈ xtbl := xq_of 1345 (by decide +kernel) (by decide +kernel)
theorem xq1346 : Cond.methodLink "WordMenderModel" (281) yX12_readsTwo ∈ xtbl := xq_of 1346 (by decide +kernel) (by decide +kernel)
theorem xq1348 : Cond.instanceMethod yX12_readsTwo ∈ xtbl := xq_of 1348 (by decide +kernel) (by decide +kernel)
theorem xq1349 : Cond.code yX12_readsTwo cX12_readsTwo 2 (some .boolean) ∈ xtbl := xq_of 1349 (by decide +kernel) (by decide +kernel)
theorem xq1350 : Cond.methodLink "WordMenderLaw" (55) yX12_model ∈ xtbl := xq_of 1350 (by decide +kernel) (by decide +kernel)
theorem xq1351 : Cond.instanceMethod yX12_model ∈ xtbl := xq_of 1351 (by decide +kernel) (by decide +kernel)
theorem xq1352 : Cond.selects "WordMenderModel" yX12_model yX12_model ∈ xtbl := xq_of 1352 (by decide +kernel) (by decide +kernel)
theorem xq1353 : Cond.code yX12_model cX12_model 3 (some .int) ∈ xtbl := xq_of 1353 (by decide +kernel) (by decide +kernel)
theorem xq1354 : Cond.methodLink "WordMenderLaw" (59) yX12_distance ∈ xtbl := xq_of 1354 (by decide +kernel) (by decide +kernel)
theorem xq1355 : Cond.instanceMethod yX12_distance ∈ xtbl := xq_of 1355 (by decide +kernel) (by decide +kernel)
theorem xq1356 : Cond.selects "WordMenderModel" yX12_distance yX12_distance ∈ xtbl := xq_of 1356 (by decide +kernel) (by decide +kernel)
theorem xq1357 : Cond.code yX12_distance cX12_distance 2 (some .int) ∈ xtbl := xq_of 1357 (by decide +kernel) (by decide +kernel)
theorem xq1358 : Cond.methodLink "WordMenderModel" (322) yX12_takeA ∈ xtbl := xq_of 1358 (by decide +kernel) (by decide +kernel)
theorem xq1360 : Cond.instanceMethod yX12_takeA ∈ xtbl := xq_of 1360 (by decide +kernel) (by decide +kernel)
theorem xq1361 : Cond.code yX12_takeA cX12_takeA 3 none ∈ xtbl := xq_of 1361 (by decide +kernel) (by decide +kernel)
theorem xq1362 : Cond.methodLink "WordMenderModel" (326) yX12_takeB ∈ xtbl := xq_of 1362 (by decide +kernel) (by decide +kernel)
theorem xq1364 : Cond.instanceMethod yX12_takeB ∈ xtbl := xq_of 1364 (by decide +kernel) (by decide +kernel)
theorem xq1365 : Cond.code yX12_takeB cX12_takeB 3 none ∈ xtbl := xq_of 1365 (by decide +kernel) (by decide +kernel)
theorem xq1366 : Cond.methodLink "WordMenderModel" (329) yX12_sums ∈ xtbl := xq_of 1366 (by decide +kernel) (by decide +kernel)
theorem xq1368 : Cond.instanceMethod yX12_sums ∈ xtbl := xq_of 1368 (by decide +kernel) (by decide +kernel)
theorem xq1369 : Cond.code yX12_sums cX12_sums 6 none ∈ xtbl := xq_of 1369 (by decide +kernel) (by decide +kernel)
theorem xq1370 : Cond.constant "WordMenderModel" 302 (Int32.ofInt (1000000)) ∈ xtbl := xq_of 1370 (by decide +kernel) (by decide +kernel)
theorem xq1371 : Cond.methodLink "WordMenderModel" (315) yX12_slip ∈ xtbl := xq_of 1371 (by decide +kernel) (by decide +kernel)
theorem xq1373 : Cond.instanceMethod yX12_slip ∈ xtbl := xq_of 1373 (by decide +kernel) (by decide +kernel)
theorem xq1374 : Cond.code yX12_slip cX12_slip 7 (some .int) ∈ xtbl := xq_of 1374 (by decide +kernel) (by decide +kernel)
theorem xq1375 : Cond.methodLink "WordMenderModel" (303) yX12_swapPrice ∈ xtbl := xq_of 1375 (by decide +kernel) (by decide +kernel)
theorem xq1377 : Cond.instanceMethod yX12_swapPrice ∈ xtbl := xq_of 1377 (by decide +kernel) (by decide +kernel)
theorem xq1378 : Cond.code yX12_swapPrice cX12_swapPrice 3 (some .int) ∈ xtbl := xq_of 1378 (by decide +kernel) (by decide +kernel)
theorem xq1379 : Cond.methodLink "WordMenderModel" (306) yX12_leftPrice ∈ xtbl := xq_of 1379 (by decide +kernel) (by decide +kernel)
theorem xq1381 : Cond.instanceMethod yX12_leftPrice ∈ xtbl := xq_of 1381 (by decide +kernel) (by decide +kernel)
theorem xq1382 : Cond.code yX12_leftPrice cX12_leftPrice 2 (some .int) ∈ xtbl := xq_of 1382 (by decide +kernel) (by decide +kernel)
theorem xq1383 : Cond.methodLink "WordMenderModel" (309) yX12_putPrice ∈ xtbl := xq_of 1383 (by decide +kernel) (by decide +kernel)
theorem xq1385 : Cond.instanceMethod yX12_putPrice ∈ xtbl := xq_of 1385 (by decide +kernel) (by decide +kernel)
theorem xq1386 : Cond.code yX12_putPrice cX12_putPrice 2 (some .int) ∈ xtbl := xq_of 1386 (by decide +kernel) (by decide +kernel)
theorem xq1387 : Cond.methodLink "WordMenderModel" (312) yX12_hasSound ∈ xtbl := xq_of 1387 (by decide +kernel) (by decide +kernel)
theorem xq1389 : Cond.instanceMethod yX12_hasSound ∈ xtbl := xq_of 1389 (by decide +kernel) (by decide +kernel)
theorem xq1390 : Cond.code yX12_hasSound cX12_hasSound 5 (some .boolean) ∈ xtbl := xq_of 1390 (by decide +kernel) (by decide +kernel)
theorem xq1391 : Cond.methodLink "WordMenderModel" (332) yX12_ways ∈ xtbl := xq_of 1391 (by decide +kernel) (by decide +kernel)
theorem xq1393 : Cond.instanceMethod yX12_ways ∈ xtbl := xq_of 1393 (by decide +kernel) (by decide +kernel)
theorem xq1394 : Cond.code yX12_ways cX12_ways 5 none ∈ xtbl := xq_of 1394 (by decide +kernel) (by decide +kernel)
theorem xq1395 : Cond.methodLink "WordMenderLaw" (63) yX12_way ∈ xtbl := xq_of 1395 (by decide +kernel) (by decide +kernel)
theorem xq1396 : Cond.instanceMethod yX12_way ∈ xtbl := xq_of 1396 (by decide +kernel) (by decide +kernel)
theorem xq1397 : Cond.selects "WordMenderModel" yX12_way yX12_way ∈ xtbl := xq_of 1397 (by decide +kernel) (by decide +kernel)
theorem xq1398 : Cond.code yX12_way cX12_way 3 (some .int) ∈ xtbl := xq_of 1398 (by decide +kernel) (by decide +kernel)
theorem xq1399 : Cond.methodLink "WordMenderLaw" (67) yX12_near ∈ xtbl := xq_of 1399 (by decide +kernel) (by decide +kernel)
theorem xq1400 : Cond.instanceMethod yX12_near ∈ xtbl := xq_of 1400 (by decide +kernel) (by decide +kernel)
theorem xq1401 : Cond.selects "WordMenderModel" yX12_near yX12_near ∈ xtbl := xq_of 1401 (by decide +kernel) (by decide +kernel)
theorem xq1402 : Cond.code yX12_near cX12_near 3 (some .int) ∈ xtbl := xq_of 1402 (by decide +kernel) (by decide +kernel)
theorem xq1403 : Cond.constant "WordMenderModel" 367 (Int32.ofInt (99999)) ∈ xtbl := xq_of 1403 (by decide +kernel) (by decide +kernel)
theorem xq1404 : Cond.methodLink "WordMenderModel" (368) yX12_walk ∈ xtbl := xq_of 1404 (by decide +kernel) (by decide +kernel)
theorem xq1406 : Cond.instanceMethod yX12_walk ∈ xtbl := xq_of 1406 (by decide +kernel) (by decide +kernel)
theorem xq1407 : Cond.code yX12_walk cX12_walk 7 none ∈ xtbl := xq_of 1407 (by decide +kernel) (by decide +kernel)
theorem xq1408 : Cond.methodLink "WordMenderModel" (344) yX12_meets ∈ xtbl := xq_of 1408 (by decide +kernel) (by decide +kernel)
theorem xq1410 : Cond.instanceMethod yX12_meets ∈ xtbl := xq_of 1410 (by decide +kernel) (by decide +kernel)
theorem xq1411 : Cond.code yX12_meets cX12_meets 6 (some .boolean) ∈ xtbl := xq_of 1411 (by decide +kernel) (by decide +kernel)
theorem xq1412 : Cond.methodLink "WordMenderModel" (335) yX12_stateRow ∈ xtbl := xq_of 1412 (by decide +kernel) (by decide +kernel)
theorem xq1414 : Cond.instanceMethod yX12_stateRow ∈ xtbl := xq_of 1414 (by decide +kernel) (by decide +kernel)
theorem xq1415 : Cond.code yX12_stateRow cX12_stateRow 10 none ∈ xtbl := xq_of 1415 (by decide +kernel) (by decide +kernel)
theorem xq1416 : Cond.methodLink "WordMenderModel" (338) yX12_leastOf ∈ xtbl := xq_of 1416 (by decide +kernel) (by decide +kernel)
theorem xq1418 : Cond.instanceMethod yX12_leastOf ∈ xtbl := xq_of 1418 (by decide +kernel) (by decide +kernel)
theorem xq1419 : Cond.code yX12_leastOf cX12_leastOf 4 (some .int) ∈ xtbl := xq_of 1419 (by decide +kernel) (by decide +kernel)
theorem xq1420 : Cond.methodLink "WordMenderModel" (371) yX12_tries ∈ xtbl := xq_of 1420 (by decide +kernel) (by decide +kernel)
theorem xq1422 : Cond.instanceMethod yX12_tries ∈ xtbl := xq_of 1422 (by decide +kernel) (by decide +kernel)
theorem xq1423 : Cond.code yX12_tries cX12_tries 7 none ∈ xtbl := xq_of 1423 (by decide +kernel) (by decide +kernel)
theorem xq1424 : Cond.methodLink "WordMenderModel" (354) yX12_beginningTo ∈ xtbl := xq_of 1424 (by decide +kernel) (by decide +kernel)
theorem xq1426 : Cond.instanceMethod yX12_beginningTo ∈ xtbl := xq_of 1426 (by decide +kernel) (by decide +kernel)
theorem xq1427 : Cond.code yX12_beginningTo cX12_beginningTo 5 (some .int) ∈ xtbl := xq_of 1427 (by decide +kernel) (by decide +kernel)
theorem xq1428 : Cond.methodLink "WordMenderModel" (348) yX12_wordA ∈ xtbl := xq_of 1428 (by decide +kernel) (by decide +kernel)
theorem xq1430 : Cond.instanceMethod yX12_wordA ∈ xtbl := xq_of 1430 (by decide +kernel) (by decide +kernel)
theorem xq1431 : Cond.code yX12_wordA cX12_wordA 3 none ∈ xtbl := xq_of 1431 (by decide +kernel) (by decide +kernel)
theorem xq1432 : Cond.methodLink "WordMenderModel" (357) yX12_distanceTo ∈ xtbl := xq_of 1432 (by decide +kernel) (by decide +kernel)
theorem xq1434 : Cond.instanceMethod yX12_distanceTo ∈ xtbl := xq_of 1434 (by decide +kernel) (by decide +kernel)
theorem xq1435 : Cond.code yX12_distanceTo cX12_distanceTo 2 (some .int) ∈ xtbl := xq_of 1435 (by decide +kernel) (by decide +kernel)
theorem xq1436 : Cond.methodLink "WordMenderModel" (360) yX12_share ∈ xtbl := xq_of 1436 (by decide +kernel) (by decide +kernel)
theorem xq1438 : Cond.instanceMethod yX12_share ∈ xtbl := xq_of 1438 (by decide +kernel) (by decide +kernel)
theorem xq1439 : Cond.code yX12_share cX12_share 16 (some .int) ∈ xtbl := xq_of 1439 (by decide +kernel) (by decide +kernel)
theorem xq1440 : Cond.constantLong "WordMenderModel" 288 (1000) ∈ xtbl := xq_of 1440 (by decide +kernel) (by decide +kernel)
theorem xq1441 : Cond.constantLong "WordMenderModel" 290 (8388608) ∈ xtbl := xq_of 1441 (by decide +kernel) (by decide +kernel)
theorem xq1442 : Cond.constantLong "WordMenderModel" 292 (2) ∈ xtbl := xq_of 1442 (by decide +kernel) (by decide +kernel)
theorem xq1443 : Cond.constantLong "WordMenderModel" 294 (16777216) ∈ xtbl := xq_of 1443 (by decide +kernel) (by decide +kernel)
theorem xq1444 : Cond.methodLink "WordMenderModel" (363) yX12_isAhead ∈ xtbl := xq_of 1444 (by decide +kernel) (by decide +kernel)
theorem xq1446 : Cond.instanceMethod yX12_isAhead ∈ xtbl := xq_of 1446 (by decide +kernel) (by decide +kernel)
theorem xq1447 : Cond.code yX12_isAhead cX12_isAhead 7 (some .boolean) ∈ xtbl := xq_of 1447 (by decide +kernel) (by decide +kernel)
theorem xq1448 : Cond.methodLink "WordMenderModel" (375) yX12_keeps ∈ xtbl := xq_of 1448 (by decide +kernel) (by decide +kernel)
theorem xq1450 : Cond.instanceMethod yX12_keeps ∈ xtbl := xq_of 1450 (by decide +kernel) (by decide +kernel)
theorem xq1451 : Cond.code yX12_keeps cX12_keeps 3 (some .int) ∈ xtbl := xq_of 1451 (by decide +kernel) (by decide +kernel)
theorem xq1452 : Cond.methodLink "WordMenderLaw" (71) yX12_nearest ∈ xtbl := xq_of 1452 (by decide +kernel) (by decide +kernel)
theorem xq1453 : Cond.instanceMethod yX12_nearest ∈ xtbl := xq_of 1453 (by decide +kernel) (by decide +kernel)
theorem xq1454 : Cond.selects "WordMenderModel" yX12_nearest yX12_nearest ∈ xtbl := xq_of 1454 (by decide +kernel) (by decide +kernel)
theorem xq1455 : Cond.code yX12_nearest cX12_nearest 3 (some .int) ∈ xtbl := xq_of 1455 (by decide +kernel) (by decide +kernel)
theorem xq1456 : Cond.constant "WordMenderModel" 378 (Int32.ofInt (2000000)) ∈ xtbl := xq_of 1456 (by decide +kernel) (by decide +kernel)
theorem xq1457 : Cond.methodLink "WordMenderLaw" (75) yX12_complete ∈ xtbl := xq_of 1457 (by decide +kernel) (by decide +kernel)
theorem xq1458 : Cond.instanceMethod yX12_complete ∈ xtbl := xq_of 1458 (by decide +kernel) (by decide +kernel)
theorem xq1459 : Cond.selects "WordMenderModel" yX12_complete yX12_complete ∈ xtbl := xq_of 1459 (by decide +kernel) (by decide +kernel)
theorem xq1460 : Cond.code yX12_complete cX12_complete 3 (some .int) ∈ xtbl := xq_of 1460 (by decide +kernel) (by decide +kernel)
theorem xq1461 : Cond.methodLink "WordMenderLaw" (79) yX12_found ∈ xtbl := xq_of 1461 (by decide +kernel) (by decide +kernel)
theorem xq1462 : Cond.instanceMethod yX12_found ∈ xtbl := xq_of 1462 (by decide +kernel) (by decide +kernel)
theorem xq1463 : Cond.selects "WordMenderModel" yX12_found yX12_found ∈ xtbl := xq_of 1463 (by decide +kernel) (by decide +kernel)
theorem xq1464 : Cond.code yX12_found cX12_found 3 (some .int) ∈ xtbl := xq_of 1464 (by decide +kernel) (by decide +kernel)
theorem xq1465 : Cond.methodLink "WordMenderLaw" (83) yX12_node ∈ xtbl := xq_of 1465 (by decide +kernel) (by decide +kernel)
theorem xq1466 : Cond.instanceMethod yX12_node ∈ xtbl := xq_of 1466 (by decide +kernel) (by decide +kernel)
theorem xq1467 : Cond.selects "WordMenderModel" yX12_node yX12_node ∈ xtbl := xq_of 1467 (by decide +kernel) (by decide +kernel)
theorem xq1468 : Cond.code yX12_node cX12_node 3 (some .int) ∈ xtbl := xq_of 1468 (by decide +kernel) (by decide +kernel)
theorem xq1469 : Cond.methodLink "WordMenderLaw" (87) yX12_pair ∈ xtbl := xq_of 1469 (by decide +kernel) (by decide +kernel)
theorem xq1470 : Cond.instanceMethod yX12_pair ∈ xtbl := xq_of 1470 (by decide +kernel) (by decide +kernel)
theorem xq1471 : Cond.selects "WordMenderModel" yX12_pair yX12_pair ∈ xtbl := xq_of 1471 (by decide +kernel) (by decide +kernel)
theorem xq1472 : Cond.code yX12_pair cX12_pair 2 (some .int) ∈ xtbl := xq_of 1472 (by decide +kernel) (by decide +kernel)
theorem xq1473 : Cond.methodLink "WordMenderLaw" (91) yX12_learn ∈ xtbl := xq_of 1473 (by decide +kernel) (by decide +kernel)
theorem xq1474 : Cond.instanceMethod yX12_learn ∈ xtbl := xq_of 1474 (by decide +kernel) (by decide +kernel)
theorem xq1475 : Cond.selects "WordMenderModel" yX12_learn yX12_learn ∈ xtbl := xq_of 1475 (by decide +kernel) (by decide +kernel)
theorem xq1476 : Cond.code yX12_learn cX12_learn 7 (some .int) ∈ xtbl := xq_of 1476 (by decide +kernel) (by decide +kernel)
theorem xq1477 : Cond.methodLink "WordMenderModel" (379) yX12_takePair ∈ xtbl := xq_of 1477 (by decide +kernel) (by decide +kernel)
theorem xq1479 : Cond.instanceMethod yX12_takePair ∈ xtbl := xq_of 1479 (by decide +kernel) (by decide +kernel)
theorem xq1480 : Cond.code yX12_takePair cX12_takePair 3 none ∈ xtbl := xq_of 1480 (by decide +kernel) (by decide +kernel)
theorem xq1481 : Cond.methodLink "WordMenderLaw" (95) yX12_spread ∈ xtbl := xq_of 1481 (by decide +kernel) (by decide +kernel)
theorem xq1482 : Cond.instanceMethod yX12_spread ∈ xtbl := xq_of 1482 (by decide +kernel) (by decide +kernel)
theorem xq1483 : Cond.selects "WordMenderModel" yX12_spread yX12_spread ∈ xtbl := xq_of 1483 (by decide +kernel) (by decide +kernel)
theorem xq1484 : Cond.code yX12_spread cX12_spread 3 (some .int) ∈ xtbl := xq_of 1484 (by decide +kernel) (by decide +kernel)
theorem xq1485 : Cond.methodLink "WordMenderLaw" (99) yX12_mend ∈ xtbl := xq_of 1485 (by decide +kernel) (by decide +kernel)
theorem xq1486 : Cond.instanceMethod yX12_mend ∈ xtbl := xq_of 1486 (by decide +kernel) (by decide +kernel)
theorem xq1487 : Cond.selects "WordMenderModel" yX12_mend yX12_mend ∈ xtbl := xq_of 1487 (by decide +kernel) (by decide +kernel)
theorem xq1488 : Cond.code yX12_mend cX12_mend 7 (some .int) ∈ xtbl := xq_of 1488 (by decide +kernel) (by decide +kernel)
theorem xq1489 : Cond.methodLink "WordMenderModel" (382) yX12_isWord ∈ xtbl := xq_of 1489 (by decide +kernel) (by decide +kernel)
theorem xq1491 : Cond.instanceMethod yX12_isWord ∈ xtbl := xq_of 1491 (by decide +kernel) (by decide +kernel)
theorem xq1492 : Cond.code yX12_isWord cX12_isWord 2 (some .int) ∈ xtbl := xq_of 1492 (by decide +kernel) (by decide +kernel)
theorem xq1493 : Cond.constant "WordMenderModel" 391 (Int32.ofInt (100000000)) ∈ xtbl := xq_of 1493 (by decide +kernel) (by decide +kernel)
theorem xq1494 : Cond.methodLink "WordMenderModel" (392) yX12_partAt ∈ xtbl := xq_of 1494 (by decide +kernel) (by decide +kernel)
theorem xq1496 : Cond.instanceMethod yX12_partAt ∈ xtbl := xq_of 1496 (by decide +kernel) (by decide +kernel)
theorem xq1497 : Cond.code yX12_partAt cX12_partAt 5 (some .int) ∈ xtbl := xq_of 1497 (by decide +kernel) (by decide +kernel)
theorem xq1498 : Cond.methodLink "WordMenderModel" (385) yX12_together ∈ xtbl := xq_of 1498 (by decide +kernel) (by decide +kernel)
theorem xq1500 : Cond.instanceMethod yX12_together ∈ xtbl := xq_of 1500 (by decide +kernel) (by decide +kernel)
theorem xq1501 : Cond.code yX12_together cX12_together 4 (some .int) ∈ xtbl := xq_of 1501 (by decide +kernel) (by decide +kernel)
theorem xq1502 : Cond.methodLink "WordMenderModel" (388) yX12_parting ∈ xtbl := xq_of 1502 (by decide +kernel) (by decide +kernel)
theorem xq1504 : Cond.instanceMethod yX12_parting ∈ xtbl := xq_of 1504 (by decide +kernel) (by decide +kernel)
theorem xq1505 : Cond.code yX12_parting cX12_parting 3 (some .int) ∈ xtbl := xq_of 1505 (by decide +kernel) (by decide +kernel)
theorem xq1506 : Cond.methodLink "WordMenderLaw" (103) yX12_part ∈ xtbl := xq_of 1506 (by decide +kernel) (by decide +kernel)
theorem xq1507 : Cond.instanceMethod yX12_part ∈ xtbl := xq_of 1507 (by decide +kernel) (by decide +kernel)
theorem xq1508 : Cond.selects "WordMenderModel" yX12_part yX12_part ∈ xtbl := xq_of 1508 (by decide +kernel) (by decide +kernel)
theorem xq1509 : Cond.code yX12_part cX12_part 3 (some .int) ∈ xtbl := xq_of 1509 (by decide +kernel) (by decide +kernel)
theorem xq1510 : Cond.methodLink "WordMenderLaw" (108) yX12_put ∈ xtbl := xq_of 1510 (by decide +kernel) (by decide +kernel)
theorem xq1511 : Cond.instanceMethod yX12_put ∈ xtbl := xq_of 1511 (by decide +kernel) (by decide +kernel)
theorem xq1512 : Cond.selects "WordMenderModel" yX12_put yX12_put ∈ xtbl := xq_of 1512 (by decide +kernel) (by decide +kernel)
theorem xq1513 : Cond.code yX12_put cX12_put 7 (some .int) ∈ xtbl := xq_of 1513 (by decide +kernel) (by decide +kernel)
theorem xq1514 : Cond.methodLink "WordMenderModel" (402) yX12_refused ∈ xtbl := xq_of 1514 (by decide +kernel) (by decide +kernel)
theorem xq1516 : Cond.instanceMethod yX12_refused ∈ xtbl := xq_of 1516 (by decide +kernel) (by decide +kernel)
theorem xq1517 : Cond.code yX12_refused cX12_refused 2 (some .int) ∈ xtbl := xq_of 1517 (by decide +kernel) (by decide +kernel)
theorem xq1518 : Cond.methodLink "WordMenderModel" (405) yX12_done ∈ xtbl := xq_of 1518 (by decide +kernel) (by decide +kernel)
theorem xq1520 : Cond.instanceMethod yX12_done ∈ xtbl := xq_of 1520 (by decide +kernel) (by decide +kernel)
theorem xq1521 : Cond.code yX12_done cX12_done 2 (some .int) ∈ xtbl := xq_of 1521 (by decide +kernel) (by decide +kernel)
theorem xq1522 : Cond.methodLink "WordMenderLaw" (112) yX12_forge ∈ xtbl := xq_of 1522 (by decide +kernel) (by decide +kernel)
theorem xq1523 : Cond.instanceMethod yX12_forge ∈ xtbl := xq_of 1523 (by decide +kernel) (by decide +kernel)
theorem xq1524 : Cond.selects "WordMenderModel" yX12_forge yX12_forge ∈ xtbl := xq_of 1524 (by decide +kernel) (by decide +kernel)
theorem xq1525 : Cond.code yX12_forge cX12_forge 7 (some .int) ∈ xtbl := xq_of 1525 (by decide +kernel) (by decide +kernel)
theorem xq1526 : Cond.methodLink "WordMenderLaw" (116) yX12_status ∈ xtbl := xq_of 1526 (by decide +kernel) (by decide +kernel)
theorem xq1527 : Cond.instanceMethod yX12_status ∈ xtbl := xq_of 1527 (by decide +kernel) (by decide +kernel)
theorem xq1528 : Cond.selects "WordMenderModel" yX12_status yX12_status ∈ xtbl := xq_of 1528 (by decide +kernel) (by decide +kernel)
theorem xq1529 : Cond.code yX12_status cX12_status 1 (some .int) ∈ xtbl := xq_of 1529 (by decide +kernel) (by decide +kernel)
theorem xq1530 : Cond.constantLong "WordMenderLaw" 13 (4294967295) ∈ xtbl := xq_of 1530 (by decide +kernel) (by decide +kernel)
theorem fc_Tape_append : xFc mX7_append yX7_append 2 := ⟨⟨by decide +kernel, rfl, by decide, rfl⟩, ⟨by decide +kernel, by decide +kernel, by decide +kernel⟩, xq126, xq494⟩
theorem fc_WM_feed : xFc mX11_feed yX11_feed 2 := ⟨⟨by decide +kernel, rfl, by decide, rfl⟩, ⟨by decide +kernel, by decide +kernel, by decide +kernel⟩, xq125, xq490⟩
theorem fc_Row_clear : xFc mX4_clear yX4_clear 0 := ⟨⟨by decide +kernel, rfl, by decide, rfl⟩, ⟨by decide +kernel, by decide +kernel, by decide +kernel⟩, xq131, xq510⟩
theorem fc_Row_append : xFc mX4_append yX4_append 1 := ⟨⟨by decide +kernel, rfl, by decide, rfl⟩, ⟨by decide +kernel, by decide +kernel, by decide +kernel⟩, xq131, xq514⟩
theorem fc_Tape_read : xFc mX7_read yX7_read 4 := ⟨⟨by decide +kernel, rfl, by decide, rfl⟩, ⟨by decide +kernel, by decide +kernel, by decide +kernel⟩, xq126, xq506⟩
theorem fc_Tape_takeRow : xFc mX7_takeRow yX7_takeRow 1 := ⟨⟨by decide +kernel, rfl, by decide, rfl⟩, ⟨by decide +kernel, by decide +kernel, by decide +kernel⟩, xq126, xq502⟩
theorem fc_Rows_at : xFc mX5_at yX5_at 2 := ⟨⟨by decide +kernel, rfl, by decide, rfl⟩, ⟨by decide +kernel, by decide +kernel, by decide +kernel⟩, xq128, xq535⟩
theorem fc_Row_at : xFc mX4_at yX4_at 1 := ⟨⟨by decide +kernel, rfl, by decide, rfl⟩, ⟨by decide +kernel, by decide +kernel, by decide +kernel⟩, xq131, xq539⟩
theorem fc_Rows_order : xFc mX5_order yX5_order 2 := ⟨⟨by decide +kernel, rfl, by decide, rfl⟩, ⟨by decide +kernel, by decide +kernel, by decide +kernel⟩, xq128, xq531⟩
theorem fc_Lex_place : xFc mX1_place yX1_place 1 := ⟨⟨by decide +kernel, rfl, by decide, rfl⟩, ⟨by decide +kernel, by decide +kernel, by decide +kernel⟩, xq127, xq527⟩
theorem fc_Lex_numberOf : xFc mX1_numberOf yX1_numberOf 1 := ⟨⟨by decide +kernel, rfl, by decide, rfl⟩, ⟨by decide +kernel, by decide +kernel, by decide +kernel⟩, xq127, xq523⟩
theorem fc_Rows_isFull : xFc mX5_isFull yX5_isFull 0 := ⟨⟨by decide +kernel, rfl, by decide, rfl⟩, ⟨by decide +kernel, by decide +kernel, by decide +kernel⟩, xq128, xq547⟩
theorem fc_Rows_insert : xFc mX5_insert yX5_insert 2 := ⟨⟨by decide +kernel, rfl, by decide, rfl⟩, ⟨by decide +kernel, by decide +kernel, by decide +kernel⟩, xq128, xq554⟩
theorem fc_Lex_grow : xFc mX1_grow yX1_grow 2 := ⟨⟨by decide +kernel, rfl, by decide, rfl⟩, ⟨by decide +kernel, by decide +kernel, by decide +kernel⟩, xq127, xq519⟩
theorem fc_WM_add : xFc mX11_add yX11_add 1 := ⟨⟨by decide +kernel, rfl, by decide, rfl⟩, ⟨by decide +kernel, by decide +kernel, by decide +kernel⟩, xq125, xq498⟩
theorem fc_Rows_remove : xFc mX5_remove yX5_remove 1 := ⟨⟨by decide +kernel, rfl, by decide, rfl⟩, ⟨by decide +kernel, by decide +kernel, by decide +kernel⟩, xq128, xq568⟩
theorem fc_Lex_remove : xFc mX1_remove yX1_remove 1 := ⟨⟨by decide +kernel, rfl, by decide, rfl⟩, ⟨by decide +kernel, by decide +kernel, by decide +kernel⟩, xq127, xq564⟩
theorem fc_WM_drop : xFc mX11_drop yX11_drop 0 := ⟨⟨by decide +kernel, rfl, by decide, rfl⟩, ⟨by decide +kernel, by decide +kernel, by decide +kernel⟩, xq125, xq560⟩
theorem fc_WM_find : xFc mX11_find yX11_find 0 := ⟨⟨by decide +kernel, rfl, by decide, rfl⟩, ⟨by decide +kernel, by decide +kernel, by decide +kernel⟩, xq125, xq572⟩
theorem fc_Lex_countOf : xFc mX1_countOf yX1_countOf 1 := ⟨⟨by decide +kernel, rfl, by decide, rfl⟩, ⟨by decide +kernel, by decide +kernel, by decide +kernel⟩, xq127, xq581⟩
theorem fc_Rows_sizeOf : xFc mX5_sizeOf yX5_sizeOf 1 := ⟨⟨by decide +kernel, rfl, by decide, rfl⟩, ⟨by decide +kernel, by decide +kernel, by decide +kernel⟩, xq128, xq585⟩
theorem fc_WM_word : xFc mX11_word yX11_word 2 := ⟨⟨by decide +kernel, rfl, by decide, rfl⟩, ⟨by decide +kernel, by decide +kernel, by decide +kernel⟩, xq125, xq577⟩
theorem fc_Rows_shared : xFc mX5_shared yX5_shared 1 := ⟨⟨by decide +kernel, rfl, by decide, rfl⟩, ⟨by decide +kernel, by decide +kernel, by decide +kernel⟩, xq128, xq599⟩
theorem fc_Lex_nodes : xFc mX1_nodes yX1_nodes 0 := ⟨⟨by decide +kernel, rfl, by decide, rfl⟩, ⟨by decide +kernel, by decide +kernel, by decide +kernel⟩, xq127, xq594⟩
theorem fc_WM_count : xFc mX11_count yX11_count 1 := ⟨⟨by decide +kernel, rfl, by decide, rfl⟩, ⟨by decide +kernel, by decide +kernel, by decide +kernel⟩, xq125, xq590⟩
theorem fc_Slips_setKind : xFc mX6_setKind yX6_setKind 2 := ⟨⟨by decide +kernel, rfl, by decide, rfl⟩, ⟨by decide +kernel, by decide +kernel, by decide +kernel⟩, xq130, xq608⟩
theorem fc_Slips_exchange : xFc mX6_exchange yX6_exchange 3 := ⟨⟨by decide +kernel, rfl, by decide, rfl⟩, ⟨by decide +kernel, by decide +kernel, by decide +kernel⟩, xq130, xq615⟩
theorem fc_Slips_setByLetters : xFc mX6_setByLetters yX6_setByLetters 4 := ⟨⟨by decide +kernel, rfl, by decide, rfl⟩, ⟨by decide +kernel, by decide +kernel, by decide +kernel⟩, xq130, xq612⟩
theorem fc_WM_price : xFc mX11_price yX11_price 4 := ⟨⟨by decide +kernel, rfl, by decide, rfl⟩, ⟨by decide +kernel, by decide +kernel, by decide +kernel⟩, xq125, xq604⟩
theorem fc_Tape_seek : xFc mX7_seek yX7_seek 3 := ⟨⟨by decide +kernel, rfl, by decide, rfl⟩, ⟨by decide +kernel, by decide +kernel, by decide +kernel⟩, xq126, xq627⟩
theorem fc_Tape_takeTwo : xFc mX7_takeTwo yX7_takeTwo 3 := ⟨⟨by decide +kernel, rfl, by decide, rfl⟩, ⟨by decide +kernel, by decide +kernel, by decide +kernel⟩, xq126, xq623⟩
theorem fc_Rows_append : xFc mX5_append yX5_append 1 := ⟨⟨by decide +kernel, rfl, by decide, rfl⟩, ⟨by decide +kernel, by decide +kernel, by decide +kernel⟩, xq128, xq636⟩
theorem fc_Slips_addSound : xFc mX6_addSound yX6_addSound 3 := ⟨⟨by decide +kernel, rfl, by decide, rfl⟩, ⟨by decide +kernel, by decide +kernel, by decide +kernel⟩, xq130, xq631⟩
theorem fc_WM_sound : xFc mX11_sound yX11_sound 1 := ⟨⟨by decide +kernel, rfl, by decide, rfl⟩, ⟨by decide +kernel, by decide +kernel, by decide +kernel⟩, xq125, xq619⟩
theorem fc_WM_model : xFc mX11_model yX11_model 1 := ⟨⟨by decide +kernel, rfl, by decide, rfl⟩, ⟨by decide +kernel, by decide +kernel, by decide +kernel⟩, xq125, xq641⟩
theorem fc_Slips_codes : xFc mX6_codes yX6_codes 0 := ⟨⟨by decide +kernel, rfl, by decide, rfl⟩, ⟨by decide +kernel, by decide +kernel, by decide +kernel⟩, xq130, xq658⟩
theorem fc_Slips_byLetters : xFc mX6_byLetters yX6_byLetters 3 := ⟨⟨by decide +kernel, rfl, by decide, rfl⟩, ⟨by decide +kernel, by decide +kernel, by decide +kernel⟩, xq130, xq670⟩
theorem fc_Rows_standsIn : xFc mX5_standsIn yX5_standsIn 3 := ⟨⟨by decide +kernel, rfl, by decide, rfl⟩, ⟨by decide +kernel, by decide +kernel, by decide +kernel⟩, xq128, xq674⟩
theorem fc_Slips_soundPrice : xFc mX6_soundPrice yX6_soundPrice 1 := ⟨⟨by decide +kernel, rfl, by decide, rfl⟩, ⟨by decide +kernel, by decide +kernel, by decide +kernel⟩, xq130, xq678⟩
theorem fc_Slips_priceAt : xFc mX6_priceAt yX6_priceAt 5 := ⟨⟨by decide +kernel, rfl, by decide, rfl⟩, ⟨by decide +kernel, by decide +kernel, by decide +kernel⟩, xq130, xq666⟩
theorem fc_Slips_meantTaken : xFc mX6_meantTaken yX6_meantTaken 1 := ⟨⟨by decide +kernel, rfl, by decide, rfl⟩, ⟨by decide +kernel, by decide +kernel, by decide +kernel⟩, xq130, xq682⟩
theorem fc_Slips_typedTaken : xFc mX6_typedTaken yX6_typedTaken 1 := ⟨⟨by decide +kernel, rfl, by decide, rfl⟩, ⟨by decide +kernel, by decide +kernel, by decide +kernel⟩, xq130, xq689⟩
theorem fc_Way_sumBy : xFc mX10_sumBy yX10_sumBy 5 := ⟨⟨by decide +kernel, rfl, by decide, rfl⟩, ⟨by decide +kernel, by decide +kernel, by decide +kernel⟩, xq132, xq662⟩
theorem fc_Way_leastFrom : xFc mX10_leastFrom yX10_leastFrom 4 := ⟨⟨by decide +kernel, rfl, by decide, rfl⟩, ⟨by decide +kernel, by decide +kernel, by decide +kernel⟩, xq132, xq653⟩
theorem fc_Way_measure : xFc mX10_measure yX10_measure 2 := ⟨⟨by decide +kernel, rfl, by decide, rfl⟩, ⟨by decide +kernel, by decide +kernel, by decide +kernel⟩, xq132, xq649⟩
theorem fc_Way_firstCode : xFc mX10_firstCode yX10_firstCode 4 := ⟨⟨by decide +kernel, rfl, by decide, rfl⟩, ⟨by decide +kernel, by decide +kernel, by decide +kernel⟩, xq132, xq700⟩
theorem fc_Way_trace : xFc mX10_trace yX10_trace 2 := ⟨⟨by decide +kernel, rfl, by decide, rfl⟩, ⟨by decide +kernel, by decide +kernel, by decide +kernel⟩, xq132, xq696⟩
theorem fc_WM_distance : xFc mX11_distance yX11_distance 0 := ⟨⟨by decide +kernel, rfl, by decide, rfl⟩, ⟨by decide +kernel, by decide +kernel, by decide +kernel⟩, xq125, xq645⟩
theorem fc_Way_codeAt : xFc mX10_codeAt yX10_codeAt 1 := ⟨⟨by decide +kernel, rfl, by decide, rfl⟩, ⟨by decide +kernel, by decide +kernel, by decide +kernel⟩, xq132, xq712⟩
theorem fc_Way_tell : xFc mX10_tell yX10_tell 2 := ⟨⟨by decide +kernel, rfl, by decide, rfl⟩, ⟨by decide +kernel, by decide +kernel, by decide +kernel⟩, xq132, xq708⟩
theorem fc_WM_way : xFc mX11_way yX11_way 2 := ⟨⟨by decide +kernel, rfl, by decide, rfl⟩, ⟨by decide +kernel, by decide +kernel, by decide +kernel⟩, xq125, xq704⟩
theorem fc_WM_isNoBound : xFc mX11_isNoBound yX11_isNoBound 1 := ⟨⟨by decide +kernel, rfl, by decide, rfl⟩, ⟨by decide +kernel, by decide +kernel, by decide +kernel⟩, xq125, xq719⟩
theorem fc_Met_clear : xFc mX3_clear yX3_clear 1 := ⟨⟨by decide +kernel, rfl, by decide, rfl⟩, ⟨by decide +kernel, by decide +kernel, by decide +kernel⟩, xq134, xq728⟩
theorem fc_Rows_copyTo : xFc mX5_copyTo yX5_copyTo 2 := ⟨⟨by decide +kernel, rfl, by decide, rfl⟩, ⟨by decide +kernel, by decide +kernel, by decide +kernel⟩, xq128, xq734⟩
theorem fc_Slips_mayStand : xFc mX6_mayStand yX6_mayStand 3 := ⟨⟨by decide +kernel, rfl, by decide, rfl⟩, ⟨by decide +kernel, by decide +kernel, by decide +kernel⟩, xq130, xq757⟩
theorem fc_Walk_reach : xFc mX9_reach yX9_reach 3 := ⟨⟨by decide +kernel, rfl, by decide, rfl⟩, ⟨by decide +kernel, by decide +kernel, by decide +kernel⟩, xq133, xq752⟩
theorem fc_Walk_fill : xFc mX9_fill yX9_fill 2 := ⟨⟨by decide +kernel, rfl, by decide, rfl⟩, ⟨by decide +kernel, by decide +kernel, by decide +kernel⟩, xq133, xq746⟩
theorem fc_Walk_sumUp : xFc mX9_sumUp yX9_sumUp 2 := ⟨⟨by decide +kernel, rfl, by decide, rfl⟩, ⟨by decide +kernel, by decide +kernel, by decide +kernel⟩, xq133, xq763⟩
theorem fc_Walk_isLeft : xFc mX9_isLeft yX9_isLeft 2 := ⟨⟨by decide +kernel, rfl, by decide, rfl⟩, ⟨by decide +kernel, by decide +kernel, by decide +kernel⟩, xq133, xq768⟩
theorem fc_Met_keep : xFc mX3_keep yX3_keep 5 := ⟨⟨by decide +kernel, rfl, by decide, rfl⟩, ⟨by decide +kernel, by decide +kernel, by decide +kernel⟩, xq134, xq773⟩
theorem fc_Walk_descend : xFc mX9_descend yX9_descend 4 := ⟨⟨by decide +kernel, rfl, by decide, rfl⟩, ⟨by decide +kernel, by decide +kernel, by decide +kernel⟩, xq133, xq741⟩
theorem fc_Walk_go : xFc mX9_go yX9_go 3 := ⟨⟨by decide +kernel, rfl, by decide, rfl⟩, ⟨by decide +kernel, by decide +kernel, by decide +kernel⟩, xq133, xq724⟩
theorem fc_Lex_share : xFc mX1_share yX1_share 1 := ⟨⟨by decide +kernel, rfl, by decide, rfl⟩, ⟨by decide +kernel, by decide +kernel, by decide +kernel⟩, xq127, xq787⟩
theorem fc_Found_isAhead : xFc mX0_isAhead yX0_isAhead 3 := ⟨⟨by decide +kernel, rfl, by decide, rfl⟩, ⟨by decide +kernel, by decide +kernel, by decide +kernel⟩, xq135, xq793⟩
theorem fc_Found_move : xFc mX0_move yX0_move 3 := ⟨⟨by decide +kernel, rfl, by decide, rfl⟩, ⟨by decide +kernel, by decide +kernel, by decide +kernel⟩, xq135, xq798⟩
theorem fc_Found_lay : xFc mX0_lay yX0_lay 3 := ⟨⟨by decide +kernel, rfl, by decide, rfl⟩, ⟨by decide +kernel, by decide +kernel, by decide +kernel⟩, xq135, xq783⟩
theorem fc_Found_gather : xFc mX0_gather yX0_gather 3 := ⟨⟨by decide +kernel, rfl, by decide, rfl⟩, ⟨by decide +kernel, by decide +kernel, by decide +kernel⟩, xq135, xq778⟩
theorem fc_WM_near : xFc mX11_near yX11_near 1 := ⟨⟨by decide +kernel, rfl, by decide, rfl⟩, ⟨by decide +kernel, by decide +kernel, by decide +kernel⟩, xq125, xq716⟩
theorem fc_WM_nearest : xFc mX11_nearest yX11_nearest 1 := ⟨⟨by decide +kernel, rfl, by decide, rfl⟩, ⟨by decide +kernel, by decide +kernel, by decide +kernel⟩, xq125, xq802⟩
theorem fc_WM_complete : xFc mX11_complete yX11_complete 1 := ⟨⟨by decide +kernel, rfl, by decide, rfl⟩, ⟨by decide +kernel, by decide +kernel, by decide +kernel⟩, xq125, xq807⟩
theorem fc_Found_tell : xFc mX0_tell yX0_tell 2 := ⟨⟨by decide +kernel, rfl, by decide, rfl⟩, ⟨by decide +kernel, by decide +kernel, by decide +kernel⟩, xq135, xq815⟩
theorem fc_WM_found : xFc mX11_found yX11_found 2 := ⟨⟨by decide +kernel, rfl, by decide, rfl⟩, ⟨by decide +kernel, by decide +kernel, by decide +kernel⟩, xq125, xq811⟩
theorem fc_Met_stateAt : xFc mX3_stateAt yX3_stateAt 2 := ⟨⟨by decide +kernel, rfl, by decide, rfl⟩, ⟨by decide +kernel, by decide +kernel, by decide +kernel⟩, xq134, xq832⟩
theorem fc_Met_least : xFc mX3_least yX3_least 1 := ⟨⟨by decide +kernel, rfl, by decide, rfl⟩, ⟨by decide +kernel, by decide +kernel, by decide +kernel⟩, xq134, xq827⟩
theorem fc_Met_tell : xFc mX3_tell yX3_tell 2 := ⟨⟨by decide +kernel, rfl, by decide, rfl⟩, ⟨by decide +kernel, by decide +kernel, by decide +kernel⟩, xq134, xq823⟩
theorem fc_WM_node : xFc mX11_node yX11_node 2 := ⟨⟨by decide +kernel, rfl, by decide, rfl⟩, ⟨by decide +kernel, by decide +kernel, by decide +kernel⟩, xq125, xq819⟩
theorem fc_WM_pair : xFc mX11_pair yX11_pair 0 := ⟨⟨by decide +kernel, rfl, by decide, rfl⟩, ⟨by decide +kernel, by decide +kernel, by decide +kernel⟩, xq125, xq836⟩
theorem fc_Arr_fill : xFc mJ7_fill_53178 yJ7_fill_53178 2 := ⟨⟨by decide +kernel, rfl, by decide, rfl⟩, ⟨by decide +kernel, by decide +kernel, by decide +kernel⟩, xq140, xq845⟩
theorem fc_WM_readPair : xFc mX11_readPair yX11_readPair 1 := ⟨⟨by decide +kernel, rfl, by decide, rfl⟩, ⟨by decide +kernel, by decide +kernel, by decide +kernel⟩, xq125, xq853⟩
theorem fc_WM_noteWay : xFc mX11_noteWay yX11_noteWay 1 := ⟨⟨by decide +kernel, rfl, by decide, rfl⟩, ⟨by decide +kernel, by decide +kernel, by decide +kernel⟩, xq125, xq858⟩
theorem fc_WM_findWays : xFc mX11_findWays yX11_findWays 0 := ⟨⟨by decide +kernel, rfl, by decide, rfl⟩, ⟨by decide +kernel, by decide +kernel, by decide +kernel⟩, xq125, xq849⟩
theorem fc_Slips_setByCounts : xFc mX6_setByCounts yX6_setByCounts 1 := ⟨⟨by decide +kernel, rfl, by decide, rfl⟩, ⟨by decide +kernel, by decide +kernel, by decide +kernel⟩, xq130, xq863⟩
theorem fc_WM_learn : xFc mX11_learn yX11_learn 0 := ⟨⟨by decide +kernel, rfl, by decide, rfl⟩, ⟨by decide +kernel, by decide +kernel, by decide +kernel⟩, xq125, xq842⟩
theorem fc_WM_spread : xFc mX11_spread yX11_spread 0 := ⟨⟨by decide +kernel, rfl, by decide, rfl⟩, ⟨by decide +kernel, by decide +kernel, by decide +kernel⟩, xq125, xq867⟩
theorem fc_Rows_clear : xFc mX5_clear yX5_clear 0 := ⟨⟨by decide +kernel, rfl, by decide, rfl⟩, ⟨by decide +kernel, by decide +kernel, by decide +kernel⟩, xq128, xq879⟩
theorem fc_Tape_takeText : xFc mX7_takeText yX7_takeText 2 := ⟨⟨by decide +kernel, rfl, by decide, rfl⟩, ⟨by decide +kernel, by decide +kernel, by decide +kernel⟩, xq126, xq875⟩
theorem fc_Mend_clear : xFc mX2_clear yX2_clear 1 := ⟨⟨by decide +kernel, rfl, by decide, rfl⟩, ⟨by decide +kernel, by decide +kernel, by decide +kernel⟩, xq136, xq884⟩
theorem fc_Mend_cellOf : xFc mX2_cellOf yX2_cellOf 2 := ⟨⟨by decide +kernel, rfl, by decide, rfl⟩, ⟨by decide +kernel, by decide +kernel, by decide +kernel⟩, xq136, xq895⟩
theorem fc_Mend_offer : xFc mX2_offer yX2_offer 5 := ⟨⟨by decide +kernel, rfl, by decide, rfl⟩, ⟨by decide +kernel, by decide +kernel, by decide +kernel⟩, xq136, xq891⟩
theorem fc_Mend_offers : xFc mX2_offers yX2_offers 2 := ⟨⟨by decide +kernel, rfl, by decide, rfl⟩, ⟨by decide +kernel, by decide +kernel, by decide +kernel⟩, xq136, xq903⟩
theorem fc_Slips_kindPrice : xFc mX6_kindPrice yX6_kindPrice 1 := ⟨⟨by decide +kernel, rfl, by decide, rfl⟩, ⟨by decide +kernel, by decide +kernel, by decide +kernel⟩, xq130, xq908⟩
theorem fc_WM_offerSplit : xFc mX11_offerSplit yX11_offerSplit 1 := ⟨⟨by decide +kernel, rfl, by decide, rfl⟩, ⟨by decide +kernel, by decide +kernel, by decide +kernel⟩, xq125, xq899⟩
theorem fc_WM_offerJoin : xFc mX11_offerJoin yX11_offerJoin 1 := ⟨⟨by decide +kernel, rfl, by decide, rfl⟩, ⟨by decide +kernel, by decide +kernel, by decide +kernel⟩, xq125, xq912⟩
theorem fc_WM_offerMended : xFc mX11_offerMended yX11_offerMended 2 := ⟨⟨by decide +kernel, rfl, by decide, rfl⟩, ⟨by decide +kernel, by decide +kernel, by decide +kernel⟩, xq125, xq917⟩
theorem fc_Mend_taken : xFc mX2_taken yX2_taken 1 := ⟨⟨by decide +kernel, rfl, by decide, rfl⟩, ⟨by decide +kernel, by decide +kernel, by decide +kernel⟩, xq136, xq933⟩
theorem fc_Mend_sumBy : xFc mX2_sumBy yX2_sumBy 2 := ⟨⟨by decide +kernel, rfl, by decide, rfl⟩, ⟨by decide +kernel, by decide +kernel, by decide +kernel⟩, xq136, xq930⟩
theorem fc_Mend_bestKind : xFc mX2_bestKind yX2_bestKind 1 := ⟨⟨by decide +kernel, rfl, by decide, rfl⟩, ⟨by decide +kernel, by decide +kernel, by decide +kernel⟩, xq136, xq925⟩
theorem fc_Mend_choose : xFc mX2_choose yX2_choose 0 := ⟨⟨by decide +kernel, rfl, by decide, rfl⟩, ⟨by decide +kernel, by decide +kernel, by decide +kernel⟩, xq136, xq921⟩
theorem fc_WM_mend : xFc mX11_mend yX11_mend 1 := ⟨⟨by decide +kernel, rfl, by decide, rfl⟩, ⟨by decide +kernel, by decide +kernel, by decide +kernel⟩, xq125, xq871⟩
theorem fc_Mend_tell : xFc mX2_tell yX2_tell 2 := ⟨⟨by decide +kernel, rfl, by decide, rfl⟩, ⟨by decide +kernel, by decide +kernel, by decide +kernel⟩, xq136, xq941⟩
theorem fc_WM_part : xFc mX11_part yX11_part 2 := ⟨⟨by decide +kernel, rfl, by decide, rfl⟩, ⟨by decide +kernel, by decide +kernel, by decide +kernel⟩, xq125, xq937⟩
theorem fc_WM_isThing : xFc mX11_isThing yX11_isThing 2 := ⟨⟨by decide +kernel, rfl, by decide, rfl⟩, ⟨by decide +kernel, by decide +kernel, by decide +kernel⟩, xq125, xq949⟩
theorem fc_Trays_refuse : xFc mX8_refuse yX8_refuse 1 := ⟨⟨by decide +kernel, rfl, by decide, rfl⟩, ⟨by decide +kernel, by decide +kernel, by decide +kernel⟩, xq137, xq953⟩
theorem fc_Trays_clear : xFc mX8_clear yX8_clear 2 := ⟨⟨by decide +kernel, rfl, by decide, rfl⟩, ⟨by decide +kernel, by decide +kernel, by decide +kernel⟩, xq137, xq957⟩
theorem fc_Trays_lay : xFc mX8_lay yX8_lay 2 := ⟨⟨by decide +kernel, rfl, by decide, rfl⟩, ⟨by decide +kernel, by decide +kernel, by decide +kernel⟩, xq137, xq965⟩
theorem fc_WM_layLetters : xFc mX11_layLetters yX11_layLetters 2 := ⟨⟨by decide +kernel, rfl, by decide, rfl⟩, ⟨by decide +kernel, by decide +kernel, by decide +kernel⟩, xq125, xq961⟩
theorem fc_WM_layState : xFc mX11_layState yX11_layState 2 := ⟨⟨by decide +kernel, rfl, by decide, rfl⟩, ⟨by decide +kernel, by decide +kernel, by decide +kernel⟩, xq125, xq969⟩
theorem fc_WM_layPrices : xFc mX11_layPrices yX11_layPrices 1 := ⟨⟨by decide +kernel, rfl, by decide, rfl⟩, ⟨by decide +kernel, by decide +kernel, by decide +kernel⟩, xq125, xq974⟩
theorem fc_WM_layTruths : xFc mX11_layTruths yX11_layTruths 2 := ⟨⟨by decide +kernel, rfl, by decide, rfl⟩, ⟨by decide +kernel, by decide +kernel, by decide +kernel⟩, xq125, xq978⟩
theorem fc_Trays_done : xFc mX8_done yX8_done 1 := ⟨⟨by decide +kernel, rfl, by decide, rfl⟩, ⟨by decide +kernel, by decide +kernel, by decide +kernel⟩, xq137, xq982⟩
theorem fc_WM_put : xFc mX11_put yX11_put 3 := ⟨⟨by decide +kernel, rfl, by decide, rfl⟩, ⟨by decide +kernel, by decide +kernel, by decide +kernel⟩, xq125, xq945⟩
theorem fc_Trays_whyNot : xFc mX8_whyNot yX8_whyNot 2 := ⟨⟨by decide +kernel, rfl, by decide, rfl⟩, ⟨by decide +kernel, by decide +kernel, by decide +kernel⟩, xq137, xq999⟩
theorem fc_Trays_read : xFc mX8_read yX8_read 3 := ⟨⟨by decide +kernel, rfl, by decide, rfl⟩, ⟨by decide +kernel, by decide +kernel, by decide +kernel⟩, xq137, xq995⟩
theorem fc_Trays_copy : xFc mX8_copy yX8_copy 2 := ⟨⟨by decide +kernel, rfl, by decide, rfl⟩, ⟨by decide +kernel, by decide +kernel, by decide +kernel⟩, xq137, xq1005⟩
theorem fc_Trays_layAmongStates : xFc mX8_layAmongStates yX8_layAmongStates 1 := ⟨⟨by decide +kernel, rfl, by decide, rfl⟩, ⟨by decide +kernel, by decide +kernel, by decide +kernel⟩, xq137, xq1009⟩
theorem fc_Trays_work : xFc mX8_work yX8_work 3 := ⟨⟨by decide +kernel, rfl, by decide, rfl⟩, ⟨by decide +kernel, by decide +kernel, by decide +kernel⟩, xq137, xq990⟩
theorem fc_WM_forge : xFc mX11_forge yX11_forge 3 := ⟨⟨by decide +kernel, rfl, by decide, rfl⟩, ⟨by decide +kernel, by decide +kernel, by decide +kernel⟩, xq125, xq986⟩
theorem fc_WM_status : xFc mX11_status yX11_status 0 := ⟨⟨by decide +kernel, rfl, by decide, rfl⟩, ⟨by decide +kernel, by decide +kernel, by decide +kernel⟩, xq125, xq1013⟩
theorem fc_Md_in : xFc mX12_in yX12_in 3 := ⟨⟨by decide +kernel, rfl, by decide, rfl⟩, ⟨by decide +kernel, by decide +kernel, by decide +kernel⟩, xq138, xq1285⟩
theorem fc_Md_min : xFc mX12_min yX12_min 2 := ⟨⟨by decide +kernel, rfl, by decide, rfl⟩, ⟨by decide +kernel, by decide +kernel, by decide +kernel⟩, xq138, xq1309⟩
theorem fc_Md_feed : xFc mX12_feed yX12_feed 2 := ⟨⟨by decide +kernel, rfl, by decide, rfl⟩, ⟨by decide +kernel, by decide +kernel, by decide +kernel⟩, xq138, xq1282⟩
theorem fc_Md_reads : xFc mX12_reads yX12_reads 3 := ⟨⟨by decide +kernel, rfl, by decide, rfl⟩, ⟨by decide +kernel, by decide +kernel, by decide +kernel⟩, xq138, xq1297⟩
theorem fc_Md_readsOne : xFc mX12_readsOne yX12_readsOne 0 := ⟨⟨by decide +kernel, rfl, by decide, rfl⟩, ⟨by decide +kernel, by decide +kernel, by decide +kernel⟩, xq138, xq1293⟩
theorem fc_Md_readsTwo : xFc mX12_readsTwo yX12_readsTwo 1 := ⟨⟨by decide +kernel, rfl, by decide, rfl⟩, ⟨by decide +kernel, by decide +kernel, by decide +kernel⟩, xq138, xq1349⟩
theorem fc_Md_takeA : xFc mX12_takeA yX12_takeA 1 := ⟨⟨by decide +kernel, rfl, by decide, rfl⟩, ⟨by decide +kernel, by decide +kernel, by decide +kernel⟩, xq138, xq1361⟩
theorem fc_Md_takeB : xFc mX12_takeB yX12_takeB 1 := ⟨⟨by decide +kernel, rfl, by decide, rfl⟩, ⟨by decide +kernel, by decide +kernel, by decide +kernel⟩, xq138, xq1365⟩
theorem fc_Md_wordA : xFc mX12_wordA yX12_wordA 1 := ⟨⟨by decide +kernel, rfl, by decide, rfl⟩, ⟨by decide +kernel, by decide +kernel, by decide +kernel⟩, xq138, xq1431⟩
theorem fc_Md_compares : xFc mX12_compares yX12_compares 4 := ⟨⟨by decide +kernel, rfl, by decide, rfl⟩, ⟨by decide +kernel, by decide +kernel, by decide +kernel⟩, xq138, xq1306⟩
theorem fc_Md_wordOf : xFc mX12_wordOf yX12_wordOf 3 := ⟨⟨by decide +kernel, rfl, by decide, rfl⟩, ⟨by decide +kernel, by decide +kernel, by decide +kernel⟩, xq138, xq1302⟩
theorem fc_Md_moveWord : xFc mX12_moveWord yX12_moveWord 2 := ⟨⟨by decide +kernel, rfl, by decide, rfl⟩, ⟨by decide +kernel, by decide +kernel, by decide +kernel⟩, xq138, xq1313⟩
theorem fc_Md_add : xFc mX12_add yX12_add 1 := ⟨⟨by decide +kernel, rfl, by decide, rfl⟩, ⟨by decide +kernel, by decide +kernel, by decide +kernel⟩, xq138, xq1289⟩
theorem fc_Md_drop : xFc mX12_drop yX12_drop 0 := ⟨⟨by decide +kernel, rfl, by decide, rfl⟩, ⟨by decide +kernel, by decide +kernel, by decide +kernel⟩, xq138, xq1317⟩
theorem fc_Md_find : xFc mX12_find yX12_find 0 := ⟨⟨by decide +kernel, rfl, by decide, rfl⟩, ⟨by decide +kernel, by decide +kernel, by decide +kernel⟩, xq138, xq1321⟩
theorem fc_Md_word : xFc mX12_word yX12_word 2 := ⟨⟨by decide +kernel, rfl, by decide, rfl⟩, ⟨by decide +kernel, by decide +kernel, by decide +kernel⟩, xq138, xq1325⟩
theorem fc_Md_alike : xFc mX12_alike yX12_alike 1 := ⟨⟨by decide +kernel, rfl, by decide, rfl⟩, ⟨by decide +kernel, by decide +kernel, by decide +kernel⟩, xq138, xq1337⟩
theorem fc_Md_nodes : xFc mX12_nodes yX12_nodes 0 := ⟨⟨by decide +kernel, rfl, by decide, rfl⟩, ⟨by decide +kernel, by decide +kernel, by decide +kernel⟩, xq138, xq1333⟩
theorem fc_Md_count : xFc mX12_count yX12_count 1 := ⟨⟨by decide +kernel, rfl, by decide, rfl⟩, ⟨by decide +kernel, by decide +kernel, by decide +kernel⟩, xq138, xq1329⟩
theorem fc_Md_price : xFc mX12_price yX12_price 4 := ⟨⟨by decide +kernel, rfl, by decide, rfl⟩, ⟨by decide +kernel, by decide +kernel, by decide +kernel⟩, xq138, xq1341⟩
theorem fc_Md_sound : xFc mX12_sound yX12_sound 1 := ⟨⟨by decide +kernel, rfl, by decide, rfl⟩, ⟨by decide +kernel, by decide +kernel, by decide +kernel⟩, xq138, xq1345⟩
theorem fc_Md_model : xFc mX12_model yX12_model 1 := ⟨⟨by decide +kernel, rfl, by decide, rfl⟩, ⟨by decide +kernel, by decide +kernel, by decide +kernel⟩, xq138, xq1353⟩
theorem fc_Md_share : xFc mX12_share yX12_share 1 := ⟨⟨by decide +kernel, rfl, by decide, rfl⟩, ⟨by decide +kernel, by decide +kernel, by decide +kernel⟩, xq138, xq1439⟩
theorem fc_Md_swapPrice : xFc mX12_swapPrice yX12_swapPrice 2 := ⟨⟨by decide +kernel, rfl, by decide, rfl⟩, ⟨by decide +kernel, by decide +kernel, by decide +kernel⟩, xq138, xq1378⟩
theorem fc_Md_leftPrice : xFc mX12_leftPrice yX12_leftPrice 1 := ⟨⟨by decide +kernel, rfl, by decide, rfl⟩, ⟨by decide +kernel, by decide +kernel, by decide +kernel⟩, xq138, xq1382⟩
theorem fc_Md_putPrice : xFc mX12_putPrice yX12_putPrice 1 := ⟨⟨by decide +kernel, rfl, by decide, rfl⟩, ⟨by decide +kernel, by decide +kernel, by decide +kernel⟩, xq138, xq1386⟩
theorem fc_Md_hasSound : xFc mX12_hasSound yX12_hasSound 3 := ⟨⟨by decide +kernel, rfl, by decide, rfl⟩, ⟨by decide +kernel, by decide +kernel, by decide +kernel⟩, xq138, xq1390⟩
theorem fc_Md_slip : xFc mX12_slip yX12_slip 4 := ⟨⟨by decide +kernel, rfl, by decide, rfl⟩, ⟨by decide +kernel, by decide +kernel, by decide +kernel⟩, xq138, xq1374⟩
theorem fc_Md_sums : xFc mX12_sums yX12_sums 0 := ⟨⟨by decide +kernel, rfl, by decide, rfl⟩, ⟨by decide +kernel, by decide +kernel, by decide +kernel⟩, xq138, xq1369⟩
theorem fc_Md_ways : xFc mX12_ways yX12_ways 0 := ⟨⟨by decide +kernel, rfl, by decide, rfl⟩, ⟨by decide +kernel, by decide +kernel, by decide +kernel⟩, xq138, xq1394⟩
theorem fc_Md_distance : xFc mX12_distance yX12_distance 0 := ⟨⟨by decide +kernel, rfl, by decide, rfl⟩, ⟨by decide +kernel, by decide +kernel, by decide +kernel⟩, xq138, xq1357⟩
theorem fc_Md_way : xFc mX12_way yX12_way 2 := ⟨⟨by decide +kernel, rfl, by decide, rfl⟩, ⟨by decide +kernel, by decide +kernel, by decide +kernel⟩, xq138, xq1398⟩
theorem fc_Md_stateRow : xFc mX12_stateRow yX12_stateRow 1 := ⟨⟨by decide +kernel, rfl, by decide, rfl⟩, ⟨by decide +kernel, by decide +kernel, by decide +kernel⟩, xq138, xq1415⟩
theorem fc_Md_leastOf : xFc mX12_leastOf yX12_leastOf 1 := ⟨⟨by decide +kernel, rfl, by decide, rfl⟩, ⟨by decide +kernel, by decide +kernel, by decide +kernel⟩, xq138, xq1419⟩
theorem fc_Md_meets : xFc mX12_meets yX12_meets 3 := ⟨⟨by decide +kernel, rfl, by decide, rfl⟩, ⟨by decide +kernel, by decide +kernel, by decide +kernel⟩, xq138, xq1411⟩
theorem fc_Md_walk : xFc mX12_walk yX12_walk 1 := ⟨⟨by decide +kernel, rfl, by decide, rfl⟩, ⟨by decide +kernel, by decide +kernel, by decide +kernel⟩, xq138, xq1407⟩
theorem fc_Md_distanceTo : xFc mX12_distanceTo yX12_distanceTo 1 := ⟨⟨by decide +kernel, rfl, by decide, rfl⟩, ⟨by decide +kernel, by decide +kernel, by decide +kernel⟩, xq138, xq1435⟩
theorem fc_Md_beginningTo : xFc mX12_beginningTo yX12_beginningTo 1 := ⟨⟨by decide +kernel, rfl, by decide, rfl⟩, ⟨by decide +kernel, by decide +kernel, by decide +kernel⟩, xq138, xq1427⟩
theorem fc_Md_isAhead : xFc mX12_isAhead yX12_isAhead 4 := ⟨⟨by decide +kernel, rfl, by decide, rfl⟩, ⟨by decide +kernel, by decide +kernel, by decide +kernel⟩, xq138, xq1447⟩
theorem fc_Md_tries : xFc mX12_tries yX12_tries 2 := ⟨⟨by decide +kernel, rfl, by decide, rfl⟩, ⟨by decide +kernel, by decide +kernel, by decide +kernel⟩, xq138, xq1423⟩
theorem fc_Md_keeps : xFc mX12_keeps yX12_keeps 1 := ⟨⟨by decide +kernel, rfl, by decide, rfl⟩, ⟨by decide +kernel, by decide +kernel, by decide +kernel⟩, xq138, xq1451⟩
theorem fc_Md_near : xFc mX12_near yX12_near 1 := ⟨⟨by decide +kernel, rfl, by decide, rfl⟩, ⟨by decide +kernel, by decide +kernel, by decide +kernel⟩, xq138, xq1402⟩
theorem fc_Md_nearest : xFc mX12_nearest yX12_nearest 1 := ⟨⟨by decide +kernel, rfl, by decide, rfl⟩, ⟨by decide +kernel, by decide +kernel, by decide +kernel⟩, xq138, xq1455⟩
theorem fc_Md_complete : xFc mX12_complete yX12_complete 1 := ⟨⟨by decide +kernel, rfl, by decide, rfl⟩, ⟨by decide +kernel, by decide +kernel, by decide +kernel⟩, xq138, xq1460⟩
theorem fc_Md_found : xFc mX12_found yX12_found 2 := ⟨⟨by decide +kernel, rfl, by decide, rfl⟩, ⟨by decide +kernel, by decide +kernel, by decide +kernel⟩, xq138, xq1464⟩
theorem fc_Md_node : xFc mX12_node yX12_node 2 := ⟨⟨by decide +kernel, rfl, by decide, rfl⟩, ⟨by decide +kernel, by decide +kernel, by decide +kernel⟩, xq138, xq1468⟩
theorem fc_Md_pair : xFc mX12_pair yX12_pair 0 := ⟨⟨by decide +kernel, rfl, by decide, rfl⟩, ⟨by decide +kernel, by decide +kernel, by decide +kernel⟩, xq138, xq1472⟩
theorem fc_Md_takePair : xFc mX12_takePair yX12_takePair 1 := ⟨⟨by decide +kernel, rfl, by decide, rfl⟩, ⟨by decide +kernel, by decide +kernel, by decide +kernel⟩, xq138, xq1480⟩
theorem fc_Md_learn : xFc mX12_learn yX12_learn 0 := ⟨⟨by decide +kernel, rfl, by decide, rfl⟩, ⟨by decide +kernel, by decide +kernel, by decide +kernel⟩, xq138, xq1476⟩
theorem fc_Md_spread : xFc mX12_spread yX12_spread 0 := ⟨⟨by decide +kernel, rfl, by decide, rfl⟩, ⟨by decide +kernel, by decide +kernel, by decide +kernel⟩, xq138, xq1484⟩
theorem fc_Md_together : xFc mX12_together yX12_together 1 := ⟨⟨by decide +kernel, rfl, by decide, rfl⟩, ⟨by decide +kernel, by decide +kernel, by decide +kernel⟩, xq138, xq1501⟩
theorem fc_Md_isWord : xFc mX12_isWord yX12_isWord 1 := ⟨⟨by decide +kernel, rfl, by decide, rfl⟩, ⟨by decide +kernel, by decide +kernel, by decide +kernel⟩, xq138, xq1492⟩
theorem fc_Md_parting : xFc mX12_parting yX12_parting 1 := ⟨⟨by decide +kernel, rfl, by decide, rfl⟩, ⟨by decide +kernel, by decide +kernel, by decide +kernel⟩, xq138, xq1505⟩
theorem fc_Md_partAt : xFc mX12_partAt yX12_partAt 3 := ⟨⟨by decide +kernel, rfl, by decide, rfl⟩, ⟨by decide +kernel, by decide +kernel, by decide +kernel⟩, xq138, xq1497⟩
theorem fc_Md_mend : xFc mX12_mend yX12_mend 1 := ⟨⟨by decide +kernel, rfl, by decide, rfl⟩, ⟨by decide +kernel, by decide +kernel, by decide +kernel⟩, xq138, xq1488⟩
theorem fc_Md_part : xFc mX12_part yX12_part 2 := ⟨⟨by decide +kernel, rfl, by decide, rfl⟩, ⟨by decide +kernel, by decide +kernel, by decide +kernel⟩, xq138, xq1509⟩
theorem fc_Md_refused : xFc mX12_refused yX12_refused 1 := ⟨⟨by decide +kernel, rfl, by decide, rfl⟩, ⟨by decide +kernel, by decide +kernel, by decide +kernel⟩, xq138, xq1517⟩
theorem fc_Md_done : xFc mX12_done yX12_done 1 := ⟨⟨by decide +kernel, rfl, by decide, rfl⟩, ⟨by decide +kernel, by decide +kernel, by decide +kernel⟩, xq138, xq1521⟩
theorem fc_Md_put : xFc mX12_put yX12_put 3 := ⟨⟨by decide +kernel, rfl, by decide, rfl⟩, ⟨by decide +kernel, by decide +kernel, by decide +kernel⟩, xq138, xq1513⟩
theorem fc_Md_forge : xFc mX12_forge yX12_forge 3 := ⟨⟨by decide +kernel, rfl, by decide, rfl⟩, ⟨by decide +kernel, by decide +kernel, by decide +kernel⟩, xq138, xq1525⟩
theorem fc_Md_status : xFc mX12_status yX12_status 0 := ⟨⟨by decide +kernel, rfl, by decide, rfl⟩, ⟨by decide +kernel, by decide +kernel, by decide +kernel⟩, xq138, xq1529⟩
theorem kO1 : xK 1 = 3 + 11 := by decide +kernel
theorem kO2 : xK 2 = 3 + 7 := by decide +kernel
theorem kO3 : xK 3 = 1 := by decide +kernel
theorem kO4 : xK 4 = 3 + 1 := by decide +kernel
theorem kO5 : xK 5 = 3 + 5 := by decide +kernel
theorem kO8 : xK 8 = 1 := by decide +kernel
theorem kO9 : xK 9 = 3 + 6 := by decide +kernel
theorem kO10 : xK 10 = 1 := by decide +kernel
theorem kO11 : xK 11 = 1 := by decide +kernel
theorem kO12 : xK 12 = 1 := by decide +kernel
theorem kO13 : xK 13 = 1 := by decide +kernel
theorem kO14 : xK 14 = 3 + 5 := by decide +kernel
theorem kO17 : xK 17 = 3 + 5 := by decide +kernel
theorem kO20 : xK 20 = 1 := by decide +kernel
theorem kO21 : xK 21 = 3 + 4 := by decide +kernel
theorem kO23 : xK 23 = 3 + 4 := by decide +kernel
theorem kO25 : xK 25 = 3 + 5 := by decide +kernel
theorem kO28 : xK 28 = 3 + 10 := by decide +kernel
theorem kO34 : xK 34 = 3 + 10 := by decide +kernel
theorem kO40 : xK 40 = 3 + 5 := by decide +kernel
theorem kO43 : xK 43 = 3 + 5 := by decide +kernel
theorem kO46 : xK 46 = 1 := by decide +kernel
theorem kO47 : xK 47 = 1 := by decide +kernel
theorem kO48 : xK 48 = 3 + 9 := by decide +kernel
theorem kO49 : xK 49 = 3 + 3 := by decide +kernel
theorem kO50 : xK 50 = 1 := by decide +kernel
theorem kO51 : xK 51 = 1 := by decide +kernel
theorem kO52 : xK 52 = 2 := by decide +kernel
theorem kO53 : xK 53 = 2 := by decide +kernel
theorem kO54 : xK 54 = 1 := by decide +kernel
theorem kO55 : xK 55 = 3 + 4 := by decide +kernel
theorem kO57 : xK 57 = 1 := by decide +kernel
theorem kO58 : xK 58 = 1 := by decide +kernel
theorem kO59 : xK 59 = 1 := by decide +kernel
theorem kO60 : xK 60 = 1 := by decide +kernel
theorem kO61 : xK 61 = 1 := by decide +kernel
theorem kO62 : xK 62 = 3 + 0 := by decide +kernel
theorem kO66 : xK 66 = 3 + 0 := by decide +kernel
theorem kO70 : xK 70 = 3 + 2 := by decide +kernel
theorem kO71 : xK 71 = 1 := by decide +kernel
theorem kO72 : xK 72 = 1 := by decide +kernel
theorem kO73 : xK 73 = 1 := by decide +kernel
theorem kO74 : xK 74 = 1 := by decide +kernel
theorem kO75 : xK 75 = 1 := by decide +kernel
theorem kO76 : xK 76 = 1 := by decide +kernel
theorem kO77 : xK 77 = 3 + 8 := by decide +kernel
theorem kO78 : xK 78 = 1 := by decide +kernel
theorem kO79 : xK 79 = 1 := by decide +kernel
theorem kO80 : xK 80 = 1 := by decide +kernel
theorem kO81 : xK 81 = 3 + 12 := by decide +kernel
theorem kO82 : xK 82 = 1 := by decide +kernel
theorem kO83 : xK 83 = 1 := by decide +kernel
theorem kO84 : xK 84 = 1 := by decide +kernel
theorem kO85 : xK 85 = 1 := by decide +kernel
theorem kO86 : xK 86 = 1 := by decide +kernel
theorem kO87 : xK 87 = 1 := by decide +kernel
theorem kO88 : xK 88 = 1 := by decide +kernel
theorem kO89 : xK 89 = 1 := by decide +kernel
theorem kO90 : xK 90 = 1 := by decide +kernel
theorem kO91 : xK 91 = 1 := by decide +kernel
theorem kO92 : xK 92 = 1 := by decide +kernel
theorem kO93 : xK 93 = 1 := by decide +kernel
theorem kO94 : xK 94 = 1 := by decide +kernel
theorem kO95 : xK 95 = 1 := by decide +kernel
theorem kO96 : xK 96 = 1 := by decide +kernel
theorem kO97 : xK 97 = 1 := by decide +kernel
theorem kO98 : xK 98 = 1 := by decide +kernel
theorem kO99 : xK 99 = 1 := by decide +kernel
theorem kO100 : xK 100 = 1 := by decide +kernel
theorem kO101 : xK 101 = 1 := by decide +kernel
theorem kO102 : xK 102 = 1 := by decide +kernel
theorem kO103 : xK 103 = 1 := by decide +kernel
theorem kO104 : xK 104 = 1 := by decide +kernel
theorem kO105 : xK 105 = 1 := by decide +kernel
theorem kO106 : xK 106 = 1 := by decide +kernel
theorem kO107 : xK 107 = 1 := by decide +kernel
theorem kO108 : xK 108 = 1 := by decide +kernel
theorem kO109 : xK 109 = 1 := by decide +kernel
theorem kO110 : xK 110 = 1 := by decide +kernel
theorem kO111 : xK 111 = 1 := by decide +kernel
theorem kO112 : xK 112 = 1 := by decide +kernel
theorem kO113 : xK 113 = 1 := by decide +kernel
theorem kO114 : xK 114 = 1 := by decide +kernel
theorem kO115 : xK 115 = 1 := by decide +kernel
theorem kO116 : xK 116 = 1 := by decide +kernel
theorem kO118 : xK 118 = 1 := by decide +kernel
theorem kO119 : xK 119 = 1 := by decide +kernel
theorem kO120 : xK 120 = 1 := by decide +kernel
theorem kO121 : xK 121 = 1 := by decide +kernel
theorem kO122 : xK 122 = 1 := by decide +kernel
theorem kO123 : xK 123 = 1 := by decide +kernel
theorem kO124 : xK 124 = 1 := by decide +kernel
theorem kO125 : xK 125 = 1 := by decide +kernel
theorem kO126 : xK 126 = 1 := by decide +kernel
theorem kO127 : xK 127 = 1 := by decide +kernel
theorem kO128 : xK 128 = 1 := by decide +kernel
theorem kO129 : xK 129 = 1 := by decide +kernel
theorem kO130 : xK 130 = 1 := by decide +kernel
theorem kO131 : xK 131 = 1 := by decide +kernel
theorem kO132 : xK 132 = 1 := by decide +kernel
theorem kO133 : xK 133 = 1 := by decide +kernel
theorem kO134 : xK 134 = 1 := by decide +kernel
theorem kO135 : xK 135 = 1 := by decide +kernel
theorem kO136 : xK 136 = 1 := by decide +kernel
theorem kO137 : xK 137 = 1 := by decide +kernel
theorem kO138 : xK 138 = 1 := by decide +kernel
theorem kO139 : xK 139 = 1 := by decide +kernel
theorem kO140 : xK 140 = 1 := by decide +kernel
theorem kO141 : xK 141 = 1 := by decide +kernel
theorem kO142 : xK 142 = 1 := by decide +kernel
theorem kO143 : xK 143 = 1 := by decide +kernel
theorem kO144 : xK 144 = 1 := by decide +kernel
theorem kO145 : xK 145 = 1 := by decide +kernel
theorem nA3 : (xN 3 : Int) = 240 := by decide +kernel
theorem nA8 : (xN 8 : Int) = 200 := by decide +kernel
theorem nA10 : (xN 10 : Int) = 10 := by decide +kernel
theorem nA20 : (xN 20 : Int) = 20 := by decide +kernel
theorem nA46 : (xN 46 : Int) = 960 := by decide +kernel
theorem nA47 : (xN 47 : Int) = 7 := by decide +kernel
theorem nA50 : (xN 50 : Int) = 2401 := by decide +kernel
theorem nA51 : (xN 51 : Int) = 2401 := by decide +kernel
theorem nA52 : (xN 52 : Int) = 2401 := by decide +kernel
theorem nA53 : (xN 53 : Int) = 2401 := by decide +kernel
theorem nA54 : (xN 54 : Int) = 31213 := by decide +kernel
theorem nA57 : (xN 57 : Int) = 169 := by decide +kernel
theorem nA58 : (xN 58 : Int) = 13 := by decide +kernel
theorem nA59 : (xN 59 : Int) = 13 := by decide +kernel
theorem nA60 : (xN 60 : Int) = 200 := by decide +kernel
theorem nA61 : (xN 61 : Int) = 200 := by decide +kernel
theorem nA71 : (xN 71 : Int) = 60 := by decide +kernel
theorem nA72 : (xN 72 : Int) = 60 := by decide +kernel
theorem nA73 : (xN 73 : Int) = 60 := by decide +kernel
theorem nA74 : (xN 74 : Int) = 13 := by decide +kernel
theorem nA75 : (xN 75 : Int) = 13 := by decide +kernel
theorem nA76 : (xN 76 : Int) = 12 := by decide +kernel
theorem nA78 : (xN 78 : Int) = 8 := by decide +kernel
theorem nA79 : (xN 79 : Int) = 8 := by decide +kernel
theorem nA80 : (xN 80 : Int) = 208 := by decide +kernel
theorem nA82 : (xN 82 : Int) = 240 := by decide +kernel
theorem nA83 : (xN 83 : Int) = 12 := by decide +kernel
theorem nA84 : (xN 84 : Int) = 144 := by decide +kernel
theorem nA85 : (xN 85 : Int) = 200 := by decide +kernel
theorem nA86 : (xN 86 : Int) = 2400 := by decide +kernel
theorem nA87 : (xN 87 : Int) = 200 := by decide +kernel
theorem nA88 : (xN 88 : Int) = 7 := by decide +kernel
theorem nA89 : (xN 89 : Int) = 676 := by decide +kernel
theorem nA90 : (xN 90 : Int) = 26 := by decide +kernel
theorem nA91 : (xN 91 : Int) = 26 := by decide +kernel
theorem nA92 : (xN 92 : Int) = 20 := by decide +kernel
theorem nA93 : (xN 93 : Int) = 60 := by decide +kernel
theorem nA94 : (xN 94 : Int) = 20 := by decide +kernel
theorem nA95 : (xN 95 : Int) = 60 := by decide +kernel
theorem nA96 : (xN 96 : Int) = 20 := by decide +kernel
theorem nA97 : (xN 97 : Int) = 12 := by decide +kernel
theorem nA98 : (xN 98 : Int) = 12 := by decide +kernel
theorem nA99 : (xN 99 : Int) = 169 := by decide +kernel
theorem nA100 : (xN 100 : Int) = 24 := by decide +kernel
theorem nA101 : (xN 101 : Int) = 24 := by decide +kernel
theorem nA102 : (xN 102 : Int) = 24 := by decide +kernel
theorem nA103 : (xN 103 : Int) = 24 := by decide +kernel
theorem nA104 : (xN 104 : Int) = 24 := by decide +kernel
theorem nA105 : (xN 105 : Int) = 24 := by decide +kernel
theorem nA106 : (xN 106 : Int) = 24 := by decide +kernel
theorem nA107 : (xN 107 : Int) = 24 := by decide +kernel
theorem nA108 : (xN 108 : Int) = 24 := by decide +kernel
theorem nA109 : (xN 109 : Int) = 24 := by decide +kernel
theorem nA110 : (xN 110 : Int) = 2401 := by decide +kernel
theorem nA111 : (xN 111 : Int) = 2401 := by decide +kernel
theorem nA112 : (xN 112 : Int) = 2401 := by decide +kernel
theorem nA113 : (xN 113 : Int) = 2401 := by decide +kernel
theorem nA114 : (xN 114 : Int) = 2401 := by decide +kernel
theorem nA115 : (xN 115 : Int) = 31213 := by decide +kernel
theorem nA116 : (xN 116 : Int) = 169 := by decide +kernel
theorem nA118 : (xN 118 : Int) = 13 := by decide +kernel
theorem nA119 : (xN 119 : Int) = 13 := by decide +kernel
theorem nA120 : (xN 120 : Int) = 13 := by decide +kernel
theorem nA121 : (xN 121 : Int) = 200 := by decide +kernel
theorem nA122 : (xN 122 : Int) = 200 := by decide +kernel
theorem nA123 : (xN 123 : Int) = 200 := by decide +kernel
theorem nA124 : (xN 124 : Int) = 200 := by decide +kernel
theorem nA125 : (xN 125 : Int) = 200 := by decide +kernel
theorem nA126 : (xN 126 : Int) = 200 := by decide +kernel
theorem nA127 : (xN 127 : Int) = 40 := by decide +kernel
theorem nA128 : (xN 128 : Int) = 480 := by decide +kernel
theorem nA129 : (xN 129 : Int) = 40 := by decide +kernel
theorem nA130 : (xN 130 : Int) = 480 := by decide +kernel
theorem nA131 : (xN 131 : Int) = 40 := by decide +kernel
theorem nA132 : (xN 132 : Int) = 960 := by decide +kernel
theorem nA133 : (xN 133 : Int) = 7 := by decide +kernel
theorem nA134 : (xN 134 : Int) = 12 := by decide +kernel
theorem nA135 : (xN 135 : Int) = 12 := by decide +kernel
theorem nA136 : (xN 136 : Int) = 12 := by decide +kernel
theorem nA137 : (xN 137 : Int) = 12 := by decide +kernel
theorem nA138 : (xN 138 : Int) = 12 := by decide +kernel
theorem nA139 : (xN 139 : Int) = 13 := by decide +kernel
theorem nA140 : (xN 140 : Int) = 12 := by decide +kernel
theorem nA141 : (xN 141 : Int) = 12 := by decide +kernel
theorem nA142 : (xN 142 : Int) = 8 := by decide +kernel
theorem nA143 : (xN 143 : Int) = 8 := by decide +kernel
theorem nA144 : (xN 144 : Int) = 208 := by decide +kernel
theorem nA145 : (xN 145 : Int) = 24 := by decide +kernel
theorem rf_1_0 : xRf 1 0 = 2 ∧ (2 : Int) ≠ 0 := by decide +kernel
theorem rf_1_1 : xRf 1 1 = 4 ∧ (4 : Int) ≠ 0 := by decide +kernel
theorem rf_1_2 : xRf 1 2 = 9 ∧ (9 : Int) ≠ 0 := by decide +kernel
theorem rf_1_3 : xRf 1 3 = 21 ∧ (21 : Int) ≠ 0 := by decide +kernel
theorem rf_1_4 : xRf 1 4 = 23 ∧ (23 : Int) ≠ 0 := by decide +kernel
theorem rf_1_5 : xRf 1 5 = 25 ∧ (25 : Int) ≠ 0 := by decide +kernel
theorem rf_1_6 : xRf 1 6 = 28 ∧ (28 : Int) ≠ 0 := by decide +kernel
theorem rf_1_7 : xRf 1 7 = 34 ∧ (34 : Int) ≠ 0 := by decide +kernel
theorem rf_1_8 : xRf 1 8 = 40 ∧ (40 : Int) ≠ 0 := by decide +kernel
theorem rf_1_9 : xRf 1 9 = 43 ∧ (43 : Int) ≠ 0 := by decide +kernel
theorem rf_1_10 : xRf 1 10 = 46 ∧ (46 : Int) ≠ 0 := by decide +kernel
theorem rf_1_11 : xRf 1 11 = 47 ∧ (47 : Int) ≠ 0 := by decide +kernel
theorem rf_1_12 : xRf 1 12 = 48 ∧ (48 : Int) ≠ 0 := by decide +kernel
theorem rf_1_13 : xRf 1 13 = 62 ∧ (62 : Int) ≠ 0 := by decide +kernel
theorem rf_1_14 : xRf 1 14 = 66 ∧ (66 : Int) ≠ 0 := by decide +kernel
theorem rf_1_15 : xRf 1 15 = 70 ∧ (70 : Int) ≠ 0 := by decide +kernel
theorem rf_1_16 : xRf 1 16 = 77 ∧ (77 : Int) ≠ 0 := by decide +kernel
theorem rf_2_0 : xRf 2 0 = 3 ∧ (3 : Int) ≠ 0 := by decide +kernel
theorem rf_4_0 : xRf 4 0 = 5 ∧ (5 : Int) ≠ 0 := by decide +kernel
theorem rf_4_1 : xRf 4 1 = 8 ∧ (8 : Int) ≠ 0 := by decide +kernel
theorem rf_9_0 : xRf 9 0 = 10 ∧ (10 : Int) ≠ 0 := by decide +kernel
theorem rf_9_1 : xRf 9 1 = 11 ∧ (11 : Int) ≠ 0 := by decide +kernel
theorem rf_9_2 : xRf 9 2 = 12 ∧ (12 : Int) ≠ 0 := by decide +kernel
theorem rf_9_3 : xRf 9 3 = 13 ∧ (13 : Int) ≠ 0 := by decide +kernel
theorem rf_9_4 : xRf 9 4 = 14 ∧ (14 : Int) ≠ 0 := by decide +kernel
theorem rf_9_5 : xRf 9 5 = 17 ∧ (17 : Int) ≠ 0 := by decide +kernel
theorem rf_9_6 : xRf 9 6 = 20 ∧ (20 : Int) ≠ 0 := by decide +kernel
theorem rf_48_0 : xRf 48 0 = 4 ∧ (4 : Int) ≠ 0 := by decide +kernel
theorem rf_48_1 : xRf 48 1 = 9 ∧ (9 : Int) ≠ 0 := by decide +kernel
theorem rf_48_2 : xRf 48 2 = 49 ∧ (49 : Int) ≠ 0 := by decide +kernel
theorem rf_48_3 : xRf 48 3 = 55 ∧ (55 : Int) ≠ 0 := by decide +kernel
theorem rf_48_4 : xRf 48 4 = 57 ∧ (57 : Int) ≠ 0 := by decide +kernel
theorem rf_48_5 : xRf 48 5 = 58 ∧ (58 : Int) ≠ 0 := by decide +kernel
theorem rf_48_6 : xRf 48 6 = 59 ∧ (59 : Int) ≠ 0 := by decide +kernel
theorem rf_48_7 : xRf 48 7 = 60 ∧ (60 : Int) ≠ 0 := by decide +kernel
theorem rf_48_8 : xRf 48 8 = 61 ∧ (61 : Int) ≠ 0 := by decide +kernel
theorem rf_49_0 : xRf 49 0 = 50 ∧ (50 : Int) ≠ 0 := by decide +kernel
theorem rf_49_1 : xRf 49 1 = 51 ∧ (51 : Int) ≠ 0 := by decide +kernel
theorem rf_49_2 : xRf 49 2 = 52 ∧ (52 : Int) ≠ 0 := by decide +kernel
theorem rf_49_3 : xRf 49 3 = 53 ∧ (53 : Int) ≠ 0 := by decide +kernel
theorem rf_49_4 : xRf 49 4 = 54 ∧ (54 : Int) ≠ 0 := by decide +kernel
theorem rf_70_0 : xRf 70 0 = 71 ∧ (71 : Int) ≠ 0 := by decide +kernel
theorem rf_70_1 : xRf 70 1 = 72 ∧ (72 : Int) ≠ 0 := by decide +kernel
theorem rf_70_2 : xRf 70 2 = 73 ∧ (73 : Int) ≠ 0 := by decide +kernel
theorem rf_70_3 : xRf 70 3 = 74 ∧ (74 : Int) ≠ 0 := by decide +kernel
theorem rf_70_4 : xRf 70 4 = 75 ∧ (75 : Int) ≠ 0 := by decide +kernel
theorem rf_70_5 : xRf 70 5 = 76 ∧ (76 : Int) ≠ 0 := by decide +kernel
theorem rf_77_0 : xRf 77 0 = 78 ∧ (78 : Int) ≠ 0 := by decide +kernel
theorem rf_77_1 : xRf 77 1 = 79 ∧ (79 : Int) ≠ 0 := by decide +kernel
theorem rf_77_2 : xRf 77 2 = 80 ∧ (80 : Int) ≠ 0 := by decide +kernel
theorem rf_81_0 : xRf 81 0 = 82 ∧ (82 : Int) ≠ 0 := by decide +kernel
theorem rf_81_3 : xRf 81 3 = 83 ∧ (83 : Int) ≠ 0 := by decide +kernel
theorem rf_81_4 : xRf 81 4 = 84 ∧ (84 : Int) ≠ 0 := by decide +kernel
theorem rf_81_6 : xRf 81 6 = 85 ∧ (85 : Int) ≠ 0 := by decide +kernel
theorem rf_81_7 : xRf 81 7 = 86 ∧ (86 : Int) ≠ 0 := by decide +kernel
theorem rf_81_8 : xRf 81 8 = 87 ∧ (87 : Int) ≠ 0 := by decide +kernel
theorem rf_81_9 : xRf 81 9 = 88 ∧ (88 : Int) ≠ 0 := by decide +kernel
theorem rf_81_10 : xRf 81 10 = 89 ∧ (89 : Int) ≠ 0 := by decide +kernel
theorem rf_81_11 : xRf 81 11 = 90 ∧ (90 : Int) ≠ 0 := by decide +kernel
theorem rf_81_12 : xRf 81 12 = 91 ∧ (91 : Int) ≠ 0 := by decide +kernel
theorem rf_81_17 : xRf 81 17 = 92 ∧ (92 : Int) ≠ 0 := by decide +kernel
theorem rf_81_18 : xRf 81 18 = 93 ∧ (93 : Int) ≠ 0 := by decide +kernel
theorem rf_81_19 : xRf 81 19 = 94 ∧ (94 : Int) ≠ 0 := by decide +kernel
theorem rf_81_20 : xRf 81 20 = 95 ∧ (95 : Int) ≠ 0 := by decide +kernel
theorem rf_81_21 : xRf 81 21 = 96 ∧ (96 : Int) ≠ 0 := by decide +kernel
theorem rf_81_24 : xRf 81 24 = 97 ∧ (97 : Int) ≠ 0 := by decide +kernel
theorem rf_81_25 : xRf 81 25 = 98 ∧ (98 : Int) ≠ 0 := by decide +kernel
theorem rf_81_26 : xRf 81 26 = 99 ∧ (99 : Int) ≠ 0 := by decide +kernel
theorem rf_81_28 : xRf 81 28 = 100 ∧ (100 : Int) ≠ 0 := by decide +kernel
theorem rf_81_29 : xRf 81 29 = 101 ∧ (101 : Int) ≠ 0 := by decide +kernel
theorem rf_81_30 : xRf 81 30 = 102 ∧ (102 : Int) ≠ 0 := by decide +kernel
theorem rf_81_31 : xRf 81 31 = 103 ∧ (103 : Int) ≠ 0 := by decide +kernel
theorem rf_81_32 : xRf 81 32 = 104 ∧ (104 : Int) ≠ 0 := by decide +kernel
theorem rf_81_34 : xRf 81 34 = 105 ∧ (105 : Int) ≠ 0 := by decide +kernel
theorem rf_81_35 : xRf 81 35 = 106 ∧ (106 : Int) ≠ 0 := by decide +kernel
theorem rf_81_36 : xRf 81 36 = 107 ∧ (107 : Int) ≠ 0 := by decide +kernel
theorem rf_81_37 : xRf 81 37 = 108 ∧ (108 : Int) ≠ 0 := by decide +kernel
theorem rf_81_38 : xRf 81 38 = 109 ∧ (109 : Int) ≠ 0 := by decide +kernel
theorem rf_81_41 : xRf 81 41 = 110 ∧ (110 : Int) ≠ 0 := by decide +kernel
theorem rf_81_42 : xRf 81 42 = 111 ∧ (111 : Int) ≠ 0 := by decide +kernel
theorem rf_81_43 : xRf 81 43 = 112 ∧ (112 : Int) ≠ 0 := by decide +kernel
theorem rf_81_44 : xRf 81 44 = 113 ∧ (113 : Int) ≠ 0 := by decide +kernel
theorem rf_81_45 : xRf 81 45 = 114 ∧ (114 : Int) ≠ 0 := by decide +kernel
theorem rf_81_46 : xRf 81 46 = 115 ∧ (115 : Int) ≠ 0 := by decide +kernel
theorem rf_81_48 : xRf 81 48 = 116 ∧ (116 : Int) ≠ 0 := by decide +kernel
theorem rf_81_50 : xRf 81 50 = 118 ∧ (118 : Int) ≠ 0 := by decide +kernel
theorem rf_81_51 : xRf 81 51 = 119 ∧ (119 : Int) ≠ 0 := by decide +kernel
theorem rf_81_52 : xRf 81 52 = 120 ∧ (120 : Int) ≠ 0 := by decide +kernel
theorem rf_81_54 : xRf 81 54 = 121 ∧ (121 : Int) ≠ 0 := by decide +kernel
theorem rf_81_55 : xRf 81 55 = 122 ∧ (122 : Int) ≠ 0 := by decide +kernel
theorem rf_81_56 : xRf 81 56 = 123 ∧ (123 : Int) ≠ 0 := by decide +kernel
theorem rf_81_58 : xRf 81 58 = 124 ∧ (124 : Int) ≠ 0 := by decide +kernel
theorem rf_81_59 : xRf 81 59 = 125 ∧ (125 : Int) ≠ 0 := by decide +kernel
theorem rf_81_60 : xRf 81 60 = 126 ∧ (126 : Int) ≠ 0 := by decide +kernel
theorem rf_81_62 : xRf 81 62 = 127 ∧ (127 : Int) ≠ 0 := by decide +kernel
theorem rf_81_63 : xRf 81 63 = 128 ∧ (128 : Int) ≠ 0 := by decide +kernel
theorem rf_81_64 : xRf 81 64 = 129 ∧ (129 : Int) ≠ 0 := by decide +kernel
theorem rf_81_65 : xRf 81 65 = 130 ∧ (130 : Int) ≠ 0 := by decide +kernel
theorem rf_81_66 : xRf 81 66 = 131 ∧ (131 : Int) ≠ 0 := by decide +kernel
theorem rf_81_67 : xRf 81 67 = 132 ∧ (132 : Int) ≠ 0 := by decide +kernel
theorem rf_81_68 : xRf 81 68 = 133 ∧ (133 : Int) ≠ 0 := by decide +kernel
theorem rf_81_71 : xRf 81 71 = 134 ∧ (134 : Int) ≠ 0 := by decide +kernel
theorem rf_81_72 : xRf 81 72 = 135 ∧ (135 : Int) ≠ 0 := by decide +kernel
theorem rf_81_73 : xRf 81 73 = 136 ∧ (136 : Int) ≠ 0 := by decide +kernel
theorem rf_81_74 : xRf 81 74 = 137 ∧ (137 : Int) ≠ 0 := by decide +kernel
theorem rf_81_75 : xRf 81 75 = 138 ∧ (138 : Int) ≠ 0 := by decide +kernel
theorem rf_81_76 : xRf 81 76 = 139 ∧ (139 : Int) ≠ 0 := by decide +kernel
theorem rf_81_77 : xRf 81 77 = 140 ∧ (140 : Int) ≠ 0 := by decide +kernel
theorem rf_81_78 : xRf 81 78 = 141 ∧ (141 : Int) ≠ 0 := by decide +kernel
theorem rf_81_79 : xRf 81 79 = 142 ∧ (142 : Int) ≠ 0 := by decide +kernel
theorem rf_81_80 : xRf 81 80 = 143 ∧ (143 : Int) ≠ 0 := by decide +kernel
theorem rf_81_81 : xRf 81 81 = 144 ∧ (144 : Int) ≠ 0 := by decide +kernel
theorem rf_81_85 : xRf 81 85 = 145 ∧ (145 : Int) ≠ 0 := by decide +kernel
theorem xNok (a : Int) : xok (xN a : Int) := by
  have key : ∀ k : Nat, k < xTab.length → (xTab.getD k (0, 0)).2 ≤ 2147483647 := by
    intro k hk
    have h2 : ∀ q ∈ xTab, Nat.ble q.2 2147483647 = true := by decide +kernel
    have h3 := h2 (xTab.getD k (0, 0)) (by simp only [List.getD, List.getElem?_eq_getElem hk, Option.getD_some]; exact List.getElem_mem hk)
    exact Nat.le_of_ble_eq_true h3
  have h1 : xN a ≤ 2147483647 := by
    unfold xN
    by_cases hl : a.toNat < xTab.length
    · exact key _ hl
    · simp [List.getD, List.getElem?_eq_none (Nat.not_lt.mp hl)]
  constructor <;> omega
theorem xsym {o : Int} {kd : Nat} (P : Nat → Prop) (hk : xK o = kd) (h0 : kd ≠ 0) (h : ∀ k : Nat, k < xTab.length → (xTab.getD k (0, 0)).1 = kd → P k) : ∃ k : Nat, o = (k : Int) ∧ P k := by
  obtain ⟨h1, h2⟩ := xK_rng (o := o) (by omega)
  refine ⟨o.toNat, by omega, h _ ?_ hk⟩
  have : xTab.length = xKn + 1 := by decide +kernel
  omega
theorem rfFound_0 {o : Int} (h : xK o = 3 + 0) : xRf o 0 = (4 : Int) ∧ (4 : Int) ≠ 0 := by
  obtain ⟨k, rfl, h2⟩ := xsym (fun k => (xRT.getD k []).getD 0 0 = (4 : Int)) h (by decide) (by decide +kernel)
  have h3 := xK_rg h
  refine ⟨?_, by omega⟩
  unfold xRf
  rw [if_neg (by decide)]
  exact h2
theorem rfFound_1 {o : Int} (h : xK o = 3 + 0) : xRf o 1 = o + 1 ∧ o + 1 ≠ 0 := by
  obtain ⟨k, rfl, h2⟩ := xsym (fun k => (xRT.getD k []).getD 1 0 = (k : Int) + 1) h (by decide) (by decide +kernel)
  have h3 := xK_rg h
  refine ⟨?_, by omega⟩
  unfold xRf
  rw [if_neg (by decide)]
  exact h2
theorem kFound_1 {o : Int} (h : xK o = 3 + 0) : xK (o + 1) = 1 := by
  obtain ⟨k, rfl, h2⟩ := xsym (fun k => (xTab.getD (k + 1) (0, 0)).1 = 1) h (by decide) (by decide +kernel)
  exact h2
theorem nFound_1 {o : Int} (h : xK o = 3 + 0) : (xN (o + 1) : Int) = 200 := by
  obtain ⟨k, rfl, h2⟩ := xsym (fun k => (xTab.getD (k + 1) (0, 0)).2 = 200) h (by decide) (by decide +kernel)
  exact congrArg Int.ofNat h2
theorem rfFound_2 {o : Int} (h : xK o = 3 + 0) : xRf o 2 = o + 2 ∧ o + 2 ≠ 0 := by
  obtain ⟨k, rfl, h2⟩ := xsym (fun k => (xRT.getD k []).getD 2 0 = (k : Int) + 2) h (by decide) (by decide +kernel)
  have h3 := xK_rg h
  refine ⟨?_, by omega⟩
  unfold xRf
  rw [if_neg (by decide)]
  exact h2
theorem kFound_2 {o : Int} (h : xK o = 3 + 0) : xK (o + 2) = 1 := by
  obtain ⟨k, rfl, h2⟩ := xsym (fun k => (xTab.getD (k + 2) (0, 0)).1 = 1) h (by decide) (by decide +kernel)
  exact h2
theorem nFound_2 {o : Int} (h : xK o = 3 + 0) : (xN (o + 2) : Int) = 200 := by
  obtain ⟨k, rfl, h2⟩ := xsym (fun k => (xTab.getD (k + 2) (0, 0)).2 = 200) h (by decide) (by decide +kernel)
  exact congrArg Int.ofNat h2
theorem rfFound_3 {o : Int} (h : xK o = 3 + 0) : xRf o 3 = o + 3 ∧ o + 3 ≠ 0 := by
  obtain ⟨k, rfl, h2⟩ := xsym (fun k => (xRT.getD k []).getD 3 0 = (k : Int) + 3) h (by decide) (by decide +kernel)
  have h3 := xK_rg h
  refine ⟨?_, by omega⟩
  unfold xRf
  rw [if_neg (by decide)]
  exact h2
theorem kFound_3 {o : Int} (h : xK o = 3 + 0) : xK (o + 3) = 1 := by
  obtain ⟨k, rfl, h2⟩ := xsym (fun k => (xTab.getD (k + 3) (0, 0)).1 = 1) h (by decide) (by decide +kernel)
  exact h2
theorem nFound_3 {o : Int} (h : xK o = 3 + 0) : (xN (o + 3) : Int) = 200 := by
  obtain ⟨k, rfl, h2⟩ := xsym (fun k => (xTab.getD (k + 3) (0, 0)).2 = 200) h (by decide) (by decide +kernel)
  exact congrArg Int.ofNat h2
theorem rfRow_0 {o : Int} (h : xK o = 3 + 4) : xRf o 0 = o + 1 ∧ o + 1 ≠ 0 := by
  obtain ⟨k, rfl, h2⟩ := xsym (fun k => (xRT.getD k []).getD 0 0 = (k : Int) + 1) h (by decide) (by decide +kernel)
  have h3 := xK_rg h
  refine ⟨?_, by omega⟩
  unfold xRf
  rw [if_neg (by decide)]
  exact h2
theorem kRow_0 {o : Int} (h : xK o = 3 + 4) : xK (o + 1) = 1 := by
  obtain ⟨k, rfl, h2⟩ := xsym (fun k => (xTab.getD (k + 1) (0, 0)).1 = 1) h (by decide) (by decide +kernel)
  exact h2
theorem nRow_0 {o : Int} (h : xK o = 3 + 4) : (xN (o + 1) : Int) = 12 := by
  obtain ⟨k, rfl, h2⟩ := xsym (fun k => (xTab.getD (k + 1) (0, 0)).2 = 12) h (by decide) (by decide +kernel)
  exact congrArg Int.ofNat h2
theorem rfRows_0 {o : Int} (h : xK o = 3 + 5) : xRf o 0 = o + 1 ∧ o + 1 ≠ 0 := by
  obtain ⟨k, rfl, h2⟩ := xsym (fun k => (xRT.getD k []).getD 0 0 = (k : Int) + 1) h (by decide) (by decide +kernel)
  have h3 := xK_rg h
  refine ⟨?_, by omega⟩
  unfold xRf
  rw [if_neg (by decide)]
  exact h2
theorem kRows_0 {o : Int} (h : xK o = 3 + 5) : xK (o + 1) = 1 := by
  obtain ⟨k, rfl, h2⟩ := xsym (fun k => (xTab.getD (k + 1) (0, 0)).1 = 1) h (by decide) (by decide +kernel)
  exact h2
theorem rfRows_1 {o : Int} (h : xK o = 3 + 5) : xRf o 1 = o + 2 ∧ o + 2 ≠ 0 := by
  obtain ⟨k, rfl, h2⟩ := xsym (fun k => (xRT.getD k []).getD 1 0 = (k : Int) + 2) h (by decide) (by decide +kernel)
  have h3 := xK_rg h
  refine ⟨?_, by omega⟩
  unfold xRf
  rw [if_neg (by decide)]
  exact h2
theorem kRows_1 {o : Int} (h : xK o = 3 + 5) : xK (o + 2) = 1 := by
  obtain ⟨k, rfl, h2⟩ := xsym (fun k => (xTab.getD (k + 2) (0, 0)).1 = 1) h (by decide) (by decide +kernel)
  exact h2
theorem rfWay_0 {o : Int} (h : xK o = 3 + 10) : xRf o 0 = (9 : Int) ∧ (9 : Int) ≠ 0 := by
  obtain ⟨k, rfl, h2⟩ := xsym (fun k => (xRT.getD k []).getD 0 0 = (9 : Int)) h (by decide) (by decide +kernel)
  have h3 := xK_rg h
  refine ⟨?_, by omega⟩
  unfold xRf
  rw [if_neg (by decide)]
  exact h2
theorem rfWay_1 {o : Int} (h : xK o = 3 + 10) : xRf o 1 = o + 1 ∧ o + 1 ≠ 0 := by
  obtain ⟨k, rfl, h2⟩ := xsym (fun k => (xRT.getD k []).getD 1 0 = (k : Int) + 1) h (by decide) (by decide +kernel)
  have h3 := xK_rg h
  refine ⟨?_, by omega⟩
  unfold xRf
  rw [if_neg (by decide)]
  exact h2
theorem kWay_1 {o : Int} (h : xK o = 3 + 10) : xK (o + 1) = 1 := by
  obtain ⟨k, rfl, h2⟩ := xsym (fun k => (xTab.getD (k + 1) (0, 0)).1 = 1) h (by decide) (by decide +kernel)
  exact h2
theorem nWay_1 {o : Int} (h : xK o = 3 + 10) : (xN (o + 1) : Int) = 169 := by
  obtain ⟨k, rfl, h2⟩ := xsym (fun k => (xTab.getD (k + 1) (0, 0)).2 = 169) h (by decide) (by decide +kernel)
  exact congrArg Int.ofNat h2
theorem rfWay_2 {o : Int} (h : xK o = 3 + 10) : xRf o 2 = o + 2 ∧ o + 2 ≠ 0 := by
  obtain ⟨k, rfl, h2⟩ := xsym (fun k => (xRT.getD k []).getD 2 0 = (k : Int) + 2) h (by decide) (by decide +kernel)
  have h3 := xK_rg h
  refine ⟨?_, by omega⟩
  unfold xRf
  rw [if_neg (by decide)]
  exact h2
theorem kWay_2 {o : Int} (h : xK o = 3 + 10) : xK (o + 2) = 1 := by
  obtain ⟨k, rfl, h2⟩ := xsym (fun k => (xTab.getD (k + 2) (0, 0)).1 = 1) h (by decide) (by decide +kernel)
  exact h2
theorem nWay_2 {o : Int} (h : xK o = 3 + 10) : (xN (o + 2) : Int) = 24 := by
  obtain ⟨k, rfl, h2⟩ := xsym (fun k => (xTab.getD (k + 2) (0, 0)).2 = 24) h (by decide) (by decide +kernel)
  exact congrArg Int.ofNat h2
theorem rfWay_3 {o : Int} (h : xK o = 3 + 10) : xRf o 3 = o + 3 ∧ o + 3 ≠ 0 := by
  obtain ⟨k, rfl, h2⟩ := xsym (fun k => (xRT.getD k []).getD 3 0 = (k : Int) + 3) h (by decide) (by decide +kernel)
  have h3 := xK_rg h
  refine ⟨?_, by omega⟩
  unfold xRf
  rw [if_neg (by decide)]
  exact h2
theorem kWay_3 {o : Int} (h : xK o = 3 + 10) : xK (o + 3) = 1 := by
  obtain ⟨k, rfl, h2⟩ := xsym (fun k => (xTab.getD (k + 3) (0, 0)).1 = 1) h (by decide) (by decide +kernel)
  exact h2
theorem nWay_3 {o : Int} (h : xK o = 3 + 10) : (xN (o + 3) : Int) = 24 := by
  obtain ⟨k, rfl, h2⟩ := xsym (fun k => (xTab.getD (k + 3) (0, 0)).2 = 24) h (by decide) (by decide +kernel)
  exact congrArg Int.ofNat h2
theorem rfWay_4 {o : Int} (h : xK o = 3 + 10) : xRf o 4 = o + 4 ∧ o + 4 ≠ 0 := by
  obtain ⟨k, rfl, h2⟩ := xsym (fun k => (xRT.getD k []).getD 4 0 = (k : Int) + 4) h (by decide) (by decide +kernel)
  have h3 := xK_rg h
  refine ⟨?_, by omega⟩
  unfold xRf
  rw [if_neg (by decide)]
  exact h2
theorem kWay_4 {o : Int} (h : xK o = 3 + 10) : xK (o + 4) = 1 := by
  obtain ⟨k, rfl, h2⟩ := xsym (fun k => (xTab.getD (k + 4) (0, 0)).1 = 1) h (by decide) (by decide +kernel)
  exact h2
theorem nWay_4 {o : Int} (h : xK o = 3 + 10) : (xN (o + 4) : Int) = 24 := by
  obtain ⟨k, rfl, h2⟩ := xsym (fun k => (xTab.getD (k + 4) (0, 0)).2 = 24) h (by decide) (by decide +kernel)
  exact congrArg Int.ofNat h2
theorem rfWay_5 {o : Int} (h : xK o = 3 + 10) : xRf o 5 = o + 5 ∧ o + 5 ≠ 0 := by
  obtain ⟨k, rfl, h2⟩ := xsym (fun k => (xRT.getD k []).getD 5 0 = (k : Int) + 5) h (by decide) (by decide +kernel)
  have h3 := xK_rg h
  refine ⟨?_, by omega⟩
  unfold xRf
  rw [if_neg (by decide)]
  exact h2
theorem kWay_5 {o : Int} (h : xK o = 3 + 10) : xK (o + 5) = 1 := by
  obtain ⟨k, rfl, h2⟩ := xsym (fun k => (xTab.getD (k + 5) (0, 0)).1 = 1) h (by decide) (by decide +kernel)
  exact h2
theorem nWay_5 {o : Int} (h : xK o = 3 + 10) : (xN (o + 5) : Int) = 24 := by
  obtain ⟨k, rfl, h2⟩ := xsym (fun k => (xTab.getD (k + 5) (0, 0)).2 = 24) h (by decide) (by decide +kernel)
  exact congrArg Int.ofNat h2
