theorem pn_RX0 : plainName RX0 = true := by decide +kernel
theorem pn_RX1 : plainName RX1 = true := by decide +kernel
theorem pn_RX2 : plainName RX2 = true := by decide +kernel
theorem pn_RX3 : plainName RX3 = true := by decide +kernel
theorem pn_RX4 : plainName RX4 = true := by decide +kernel
theorem pn_RX5 : plainName RX5 = true := by decide +kernel
theorem pn_RX6 : plainName RX6 = true := by decide +kernel
theorem pn_RX7 : plainName RX7 = true := by decide +kernel
theorem pn_RJ6 : plainName RJ6 = true := by decide +kernel
abbrev mX6_point : jj_M := (yX6_point, cX6_point, 3, (some .int), 2, 48)
abbrev mX6_back : jj_M := (yX6_back, cX6_back, 1, (some .int), 2, 40)
abbrev mX6_hold : jj_M := (yX6_hold, cX6_hold, 4, (some .int), 1, 22)
abbrev mX6_load : jj_M := (yX6_load, cX6_load, 5, (some .int), 1, 22)
abbrev mX6_bar : jj_M := (yX6_bar, cX6_bar, 2, (some .int), 2, 41)
abbrev mX6_all : jj_M := (yX6_all, cX6_all, 1, (some .int), 2, 40)
abbrev mX6_read : jj_M := (yX6_read, cX6_read, 5, (some .int), 1, 21)
abbrev mX6_info : jj_M := (yX6_info, cX6_info, 3, (some .int), 1, 21)
abbrev mX6_pair : jj_M := (yX6_pair, cX6_pair, 3, (some .int), 3, 62)
abbrev mX6_least : jj_M := (yX6_least, cX6_least, 2, (some .long), 4, 104)
abbrev mX6_fault : jj_M := (yX6_fault, cX6_fault, 1, (some .int), 3, 73)
abbrev mX6_frame : jj_M := (yX6_frame, cX6_frame, 2, (some .int), 4, 104)
abbrev mX6_pull : jj_M := (yX6_pull, cX6_pull, 4, (some .long), 4, 104)
abbrev mX6_without : jj_M := (yX6_without, cX6_without, 3, (some .long), 4, 104)
abbrev mX6_why : jj_M := (yX6_why, cX6_why, 2, (some .int), 3, 73)
abbrev mX6_needed : jj_M := (yX6_needed, cX6_needed, 6, (some .int), 4, 104)
abbrev mX6_dearest : jj_M := (yX6_dearest, cX6_dearest, 6, (some .int), 5, 129)
abbrev mX6_gain : jj_M := (yX6_gain, cX6_gain, 4, (some .long), 4, 104)
abbrev mX6_grow : jj_M := (yX6_grow, cX6_grow, 3, (some .int), 4, 104)
abbrev mX6_prune : jj_M := (yX6_prune, cX6_prune, 3, (some .int), 5, 125)
abbrev mX6_would : jj_M := (yX6_would, cX6_would, 6, (some .long), 3, 84)
abbrev mX6_shift : jj_M := (yX6_shift, cX6_shift, 5, (some .int), 1, 22)
abbrev mX6_stretch : jj_M := (yX6_stretch, cX6_stretch, 3, (some .long), 3, 66)
abbrev mX6_work : jj_M := (yX6_work, cX6_work, 2, (some .long), 3, 64)
abbrev mX6_proves : jj_M := (yX6_proves, cX6_proves, 2, (some .int), 4, 104)
abbrev mX6_cross : jj_M := (yX6_cross, cX6_cross, 4, (some .int), 5, 125)
abbrev mX6_sheet : jj_M := (yX6_sheet, cX6_sheet, 4, (some .int), 1, 23)
abbrev mX6_lose : jj_M := (yX6_lose, cX6_lose, 2, (some .int), 1, 21)
abbrev mX6_put : jj_M := (yX6_put, cX6_put, 6, (some .int), 1, 22)
abbrev mX6_get : jj_M := (yX6_get, cX6_get, 4, (some .long), 1, 22)
abbrev mX6_copy : jj_M := (yX6_copy, cX6_copy, 8, (some .int), 1, 120)
abbrev mX6_write : jj_M := (yX6_write, cX6_write, 8, (some .int), 5, 125)
abbrev mX6_count : jj_M := (yX6_count, cX6_count, 2, (some .int), 5, 129)
abbrev mX6_digest : jj_M := (yX6_digest, cX6_digest, 6, (some .long), 6, 154)
abbrev mX6_digestPair : jj_M := (yX6_digestPair, cX6_digestPair, 7, (some .long), 5, 127)
abbrev mX6_bestNow : jj_M := (yX6_bestNow, cX6_bestNow, 1, (some .int), 3, 84)
abbrev mX6_mostSaving : jj_M := (yX6_mostSaving, cX6_mostSaving, 5, (some .int), 2, 45)
abbrev mX6_crossings : jj_M := (yX6_crossings, cX6_crossings, 2, (some .int), 4, 104)
abbrev mX6_found : jj_M := (yX6_found, cX6_found, 2, (some .int), 0, 0)
abbrev mX6_isBar : jj_M := (yX6_isBar, cX6_isBar, 2, (some .boolean), 2, 41)
abbrev mX6_bitsOrNone : jj_M := (yX6_bitsOrNone, cX6_bitsOrNone, 1, (some .int), 1, 20)
abbrev mX6_asLong : jj_M := (yX6_asLong, cX6_asLong, 1, (some .long), 0, 0)
abbrev mX6_isWithin : jj_M := (yX6_isWithin, cX6_isWithin, 3, (some .boolean), 0, 0)
abbrev mX6_isLoad : jj_M := (yX6_isLoad, cX6_isLoad, 2, (some .boolean), 0, 0)
abbrev mX6_isPart : jj_M := (yX6_isPart, cX6_isPart, 1, (some .boolean), 0, 0)
abbrev mX6_isSheet : jj_M := (yX6_isSheet, cX6_isSheet, 1, (some .boolean), 0, 0)
abbrev mX6_lowest : jj_M := (yX6_lowest, cX6_lowest, 12, (some .long), 1, 21)
abbrev mX7_in : jj_M := (yX7_in, cX7_in, 3, (some .boolean), 0, 0)
abbrev mX7_no : jj_M := (yX7_no, cX7_no, 1, (some .long), 0, 0)
abbrev mX7_divisor : jj_M := (yX7_divisor, cX7_divisor, 10, (some .long), 0, 0)
abbrev mX7_partOf : jj_M := (yX7_partOf, cX7_partOf, 7, (some .long), 1, 29)
abbrev mX7_isPoint : jj_M := (yX7_isPoint, cX7_isPoint, 2, (some .boolean), 1, 22)
abbrev mX7_pairs : jj_M := (yX7_pairs, cX7_pairs, 1, (some .int), 0, 0)
abbrev mX7_isPair : jj_M := (yX7_isPair, cX7_isPair, 2, (some .boolean), 1, 22)
abbrev mX7_isBar : jj_M := (yX7_isBar, cX7_isBar, 2, (some .boolean), 2, 43)
abbrev mX7_greater : jj_M := (yX7_greater, cX7_greater, 2, (some .int), 0, 0)
abbrev mX7_lesser : jj_M := (yX7_lesser, cX7_lesser, 2, (some .int), 1, 21)
abbrev mX7_far : jj_M := (yX7_far, cX7_far, 5, (some .int), 2, 42)
abbrev mX7_quad : jj_M := (yX7_quad, cX7_quad, 2, (some .int), 3, 66)
abbrev mX7_point : jj_M := (yX7_point, cX7_point, 4, (some .int), 1, 22)
abbrev mX7_back : jj_M := (yX7_back, cX7_back, 1, (some .int), 1, 20)
abbrev mX7_hold : jj_M := (yX7_hold, cX7_hold, 4, (some .int), 2, 43)
abbrev mX7_load : jj_M := (yX7_load, cX7_load, 5, (some .int), 2, 43)
abbrev mX7_bar : jj_M := (yX7_bar, cX7_bar, 2, (some .int), 2, 43)
abbrev mX7_all : jj_M := (yX7_all, cX7_all, 1, (some .int), 1, 20)
abbrev mX7_read : jj_M := (yX7_read, cX7_read, 3, (some .int), 2, 42)
abbrev mX7_infoOf : jj_M := (yX7_infoOf, cX7_infoOf, 3, (some .int), 0, 0)
abbrev mX7_info : jj_M := (yX7_info, cX7_info, 3, (some .int), 2, 43)
abbrev mX7_pairOf : jj_M := (yX7_pairOf, cX7_pairOf, 3, (some .int), 4, 87)
abbrev mX7_pair : jj_M := (yX7_pair, cX7_pair, 3, (some .int), 5, 109)
abbrev mX7_isWay : jj_M := (yX7_isWay, cX7_isWay, 2, (some .boolean), 0, 0)
abbrev mX7_brought : jj_M := (yX7_brought, cX7_brought, 4, (some .int), 3, 66)
abbrev mX7_lowers : jj_M := (yX7_lowers, cX7_lowers, 5, none, 1, 29)
abbrev mX7_clears : jj_M := (yX7_clears, cX7_clears, 9, none, 2, 53)
abbrev mX7_adds : jj_M := (yX7_adds, cX7_adds, 6, (some .boolean), 4, 89)
abbrev mX7_faultOf : jj_M := (yX7_faultOf, cX7_faultOf, 3, (some .int), 5, 114)
abbrev mX7_size : jj_M := (yX7_size, cX7_size, 3, (some .int), 0, 0)
abbrev mX7_volumes : jj_M := (yX7_volumes, cX7_volumes, 15, none, 4, 87)
abbrev mX7_finds : jj_M := (yX7_finds, cX7_finds, 2, none, 6, 136)
abbrev mX7_isLess : jj_M := (yX7_isLess, cX7_isLess, 3, (some .boolean), 0, 0)
abbrev mX7_bestOf : jj_M := (yX7_bestOf, cX7_bestOf, 5, (some .int), 7, 157)
abbrev mX7_volumeOf : jj_M := (yX7_volumeOf, cX7_volumeOf, 4, (some .long), 8, 181)
abbrev mX7_least : jj_M := (yX7_least, cX7_least, 2, (some .long), 9, 204)
abbrev mX7_fault : jj_M := (yX7_fault, cX7_fault, 1, (some .int), 6, 136)
abbrev mX7_frameNow : jj_M := (yX7_frameNow, cX7_frameNow, 2, (some .int), 8, 181)
abbrev mX7_frame : jj_M := (yX7_frame, cX7_frame, 1, (some .int), 9, 202)
abbrev mX7_pullOf : jj_M := (yX7_pullOf, cX7_pullOf, 7, (some .long), 8, 181)
abbrev mX7_pull : jj_M := (yX7_pull, cX7_pull, 3, (some .long), 9, 207)
abbrev mX7_without : jj_M := (yX7_without, cX7_without, 3, (some .long), 9, 204)
abbrev mX7_why : jj_M := (yX7_why, cX7_why, 2, (some .int), 6, 136)
abbrev mX7_isNeeded : jj_M := (yX7_isNeeded, cX7_isNeeded, 4, (some .boolean), 8, 181)
abbrev mX7_neededNow : jj_M := (yX7_neededNow, cX7_neededNow, 4, (some .int), 9, 204)
abbrev mX7_needed : jj_M := (yX7_needed, cX7_needed, 1, (some .int), 10, 227)
abbrev mX7_dearestNow : jj_M := (yX7_dearestNow, cX7_dearestNow, 7, (some .int), 10, 227)
abbrev mX7_dearest : jj_M := (yX7_dearest, cX7_dearest, 1, (some .int), 11, 253)
abbrev mX7_gainOf : jj_M := (yX7_gainOf, cX7_gainOf, 5, (some .long), 8, 181)
abbrev mX7_gain : jj_M := (yX7_gain, cX7_gain, 3, (some .long), 9, 205)
abbrev mX7_growing : jj_M := (yX7_growing, cX7_growing, 5, (some .int), 8, 181)
abbrev mX7_grow : jj_M := (yX7_grow, cX7_grow, 3, (some .int), 9, 205)
abbrev mX7_prune : jj_M := (yX7_prune, cX7_prune, 3, (some .int), 8, 181)
abbrev mX7_wouldBe : jj_M := (yX7_wouldBe, cX7_wouldBe, 7, (some .long), 9, 204)
abbrev mX7_would : jj_M := (yX7_would, cX7_would, 5, (some .long), 10, 230)
abbrev mX7_shift : jj_M := (yX7_shift, cX7_shift, 5, (some .int), 2, 43)
abbrev mX7_shiftAt : jj_M := (yX7_shiftAt, cX7_shiftAt, 2, (some .int), 1, 21)
abbrev mX7_stretchOf : jj_M := (yX7_stretchOf, cX7_stretchOf, 4, (some .int), 3, 66)
abbrev mX7_stretch : jj_M := (yX7_stretch, cX7_stretch, 3, (some .long), 4, 89)
abbrev mX7_workNow : jj_M := (yX7_workNow, cX7_workNow, 3, (some .int), 1, 21)
abbrev mX7_work : jj_M := (yX7_work, cX7_work, 2, (some .long), 2, 55)
abbrev mX7_provesNow : jj_M := (yX7_provesNow, cX7_provesNow, 3, (some .int), 8, 181)
abbrev mX7_proves : jj_M := (yX7_proves, cX7_proves, 1, (some .int), 9, 203)
abbrev mX7_isCross : jj_M := (yX7_isCross, cX7_isCross, 7, (some .boolean), 3, 66)
abbrev mX7_crossing : jj_M := (yX7_crossing, cX7_crossing, 8, (some .int), 4, 92)
abbrev mX7_crossings : jj_M := (yX7_crossings, cX7_crossings, 3, (some .int), 8, 181)
abbrev mX7_crossOf : jj_M := (yX7_crossOf, cX7_crossOf, 7, (some .int), 8, 181)
abbrev mX7_cross : jj_M := (yX7_cross, cX7_cross, 3, (some .int), 9, 207)
abbrev mX7_meets : jj_M := (yX7_meets, cX7_meets, 2, (some .int), 0, 0)
abbrev mX7_isSheet : jj_M := (yX7_isSheet, cX7_isSheet, 1, (some .boolean), 1, 22)
abbrev mX7_sheet : jj_M := (yX7_sheet, cX7_sheet, 5, (some .int), 2, 42)
abbrev mX7_lose : jj_M := (yX7_lose, cX7_lose, 2, (some .int), 2, 42)
abbrev mX7_put : jj_M := (yX7_put, cX7_put, 7, (some .int), 2, 42)
abbrev mX7_get : jj_M := (yX7_get, cX7_get, 4, (some .long), 2, 42)
abbrev mX7_copy : jj_M := (yX7_copy, cX7_copy, 7, (some .int), 2, 42)
abbrev mX7_write : jj_M := (yX7_write, cX7_write, 5, (some .int), 9, 207)
abbrev mX7_ways : jj_M := (yX7_ways, cX7_ways, 3, (some .int), 1, 21)
abbrev mX7_count : jj_M := (yX7_count, cX7_count, 3, (some .int), 10, 227)
abbrev mX7_pairDigest : jj_M := (yX7_pairDigest, cX7_pairDigest, 7, (some .long), 10, 226)
abbrev mX7_digest : jj_M := (yX7_digest, cX7_digest, 6, (some .long), 11, 253)
abbrev mX0_gather : jj_M := (yX0_gather, cX0_gather, 6, none, 2, 59)
abbrev mX0_keep : jj_M := (yX0_keep, cX0_keep, 8, none, 1, 28)
abbrev mX0_leastWithin : jj_M := (yX0_leastWithin, cX0_leastWithin, 4, (some .int), 1, 22)
abbrev mX0_isDearer : jj_M := (yX0_isDearer, cX0_isDearer, 3, (some .boolean), 0, 0)
abbrev mX0_volume : jj_M := (yX0_volume, cX0_volume, 3, (some .long), 2, 52)
abbrev mX0_difference : jj_M := (yX0_difference, cX0_difference, 6, (some .long), 2, 52)
abbrev mX0_solve : jj_M := (yX0_solve, cX0_solve, 5, none, 2, 59)
abbrev mX1_pass : jj_M := (yX1_pass, cX1_pass, 8, (some .int), 2, 55)
abbrev mX1_meet : jj_M := (yX1_meet, cX1_meet, 15, (some .boolean), 1, 21)
abbrev mX1_isInside : jj_M := (yX1_isInside, cX1_isInside, 2, (some .boolean), 0, 0)
abbrev mX2_first : jj_M := (yX2_first, cX2_first, 6, (some .int), 2, 48)
abbrev mX2_lay : jj_M := (yX2_lay, cX2_lay, 6, none, 1, 23)
abbrev mX2_reduce : jj_M := (yX2_reduce, cX2_reduce, 12, none, 0, 0)
abbrev mX2_firstOther : jj_M := (yX2_firstOther, cX2_firstOther, 3, (some .int), 0, 0)
abbrev mX3_hasPoint : jj_M := (yX3_hasPoint, cX3_hasPoint, 2, (some .boolean), 0, 0)
abbrev mX3_isTaken : jj_M := (yX3_isTaken, cX3_isTaken, 4, (some .boolean), 0, 0)
abbrev mX3_add : jj_M := (yX3_add, cX3_add, 6, (some .int), 1, 23)
abbrev mX3_measure : jj_M := (yX3_measure, cX3_measure, 4, none, 0, 0)
abbrev mX3_pairs : jj_M := (yX3_pairs, cX3_pairs, 1, (some .int), 0, 0)
abbrev mX3_everyPair : jj_M := (yX3_everyPair, cX3_everyPair, 1, (some .int), 1, 20)
abbrev mX3_hasPair : jj_M := (yX3_hasPair, cX3_hasPair, 2, (some .boolean), 1, 20)
abbrev mX3_isFree : jj_M := (yX3_isFree, cX3_isFree, 2, (some .boolean), 0, 0)
abbrev mX3_ways : jj_M := (yX3_ways, cX3_ways, 3, (some .int), 1, 21)
abbrev mX3_brought : jj_M := (yX3_brought, cX3_brought, 4, (some .int), 0, 0)
abbrev mX3_stretchParts : jj_M := (yX3_stretchParts, cX3_stretchParts, 5, (some .long), 2, 42)
abbrev mX3_workParts : jj_M := (yX3_workParts, cX3_workParts, 3, (some .long), 2, 42)
abbrev mX3_freeShift : jj_M := (yX3_freeShift, cX3_freeShift, 2, (some .int), 1, 21)
abbrev mX4_renew : jj_M := (yX4_renew, cX4_renew, 4, none, 0, 0)
abbrev mX4_hasItems : jj_M := (yX4_hasItems, cX4_hasItems, 3, (some .boolean), 0, 0)
abbrev mX5_lay : jj_M := (yX5_lay, cX5_lay, 7, none, 1, 23)
abbrev mX5_enter : jj_M := (yX5_enter, cX5_enter, 17, (some .boolean), 1, 23)
abbrev mX5_pivotRow : jj_M := (yX5_pivotRow, cX5_pivotRow, 4, (some .int), 0, 0)
abbrev mX5_bears : jj_M := (yX5_bears, cX5_bears, 3, (some .boolean), 0, 0)
abbrev mX5_solve : jj_M := (yX5_solve, cX5_solve, 9, none, 0, 0)
abbrev mJ6_bitCount_0f7a4 : jj_M := (yJ6_bitCount_0f7a4, cJ6_bitCount_0f7a4, 1, (some .int), 0, 0)
set_option maxRecDepth 100000 in
theorem hv_X6_point : jj_V mX6_point 2 := ⟨jj_mem (List.mem_of_getElem? (i := 294) (by decide +kernel)) (by decide +kernel), jj_mem (List.mem_of_getElem? (i := 295) (by decide +kernel)) (by decide +kernel), jj_mem (List.mem_of_getElem? (i := 53) (by decide +kernel)) (by decide +kernel), jj_mem (List.mem_of_getElem? (i := 296) rfl) rfl, by decide +kernel, by decide +kernel, by decide +kernel⟩
set_option maxRecDepth 100000 in
theorem hv_X6_back : jj_V mX6_back 0 := ⟨jj_mem (List.mem_of_getElem? (i := 321) (by decide +kernel)) (by decide +kernel), jj_mem (List.mem_of_getElem? (i := 322) (by decide +kernel)) (by decide +kernel), jj_mem (List.mem_of_getElem? (i := 53) (by decide +kernel)) (by decide +kernel), jj_mem (List.mem_of_getElem? (i := 323) rfl) rfl, by decide +kernel, by decide +kernel, by decide +kernel⟩
set_option maxRecDepth 100000 in
theorem hv_X6_hold : jj_V mX6_hold 2 := ⟨jj_mem (List.mem_of_getElem? (i := 329) (by decide +kernel)) (by decide +kernel), jj_mem (List.mem_of_getElem? (i := 330) (by decide +kernel)) (by decide +kernel), jj_mem (List.mem_of_getElem? (i := 53) (by decide +kernel)) (by decide +kernel), jj_mem (List.mem_of_getElem? (i := 331) rfl) rfl, by decide +kernel, by decide +kernel, by decide +kernel⟩
set_option maxRecDepth 100000 in
theorem hv_X6_load : jj_V mX6_load 3 := ⟨jj_mem (List.mem_of_getElem? (i := 337) (by decide +kernel)) (by decide +kernel), jj_mem (List.mem_of_getElem? (i := 338) (by decide +kernel)) (by decide +kernel), jj_mem (List.mem_of_getElem? (i := 53) (by decide +kernel)) (by decide +kernel), jj_mem (List.mem_of_getElem? (i := 339) rfl) rfl, by decide +kernel, by decide +kernel, by decide +kernel⟩
set_option maxRecDepth 100000 in
theorem hv_X6_bar : jj_V mX6_bar 1 := ⟨jj_mem (List.mem_of_getElem? (i := 347) (by decide +kernel)) (by decide +kernel), jj_mem (List.mem_of_getElem? (i := 348) (by decide +kernel)) (by decide +kernel), jj_mem (List.mem_of_getElem? (i := 53) (by decide +kernel)) (by decide +kernel), jj_mem (List.mem_of_getElem? (i := 349) rfl) rfl, by decide +kernel, by decide +kernel, by decide +kernel⟩
set_option maxRecDepth 100000 in
theorem hv_X6_all : jj_V mX6_all 0 := ⟨jj_mem (List.mem_of_getElem? (i := 355) (by decide +kernel)) (by decide +kernel), jj_mem (List.mem_of_getElem? (i := 356) (by decide +kernel)) (by decide +kernel), jj_mem (List.mem_of_getElem? (i := 53) (by decide +kernel)) (by decide +kernel), jj_mem (List.mem_of_getElem? (i := 357) rfl) rfl, by decide +kernel, by decide +kernel, by decide +kernel⟩
set_option maxRecDepth 100000 in
theorem hv_X6_read : jj_V mX6_read 1 := ⟨jj_mem (List.mem_of_getElem? (i := 360) (by decide +kernel)) (by decide +kernel), jj_mem (List.mem_of_getElem? (i := 361) (by decide +kernel)) (by decide +kernel), jj_mem (List.mem_of_getElem? (i := 53) (by decide +kernel)) (by decide +kernel), jj_mem (List.mem_of_getElem? (i := 362) rfl) rfl, by decide +kernel, by decide +kernel, by decide +kernel⟩
set_option maxRecDepth 100000 in
theorem hv_X6_info : jj_V mX6_info 2 := ⟨jj_mem (List.mem_of_getElem? (i := 374) (by decide +kernel)) (by decide +kernel), jj_mem (List.mem_of_getElem? (i := 375) (by decide +kernel)) (by decide +kernel), jj_mem (List.mem_of_getElem? (i := 53) (by decide +kernel)) (by decide +kernel), jj_mem (List.mem_of_getElem? (i := 376) rfl) rfl, by decide +kernel, by decide +kernel, by decide +kernel⟩
set_option maxRecDepth 100000 in
theorem hv_X6_pair : jj_V mX6_pair 2 := ⟨jj_mem (List.mem_of_getElem? (i := 378) (by decide +kernel)) (by decide +kernel), jj_mem (List.mem_of_getElem? (i := 379) (by decide +kernel)) (by decide +kernel), jj_mem (List.mem_of_getElem? (i := 53) (by decide +kernel)) (by decide +kernel), jj_mem (List.mem_of_getElem? (i := 380) rfl) rfl, by decide +kernel, by decide +kernel, by decide +kernel⟩
set_option maxRecDepth 100000 in
theorem hv_X6_least : jj_V mX6_least 1 := ⟨jj_mem (List.mem_of_getElem? (i := 388) (by decide +kernel)) (by decide +kernel), jj_mem (List.mem_of_getElem? (i := 389) (by decide +kernel)) (by decide +kernel), jj_mem (List.mem_of_getElem? (i := 53) (by decide +kernel)) (by decide +kernel), jj_mem (List.mem_of_getElem? (i := 390) rfl) rfl, by decide +kernel, by decide +kernel, by decide +kernel⟩
set_option maxRecDepth 100000 in
theorem hv_X6_fault : jj_V mX6_fault 0 := ⟨jj_mem (List.mem_of_getElem? (i := 460) (by decide +kernel)) (by decide +kernel), jj_mem (List.mem_of_getElem? (i := 461) (by decide +kernel)) (by decide +kernel), jj_mem (List.mem_of_getElem? (i := 53) (by decide +kernel)) (by decide +kernel), jj_mem (List.mem_of_getElem? (i := 462) rfl) rfl, by decide +kernel, by decide +kernel, by decide +kernel⟩
set_option maxRecDepth 100000 in
theorem hv_X6_frame : jj_V mX6_frame 0 := ⟨jj_mem (List.mem_of_getElem? (i := 483) (by decide +kernel)) (by decide +kernel), jj_mem (List.mem_of_getElem? (i := 484) (by decide +kernel)) (by decide +kernel), jj_mem (List.mem_of_getElem? (i := 53) (by decide +kernel)) (by decide +kernel), jj_mem (List.mem_of_getElem? (i := 485) rfl) rfl, by decide +kernel, by decide +kernel, by decide +kernel⟩
set_option maxRecDepth 100000 in
theorem hv_X6_pull : jj_V mX6_pull 2 := ⟨jj_mem (List.mem_of_getElem? (i := 487) (by decide +kernel)) (by decide +kernel), jj_mem (List.mem_of_getElem? (i := 488) (by decide +kernel)) (by decide +kernel), jj_mem (List.mem_of_getElem? (i := 53) (by decide +kernel)) (by decide +kernel), jj_mem (List.mem_of_getElem? (i := 489) rfl) rfl, by decide +kernel, by decide +kernel, by decide +kernel⟩
set_option maxRecDepth 100000 in
theorem hv_X6_without : jj_V mX6_without 2 := ⟨jj_mem (List.mem_of_getElem? (i := 496) (by decide +kernel)) (by decide +kernel), jj_mem (List.mem_of_getElem? (i := 497) (by decide +kernel)) (by decide +kernel), jj_mem (List.mem_of_getElem? (i := 53) (by decide +kernel)) (by decide +kernel), jj_mem (List.mem_of_getElem? (i := 498) rfl) rfl, by decide +kernel, by decide +kernel, by decide +kernel⟩
set_option maxRecDepth 100000 in
theorem hv_X6_why : jj_V mX6_why 1 := ⟨jj_mem (List.mem_of_getElem? (i := 500) (by decide +kernel)) (by decide +kernel), jj_mem (List.mem_of_getElem? (i := 501) (by decide +kernel)) (by decide +kernel), jj_mem (List.mem_of_getElem? (i := 53) (by decide +kernel)) (by decide +kernel), jj_mem (List.mem_of_getElem? (i := 502) rfl) rfl, by decide +kernel, by decide +kernel, by decide +kernel⟩
set_option maxRecDepth 100000 in
theorem hv_X6_needed : jj_V mX6_needed 0 := ⟨jj_mem (List.mem_of_getElem? (i := 504) (by decide +kernel)) (by decide +kernel), jj_mem (List.mem_of_getElem? (i := 505) (by decide +kernel)) (by decide +kernel), jj_mem (List.mem_of_getElem? (i := 53) (by decide +kernel)) (by decide +kernel), jj_mem (List.mem_of_getElem? (i := 506) rfl) rfl, by decide +kernel, by decide +kernel, by decide +kernel⟩
set_option maxRecDepth 100000 in
theorem hv_X6_dearest : jj_V mX6_dearest 0 := ⟨jj_mem (List.mem_of_getElem? (i := 509) (by decide +kernel)) (by decide +kernel), jj_mem (List.mem_of_getElem? (i := 510) (by decide +kernel)) (by decide +kernel), jj_mem (List.mem_of_getElem? (i := 53) (by decide +kernel)) (by decide +kernel), jj_mem (List.mem_of_getElem? (i := 511) rfl) rfl, by decide +kernel, by decide +kernel, by decide +kernel⟩
set_option maxRecDepth 100000 in
theorem hv_X6_gain : jj_V mX6_gain 2 := ⟨jj_mem (List.mem_of_getElem? (i := 514) (by decide +kernel)) (by decide +kernel), jj_mem (List.mem_of_getElem? (i := 515) (by decide +kernel)) (by decide +kernel), jj_mem (List.mem_of_getElem? (i := 53) (by decide +kernel)) (by decide +kernel), jj_mem (List.mem_of_getElem? (i := 516) rfl) rfl, by decide +kernel, by decide +kernel, by decide +kernel⟩
set_option maxRecDepth 100000 in
theorem hv_X6_grow : jj_V mX6_grow 0 := ⟨jj_mem (List.mem_of_getElem? (i := 522) (by decide +kernel)) (by decide +kernel), jj_mem (List.mem_of_getElem? (i := 523) (by decide +kernel)) (by decide +kernel), jj_mem (List.mem_of_getElem? (i := 53) (by decide +kernel)) (by decide +kernel), jj_mem (List.mem_of_getElem? (i := 524) rfl) rfl, by decide +kernel, by decide +kernel, by decide +kernel⟩
set_option maxRecDepth 100000 in
theorem hv_X6_prune : jj_V mX6_prune 0 := ⟨jj_mem (List.mem_of_getElem? (i := 530) (by decide +kernel)) (by decide +kernel), jj_mem (List.mem_of_getElem? (i := 531) (by decide +kernel)) (by decide +kernel), jj_mem (List.mem_of_getElem? (i := 53) (by decide +kernel)) (by decide +kernel), jj_mem (List.mem_of_getElem? (i := 532) rfl) rfl, by decide +kernel, by decide +kernel, by decide +kernel⟩
set_option maxRecDepth 100000 in
theorem hv_X6_would : jj_V mX6_would 4 := ⟨jj_mem (List.mem_of_getElem? (i := 541) (by decide +kernel)) (by decide +kernel), jj_mem (List.mem_of_getElem? (i := 542) (by decide +kernel)) (by decide +kernel), jj_mem (List.mem_of_getElem? (i := 53) (by decide +kernel)) (by decide +kernel), jj_mem (List.mem_of_getElem? (i := 543) rfl) rfl, by decide +kernel, by decide +kernel, by decide +kernel⟩
set_option maxRecDepth 100000 in
theorem hv_X6_shift : jj_V mX6_shift 3 := ⟨jj_mem (List.mem_of_getElem? (i := 545) (by decide +kernel)) (by decide +kernel), jj_mem (List.mem_of_getElem? (i := 546) (by decide +kernel)) (by decide +kernel), jj_mem (List.mem_of_getElem? (i := 53) (by decide +kernel)) (by decide +kernel), jj_mem (List.mem_of_getElem? (i := 547) rfl) rfl, by decide +kernel, by decide +kernel, by decide +kernel⟩
set_option maxRecDepth 100000 in
theorem hv_X6_stretch : jj_V mX6_stretch 2 := ⟨jj_mem (List.mem_of_getElem? (i := 549) (by decide +kernel)) (by decide +kernel), jj_mem (List.mem_of_getElem? (i := 550) (by decide +kernel)) (by decide +kernel), jj_mem (List.mem_of_getElem? (i := 53) (by decide +kernel)) (by decide +kernel), jj_mem (List.mem_of_getElem? (i := 551) rfl) rfl, by decide +kernel, by decide +kernel, by decide +kernel⟩
set_option maxRecDepth 100000 in
theorem hv_X6_work : jj_V mX6_work 1 := ⟨jj_mem (List.mem_of_getElem? (i := 563) (by decide +kernel)) (by decide +kernel), jj_mem (List.mem_of_getElem? (i := 564) (by decide +kernel)) (by decide +kernel), jj_mem (List.mem_of_getElem? (i := 53) (by decide +kernel)) (by decide +kernel), jj_mem (List.mem_of_getElem? (i := 565) rfl) rfl, by decide +kernel, by decide +kernel, by decide +kernel⟩
set_option maxRecDepth 100000 in
theorem hv_X6_proves : jj_V mX6_proves 0 := ⟨jj_mem (List.mem_of_getElem? (i := 571) (by decide +kernel)) (by decide +kernel), jj_mem (List.mem_of_getElem? (i := 572) (by decide +kernel)) (by decide +kernel), jj_mem (List.mem_of_getElem? (i := 53) (by decide +kernel)) (by decide +kernel), jj_mem (List.mem_of_getElem? (i := 573) rfl) rfl, by decide +kernel, by decide +kernel, by decide +kernel⟩
set_option maxRecDepth 100000 in
theorem hv_X6_cross : jj_V mX6_cross 2 := ⟨jj_mem (List.mem_of_getElem? (i := 575) (by decide +kernel)) (by decide +kernel), jj_mem (List.mem_of_getElem? (i := 576) (by decide +kernel)) (by decide +kernel), jj_mem (List.mem_of_getElem? (i := 53) (by decide +kernel)) (by decide +kernel), jj_mem (List.mem_of_getElem? (i := 577) rfl) rfl, by decide +kernel, by decide +kernel, by decide +kernel⟩
set_option maxRecDepth 100000 in
theorem hv_X6_sheet : jj_V mX6_sheet 3 := ⟨jj_mem (List.mem_of_getElem? (i := 591) (by decide +kernel)) (by decide +kernel), jj_mem (List.mem_of_getElem? (i := 592) (by decide +kernel)) (by decide +kernel), jj_mem (List.mem_of_getElem? (i := 53) (by decide +kernel)) (by decide +kernel), jj_mem (List.mem_of_getElem? (i := 593) rfl) rfl, by decide +kernel, by decide +kernel, by decide +kernel⟩
set_option maxRecDepth 100000 in
theorem hv_X6_lose : jj_V mX6_lose 1 := ⟨jj_mem (List.mem_of_getElem? (i := 599) (by decide +kernel)) (by decide +kernel), jj_mem (List.mem_of_getElem? (i := 600) (by decide +kernel)) (by decide +kernel), jj_mem (List.mem_of_getElem? (i := 53) (by decide +kernel)) (by decide +kernel), jj_mem (List.mem_of_getElem? (i := 601) rfl) rfl, by decide +kernel, by decide +kernel, by decide +kernel⟩
set_option maxRecDepth 100000 in
theorem hv_X6_put : jj_V mX6_put 4 := ⟨jj_mem (List.mem_of_getElem? (i := 603) (by decide +kernel)) (by decide +kernel), jj_mem (List.mem_of_getElem? (i := 604) (by decide +kernel)) (by decide +kernel), jj_mem (List.mem_of_getElem? (i := 53) (by decide +kernel)) (by decide +kernel), jj_mem (List.mem_of_getElem? (i := 605) rfl) rfl, by decide +kernel, by decide +kernel, by decide +kernel⟩
set_option maxRecDepth 100000 in
theorem hv_X6_get : jj_V mX6_get 2 := ⟨jj_mem (List.mem_of_getElem? (i := 609) (by decide +kernel)) (by decide +kernel), jj_mem (List.mem_of_getElem? (i := 610) (by decide +kernel)) (by decide +kernel), jj_mem (List.mem_of_getElem? (i := 53) (by decide +kernel)) (by decide +kernel), jj_mem (List.mem_of_getElem? (i := 611) rfl) rfl, by decide +kernel, by decide +kernel, by decide +kernel⟩
set_option maxRecDepth 100000 in
theorem hv_X6_copy : jj_V mX6_copy 5 := ⟨jj_mem (List.mem_of_getElem? (i := 613) (by decide +kernel)) (by decide +kernel), jj_mem (List.mem_of_getElem? (i := 614) (by decide +kernel)) (by decide +kernel), jj_mem (List.mem_of_getElem? (i := 53) (by decide +kernel)) (by decide +kernel), jj_mem (List.mem_of_getElem? (i := 615) rfl) rfl, by decide +kernel, by decide +kernel, by decide +kernel⟩
set_option maxRecDepth 100000 in
theorem hv_X6_write : jj_V mX6_write 1 := ⟨jj_mem (List.mem_of_getElem? (i := 624) (by decide +kernel)) (by decide +kernel), jj_mem (List.mem_of_getElem? (i := 625) (by decide +kernel)) (by decide +kernel), jj_mem (List.mem_of_getElem? (i := 53) (by decide +kernel)) (by decide +kernel), jj_mem (List.mem_of_getElem? (i := 626) rfl) rfl, by decide +kernel, by decide +kernel, by decide +kernel⟩
set_option maxRecDepth 100000 in
theorem hv_X6_count : jj_V mX6_count 1 := ⟨jj_mem (List.mem_of_getElem? (i := 628) (by decide +kernel)) (by decide +kernel), jj_mem (List.mem_of_getElem? (i := 629) (by decide +kernel)) (by decide +kernel), jj_mem (List.mem_of_getElem? (i := 53) (by decide +kernel)) (by decide +kernel), jj_mem (List.mem_of_getElem? (i := 630) rfl) rfl, by decide +kernel, by decide +kernel, by decide +kernel⟩
set_option maxRecDepth 100000 in
theorem hv_X6_digest : jj_V mX6_digest 0 := ⟨jj_mem (List.mem_of_getElem? (i := 644) (by decide +kernel)) (by decide +kernel), jj_mem (List.mem_of_getElem? (i := 645) (by decide +kernel)) (by decide +kernel), jj_mem (List.mem_of_getElem? (i := 53) (by decide +kernel)) (by decide +kernel), jj_mem (List.mem_of_getElem? (i := 646) rfl) rfl, by decide +kernel, by decide +kernel, by decide +kernel⟩
set_option maxRecDepth 100000 in
theorem hv_X6_digestPair : jj_V mX6_digestPair 2 := ⟨jj_mem (List.mem_of_getElem? (i := 656) (by decide +kernel)) (by decide +kernel), jj_mem (List.mem_of_getElem? (i := 13) (by decide +kernel)) (by decide +kernel), jj_mem (List.mem_of_getElem? (i := 53) (by decide +kernel)) (by decide +kernel), jj_mem (List.mem_of_getElem? (i := 657) rfl) rfl, by decide +kernel, by decide +kernel, by decide +kernel⟩
set_option maxRecDepth 100000 in
theorem hv_X6_bestNow : jj_V mX6_bestNow 0 := ⟨jj_mem (List.mem_of_getElem? (i := 400) (by decide +kernel)) (by decide +kernel), jj_mem (List.mem_of_getElem? (i := 3) (by decide +kernel)) (by decide +kernel), jj_mem (List.mem_of_getElem? (i := 53) (by decide +kernel)) (by decide +kernel), jj_mem (List.mem_of_getElem? (i := 401) rfl) rfl, by decide +kernel, by decide +kernel, by decide +kernel⟩
set_option maxRecDepth 100000 in
theorem hv_X6_mostSaving : jj_V mX6_mostSaving 0 := ⟨jj_mem (List.mem_of_getElem? (i := 527) (by decide +kernel)) (by decide +kernel), jj_mem (List.mem_of_getElem? (i := 9) (by decide +kernel)) (by decide +kernel), jj_mem (List.mem_of_getElem? (i := 53) (by decide +kernel)) (by decide +kernel), jj_mem (List.mem_of_getElem? (i := 528) rfl) rfl, by decide +kernel, by decide +kernel, by decide +kernel⟩
set_option maxRecDepth 100000 in
theorem hv_X6_crossings : jj_V mX6_crossings 0 := ⟨jj_mem (List.mem_of_getElem? (i := 640) (by decide +kernel)) (by decide +kernel), jj_mem (List.mem_of_getElem? (i := 12) (by decide +kernel)) (by decide +kernel), jj_mem (List.mem_of_getElem? (i := 53) (by decide +kernel)) (by decide +kernel), jj_mem (List.mem_of_getElem? (i := 641) rfl) rfl, by decide +kernel, by decide +kernel, by decide +kernel⟩
set_option maxRecDepth 100000 in
theorem hv_X6_found : jj_V mX6_found 1 := ⟨jj_mem (List.mem_of_getElem? (i := 368) (by decide +kernel)) (by decide +kernel), jj_mem (List.mem_of_getElem? (i := 1) (by decide +kernel)) (by decide +kernel), jj_mem (List.mem_of_getElem? (i := 53) (by decide +kernel)) (by decide +kernel), jj_mem (List.mem_of_getElem? (i := 369) rfl) rfl, by decide +kernel, by decide +kernel, by decide +kernel⟩
set_option maxRecDepth 100000 in
theorem hv_X6_isBar : jj_V mX6_isBar 1 := ⟨jj_mem (List.mem_of_getElem? (i := 385) (by decide +kernel)) (by decide +kernel), jj_mem (List.mem_of_getElem? (i := 2) (by decide +kernel)) (by decide +kernel), jj_mem (List.mem_of_getElem? (i := 53) (by decide +kernel)) (by decide +kernel), jj_mem (List.mem_of_getElem? (i := 386) rfl) rfl, by decide +kernel, by decide +kernel, by decide +kernel⟩
set_option maxRecDepth 100000 in
theorem hv_X6_bitsOrNone : jj_U mX6_bitsOrNone 1 := ⟨jj_mem (List.mem_of_getElem? (i := 636) (by decide +kernel)) (by decide +kernel), jj_mem (List.mem_of_getElem? (i := 53) (by decide +kernel)) (by decide +kernel), jj_mem (List.mem_of_getElem? (i := 637) rfl) rfl, by decide +kernel, by decide +kernel, by decide +kernel⟩
set_option maxRecDepth 100000 in
theorem hv_X6_asLong : jj_U mX6_asLong 1 := ⟨jj_mem (List.mem_of_getElem? (i := 395) (by decide +kernel)) (by decide +kernel), jj_mem (List.mem_of_getElem? (i := 53) (by decide +kernel)) (by decide +kernel), jj_mem (List.mem_of_getElem? (i := 396) rfl) rfl, by decide +kernel, by decide +kernel, by decide +kernel⟩
set_option maxRecDepth 100000 in
theorem hv_X6_isWithin : jj_U mX6_isWithin 3 := ⟨jj_mem (List.mem_of_getElem? (i := 298) (by decide +kernel)) (by decide +kernel), jj_mem (List.mem_of_getElem? (i := 53) (by decide +kernel)) (by decide +kernel), jj_mem (List.mem_of_getElem? (i := 299) rfl) rfl, by decide +kernel, by decide +kernel, by decide +kernel⟩
set_option maxRecDepth 100000 in
theorem hv_X6_isLoad : jj_U mX6_isLoad 1 := ⟨jj_mem (List.mem_of_getElem? (i := 341) (by decide +kernel)) (by decide +kernel), jj_mem (List.mem_of_getElem? (i := 53) (by decide +kernel)) (by decide +kernel), jj_mem (List.mem_of_getElem? (i := 342) rfl) rfl, by decide +kernel, by decide +kernel, by decide +kernel⟩
set_option maxRecDepth 100000 in
theorem hv_X6_isPart : jj_U mX6_isPart 1 := ⟨jj_mem (List.mem_of_getElem? (i := 392) (by decide +kernel)) (by decide +kernel), jj_mem (List.mem_of_getElem? (i := 53) (by decide +kernel)) (by decide +kernel), jj_mem (List.mem_of_getElem? (i := 393) rfl) rfl, by decide +kernel, by decide +kernel, by decide +kernel⟩
set_option maxRecDepth 100000 in
theorem hv_X6_isSheet : jj_U mX6_isSheet 1 := ⟨jj_mem (List.mem_of_getElem? (i := 364) (by decide +kernel)) (by decide +kernel), jj_mem (List.mem_of_getElem? (i := 53) (by decide +kernel)) (by decide +kernel), jj_mem (List.mem_of_getElem? (i := 365) rfl) rfl, by decide +kernel, by decide +kernel, by decide +kernel⟩
set_option maxRecDepth 100000 in
theorem hv_X6_lowest : jj_U mX6_lowest 3 := ⟨jj_mem (List.mem_of_getElem? (i := 456) (by decide +kernel)) (by decide +kernel), jj_mem (List.mem_of_getElem? (i := 53) (by decide +kernel)) (by decide +kernel), jj_mem (List.mem_of_getElem? (i := 457) rfl) rfl, by decide +kernel, by decide +kernel, by decide +kernel⟩
set_option maxRecDepth 100000 in
theorem hv_X7_in : jj_U mX7_in 3 := ⟨jj_mem (List.mem_of_getElem? (i := 745) (by decide +kernel)) (by decide +kernel), jj_mem (List.mem_of_getElem? (i := 60) (by decide +kernel)) (by decide +kernel), jj_mem (List.mem_of_getElem? (i := 746) rfl) rfl, by decide +kernel, by decide +kernel, by decide +kernel⟩
set_option maxRecDepth 100000 in
theorem hv_X7_no : jj_U mX7_no 1 := ⟨jj_mem (List.mem_of_getElem? (i := 881) (by decide +kernel)) (by decide +kernel), jj_mem (List.mem_of_getElem? (i := 60) (by decide +kernel)) (by decide +kernel), jj_mem (List.mem_of_getElem? (i := 882) rfl) rfl, by decide +kernel, by decide +kernel, by decide +kernel⟩
set_option maxRecDepth 100000 in
theorem hv_X7_divisor : jj_U mX7_divisor 2 := ⟨jj_mem (List.mem_of_getElem? (i := 864) (by decide +kernel)) (by decide +kernel), jj_mem (List.mem_of_getElem? (i := 60) (by decide +kernel)) (by decide +kernel), jj_mem (List.mem_of_getElem? (i := 865) rfl) rfl, by decide +kernel, by decide +kernel, by decide +kernel⟩
set_option maxRecDepth 100000 in
theorem hv_X7_partOf : jj_U mX7_partOf 3 := ⟨jj_mem (List.mem_of_getElem? (i := 874) (by decide +kernel)) (by decide +kernel), jj_mem (List.mem_of_getElem? (i := 60) (by decide +kernel)) (by decide +kernel), jj_mem (List.mem_of_getElem? (i := 875) rfl) rfl, by decide +kernel, by decide +kernel, by decide +kernel⟩
set_option maxRecDepth 100000 in
theorem hv_X7_isPoint : jj_V mX7_isPoint 1 := ⟨jj_mem (List.mem_of_getElem? (i := 761) (by decide +kernel)) (by decide +kernel), jj_mem (List.mem_of_getElem? (i := 15) (by decide +kernel)) (by decide +kernel), jj_mem (List.mem_of_getElem? (i := 60) (by decide +kernel)) (by decide +kernel), jj_mem (List.mem_of_getElem? (i := 762) rfl) rfl, by decide +kernel, by decide +kernel, by decide +kernel⟩
set_option maxRecDepth 100000 in
theorem hv_X7_pairs : jj_V mX7_pairs 0 := ⟨jj_mem (List.mem_of_getElem? (i := 753) (by decide +kernel)) (by decide +kernel), jj_mem (List.mem_of_getElem? (i := 14) (by decide +kernel)) (by decide +kernel), jj_mem (List.mem_of_getElem? (i := 60) (by decide +kernel)) (by decide +kernel), jj_mem (List.mem_of_getElem? (i := 754) rfl) rfl, by decide +kernel, by decide +kernel, by decide +kernel⟩
set_option maxRecDepth 100000 in
theorem hv_X7_isPair : jj_V mX7_isPair 1 := ⟨jj_mem (List.mem_of_getElem? (i := 774) (by decide +kernel)) (by decide +kernel), jj_mem (List.mem_of_getElem? (i := 16) (by decide +kernel)) (by decide +kernel), jj_mem (List.mem_of_getElem? (i := 60) (by decide +kernel)) (by decide +kernel), jj_mem (List.mem_of_getElem? (i := 775) rfl) rfl, by decide +kernel, by decide +kernel, by decide +kernel⟩
set_option maxRecDepth 100000 in
theorem hv_X7_isBar : jj_V mX7_isBar 1 := ⟨jj_mem (List.mem_of_getElem? (i := 910) (by decide +kernel)) (by decide +kernel), jj_mem (List.mem_of_getElem? (i := 35) (by decide +kernel)) (by decide +kernel), jj_mem (List.mem_of_getElem? (i := 60) (by decide +kernel)) (by decide +kernel), jj_mem (List.mem_of_getElem? (i := 911) rfl) rfl, by decide +kernel, by decide +kernel, by decide +kernel⟩
set_option maxRecDepth 100000 in
theorem hv_X7_greater : jj_U mX7_greater 1 := ⟨jj_mem (List.mem_of_getElem? (i := 813) (by decide +kernel)) (by decide +kernel), jj_mem (List.mem_of_getElem? (i := 60) (by decide +kernel)) (by decide +kernel), jj_mem (List.mem_of_getElem? (i := 814) rfl) rfl, by decide +kernel, by decide +kernel, by decide +kernel⟩
set_option maxRecDepth 100000 in
theorem hv_X7_lesser : jj_U mX7_lesser 1 := ⟨jj_mem (List.mem_of_getElem? (i := 810) (by decide +kernel)) (by decide +kernel), jj_mem (List.mem_of_getElem? (i := 60) (by decide +kernel)) (by decide +kernel), jj_mem (List.mem_of_getElem? (i := 811) rfl) rfl, by decide +kernel, by decide +kernel, by decide +kernel⟩
set_option maxRecDepth 100000 in
theorem hv_X7_far : jj_V mX7_far 2 := ⟨jj_mem (List.mem_of_getElem? (i := 821) (by decide +kernel)) (by decide +kernel), jj_mem (List.mem_of_getElem? (i := 21) (by decide +kernel)) (by decide +kernel), jj_mem (List.mem_of_getElem? (i := 60) (by decide +kernel)) (by decide +kernel), jj_mem (List.mem_of_getElem? (i := 822) rfl) rfl, by decide +kernel, by decide +kernel, by decide +kernel⟩
set_option maxRecDepth 100000 in
theorem hv_X7_quad : jj_V mX7_quad 1 := ⟨jj_mem (List.mem_of_getElem? (i := 817) (by decide +kernel)) (by decide +kernel), jj_mem (List.mem_of_getElem? (i := 20) (by decide +kernel)) (by decide +kernel), jj_mem (List.mem_of_getElem? (i := 60) (by decide +kernel)) (by decide +kernel), jj_mem (List.mem_of_getElem? (i := 818) rfl) rfl, by decide +kernel, by decide +kernel, by decide +kernel⟩
set_option maxRecDepth 100000 in
theorem hv_X7_point : jj_V mX7_point 2 := ⟨jj_mem (List.mem_of_getElem? (i := 741) (by decide +kernel)) (by decide +kernel), jj_mem (List.mem_of_getElem? (i := 742) (by decide +kernel)) (by decide +kernel), jj_mem (List.mem_of_getElem? (i := 60) (by decide +kernel)) (by decide +kernel), jj_mem (List.mem_of_getElem? (i := 743) rfl) rfl, by decide +kernel, by decide +kernel, by decide +kernel⟩
set_option maxRecDepth 100000 in
theorem hv_X7_back : jj_V mX7_back 0 := ⟨jj_mem (List.mem_of_getElem? (i := 748) (by decide +kernel)) (by decide +kernel), jj_mem (List.mem_of_getElem? (i := 749) (by decide +kernel)) (by decide +kernel), jj_mem (List.mem_of_getElem? (i := 60) (by decide +kernel)) (by decide +kernel), jj_mem (List.mem_of_getElem? (i := 750) rfl) rfl, by decide +kernel, by decide +kernel, by decide +kernel⟩
set_option maxRecDepth 100000 in
theorem hv_X7_hold : jj_V mX7_hold 2 := ⟨jj_mem (List.mem_of_getElem? (i := 756) (by decide +kernel)) (by decide +kernel), jj_mem (List.mem_of_getElem? (i := 757) (by decide +kernel)) (by decide +kernel), jj_mem (List.mem_of_getElem? (i := 60) (by decide +kernel)) (by decide +kernel), jj_mem (List.mem_of_getElem? (i := 758) rfl) rfl, by decide +kernel, by decide +kernel, by decide +kernel⟩
set_option maxRecDepth 100000 in
theorem hv_X7_load : jj_V mX7_load 3 := ⟨jj_mem (List.mem_of_getElem? (i := 764) (by decide +kernel)) (by decide +kernel), jj_mem (List.mem_of_getElem? (i := 765) (by decide +kernel)) (by decide +kernel), jj_mem (List.mem_of_getElem? (i := 60) (by decide +kernel)) (by decide +kernel), jj_mem (List.mem_of_getElem? (i := 766) rfl) rfl, by decide +kernel, by decide +kernel, by decide +kernel⟩
set_option maxRecDepth 100000 in
theorem hv_X7_bar : jj_V mX7_bar 1 := ⟨jj_mem (List.mem_of_getElem? (i := 769) (by decide +kernel)) (by decide +kernel), jj_mem (List.mem_of_getElem? (i := 770) (by decide +kernel)) (by decide +kernel), jj_mem (List.mem_of_getElem? (i := 60) (by decide +kernel)) (by decide +kernel), jj_mem (List.mem_of_getElem? (i := 771) rfl) rfl, by decide +kernel, by decide +kernel, by decide +kernel⟩
set_option maxRecDepth 100000 in
theorem hv_X7_all : jj_V mX7_all 0 := ⟨jj_mem (List.mem_of_getElem? (i := 777) (by decide +kernel)) (by decide +kernel), jj_mem (List.mem_of_getElem? (i := 778) (by decide +kernel)) (by decide +kernel), jj_mem (List.mem_of_getElem? (i := 60) (by decide +kernel)) (by decide +kernel), jj_mem (List.mem_of_getElem? (i := 779) rfl) rfl, by decide +kernel, by decide +kernel, by decide +kernel⟩
set_option maxRecDepth 100000 in
theorem hv_X7_read : jj_V mX7_read 1 := ⟨jj_mem (List.mem_of_getElem? (i := 781) (by decide +kernel)) (by decide +kernel), jj_mem (List.mem_of_getElem? (i := 782) (by decide +kernel)) (by decide +kernel), jj_mem (List.mem_of_getElem? (i := 60) (by decide +kernel)) (by decide +kernel), jj_mem (List.mem_of_getElem? (i := 783) rfl) rfl, by decide +kernel, by decide +kernel, by decide +kernel⟩
set_option maxRecDepth 100000 in
theorem hv_X7_infoOf : jj_V mX7_infoOf 2 := ⟨jj_mem (List.mem_of_getElem? (i := 799) (by decide +kernel)) (by decide +kernel), jj_mem (List.mem_of_getElem? (i := 18) (by decide +kernel)) (by decide +kernel), jj_mem (List.mem_of_getElem? (i := 60) (by decide +kernel)) (by decide +kernel), jj_mem (List.mem_of_getElem? (i := 800) rfl) rfl, by decide +kernel, by decide +kernel, by decide +kernel⟩
set_option maxRecDepth 100000 in
theorem hv_X7_info : jj_V mX7_info 2 := ⟨jj_mem (List.mem_of_getElem? (i := 794) (by decide +kernel)) (by decide +kernel), jj_mem (List.mem_of_getElem? (i := 795) (by decide +kernel)) (by decide +kernel), jj_mem (List.mem_of_getElem? (i := 60) (by decide +kernel)) (by decide +kernel), jj_mem (List.mem_of_getElem? (i := 796) rfl) rfl, by decide +kernel, by decide +kernel, by decide +kernel⟩
set_option maxRecDepth 100000 in
theorem hv_X7_pairOf : jj_V mX7_pairOf 2 := ⟨jj_mem (List.mem_of_getElem? (i := 807) (by decide +kernel)) (by decide +kernel), jj_mem (List.mem_of_getElem? (i := 19) (by decide +kernel)) (by decide +kernel), jj_mem (List.mem_of_getElem? (i := 60) (by decide +kernel)) (by decide +kernel), jj_mem (List.mem_of_getElem? (i := 808) rfl) rfl, by decide +kernel, by decide +kernel, by decide +kernel⟩
set_option maxRecDepth 100000 in
theorem hv_X7_pair : jj_V mX7_pair 2 := ⟨jj_mem (List.mem_of_getElem? (i := 802) (by decide +kernel)) (by decide +kernel), jj_mem (List.mem_of_getElem? (i := 803) (by decide +kernel)) (by decide +kernel), jj_mem (List.mem_of_getElem? (i := 60) (by decide +kernel)) (by decide +kernel), jj_mem (List.mem_of_getElem? (i := 804) rfl) rfl, by decide +kernel, by decide +kernel, by decide +kernel⟩
set_option maxRecDepth 100000 in
theorem hv_X7_isWay : jj_V mX7_isWay 1 := ⟨jj_mem (List.mem_of_getElem? (i := 845) (by decide +kernel)) (by decide +kernel), jj_mem (List.mem_of_getElem? (i := 26) (by decide +kernel)) (by decide +kernel), jj_mem (List.mem_of_getElem? (i := 60) (by decide +kernel)) (by decide +kernel), jj_mem (List.mem_of_getElem? (i := 846) rfl) rfl, by decide +kernel, by decide +kernel, by decide +kernel⟩
set_option maxRecDepth 100000 in
theorem hv_X7_brought : jj_V mX7_brought 2 := ⟨jj_mem (List.mem_of_getElem? (i := 853) (by decide +kernel)) (by decide +kernel), jj_mem (List.mem_of_getElem? (i := 28) (by decide +kernel)) (by decide +kernel), jj_mem (List.mem_of_getElem? (i := 60) (by decide +kernel)) (by decide +kernel), jj_mem (List.mem_of_getElem? (i := 854) rfl) rfl, by decide +kernel, by decide +kernel, by decide +kernel⟩
set_option maxRecDepth 100000 in
theorem hv_X7_lowers : jj_V mX7_lowers 1 := ⟨jj_mem (List.mem_of_getElem? (i := 861) (by decide +kernel)) (by decide +kernel), jj_mem (List.mem_of_getElem? (i := 30) (by decide +kernel)) (by decide +kernel), jj_mem (List.mem_of_getElem? (i := 60) (by decide +kernel)) (by decide +kernel), jj_mem (List.mem_of_getElem? (i := 862) rfl) rfl, by decide +kernel, by decide +kernel, by decide +kernel⟩
set_option maxRecDepth 100000 in
theorem hv_X7_clears : jj_V mX7_clears 3 := ⟨jj_mem (List.mem_of_getElem? (i := 857) (by decide +kernel)) (by decide +kernel), jj_mem (List.mem_of_getElem? (i := 29) (by decide +kernel)) (by decide +kernel), jj_mem (List.mem_of_getElem? (i := 60) (by decide +kernel)) (by decide +kernel), jj_mem (List.mem_of_getElem? (i := 858) rfl) rfl, by decide +kernel, by decide +kernel, by decide +kernel⟩
set_option maxRecDepth 100000 in
theorem hv_X7_adds : jj_V mX7_adds 2 := ⟨jj_mem (List.mem_of_getElem? (i := 849) (by decide +kernel)) (by decide +kernel), jj_mem (List.mem_of_getElem? (i := 27) (by decide +kernel)) (by decide +kernel), jj_mem (List.mem_of_getElem? (i := 60) (by decide +kernel)) (by decide +kernel), jj_mem (List.mem_of_getElem? (i := 850) rfl) rfl, by decide +kernel, by decide +kernel, by decide +kernel⟩
set_option maxRecDepth 100000 in
theorem hv_X7_faultOf : jj_V mX7_faultOf 1 := ⟨jj_mem (List.mem_of_getElem? (i := 841) (by decide +kernel)) (by decide +kernel), jj_mem (List.mem_of_getElem? (i := 25) (by decide +kernel)) (by decide +kernel), jj_mem (List.mem_of_getElem? (i := 60) (by decide +kernel)) (by decide +kernel), jj_mem (List.mem_of_getElem? (i := 842) rfl) rfl, by decide +kernel, by decide +kernel, by decide +kernel⟩
set_option maxRecDepth 100000 in
theorem hv_X7_size : jj_U mX7_size 1 := ⟨jj_mem (List.mem_of_getElem? (i := 867) (by decide +kernel)) (by decide +kernel), jj_mem (List.mem_of_getElem? (i := 60) (by decide +kernel)) (by decide +kernel), jj_mem (List.mem_of_getElem? (i := 868) rfl) rfl, by decide +kernel, by decide +kernel, by decide +kernel⟩
set_option maxRecDepth 100000 in
theorem hv_X7_volumes : jj_V mX7_volumes 1 := ⟨jj_mem (List.mem_of_getElem? (i := 871) (by decide +kernel)) (by decide +kernel), jj_mem (List.mem_of_getElem? (i := 31) (by decide +kernel)) (by decide +kernel), jj_mem (List.mem_of_getElem? (i := 60) (by decide +kernel)) (by decide +kernel), jj_mem (List.mem_of_getElem? (i := 872) rfl) rfl, by decide +kernel, by decide +kernel, by decide +kernel⟩
set_option maxRecDepth 100000 in
theorem hv_X7_finds : jj_V mX7_finds 0 := ⟨jj_mem (List.mem_of_getElem? (i := 837) (by decide +kernel)) (by decide +kernel), jj_mem (List.mem_of_getElem? (i := 24) (by decide +kernel)) (by decide +kernel), jj_mem (List.mem_of_getElem? (i := 60) (by decide +kernel)) (by decide +kernel), jj_mem (List.mem_of_getElem? (i := 838) rfl) rfl, by decide +kernel, by decide +kernel, by decide +kernel⟩
set_option maxRecDepth 100000 in
theorem hv_X7_isLess : jj_V mX7_isLess 2 := ⟨jj_mem (List.mem_of_getElem? (i := 878) (by decide +kernel)) (by decide +kernel), jj_mem (List.mem_of_getElem? (i := 32) (by decide +kernel)) (by decide +kernel), jj_mem (List.mem_of_getElem? (i := 60) (by decide +kernel)) (by decide +kernel), jj_mem (List.mem_of_getElem? (i := 879) rfl) rfl, by decide +kernel, by decide +kernel, by decide +kernel⟩
set_option maxRecDepth 100000 in
theorem hv_X7_bestOf : jj_V mX7_bestOf 1 := ⟨jj_mem (List.mem_of_getElem? (i := 833) (by decide +kernel)) (by decide +kernel), jj_mem (List.mem_of_getElem? (i := 23) (by decide +kernel)) (by decide +kernel), jj_mem (List.mem_of_getElem? (i := 60) (by decide +kernel)) (by decide +kernel), jj_mem (List.mem_of_getElem? (i := 834) rfl) rfl, by decide +kernel, by decide +kernel, by decide +kernel⟩
set_option maxRecDepth 100000 in
theorem hv_X7_volumeOf : jj_V mX7_volumeOf 2 := ⟨jj_mem (List.mem_of_getElem? (i := 829) (by decide +kernel)) (by decide +kernel), jj_mem (List.mem_of_getElem? (i := 22) (by decide +kernel)) (by decide +kernel), jj_mem (List.mem_of_getElem? (i := 60) (by decide +kernel)) (by decide +kernel), jj_mem (List.mem_of_getElem? (i := 830) rfl) rfl, by decide +kernel, by decide +kernel, by decide +kernel⟩
set_option maxRecDepth 100000 in
theorem hv_X7_least : jj_V mX7_least 1 := ⟨jj_mem (List.mem_of_getElem? (i := 824) (by decide +kernel)) (by decide +kernel), jj_mem (List.mem_of_getElem? (i := 825) (by decide +kernel)) (by decide +kernel), jj_mem (List.mem_of_getElem? (i := 60) (by decide +kernel)) (by decide +kernel), jj_mem (List.mem_of_getElem? (i := 826) rfl) rfl, by decide +kernel, by decide +kernel, by decide +kernel⟩
set_option maxRecDepth 100000 in
theorem hv_X7_fault : jj_V mX7_fault 0 := ⟨jj_mem (List.mem_of_getElem? (i := 885) (by decide +kernel)) (by decide +kernel), jj_mem (List.mem_of_getElem? (i := 886) (by decide +kernel)) (by decide +kernel), jj_mem (List.mem_of_getElem? (i := 60) (by decide +kernel)) (by decide +kernel), jj_mem (List.mem_of_getElem? (i := 887) rfl) rfl, by decide +kernel, by decide +kernel, by decide +kernel⟩
set_option maxRecDepth 100000 in
theorem hv_X7_frameNow : jj_V mX7_frameNow 0 := ⟨jj_mem (List.mem_of_getElem? (i := 894) (by decide +kernel)) (by decide +kernel), jj_mem (List.mem_of_getElem? (i := 33) (by decide +kernel)) (by decide +kernel), jj_mem (List.mem_of_getElem? (i := 60) (by decide +kernel)) (by decide +kernel), jj_mem (List.mem_of_getElem? (i := 895) rfl) rfl, by decide +kernel, by decide +kernel, by decide +kernel⟩
set_option maxRecDepth 100000 in
theorem hv_X7_frame : jj_V mX7_frame 0 := ⟨jj_mem (List.mem_of_getElem? (i := 889) (by decide +kernel)) (by decide +kernel), jj_mem (List.mem_of_getElem? (i := 890) (by decide +kernel)) (by decide +kernel), jj_mem (List.mem_of_getElem? (i := 60) (by decide +kernel)) (by decide +kernel), jj_mem (List.mem_of_getElem? (i := 891) rfl) rfl, by decide +kernel, by decide +kernel, by decide +kernel⟩
set_option maxRecDepth 100000 in
theorem hv_X7_pullOf : jj_V mX7_pullOf 2 := ⟨jj_mem (List.mem_of_getElem? (i := 902) (by decide +kernel)) (by decide +kernel), jj_mem (List.mem_of_getElem? (i := 34) (by decide +kernel)) (by decide +kernel), jj_mem (List.mem_of_getElem? (i := 60) (by decide +kernel)) (by decide +kernel), jj_mem (List.mem_of_getElem? (i := 903) rfl) rfl, by decide +kernel, by decide +kernel, by decide +kernel⟩
set_option maxRecDepth 100000 in
theorem hv_X7_pull : jj_V mX7_pull 2 := ⟨jj_mem (List.mem_of_getElem? (i := 897) (by decide +kernel)) (by decide +kernel), jj_mem (List.mem_of_getElem? (i := 898) (by decide +kernel)) (by decide +kernel), jj_mem (List.mem_of_getElem? (i := 60) (by decide +kernel)) (by decide +kernel), jj_mem (List.mem_of_getElem? (i := 899) rfl) rfl, by decide +kernel, by decide +kernel, by decide +kernel⟩
set_option maxRecDepth 100000 in
theorem hv_X7_without : jj_V mX7_without 2 := ⟨jj_mem (List.mem_of_getElem? (i := 905) (by decide +kernel)) (by decide +kernel), jj_mem (List.mem_of_getElem? (i := 906) (by decide +kernel)) (by decide +kernel), jj_mem (List.mem_of_getElem? (i := 60) (by decide +kernel)) (by decide +kernel), jj_mem (List.mem_of_getElem? (i := 907) rfl) rfl, by decide +kernel, by decide +kernel, by decide +kernel⟩
set_option maxRecDepth 100000 in
theorem hv_X7_why : jj_V mX7_why 1 := ⟨jj_mem (List.mem_of_getElem? (i := 913) (by decide +kernel)) (by decide +kernel), jj_mem (List.mem_of_getElem? (i := 914) (by decide +kernel)) (by decide +kernel), jj_mem (List.mem_of_getElem? (i := 60) (by decide +kernel)) (by decide +kernel), jj_mem (List.mem_of_getElem? (i := 915) rfl) rfl, by decide +kernel, by decide +kernel, by decide +kernel⟩
set_option maxRecDepth 100000 in
theorem hv_X7_isNeeded : jj_V mX7_isNeeded 2 := ⟨jj_mem (List.mem_of_getElem? (i := 926) (by decide +kernel)) (by decide +kernel), jj_mem (List.mem_of_getElem? (i := 37) (by decide +kernel)) (by decide +kernel), jj_mem (List.mem_of_getElem? (i := 60) (by decide +kernel)) (by decide +kernel), jj_mem (List.mem_of_getElem? (i := 927) rfl) rfl, by decide +kernel, by decide +kernel, by decide +kernel⟩
set_option maxRecDepth 100000 in
theorem hv_X7_neededNow : jj_V mX7_neededNow 0 := ⟨jj_mem (List.mem_of_getElem? (i := 922) (by decide +kernel)) (by decide +kernel), jj_mem (List.mem_of_getElem? (i := 36) (by decide +kernel)) (by decide +kernel), jj_mem (List.mem_of_getElem? (i := 60) (by decide +kernel)) (by decide +kernel), jj_mem (List.mem_of_getElem? (i := 923) rfl) rfl, by decide +kernel, by decide +kernel, by decide +kernel⟩
set_option maxRecDepth 100000 in
theorem hv_X7_needed : jj_V mX7_needed 0 := ⟨jj_mem (List.mem_of_getElem? (i := 917) (by decide +kernel)) (by decide +kernel), jj_mem (List.mem_of_getElem? (i := 918) (by decide +kernel)) (by decide +kernel), jj_mem (List.mem_of_getElem? (i := 60) (by decide +kernel)) (by decide +kernel), jj_mem (List.mem_of_getElem? (i := 919) rfl) rfl, by decide +kernel, by decide +kernel, by decide +kernel⟩
set_option maxRecDepth 100000 in
theorem hv_X7_dearestNow : jj_V mX7_dearestNow 0 := ⟨jj_mem (List.mem_of_getElem? (i := 934) (by decide +kernel)) (by decide +kernel), jj_mem (List.mem_of_getElem? (i := 38) (by decide +kernel)) (by decide +kernel), jj_mem (List.mem_of_getElem? (i := 60) (by decide +kernel)) (by decide +kernel), jj_mem (List.mem_of_getElem? (i := 935) rfl) rfl, by decide +kernel, by decide +kernel, by decide +kernel⟩
set_option maxRecDepth 100000 in
theorem hv_X7_dearest : jj_V mX7_dearest 0 := ⟨jj_mem (List.mem_of_getElem? (i := 929) (by decide +kernel)) (by decide +kernel), jj_mem (List.mem_of_getElem? (i := 930) (by decide +kernel)) (by decide +kernel), jj_mem (List.mem_of_getElem? (i := 60) (by decide +kernel)) (by decide +kernel), jj_mem (List.mem_of_getElem? (i := 931) rfl) rfl, by decide +kernel, by decide +kernel, by decide +kernel⟩
set_option maxRecDepth 100000 in
theorem hv_X7_gainOf : jj_V mX7_gainOf 2 := ⟨jj_mem (List.mem_of_getElem? (i := 942) (by decide +kernel)) (by decide +kernel), jj_mem (List.mem_of_getElem? (i := 39) (by decide +kernel)) (by decide +kernel), jj_mem (List.mem_of_getElem? (i := 60) (by decide +kernel)) (by decide +kernel), jj_mem (List.mem_of_getElem? (i := 943) rfl) rfl, by decide +kernel, by decide +kernel, by decide +kernel⟩
set_option maxRecDepth 100000 in
theorem hv_X7_gain : jj_V mX7_gain 2 := ⟨jj_mem (List.mem_of_getElem? (i := 937) (by decide +kernel)) (by decide +kernel), jj_mem (List.mem_of_getElem? (i := 938) (by decide +kernel)) (by decide +kernel), jj_mem (List.mem_of_getElem? (i := 60) (by decide +kernel)) (by decide +kernel), jj_mem (List.mem_of_getElem? (i := 939) rfl) rfl, by decide +kernel, by decide +kernel, by decide +kernel⟩
set_option maxRecDepth 100000 in
theorem hv_X7_growing : jj_V mX7_growing 0 := ⟨jj_mem (List.mem_of_getElem? (i := 950) (by decide +kernel)) (by decide +kernel), jj_mem (List.mem_of_getElem? (i := 40) (by decide +kernel)) (by decide +kernel), jj_mem (List.mem_of_getElem? (i := 60) (by decide +kernel)) (by decide +kernel), jj_mem (List.mem_of_getElem? (i := 951) rfl) rfl, by decide +kernel, by decide +kernel, by decide +kernel⟩
set_option maxRecDepth 100000 in
theorem hv_X7_grow : jj_V mX7_grow 0 := ⟨jj_mem (List.mem_of_getElem? (i := 945) (by decide +kernel)) (by decide +kernel), jj_mem (List.mem_of_getElem? (i := 946) (by decide +kernel)) (by decide +kernel), jj_mem (List.mem_of_getElem? (i := 60) (by decide +kernel)) (by decide +kernel), jj_mem (List.mem_of_getElem? (i := 947) rfl) rfl, by decide +kernel, by decide +kernel, by decide +kernel⟩
set_option maxRecDepth 100000 in
theorem hv_X7_prune : jj_V mX7_prune 0 := ⟨jj_mem (List.mem_of_getElem? (i := 953) (by decide +kernel)) (by decide +kernel), jj_mem (List.mem_of_getElem? (i := 954) (by decide +kernel)) (by decide +kernel), jj_mem (List.mem_of_getElem? (i := 60) (by decide +kernel)) (by decide +kernel), jj_mem (List.mem_of_getElem? (i := 955) rfl) rfl, by decide +kernel, by decide +kernel, by decide +kernel⟩
set_option maxRecDepth 100000 in
theorem hv_X7_wouldBe : jj_V mX7_wouldBe 3 := ⟨jj_mem (List.mem_of_getElem? (i := 962) (by decide +kernel)) (by decide +kernel), jj_mem (List.mem_of_getElem? (i := 41) (by decide +kernel)) (by decide +kernel), jj_mem (List.mem_of_getElem? (i := 60) (by decide +kernel)) (by decide +kernel), jj_mem (List.mem_of_getElem? (i := 963) rfl) rfl, by decide +kernel, by decide +kernel, by decide +kernel⟩
set_option maxRecDepth 100000 in
theorem hv_X7_would : jj_V mX7_would 4 := ⟨jj_mem (List.mem_of_getElem? (i := 957) (by decide +kernel)) (by decide +kernel), jj_mem (List.mem_of_getElem? (i := 958) (by decide +kernel)) (by decide +kernel), jj_mem (List.mem_of_getElem? (i := 60) (by decide +kernel)) (by decide +kernel), jj_mem (List.mem_of_getElem? (i := 959) rfl) rfl, by decide +kernel, by decide +kernel, by decide +kernel⟩
set_option maxRecDepth 100000 in
theorem hv_X7_shift : jj_V mX7_shift 3 := ⟨jj_mem (List.mem_of_getElem? (i := 965) (by decide +kernel)) (by decide +kernel), jj_mem (List.mem_of_getElem? (i := 966) (by decide +kernel)) (by decide +kernel), jj_mem (List.mem_of_getElem? (i := 60) (by decide +kernel)) (by decide +kernel), jj_mem (List.mem_of_getElem? (i := 967) rfl) rfl, by decide +kernel, by decide +kernel, by decide +kernel⟩
set_option maxRecDepth 100000 in
theorem hv_X7_shiftAt : jj_V mX7_shiftAt 1 := ⟨jj_mem (List.mem_of_getElem? (i := 978) (by decide +kernel)) (by decide +kernel), jj_mem (List.mem_of_getElem? (i := 43) (by decide +kernel)) (by decide +kernel), jj_mem (List.mem_of_getElem? (i := 60) (by decide +kernel)) (by decide +kernel), jj_mem (List.mem_of_getElem? (i := 979) rfl) rfl, by decide +kernel, by decide +kernel, by decide +kernel⟩
set_option maxRecDepth 100000 in
theorem hv_X7_stretchOf : jj_V mX7_stretchOf 1 := ⟨jj_mem (List.mem_of_getElem? (i := 974) (by decide +kernel)) (by decide +kernel), jj_mem (List.mem_of_getElem? (i := 42) (by decide +kernel)) (by decide +kernel), jj_mem (List.mem_of_getElem? (i := 60) (by decide +kernel)) (by decide +kernel), jj_mem (List.mem_of_getElem? (i := 975) rfl) rfl, by decide +kernel, by decide +kernel, by decide +kernel⟩
set_option maxRecDepth 100000 in
theorem hv_X7_stretch : jj_V mX7_stretch 2 := ⟨jj_mem (List.mem_of_getElem? (i := 969) (by decide +kernel)) (by decide +kernel), jj_mem (List.mem_of_getElem? (i := 970) (by decide +kernel)) (by decide +kernel), jj_mem (List.mem_of_getElem? (i := 60) (by decide +kernel)) (by decide +kernel), jj_mem (List.mem_of_getElem? (i := 971) rfl) rfl, by decide +kernel, by decide +kernel, by decide +kernel⟩
set_option maxRecDepth 100000 in
theorem hv_X7_workNow : jj_V mX7_workNow 0 := ⟨jj_mem (List.mem_of_getElem? (i := 987) (by decide +kernel)) (by decide +kernel), jj_mem (List.mem_of_getElem? (i := 44) (by decide +kernel)) (by decide +kernel), jj_mem (List.mem_of_getElem? (i := 60) (by decide +kernel)) (by decide +kernel), jj_mem (List.mem_of_getElem? (i := 988) rfl) rfl, by decide +kernel, by decide +kernel, by decide +kernel⟩
set_option maxRecDepth 100000 in
theorem hv_X7_work : jj_V mX7_work 1 := ⟨jj_mem (List.mem_of_getElem? (i := 982) (by decide +kernel)) (by decide +kernel), jj_mem (List.mem_of_getElem? (i := 983) (by decide +kernel)) (by decide +kernel), jj_mem (List.mem_of_getElem? (i := 60) (by decide +kernel)) (by decide +kernel), jj_mem (List.mem_of_getElem? (i := 984) rfl) rfl, by decide +kernel, by decide +kernel, by decide +kernel⟩
set_option maxRecDepth 100000 in
theorem hv_X7_provesNow : jj_V mX7_provesNow 0 := ⟨jj_mem (List.mem_of_getElem? (i := 995) (by decide +kernel)) (by decide +kernel), jj_mem (List.mem_of_getElem? (i := 45) (by decide +kernel)) (by decide +kernel), jj_mem (List.mem_of_getElem? (i := 60) (by decide +kernel)) (by decide +kernel), jj_mem (List.mem_of_getElem? (i := 996) rfl) rfl, by decide +kernel, by decide +kernel, by decide +kernel⟩
set_option maxRecDepth 100000 in
theorem hv_X7_proves : jj_V mX7_proves 0 := ⟨jj_mem (List.mem_of_getElem? (i := 990) (by decide +kernel)) (by decide +kernel), jj_mem (List.mem_of_getElem? (i := 991) (by decide +kernel)) (by decide +kernel), jj_mem (List.mem_of_getElem? (i := 60) (by decide +kernel)) (by decide +kernel), jj_mem (List.mem_of_getElem? (i := 992) rfl) rfl, by decide +kernel, by decide +kernel, by decide +kernel⟩
set_option maxRecDepth 100000 in
theorem hv_X7_isCross : jj_V mX7_isCross 2 := ⟨jj_mem (List.mem_of_getElem? (i := 1011) (by decide +kernel)) (by decide +kernel), jj_mem (List.mem_of_getElem? (i := 48) (by decide +kernel)) (by decide +kernel), jj_mem (List.mem_of_getElem? (i := 60) (by decide +kernel)) (by decide +kernel), jj_mem (List.mem_of_getElem? (i := 1012) rfl) rfl, by decide +kernel, by decide +kernel, by decide +kernel⟩
set_option maxRecDepth 100000 in
theorem hv_X7_crossing : jj_V mX7_crossing 2 := ⟨jj_mem (List.mem_of_getElem? (i := 1007) (by decide +kernel)) (by decide +kernel), jj_mem (List.mem_of_getElem? (i := 47) (by decide +kernel)) (by decide +kernel), jj_mem (List.mem_of_getElem? (i := 60) (by decide +kernel)) (by decide +kernel), jj_mem (List.mem_of_getElem? (i := 1008) rfl) rfl, by decide +kernel, by decide +kernel, by decide +kernel⟩
set_option maxRecDepth 100000 in
theorem hv_X7_crossings : jj_V mX7_crossings 0 := ⟨jj_mem (List.mem_of_getElem? (i := 1049) (by decide +kernel)) (by decide +kernel), jj_mem (List.mem_of_getElem? (i := 50) (by decide +kernel)) (by decide +kernel), jj_mem (List.mem_of_getElem? (i := 60) (by decide +kernel)) (by decide +kernel), jj_mem (List.mem_of_getElem? (i := 1050) rfl) rfl, by decide +kernel, by decide +kernel, by decide +kernel⟩
set_option maxRecDepth 100000 in
theorem hv_X7_crossOf : jj_V mX7_crossOf 2 := ⟨jj_mem (List.mem_of_getElem? (i := 1003) (by decide +kernel)) (by decide +kernel), jj_mem (List.mem_of_getElem? (i := 46) (by decide +kernel)) (by decide +kernel), jj_mem (List.mem_of_getElem? (i := 60) (by decide +kernel)) (by decide +kernel), jj_mem (List.mem_of_getElem? (i := 1004) rfl) rfl, by decide +kernel, by decide +kernel, by decide +kernel⟩
set_option maxRecDepth 100000 in
theorem hv_X7_cross : jj_V mX7_cross 2 := ⟨jj_mem (List.mem_of_getElem? (i := 998) (by decide +kernel)) (by decide +kernel), jj_mem (List.mem_of_getElem? (i := 999) (by decide +kernel)) (by decide +kernel), jj_mem (List.mem_of_getElem? (i := 60) (by decide +kernel)) (by decide +kernel), jj_mem (List.mem_of_getElem? (i := 1000) rfl) rfl, by decide +kernel, by decide +kernel, by decide +kernel⟩
set_option maxRecDepth 100000 in
theorem hv_X7_meets : jj_V mX7_meets 1 := ⟨jj_mem (List.mem_of_getElem? (i := 789) (by decide +kernel)) (by decide +kernel), jj_mem (List.mem_of_getElem? (i := 17) (by decide +kernel)) (by decide +kernel), jj_mem (List.mem_of_getElem? (i := 60) (by decide +kernel)) (by decide +kernel), jj_mem (List.mem_of_getElem? (i := 790) rfl) rfl, by decide +kernel, by decide +kernel, by decide +kernel⟩
set_option maxRecDepth 100000 in
theorem hv_X7_isSheet : jj_U mX7_isSheet 1 := ⟨jj_mem (List.mem_of_getElem? (i := 785) (by decide +kernel)) (by decide +kernel), jj_mem (List.mem_of_getElem? (i := 60) (by decide +kernel)) (by decide +kernel), jj_mem (List.mem_of_getElem? (i := 786) rfl) rfl, by decide +kernel, by decide +kernel, by decide +kernel⟩
set_option maxRecDepth 100000 in
theorem hv_X7_sheet : jj_V mX7_sheet 3 := ⟨jj_mem (List.mem_of_getElem? (i := 1014) (by decide +kernel)) (by decide +kernel), jj_mem (List.mem_of_getElem? (i := 1015) (by decide +kernel)) (by decide +kernel), jj_mem (List.mem_of_getElem? (i := 60) (by decide +kernel)) (by decide +kernel), jj_mem (List.mem_of_getElem? (i := 1016) rfl) rfl, by decide +kernel, by decide +kernel, by decide +kernel⟩
set_option maxRecDepth 100000 in
theorem hv_X7_lose : jj_V mX7_lose 1 := ⟨jj_mem (List.mem_of_getElem? (i := 1018) (by decide +kernel)) (by decide +kernel), jj_mem (List.mem_of_getElem? (i := 1019) (by decide +kernel)) (by decide +kernel), jj_mem (List.mem_of_getElem? (i := 60) (by decide +kernel)) (by decide +kernel), jj_mem (List.mem_of_getElem? (i := 1020) rfl) rfl, by decide +kernel, by decide +kernel, by decide +kernel⟩
set_option maxRecDepth 100000 in
theorem hv_X7_put : jj_V mX7_put 4 := ⟨jj_mem (List.mem_of_getElem? (i := 1022) (by decide +kernel)) (by decide +kernel), jj_mem (List.mem_of_getElem? (i := 1023) (by decide +kernel)) (by decide +kernel), jj_mem (List.mem_of_getElem? (i := 60) (by decide +kernel)) (by decide +kernel), jj_mem (List.mem_of_getElem? (i := 1024) rfl) rfl, by decide +kernel, by decide +kernel, by decide +kernel⟩
set_option maxRecDepth 100000 in
theorem hv_X7_get : jj_V mX7_get 2 := ⟨jj_mem (List.mem_of_getElem? (i := 1028) (by decide +kernel)) (by decide +kernel), jj_mem (List.mem_of_getElem? (i := 1029) (by decide +kernel)) (by decide +kernel), jj_mem (List.mem_of_getElem? (i := 60) (by decide +kernel)) (by decide +kernel), jj_mem (List.mem_of_getElem? (i := 1030) rfl) rfl, by decide +kernel, by decide +kernel, by decide +kernel⟩
set_option maxRecDepth 100000 in
theorem hv_X7_copy : jj_V mX7_copy 5 := ⟨jj_mem (List.mem_of_getElem? (i := 1032) (by decide +kernel)) (by decide +kernel), jj_mem (List.mem_of_getElem? (i := 1033) (by decide +kernel)) (by decide +kernel), jj_mem (List.mem_of_getElem? (i := 60) (by decide +kernel)) (by decide +kernel), jj_mem (List.mem_of_getElem? (i := 1034) rfl) rfl, by decide +kernel, by decide +kernel, by decide +kernel⟩
set_option maxRecDepth 100000 in
theorem hv_X7_write : jj_V mX7_write 1 := ⟨jj_mem (List.mem_of_getElem? (i := 1036) (by decide +kernel)) (by decide +kernel), jj_mem (List.mem_of_getElem? (i := 1037) (by decide +kernel)) (by decide +kernel), jj_mem (List.mem_of_getElem? (i := 60) (by decide +kernel)) (by decide +kernel), jj_mem (List.mem_of_getElem? (i := 1038) rfl) rfl, by decide +kernel, by decide +kernel, by decide +kernel⟩
set_option maxRecDepth 100000 in
theorem hv_X7_ways : jj_V mX7_ways 0 := ⟨jj_mem (List.mem_of_getElem? (i := 1045) (by decide +kernel)) (by decide +kernel), jj_mem (List.mem_of_getElem? (i := 49) (by decide +kernel)) (by decide +kernel), jj_mem (List.mem_of_getElem? (i := 60) (by decide +kernel)) (by decide +kernel), jj_mem (List.mem_of_getElem? (i := 1046) rfl) rfl, by decide +kernel, by decide +kernel, by decide +kernel⟩
set_option maxRecDepth 100000 in
theorem hv_X7_count : jj_V mX7_count 1 := ⟨jj_mem (List.mem_of_getElem? (i := 1040) (by decide +kernel)) (by decide +kernel), jj_mem (List.mem_of_getElem? (i := 1041) (by decide +kernel)) (by decide +kernel), jj_mem (List.mem_of_getElem? (i := 60) (by decide +kernel)) (by decide +kernel), jj_mem (List.mem_of_getElem? (i := 1042) rfl) rfl, by decide +kernel, by decide +kernel, by decide +kernel⟩
set_option maxRecDepth 100000 in
theorem hv_X7_pairDigest : jj_V mX7_pairDigest 2 := ⟨jj_mem (List.mem_of_getElem? (i := 1061) (by decide +kernel)) (by decide +kernel), jj_mem (List.mem_of_getElem? (i := 51) (by decide +kernel)) (by decide +kernel), jj_mem (List.mem_of_getElem? (i := 60) (by decide +kernel)) (by decide +kernel), jj_mem (List.mem_of_getElem? (i := 1062) rfl) rfl, by decide +kernel, by decide +kernel, by decide +kernel⟩
set_option maxRecDepth 100000 in
theorem hv_X7_digest : jj_V mX7_digest 0 := ⟨jj_mem (List.mem_of_getElem? (i := 1052) (by decide +kernel)) (by decide +kernel), jj_mem (List.mem_of_getElem? (i := 1053) (by decide +kernel)) (by decide +kernel), jj_mem (List.mem_of_getElem? (i := 60) (by decide +kernel)) (by decide +kernel), jj_mem (List.mem_of_getElem? (i := 1054) rfl) rfl, by decide +kernel, by decide +kernel, by decide +kernel⟩
set_option maxRecDepth 100000 in
theorem hv_X0_gather : jj_V mX0_gather 2 := ⟨jj_mem (List.mem_of_getElem? (i := 403) (by decide +kernel)) (by decide +kernel), jj_mem (List.mem_of_getElem? (i := 404) (by decide +kernel)) (by decide +kernel), jj_mem (List.mem_of_getElem? (i := 56) (by decide +kernel)) (by decide +kernel), jj_mem (List.mem_of_getElem? (i := 405) rfl) rfl, by decide +kernel, by decide +kernel, by decide +kernel⟩
set_option maxRecDepth 100000 in
theorem hv_X0_keep : jj_V mX0_keep 2 := ⟨jj_mem (List.mem_of_getElem? (i := 425) (by decide +kernel)) (by decide +kernel), jj_mem (List.mem_of_getElem? (i := 4) (by decide +kernel)) (by decide +kernel), jj_mem (List.mem_of_getElem? (i := 56) (by decide +kernel)) (by decide +kernel), jj_mem (List.mem_of_getElem? (i := 426) rfl) rfl, by decide +kernel, by decide +kernel, by decide +kernel⟩
set_option maxRecDepth 100000 in
theorem hv_X0_leastWithin : jj_V mX0_leastWithin 1 := ⟨jj_mem (List.mem_of_getElem? (i := 443) (by decide +kernel)) (by decide +kernel), jj_mem (List.mem_of_getElem? (i := 444) (by decide +kernel)) (by decide +kernel), jj_mem (List.mem_of_getElem? (i := 56) (by decide +kernel)) (by decide +kernel), jj_mem (List.mem_of_getElem? (i := 445) rfl) rfl, by decide +kernel, by decide +kernel, by decide +kernel⟩
set_option maxRecDepth 100000 in
theorem hv_X0_isDearer : jj_V mX0_isDearer 2 := ⟨jj_mem (List.mem_of_getElem? (i := 447) (by decide +kernel)) (by decide +kernel), jj_mem (List.mem_of_getElem? (i := 448) (by decide +kernel)) (by decide +kernel), jj_mem (List.mem_of_getElem? (i := 56) (by decide +kernel)) (by decide +kernel), jj_mem (List.mem_of_getElem? (i := 449) rfl) rfl, by decide +kernel, by decide +kernel, by decide +kernel⟩
set_option maxRecDepth 100000 in
theorem hv_X0_volume : jj_V mX0_volume 2 := ⟨jj_mem (List.mem_of_getElem? (i := 451) (by decide +kernel)) (by decide +kernel), jj_mem (List.mem_of_getElem? (i := 452) (by decide +kernel)) (by decide +kernel), jj_mem (List.mem_of_getElem? (i := 56) (by decide +kernel)) (by decide +kernel), jj_mem (List.mem_of_getElem? (i := 453) rfl) rfl, by decide +kernel, by decide +kernel, by decide +kernel⟩
set_option maxRecDepth 100000 in
theorem hv_X0_difference : jj_V mX0_difference 3 := ⟨jj_mem (List.mem_of_getElem? (i := 518) (by decide +kernel)) (by decide +kernel), jj_mem (List.mem_of_getElem? (i := 519) (by decide +kernel)) (by decide +kernel), jj_mem (List.mem_of_getElem? (i := 56) (by decide +kernel)) (by decide +kernel), jj_mem (List.mem_of_getElem? (i := 520) rfl) rfl, by decide +kernel, by decide +kernel, by decide +kernel⟩
set_option maxRecDepth 100000 in
theorem hv_X0_solve : jj_V mX0_solve 2 := ⟨jj_mem (List.mem_of_getElem? (i := 491) (by decide +kernel)) (by decide +kernel), jj_mem (List.mem_of_getElem? (i := 492) (by decide +kernel)) (by decide +kernel), jj_mem (List.mem_of_getElem? (i := 56) (by decide +kernel)) (by decide +kernel), jj_mem (List.mem_of_getElem? (i := 493) rfl) rfl, by decide +kernel, by decide +kernel, by decide +kernel⟩
set_option maxRecDepth 100000 in
theorem hv_X1_pass : jj_V mX1_pass 3 := ⟨jj_mem (List.mem_of_getElem? (i := 579) (by decide +kernel)) (by decide +kernel), jj_mem (List.mem_of_getElem? (i := 580) (by decide +kernel)) (by decide +kernel), jj_mem (List.mem_of_getElem? (i := 58) (by decide +kernel)) (by decide +kernel), jj_mem (List.mem_of_getElem? (i := 581) rfl) rfl, by decide +kernel, by decide +kernel, by decide +kernel⟩
set_option maxRecDepth 100000 in
theorem hv_X1_meet : jj_V mX1_meet 3 := ⟨jj_mem (List.mem_of_getElem? (i := 584) (by decide +kernel)) (by decide +kernel), jj_mem (List.mem_of_getElem? (i := 11) (by decide +kernel)) (by decide +kernel), jj_mem (List.mem_of_getElem? (i := 58) (by decide +kernel)) (by decide +kernel), jj_mem (List.mem_of_getElem? (i := 585) rfl) rfl, by decide +kernel, by decide +kernel, by decide +kernel⟩
set_option maxRecDepth 100000 in
theorem hv_X1_isInside : jj_U mX1_isInside 2 := ⟨jj_mem (List.mem_of_getElem? (i := 588) (by decide +kernel)) (by decide +kernel), jj_mem (List.mem_of_getElem? (i := 58) (by decide +kernel)) (by decide +kernel), jj_mem (List.mem_of_getElem? (i := 589) rfl) rfl, by decide +kernel, by decide +kernel, by decide +kernel⟩
set_option maxRecDepth 100000 in
theorem hv_X2_first : jj_V mX2_first 2 := ⟨jj_mem (List.mem_of_getElem? (i := 464) (by decide +kernel)) (by decide +kernel), jj_mem (List.mem_of_getElem? (i := 465) (by decide +kernel)) (by decide +kernel), jj_mem (List.mem_of_getElem? (i := 57) (by decide +kernel)) (by decide +kernel), jj_mem (List.mem_of_getElem? (i := 466) rfl) rfl, by decide +kernel, by decide +kernel, by decide +kernel⟩
set_option maxRecDepth 100000 in
theorem hv_X2_lay : jj_V mX2_lay 4 := ⟨jj_mem (List.mem_of_getElem? (i := 471) (by decide +kernel)) (by decide +kernel), jj_mem (List.mem_of_getElem? (i := 6) (by decide +kernel)) (by decide +kernel), jj_mem (List.mem_of_getElem? (i := 57) (by decide +kernel)) (by decide +kernel), jj_mem (List.mem_of_getElem? (i := 472) rfl) rfl, by decide +kernel, by decide +kernel, by decide +kernel⟩
set_option maxRecDepth 100000 in
theorem hv_X2_reduce : jj_V mX2_reduce 1 := ⟨jj_mem (List.mem_of_getElem? (i := 476) (by decide +kernel)) (by decide +kernel), jj_mem (List.mem_of_getElem? (i := 7) (by decide +kernel)) (by decide +kernel), jj_mem (List.mem_of_getElem? (i := 57) (by decide +kernel)) (by decide +kernel), jj_mem (List.mem_of_getElem? (i := 477) rfl) rfl, by decide +kernel, by decide +kernel, by decide +kernel⟩
set_option maxRecDepth 100000 in
theorem hv_X2_firstOther : jj_V mX2_firstOther 1 := ⟨jj_mem (List.mem_of_getElem? (i := 480) (by decide +kernel)) (by decide +kernel), jj_mem (List.mem_of_getElem? (i := 8) (by decide +kernel)) (by decide +kernel), jj_mem (List.mem_of_getElem? (i := 57) (by decide +kernel)) (by decide +kernel), jj_mem (List.mem_of_getElem? (i := 481) rfl) rfl, by decide +kernel, by decide +kernel, by decide +kernel⟩
set_option maxRecDepth 100000 in
theorem hv_X3_hasPoint : jj_V mX3_hasPoint 1 := ⟨jj_mem (List.mem_of_getElem? (i := 333) (by decide +kernel)) (by decide +kernel), jj_mem (List.mem_of_getElem? (i := 334) (by decide +kernel)) (by decide +kernel), jj_mem (List.mem_of_getElem? (i := 55) (by decide +kernel)) (by decide +kernel), jj_mem (List.mem_of_getElem? (i := 335) rfl) rfl, by decide +kernel, by decide +kernel, by decide +kernel⟩
set_option maxRecDepth 100000 in
theorem hv_X3_isTaken : jj_V mX3_isTaken 2 := ⟨jj_mem (List.mem_of_getElem? (i := 301) (by decide +kernel)) (by decide +kernel), jj_mem (List.mem_of_getElem? (i := 302) (by decide +kernel)) (by decide +kernel), jj_mem (List.mem_of_getElem? (i := 55) (by decide +kernel)) (by decide +kernel), jj_mem (List.mem_of_getElem? (i := 303) rfl) rfl, by decide +kernel, by decide +kernel, by decide +kernel⟩
set_option maxRecDepth 100000 in
theorem hv_X3_add : jj_V mX3_add 2 := ⟨jj_mem (List.mem_of_getElem? (i := 305) (by decide +kernel)) (by decide +kernel), jj_mem (List.mem_of_getElem? (i := 306) (by decide +kernel)) (by decide +kernel), jj_mem (List.mem_of_getElem? (i := 55) (by decide +kernel)) (by decide +kernel), jj_mem (List.mem_of_getElem? (i := 307) rfl) rfl, by decide +kernel, by decide +kernel, by decide +kernel⟩
set_option maxRecDepth 100000 in
theorem hv_X3_measure : jj_V mX3_measure 1 := ⟨jj_mem (List.mem_of_getElem? (i := 314) (by decide +kernel)) (by decide +kernel), jj_mem (List.mem_of_getElem? (i := 0) (by decide +kernel)) (by decide +kernel), jj_mem (List.mem_of_getElem? (i := 55) (by decide +kernel)) (by decide +kernel), jj_mem (List.mem_of_getElem? (i := 315) rfl) rfl, by decide +kernel, by decide +kernel, by decide +kernel⟩
set_option maxRecDepth 100000 in
theorem hv_X3_pairs : jj_V mX3_pairs 0 := ⟨jj_mem (List.mem_of_getElem? (i := 309) (by decide +kernel)) (by decide +kernel), jj_mem (List.mem_of_getElem? (i := 310) (by decide +kernel)) (by decide +kernel), jj_mem (List.mem_of_getElem? (i := 55) (by decide +kernel)) (by decide +kernel), jj_mem (List.mem_of_getElem? (i := 311) rfl) rfl, by decide +kernel, by decide +kernel, by decide +kernel⟩
set_option maxRecDepth 100000 in
theorem hv_X3_everyPair : jj_V mX3_everyPair 0 := ⟨jj_mem (List.mem_of_getElem? (i := 325) (by decide +kernel)) (by decide +kernel), jj_mem (List.mem_of_getElem? (i := 326) (by decide +kernel)) (by decide +kernel), jj_mem (List.mem_of_getElem? (i := 55) (by decide +kernel)) (by decide +kernel), jj_mem (List.mem_of_getElem? (i := 327) rfl) rfl, by decide +kernel, by decide +kernel, by decide +kernel⟩
set_option maxRecDepth 100000 in
theorem hv_X3_hasPair : jj_V mX3_hasPair 1 := ⟨jj_mem (List.mem_of_getElem? (i := 351) (by decide +kernel)) (by decide +kernel), jj_mem (List.mem_of_getElem? (i := 352) (by decide +kernel)) (by decide +kernel), jj_mem (List.mem_of_getElem? (i := 55) (by decide +kernel)) (by decide +kernel), jj_mem (List.mem_of_getElem? (i := 353) rfl) rfl, by decide +kernel, by decide +kernel, by decide +kernel⟩
set_option maxRecDepth 100000 in
theorem hv_X3_isFree : jj_V mX3_isFree 1 := ⟨jj_mem (List.mem_of_getElem? (i := 412) (by decide +kernel)) (by decide +kernel), jj_mem (List.mem_of_getElem? (i := 413) (by decide +kernel)) (by decide +kernel), jj_mem (List.mem_of_getElem? (i := 55) (by decide +kernel)) (by decide +kernel), jj_mem (List.mem_of_getElem? (i := 414) rfl) rfl, by decide +kernel, by decide +kernel, by decide +kernel⟩
set_option maxRecDepth 100000 in
theorem hv_X3_ways : jj_V mX3_ways 0 := ⟨jj_mem (List.mem_of_getElem? (i := 632) (by decide +kernel)) (by decide +kernel), jj_mem (List.mem_of_getElem? (i := 633) (by decide +kernel)) (by decide +kernel), jj_mem (List.mem_of_getElem? (i := 55) (by decide +kernel)) (by decide +kernel), jj_mem (List.mem_of_getElem? (i := 634) rfl) rfl, by decide +kernel, by decide +kernel, by decide +kernel⟩
set_option maxRecDepth 100000 in
theorem hv_X3_brought : jj_V mX3_brought 2 := ⟨jj_mem (List.mem_of_getElem? (i := 416) (by decide +kernel)) (by decide +kernel), jj_mem (List.mem_of_getElem? (i := 417) (by decide +kernel)) (by decide +kernel), jj_mem (List.mem_of_getElem? (i := 55) (by decide +kernel)) (by decide +kernel), jj_mem (List.mem_of_getElem? (i := 418) rfl) rfl, by decide +kernel, by decide +kernel, by decide +kernel⟩
set_option maxRecDepth 100000 in
theorem hv_X3_stretchParts : jj_V mX3_stretchParts 1 := ⟨jj_mem (List.mem_of_getElem? (i := 553) (by decide +kernel)) (by decide +kernel), jj_mem (List.mem_of_getElem? (i := 554) (by decide +kernel)) (by decide +kernel), jj_mem (List.mem_of_getElem? (i := 55) (by decide +kernel)) (by decide +kernel), jj_mem (List.mem_of_getElem? (i := 555) rfl) rfl, by decide +kernel, by decide +kernel, by decide +kernel⟩
set_option maxRecDepth 100000 in
theorem hv_X3_workParts : jj_V mX3_workParts 0 := ⟨jj_mem (List.mem_of_getElem? (i := 567) (by decide +kernel)) (by decide +kernel), jj_mem (List.mem_of_getElem? (i := 568) (by decide +kernel)) (by decide +kernel), jj_mem (List.mem_of_getElem? (i := 55) (by decide +kernel)) (by decide +kernel), jj_mem (List.mem_of_getElem? (i := 569) rfl) rfl, by decide +kernel, by decide +kernel, by decide +kernel⟩
set_option maxRecDepth 100000 in
theorem hv_X3_freeShift : jj_V mX3_freeShift 1 := ⟨jj_mem (List.mem_of_getElem? (i := 558) (by decide +kernel)) (by decide +kernel), jj_mem (List.mem_of_getElem? (i := 10) (by decide +kernel)) (by decide +kernel), jj_mem (List.mem_of_getElem? (i := 55) (by decide +kernel)) (by decide +kernel), jj_mem (List.mem_of_getElem? (i := 559) rfl) rfl, by decide +kernel, by decide +kernel, by decide +kernel⟩
set_option maxRecDepth 100000 in
theorem hv_X4_renew : jj_V mX4_renew 2 := ⟨jj_mem (List.mem_of_getElem? (i := 595) (by decide +kernel)) (by decide +kernel), jj_mem (List.mem_of_getElem? (i := 596) (by decide +kernel)) (by decide +kernel), jj_mem (List.mem_of_getElem? (i := 59) (by decide +kernel)) (by decide +kernel), jj_mem (List.mem_of_getElem? (i := 597) rfl) rfl, by decide +kernel, by decide +kernel, by decide +kernel⟩
set_option maxRecDepth 100000 in
theorem hv_X4_hasItems : jj_V mX4_hasItems 2 := ⟨jj_mem (List.mem_of_getElem? (i := 617) (by decide +kernel)) (by decide +kernel), jj_mem (List.mem_of_getElem? (i := 618) (by decide +kernel)) (by decide +kernel), jj_mem (List.mem_of_getElem? (i := 59) (by decide +kernel)) (by decide +kernel), jj_mem (List.mem_of_getElem? (i := 619) rfl) rfl, by decide +kernel, by decide +kernel, by decide +kernel⟩
set_option maxRecDepth 100000 in
theorem hv_X5_lay : jj_V mX5_lay 2 := ⟨jj_mem (List.mem_of_getElem? (i := 407) (by decide +kernel)) (by decide +kernel), jj_mem (List.mem_of_getElem? (i := 408) (by decide +kernel)) (by decide +kernel), jj_mem (List.mem_of_getElem? (i := 54) (by decide +kernel)) (by decide +kernel), jj_mem (List.mem_of_getElem? (i := 409) rfl) rfl, by decide +kernel, by decide +kernel, by decide +kernel⟩
set_option maxRecDepth 100000 in
theorem hv_X5_enter : jj_V mX5_enter 2 := ⟨jj_mem (List.mem_of_getElem? (i := 435) (by decide +kernel)) (by decide +kernel), jj_mem (List.mem_of_getElem? (i := 436) (by decide +kernel)) (by decide +kernel), jj_mem (List.mem_of_getElem? (i := 54) (by decide +kernel)) (by decide +kernel), jj_mem (List.mem_of_getElem? (i := 437) rfl) rfl, by decide +kernel, by decide +kernel, by decide +kernel⟩
set_option maxRecDepth 100000 in
theorem hv_X5_pivotRow : jj_V mX5_pivotRow 2 := ⟨jj_mem (List.mem_of_getElem? (i := 440) (by decide +kernel)) (by decide +kernel), jj_mem (List.mem_of_getElem? (i := 5) (by decide +kernel)) (by decide +kernel), jj_mem (List.mem_of_getElem? (i := 54) (by decide +kernel)) (by decide +kernel), jj_mem (List.mem_of_getElem? (i := 441) rfl) rfl, by decide +kernel, by decide +kernel, by decide +kernel⟩
set_option maxRecDepth 100000 in
theorem hv_X5_bears : jj_V mX5_bears 1 := ⟨jj_mem (List.mem_of_getElem? (i := 420) (by decide +kernel)) (by decide +kernel), jj_mem (List.mem_of_getElem? (i := 421) (by decide +kernel)) (by decide +kernel), jj_mem (List.mem_of_getElem? (i := 54) (by decide +kernel)) (by decide +kernel), jj_mem (List.mem_of_getElem? (i := 422) rfl) rfl, by decide +kernel, by decide +kernel, by decide +kernel⟩
set_option maxRecDepth 100000 in
theorem hv_X5_solve : jj_V mX5_solve 1 := ⟨jj_mem (List.mem_of_getElem? (i := 428) (by decide +kernel)) (by decide +kernel), jj_mem (List.mem_of_getElem? (i := 429) (by decide +kernel)) (by decide +kernel), jj_mem (List.mem_of_getElem? (i := 54) (by decide +kernel)) (by decide +kernel), jj_mem (List.mem_of_getElem? (i := 430) rfl) rfl, by decide +kernel, by decide +kernel, by decide +kernel⟩
set_option maxRecDepth 100000 in
theorem hv_J6_bitCount_0f7a4 : jj_U mJ6_bitCount_0f7a4 1 := ⟨jj_mem (List.mem_of_getElem? (i := 535) (by decide +kernel)) (by decide +kernel), jj_mem (List.mem_of_getElem? (i := 62) (by decide +kernel)) (by decide +kernel), jj_mem (List.mem_of_getElem? (i := 536) rfl) rfl, by decide +kernel, by decide +kernel, by decide +kernel⟩
theorem lk_Smin : Cond.static Lib.Math.min.name ∈ jj_tb := jj_mem (List.mem_of_getElem? (i := 371) (by decide +kernel)) (by decide +kernel)
theorem lk_Cmin : Cond.code Lib.Math.min.name Lib.Math.min.code 2 (some .int) ∈ jj_tb := jj_mem (List.mem_of_getElem? (i := 372) (by decide +kernel)) (by decide +kernel)
theorem lk_Sabs : Cond.static Lib.MathLoose.abs_long.x ∈ jj_tb := jj_mem (List.mem_of_getElem? (i := 432) (by decide +kernel)) (by decide +kernel)
theorem lk_Cabs : Cond.code Lib.MathLoose.abs_long.x Lib.MathLoose.abs_long.code 2 (some .long) ∈ jj_tb := jj_mem (List.mem_of_getElem? (i := 433) (by decide +kernel)) (by decide +kernel)
theorem lk_IMath : Cond.initialized "java/lang/Math" ∈ jj_tb := jj_mem (List.mem_of_getElem? (i := 61) (by decide +kernel)) (by decide +kernel)
theorem lk_RX5_13 : Cond.fieldLink RX5 13 "LeastFrames$Tableau" "cells" "[[J" ∈ jj_tb := jj_mem (List.mem_of_getElem? (i := 80) (by decide +kernel)) (by decide +kernel)
theorem lk_RX5_16 : Cond.fieldLink RX5 16 "LeastFrames$Tableau" "columnOf" "[I" ∈ jj_tb := jj_mem (List.mem_of_getElem? (i := 81) (by decide +kernel)) (by decide +kernel)
theorem lk_RX0_76 : Cond.fieldLink RX0 76 "LeastFrames$Tableau" "columnOf" "[I" ∈ jj_tb := jj_mem (List.mem_of_getElem? (i := 82) (by decide +kernel)) (by decide +kernel)
theorem lk_RX5_20 : Cond.fieldLink RX5 20 "LeastFrames$Tableau" "rowOf" "[I" ∈ jj_tb := jj_mem (List.mem_of_getElem? (i := 83) (by decide +kernel)) (by decide +kernel)
theorem lk_RX5_23 : Cond.fieldLink RX5 23 "LeastFrames$Tableau" "usedRows" "[I" ∈ jj_tb := jj_mem (List.mem_of_getElem? (i := 84) (by decide +kernel)) (by decide +kernel)
theorem lk_RX5_26 : Cond.fieldLink RX5 26 "LeastFrames$Tableau" "pivots" "[J" ∈ jj_tb := jj_mem (List.mem_of_getElem? (i := 85) (by decide +kernel)) (by decide +kernel)
theorem lk_RX0_90 : Cond.fieldLink RX0 90 "LeastFrames$Tableau" "pivots" "[J" ∈ jj_tb := jj_mem (List.mem_of_getElem? (i := 86) (by decide +kernel)) (by decide +kernel)
theorem lk_RX5_30 : Cond.fieldLink RX5 30 "LeastFrames$Tableau" "solved" "[J" ∈ jj_tb := jj_mem (List.mem_of_getElem? (i := 87) (by decide +kernel)) (by decide +kernel)
theorem lk_RX0_73 : Cond.fieldLink RX0 73 "LeastFrames$Tableau" "solved" "[J" ∈ jj_tb := jj_mem (List.mem_of_getElem? (i := 88) (by decide +kernel)) (by decide +kernel)
theorem lk_RX5_43 : Cond.fieldLink RX5 43 "LeastFrames$Tableau" "rows" "I" ∈ jj_tb := jj_mem (List.mem_of_getElem? (i := 89) (by decide +kernel)) (by decide +kernel)
theorem lk_RX5_39 : Cond.fieldLink RX5 39 "LeastFrames$Tableau" "columns" "I" ∈ jj_tb := jj_mem (List.mem_of_getElem? (i := 90) (by decide +kernel)) (by decide +kernel)
theorem lk_RX0_62 : Cond.fieldLink RX0 62 "LeastFrames$Tableau" "columns" "I" ∈ jj_tb := jj_mem (List.mem_of_getElem? (i := 91) (by decide +kernel)) (by decide +kernel)
theorem lk_RX3_9 : Cond.fieldLink RX3 9 "LeastFrames$Ground" "places" "[I" ∈ jj_tb := jj_mem (List.mem_of_getElem? (i := 117) (by decide +kernel)) (by decide +kernel)
theorem lk_RX1_21 : Cond.fieldLink RX1 21 "LeastFrames$Ground" "places" "[I" ∈ jj_tb := jj_mem (List.mem_of_getElem? (i := 118) (by decide +kernel)) (by decide +kernel)
theorem lk_RX6_121 : Cond.fieldLink RX6 121 "LeastFrames$Ground" "places" "[I" ∈ jj_tb := jj_mem (List.mem_of_getElem? (i := 119) (by decide +kernel)) (by decide +kernel)
theorem lk_RX3_15 : Cond.fieldLink RX3 15 "LeastFrames$Ground" "held" "[I" ∈ jj_tb := jj_mem (List.mem_of_getElem? (i := 120) (by decide +kernel)) (by decide +kernel)
theorem lk_RX6_83 : Cond.fieldLink RX6 83 "LeastFrames$Ground" "held" "[I" ∈ jj_tb := jj_mem (List.mem_of_getElem? (i := 121) (by decide +kernel)) (by decide +kernel)
theorem lk_RX3_18 : Cond.fieldLink RX3 18 "LeastFrames$Ground" "loads" "[I" ∈ jj_tb := jj_mem (List.mem_of_getElem? (i := 122) (by decide +kernel)) (by decide +kernel)
theorem lk_RX5_57 : Cond.fieldLink RX5 57 "LeastFrames$Ground" "loads" "[I" ∈ jj_tb := jj_mem (List.mem_of_getElem? (i := 123) (by decide +kernel)) (by decide +kernel)
theorem lk_RX2_55 : Cond.fieldLink RX2 55 "LeastFrames$Ground" "loads" "[I" ∈ jj_tb := jj_mem (List.mem_of_getElem? (i := 124) (by decide +kernel)) (by decide +kernel)
theorem lk_RX6_92 : Cond.fieldLink RX6 92 "LeastFrames$Ground" "loads" "[I" ∈ jj_tb := jj_mem (List.mem_of_getElem? (i := 125) (by decide +kernel)) (by decide +kernel)
theorem lk_RX3_21 : Cond.fieldLink RX3 21 "LeastFrames$Ground" "shifts" "[I" ∈ jj_tb := jj_mem (List.mem_of_getElem? (i := 126) (by decide +kernel)) (by decide +kernel)
theorem lk_RX6_124 : Cond.fieldLink RX6 124 "LeastFrames$Ground" "shifts" "[I" ∈ jj_tb := jj_mem (List.mem_of_getElem? (i := 127) (by decide +kernel)) (by decide +kernel)
theorem lk_RX3_24 : Cond.fieldLink RX3 24 "LeastFrames$Ground" "runs" "[I" ∈ jj_tb := jj_mem (List.mem_of_getElem? (i := 128) (by decide +kernel)) (by decide +kernel)
theorem lk_RX1_15 : Cond.fieldLink RX1 15 "LeastFrames$Ground" "runs" "[I" ∈ jj_tb := jj_mem (List.mem_of_getElem? (i := 129) (by decide +kernel)) (by decide +kernel)
theorem lk_RX3_27 : Cond.fieldLink RX3 27 "LeastFrames$Ground" "quads" "[I" ∈ jj_tb := jj_mem (List.mem_of_getElem? (i := 130) (by decide +kernel)) (by decide +kernel)
theorem lk_RX0_79 : Cond.fieldLink RX0 79 "LeastFrames$Ground" "quads" "[I" ∈ jj_tb := jj_mem (List.mem_of_getElem? (i := 131) (by decide +kernel)) (by decide +kernel)
theorem lk_RX6_133 : Cond.fieldLink RX6 133 "LeastFrames$Ground" "quads" "[I" ∈ jj_tb := jj_mem (List.mem_of_getElem? (i := 132) (by decide +kernel)) (by decide +kernel)
theorem lk_RX3_30 : Cond.fieldLink RX3 30 "LeastFrames$Ground" "size" "I" ∈ jj_tb := jj_mem (List.mem_of_getElem? (i := 133) (by decide +kernel)) (by decide +kernel)
theorem lk_RX2_32 : Cond.fieldLink RX2 32 "LeastFrames$Ground" "size" "I" ∈ jj_tb := jj_mem (List.mem_of_getElem? (i := 134) (by decide +kernel)) (by decide +kernel)
theorem lk_RX6_64 : Cond.fieldLink RX6 64 "LeastFrames$Ground" "size" "I" ∈ jj_tb := jj_mem (List.mem_of_getElem? (i := 135) (by decide +kernel)) (by decide +kernel)
theorem lk_RX5_46 : Cond.fieldLink RX5 46 "LeastFrames$Ground" "size" "I" ∈ jj_tb := jj_mem (List.mem_of_getElem? (i := 136) (by decide +kernel)) (by decide +kernel)
theorem lk_RX0_11 : Cond.fieldLink RX0 11 "LeastFrames$Bearers" "sets" "[I" ∈ jj_tb := jj_mem (List.mem_of_getElem? (i := 158) (by decide +kernel)) (by decide +kernel)
theorem lk_RX6_157 : Cond.fieldLink RX6 157 "LeastFrames$Bearers" "sets" "[I" ∈ jj_tb := jj_mem (List.mem_of_getElem? (i := 159) (by decide +kernel)) (by decide +kernel)
theorem lk_RX0_15 : Cond.fieldLink RX0 15 "LeastFrames$Bearers" "above" "[J" ∈ jj_tb := jj_mem (List.mem_of_getElem? (i := 160) (by decide +kernel)) (by decide +kernel)
theorem lk_RX6_218 : Cond.fieldLink RX6 218 "LeastFrames$Bearers" "above" "[J" ∈ jj_tb := jj_mem (List.mem_of_getElem? (i := 161) (by decide +kernel)) (by decide +kernel)
theorem lk_RX0_19 : Cond.fieldLink RX0 19 "LeastFrames$Bearers" "below" "[J" ∈ jj_tb := jj_mem (List.mem_of_getElem? (i := 162) (by decide +kernel)) (by decide +kernel)
theorem lk_RX6_215 : Cond.fieldLink RX6 215 "LeastFrames$Bearers" "below" "[J" ∈ jj_tb := jj_mem (List.mem_of_getElem? (i := 163) (by decide +kernel)) (by decide +kernel)
theorem lk_RX0_22 : Cond.fieldLink RX0 22 "LeastFrames$Bearers" "pulls" "[J" ∈ jj_tb := jj_mem (List.mem_of_getElem? (i := 164) (by decide +kernel)) (by decide +kernel)
theorem lk_RX6_164 : Cond.fieldLink RX6 164 "LeastFrames$Bearers" "pulls" "[J" ∈ jj_tb := jj_mem (List.mem_of_getElem? (i := 165) (by decide +kernel)) (by decide +kernel)
theorem lk_RX0_25 : Cond.fieldLink RX0 25 "LeastFrames$Bearers" "pullsBelow" "J" ∈ jj_tb := jj_mem (List.mem_of_getElem? (i := 166) (by decide +kernel)) (by decide +kernel)
theorem lk_RX6_167 : Cond.fieldLink RX6 167 "LeastFrames$Bearers" "pullsBelow" "J" ∈ jj_tb := jj_mem (List.mem_of_getElem? (i := 167) (by decide +kernel)) (by decide +kernel)
theorem lk_RX0_44 : Cond.fieldLink RX0 44 "LeastFrames$Bearers" "tableau" "LLeastFrames$Tableau;" ∈ jj_tb := jj_mem (List.mem_of_getElem? (i := 168) (by decide +kernel)) (by decide +kernel)
theorem lk_RX0_31 : Cond.fieldLink RX0 31 "LeastFrames$Bearers" "next" "[I" ∈ jj_tb := jj_mem (List.mem_of_getElem? (i := 169) (by decide +kernel)) (by decide +kernel)
theorem lk_RX0_48 : Cond.fieldLink RX0 48 "LeastFrames$Bearers" "size" "I" ∈ jj_tb := jj_mem (List.mem_of_getElem? (i := 170) (by decide +kernel)) (by decide +kernel)
theorem lk_RX0_34 : Cond.fieldLink RX0 34 "LeastFrames$Bearers" "asked" "I" ∈ jj_tb := jj_mem (List.mem_of_getElem? (i := 171) (by decide +kernel)) (by decide +kernel)
theorem lk_RX0_38 : Cond.fieldLink RX0 38 "LeastFrames$Bearers" "answer" "I" ∈ jj_tb := jj_mem (List.mem_of_getElem? (i := 172) (by decide +kernel)) (by decide +kernel)
theorem lk_RX0_41 : Cond.fieldLink RX0 41 "LeastFrames$Bearers" "pullsOf" "I" ∈ jj_tb := jj_mem (List.mem_of_getElem? (i := 173) (by decide +kernel)) (by decide +kernel)
theorem lk_RX2_15 : Cond.fieldLink RX2 15 "LeastFrames$FaultFinder" "rows" "[[J" ∈ jj_tb := jj_mem (List.mem_of_getElem? (i := 204) (by decide +kernel)) (by decide +kernel)
theorem lk_RX2_18 : Cond.fieldLink RX2 18 "LeastFrames$FaultFinder" "columnOf" "[I" ∈ jj_tb := jj_mem (List.mem_of_getElem? (i := 205) (by decide +kernel)) (by decide +kernel)
theorem lk_RX2_28 : Cond.fieldLink RX2 28 "LeastFrames$FaultFinder" "columns" "I" ∈ jj_tb := jj_mem (List.mem_of_getElem? (i := 206) (by decide +kernel)) (by decide +kernel)
theorem lk_RX1_31 : Cond.fieldLink RX1 31 "LeastFrames$Crossing" "lesser" "I" ∈ jj_tb := jj_mem (List.mem_of_getElem? (i := 220) (by decide +kernel)) (by decide +kernel)
theorem lk_RX6_225 : Cond.fieldLink RX6 225 "LeastFrames$Crossing" "lesser" "I" ∈ jj_tb := jj_mem (List.mem_of_getElem? (i := 221) (by decide +kernel)) (by decide +kernel)
theorem lk_RX1_35 : Cond.fieldLink RX1 35 "LeastFrames$Crossing" "greater" "I" ∈ jj_tb := jj_mem (List.mem_of_getElem? (i := 222) (by decide +kernel)) (by decide +kernel)
theorem lk_RX6_228 : Cond.fieldLink RX6 228 "LeastFrames$Crossing" "greater" "I" ∈ jj_tb := jj_mem (List.mem_of_getElem? (i := 223) (by decide +kernel)) (by decide +kernel)
theorem lk_RX1_42 : Cond.fieldLink RX1 42 "LeastFrames$Crossing" "xAbove" "J" ∈ jj_tb := jj_mem (List.mem_of_getElem? (i := 224) (by decide +kernel)) (by decide +kernel)
theorem lk_RX6_231 : Cond.fieldLink RX6 231 "LeastFrames$Crossing" "xAbove" "J" ∈ jj_tb := jj_mem (List.mem_of_getElem? (i := 225) (by decide +kernel)) (by decide +kernel)
theorem lk_RX1_45 : Cond.fieldLink RX1 45 "LeastFrames$Crossing" "yAbove" "J" ∈ jj_tb := jj_mem (List.mem_of_getElem? (i := 226) (by decide +kernel)) (by decide +kernel)
theorem lk_RX6_236 : Cond.fieldLink RX6 236 "LeastFrames$Crossing" "yAbove" "J" ∈ jj_tb := jj_mem (List.mem_of_getElem? (i := 227) (by decide +kernel)) (by decide +kernel)
theorem lk_RX1_38 : Cond.fieldLink RX1 38 "LeastFrames$Crossing" "below" "J" ∈ jj_tb := jj_mem (List.mem_of_getElem? (i := 228) (by decide +kernel)) (by decide +kernel)
theorem lk_RX6_234 : Cond.fieldLink RX6 234 "LeastFrames$Crossing" "below" "J" ∈ jj_tb := jj_mem (List.mem_of_getElem? (i := 229) (by decide +kernel)) (by decide +kernel)
theorem lk_RX4_9 : Cond.fieldLink RX4 9 "LeastFrames$Sheet" "items" "[J" ∈ jj_tb := jj_mem (List.mem_of_getElem? (i := 248) (by decide +kernel)) (by decide +kernel)
theorem lk_RX6_117 : Cond.fieldLink RX6 117 "LeastFrames$Sheet" "items" "[J" ∈ jj_tb := jj_mem (List.mem_of_getElem? (i := 249) (by decide +kernel)) (by decide +kernel)
theorem lk_RX4_15 : Cond.fieldLink RX4 15 "LeastFrames$Sheet" "lost" "Z" ∈ jj_tb := jj_mem (List.mem_of_getElem? (i := 250) (by decide +kernel)) (by decide +kernel)
theorem lk_RX6_104 : Cond.fieldLink RX6 104 "LeastFrames$Sheet" "lost" "Z" ∈ jj_tb := jj_mem (List.mem_of_getElem? (i := 251) (by decide +kernel)) (by decide +kernel)
theorem lk_RX4_19 : Cond.fieldLink RX4 19 "LeastFrames$Sheet" "form" "I" ∈ jj_tb := jj_mem (List.mem_of_getElem? (i := 252) (by decide +kernel)) (by decide +kernel)
theorem lk_RX6_243 : Cond.fieldLink RX6 243 "LeastFrames$Sheet" "form" "I" ∈ jj_tb := jj_mem (List.mem_of_getElem? (i := 253) (by decide +kernel)) (by decide +kernel)
theorem lk_RX4_23 : Cond.fieldLink RX4 23 "LeastFrames$Sheet" "size" "I" ∈ jj_tb := jj_mem (List.mem_of_getElem? (i := 254) (by decide +kernel)) (by decide +kernel)
theorem lk_RX6_111 : Cond.fieldLink RX6 111 "LeastFrames$Sheet" "size" "I" ∈ jj_tb := jj_mem (List.mem_of_getElem? (i := 255) (by decide +kernel)) (by decide +kernel)
theorem lk_RX6_13 : Cond.fieldLink RX6 13 "LeastFrames" "ground" "LLeastFrames$Ground;" ∈ jj_tb := jj_mem (List.mem_of_getElem? (i := 265) (by decide +kernel)) (by decide +kernel)
theorem lk_RX6_24 : Cond.fieldLink RX6 24 "LeastFrames" "now" "LLeastFrames$Bearers;" ∈ jj_tb := jj_mem (List.mem_of_getElem? (i := 266) (by decide +kernel)) (by decide +kernel)
theorem lk_RX6_28 : Cond.fieldLink RX6 28 "LeastFrames" "then" "LLeastFrames$Bearers;" ∈ jj_tb := jj_mem (List.mem_of_getElem? (i := 267) (by decide +kernel)) (by decide +kernel)
theorem lk_RX6_34 : Cond.fieldLink RX6 34 "LeastFrames" "faults" "LLeastFrames$FaultFinder;" ∈ jj_tb := jj_mem (List.mem_of_getElem? (i := 268) (by decide +kernel)) (by decide +kernel)
theorem lk_RX6_41 : Cond.fieldLink RX6 41 "LeastFrames" "crossing" "LLeastFrames$Crossing;" ∈ jj_tb := jj_mem (List.mem_of_getElem? (i := 269) (by decide +kernel)) (by decide +kernel)
theorem lk_RX6_47 : Cond.fieldLink RX6 47 "LeastFrames" "sheets" "[LLeastFrames$Sheet;" ∈ jj_tb := jj_mem (List.mem_of_getElem? (i := 270) (by decide +kernel)) (by decide +kernel)
theorem lk_RX6_72 : Cond.fieldLink RX6 72 "LeastFrames" "bars" "I" ∈ jj_tb := jj_mem (List.mem_of_getElem? (i := 271) (by decide +kernel)) (by decide +kernel)
theorem lk_RX6_269 : Cond.fieldLink RX6 269 "LeastFrames" "finding" "I" ∈ jj_tb := jj_mem (List.mem_of_getElem? (i := 272) (by decide +kernel)) (by decide +kernel)
theorem lk_RX6_52 : Cond.fieldLink RX6 52 "LeastFrames" "stale" "Z" ∈ jj_tb := jj_mem (List.mem_of_getElem? (i := 273) (by decide +kernel)) (by decide +kernel)
theorem lk_RL_13 : Cond.methodLink RL 13 yX6_point ∈ jj_tb := jj_mem (List.mem_of_getElem? (i := 293) (by decide +kernel)) (by decide +kernel)
theorem lk_RX6_56 : Cond.methodLink RX6 56 yX6_isWithin ∈ jj_tb := jj_mem (List.mem_of_getElem? (i := 297) (by decide +kernel)) (by decide +kernel)
theorem lk_RX6_60 : Cond.methodLink RX6 60 yX3_isTaken ∈ jj_tb := jj_mem (List.mem_of_getElem? (i := 300) (by decide +kernel)) (by decide +kernel)
theorem lk_RX6_68 : Cond.methodLink RX6 68 yX3_add ∈ jj_tb := jj_mem (List.mem_of_getElem? (i := 304) (by decide +kernel)) (by decide +kernel)
theorem lk_RX3_34 : Cond.methodLink RX3 34 yX3_pairs ∈ jj_tb := jj_mem (List.mem_of_getElem? (i := 308) (by decide +kernel)) (by decide +kernel)
theorem lk_RX3_38 : Cond.methodLink RX3 38 yX3_measure ∈ jj_tb := jj_mem (List.mem_of_getElem? (i := 312) (by decide +kernel)) (by decide +kernel)
theorem lk_RL_18 : Cond.methodLink RL 18 yX6_back ∈ jj_tb := jj_mem (List.mem_of_getElem? (i := 320) (by decide +kernel)) (by decide +kernel)
theorem lk_RX6_75 : Cond.methodLink RX6 75 yX3_everyPair ∈ jj_tb := jj_mem (List.mem_of_getElem? (i := 324) (by decide +kernel)) (by decide +kernel)
theorem lk_RL_23 : Cond.methodLink RL 23 yX6_hold ∈ jj_tb := jj_mem (List.mem_of_getElem? (i := 328) (by decide +kernel)) (by decide +kernel)
theorem lk_RX6_79 : Cond.methodLink RX6 79 yX3_hasPoint ∈ jj_tb := jj_mem (List.mem_of_getElem? (i := 332) (by decide +kernel)) (by decide +kernel)
theorem lk_RL_27 : Cond.methodLink RL 27 yX6_load ∈ jj_tb := jj_mem (List.mem_of_getElem? (i := 336) (by decide +kernel)) (by decide +kernel)
theorem lk_RX6_87 : Cond.methodLink RX6 87 yX6_isLoad ∈ jj_tb := jj_mem (List.mem_of_getElem? (i := 340) (by decide +kernel)) (by decide +kernel)
theorem lk_RX6_321 : Cond.constantLong RX6 321 (-9) ∈ jj_tb := jj_mem (List.mem_of_getElem? (i := 343) (by decide +kernel)) (by decide +kernel)
theorem lk_RX6_323 : Cond.constantLong RX6 323 (9) ∈ jj_tb := jj_mem (List.mem_of_getElem? (i := 344) (by decide +kernel)) (by decide +kernel)
theorem lk_RX6_91 : Cond.constant RX6 91 (-2147483648) ∈ jj_tb := jj_mem (List.mem_of_getElem? (i := 345) (by decide +kernel)) (by decide +kernel)
theorem lk_RL_32 : Cond.methodLink RL 32 yX6_bar ∈ jj_tb := jj_mem (List.mem_of_getElem? (i := 346) (by decide +kernel)) (by decide +kernel)
theorem lk_RX6_95 : Cond.methodLink RX6 95 yX3_hasPair ∈ jj_tb := jj_mem (List.mem_of_getElem? (i := 350) (by decide +kernel)) (by decide +kernel)
theorem lk_RL_37 : Cond.methodLink RL 37 yX6_all ∈ jj_tb := jj_mem (List.mem_of_getElem? (i := 354) (by decide +kernel)) (by decide +kernel)
theorem lk_RX6_98 : Cond.methodLink RX6 98 yX3_pairs ∈ jj_tb := jj_mem (List.mem_of_getElem? (i := 358) (by decide +kernel)) (by decide +kernel)
theorem lk_RL_41 : Cond.methodLink RL 41 yX6_read ∈ jj_tb := jj_mem (List.mem_of_getElem? (i := 359) (by decide +kernel)) (by decide +kernel)
theorem lk_RX6_101 : Cond.methodLink RX6 101 yX6_isSheet ∈ jj_tb := jj_mem (List.mem_of_getElem? (i := 363) (by decide +kernel)) (by decide +kernel)
theorem lk_RX6_107 : Cond.methodLink RX6 107 yX6_found ∈ jj_tb := jj_mem (List.mem_of_getElem? (i := 366) (by decide +kernel)) (by decide +kernel)
theorem lk_RX6_112 : Cond.methodLink RX6 112 Lib.Math.min.name ∈ jj_tb := jj_mem (List.mem_of_getElem? (i := 370) (by decide +kernel)) (by decide +kernel)
theorem lk_RL_45 : Cond.methodLink RL 45 yX6_info ∈ jj_tb := jj_mem (List.mem_of_getElem? (i := 373) (by decide +kernel)) (by decide +kernel)
theorem lk_RL_49 : Cond.methodLink RL 49 yX6_pair ∈ jj_tb := jj_mem (List.mem_of_getElem? (i := 377) (by decide +kernel)) (by decide +kernel)
theorem lk_RX6_127 : Cond.fieldLink RX6 127 "LeastFrames" "LESSER" "[I" ∈ jj_tb := jj_mem (List.mem_of_getElem? (i := 381) (by decide +kernel)) (by decide +kernel)
theorem lk_RX6_130 : Cond.fieldLink RX6 130 "LeastFrames" "GREATER" "[I" ∈ jj_tb := jj_mem (List.mem_of_getElem? (i := 382) (by decide +kernel)) (by decide +kernel)
theorem lk_RX6_136 : Cond.methodLink RX6 136 yX6_isBar ∈ jj_tb := jj_mem (List.mem_of_getElem? (i := 383) (by decide +kernel)) (by decide +kernel)
theorem lk_RL_53 : Cond.methodLink RL 53 yX6_least ∈ jj_tb := jj_mem (List.mem_of_getElem? (i := 387) (by decide +kernel)) (by decide +kernel)
theorem lk_RX6_139 : Cond.methodLink RX6 139 yX6_isPart ∈ jj_tb := jj_mem (List.mem_of_getElem? (i := 391) (by decide +kernel)) (by decide +kernel)
theorem lk_RX6_142 : Cond.methodLink RX6 142 yX6_asLong ∈ jj_tb := jj_mem (List.mem_of_getElem? (i := 394) (by decide +kernel)) (by decide +kernel)
theorem lk_RX6_319 : Cond.constantLong RX6 319 (-9223372036854775808) ∈ jj_tb := jj_mem (List.mem_of_getElem? (i := 397) (by decide +kernel)) (by decide +kernel)
theorem lk_RX6_146 : Cond.methodLink RX6 146 yX6_bestNow ∈ jj_tb := jj_mem (List.mem_of_getElem? (i := 398) (by decide +kernel)) (by decide +kernel)
theorem lk_RX6_199 : Cond.methodLink RX6 199 yX0_gather ∈ jj_tb := jj_mem (List.mem_of_getElem? (i := 402) (by decide +kernel)) (by decide +kernel)
theorem lk_RX0_51 : Cond.methodLink RX0 51 yX5_lay ∈ jj_tb := jj_mem (List.mem_of_getElem? (i := 406) (by decide +kernel)) (by decide +kernel)
theorem lk_RX5_33 : Cond.methodLink RX5 33 yX3_pairs ∈ jj_tb := jj_mem (List.mem_of_getElem? (i := 410) (by decide +kernel)) (by decide +kernel)
theorem lk_RX5_49 : Cond.methodLink RX5 49 yX3_isFree ∈ jj_tb := jj_mem (List.mem_of_getElem? (i := 411) (by decide +kernel)) (by decide +kernel)
theorem lk_RX5_53 : Cond.methodLink RX5 53 yX3_brought ∈ jj_tb := jj_mem (List.mem_of_getElem? (i := 415) (by decide +kernel)) (by decide +kernel)
theorem lk_RX0_55 : Cond.methodLink RX0 55 yX5_bears ∈ jj_tb := jj_mem (List.mem_of_getElem? (i := 419) (by decide +kernel)) (by decide +kernel)
theorem lk_RX0_59 : Cond.methodLink RX0 59 yX0_keep ∈ jj_tb := jj_mem (List.mem_of_getElem? (i := 423) (by decide +kernel)) (by decide +kernel)
theorem lk_RX0_69 : Cond.methodLink RX0 69 yX5_solve ∈ jj_tb := jj_mem (List.mem_of_getElem? (i := 427) (by decide +kernel)) (by decide +kernel)
theorem lk_RX0_84 : Cond.methodLink RX0 84 Lib.MathLoose.abs_long.x ∈ jj_tb := jj_mem (List.mem_of_getElem? (i := 431) (by decide +kernel)) (by decide +kernel)
theorem lk_RX0_65 : Cond.methodLink RX0 65 yX5_enter ∈ jj_tb := jj_mem (List.mem_of_getElem? (i := 434) (by decide +kernel)) (by decide +kernel)
theorem lk_RX5_60 : Cond.methodLink RX5 60 yX5_pivotRow ∈ jj_tb := jj_mem (List.mem_of_getElem? (i := 438) (by decide +kernel)) (by decide +kernel)
theorem lk_RX6_175 : Cond.methodLink RX6 175 yX0_leastWithin ∈ jj_tb := jj_mem (List.mem_of_getElem? (i := 442) (by decide +kernel)) (by decide +kernel)
theorem lk_RX0_93 : Cond.methodLink RX0 93 yX0_isDearer ∈ jj_tb := jj_mem (List.mem_of_getElem? (i := 446) (by decide +kernel)) (by decide +kernel)
theorem lk_RX6_149 : Cond.methodLink RX6 149 yX0_volume ∈ jj_tb := jj_mem (List.mem_of_getElem? (i := 450) (by decide +kernel)) (by decide +kernel)
theorem lk_RX6_211 : Cond.methodLink RX6 211 Lib.MathLoose.abs_long.x ∈ jj_tb := jj_mem (List.mem_of_getElem? (i := 458) (by decide +kernel)) (by decide +kernel)
theorem lk_RL_58 : Cond.methodLink RL 58 yX6_fault ∈ jj_tb := jj_mem (List.mem_of_getElem? (i := 459) (by decide +kernel)) (by decide +kernel)
theorem lk_RX6_153 : Cond.methodLink RX6 153 yX2_first ∈ jj_tb := jj_mem (List.mem_of_getElem? (i := 463) (by decide +kernel)) (by decide +kernel)
theorem lk_RX2_22 : Cond.methodLink RX2 22 yX3_pairs ∈ jj_tb := jj_mem (List.mem_of_getElem? (i := 467) (by decide +kernel)) (by decide +kernel)
theorem lk_RX2_35 : Cond.methodLink RX2 35 yX3_isFree ∈ jj_tb := jj_mem (List.mem_of_getElem? (i := 468) (by decide +kernel)) (by decide +kernel)
theorem lk_RX2_39 : Cond.methodLink RX2 39 yX2_lay ∈ jj_tb := jj_mem (List.mem_of_getElem? (i := 469) (by decide +kernel)) (by decide +kernel)
theorem lk_RX2_51 : Cond.methodLink RX2 51 yX3_brought ∈ jj_tb := jj_mem (List.mem_of_getElem? (i := 473) (by decide +kernel)) (by decide +kernel)
theorem lk_RX2_43 : Cond.methodLink RX2 43 yX2_reduce ∈ jj_tb := jj_mem (List.mem_of_getElem? (i := 474) (by decide +kernel)) (by decide +kernel)
theorem lk_RX2_47 : Cond.methodLink RX2 47 yX2_firstOther ∈ jj_tb := jj_mem (List.mem_of_getElem? (i := 478) (by decide +kernel)) (by decide +kernel)
theorem lk_RL_62 : Cond.methodLink RL 62 yX6_frame ∈ jj_tb := jj_mem (List.mem_of_getElem? (i := 482) (by decide +kernel)) (by decide +kernel)
theorem lk_RL_66 : Cond.methodLink RL 66 yX6_pull ∈ jj_tb := jj_mem (List.mem_of_getElem? (i := 486) (by decide +kernel)) (by decide +kernel)
theorem lk_RX6_160 : Cond.methodLink RX6 160 yX0_solve ∈ jj_tb := jj_mem (List.mem_of_getElem? (i := 490) (by decide +kernel)) (by decide +kernel)
theorem lk_RX6_171 : Cond.methodLink RX6 171 yX6_lowest ∈ jj_tb := jj_mem (List.mem_of_getElem? (i := 494) (by decide +kernel)) (by decide +kernel)
theorem lk_RL_71 : Cond.methodLink RL 71 yX6_without ∈ jj_tb := jj_mem (List.mem_of_getElem? (i := 495) (by decide +kernel)) (by decide +kernel)
theorem lk_RL_75 : Cond.methodLink RL 75 yX6_why ∈ jj_tb := jj_mem (List.mem_of_getElem? (i := 499) (by decide +kernel)) (by decide +kernel)
theorem lk_RL_79 : Cond.methodLink RL 79 yX6_needed ∈ jj_tb := jj_mem (List.mem_of_getElem? (i := 503) (by decide +kernel)) (by decide +kernel)
theorem lk_RX6_178 : Cond.methodLink RX6 178 yX0_isDearer ∈ jj_tb := jj_mem (List.mem_of_getElem? (i := 507) (by decide +kernel)) (by decide +kernel)
theorem lk_RL_83 : Cond.methodLink RL 83 yX6_dearest ∈ jj_tb := jj_mem (List.mem_of_getElem? (i := 508) (by decide +kernel)) (by decide +kernel)
theorem lk_RX6_181 : Cond.methodLink RX6 181 yX6_needed ∈ jj_tb := jj_mem (List.mem_of_getElem? (i := 512) (by decide +kernel)) (by decide +kernel)
theorem lk_RL_87 : Cond.methodLink RL 87 yX6_gain ∈ jj_tb := jj_mem (List.mem_of_getElem? (i := 513) (by decide +kernel)) (by decide +kernel)
theorem lk_RX6_184 : Cond.methodLink RX6 184 yX0_difference ∈ jj_tb := jj_mem (List.mem_of_getElem? (i := 517) (by decide +kernel)) (by decide +kernel)
theorem lk_RL_91 : Cond.methodLink RL 91 yX6_grow ∈ jj_tb := jj_mem (List.mem_of_getElem? (i := 521) (by decide +kernel)) (by decide +kernel)
theorem lk_RX6_188 : Cond.methodLink RX6 188 yX6_mostSaving ∈ jj_tb := jj_mem (List.mem_of_getElem? (i := 525) (by decide +kernel)) (by decide +kernel)
theorem lk_RL_95 : Cond.methodLink RL 95 yX6_prune ∈ jj_tb := jj_mem (List.mem_of_getElem? (i := 529) (by decide +kernel)) (by decide +kernel)
theorem lk_RX6_191 : Cond.methodLink RX6 191 yX6_frame ∈ jj_tb := jj_mem (List.mem_of_getElem? (i := 533) (by decide +kernel)) (by decide +kernel)
theorem lk_RX6_194 : Cond.methodLink RX6 194 yJ6_bitCount_0f7a4 ∈ jj_tb := jj_mem (List.mem_of_getElem? (i := 534) (by decide +kernel)) (by decide +kernel)
theorem lk_RJ6_265 : Cond.constant RJ6 265 (1431655765) ∈ jj_tb := jj_mem (List.mem_of_getElem? (i := 537) (by decide +kernel)) (by decide +kernel)
theorem lk_RJ6_266 : Cond.constant RJ6 266 (858993459) ∈ jj_tb := jj_mem (List.mem_of_getElem? (i := 538) (by decide +kernel)) (by decide +kernel)
theorem lk_RJ6_267 : Cond.constant RJ6 267 (252645135) ∈ jj_tb := jj_mem (List.mem_of_getElem? (i := 539) (by decide +kernel)) (by decide +kernel)
theorem lk_RL_99 : Cond.methodLink RL 99 yX6_would ∈ jj_tb := jj_mem (List.mem_of_getElem? (i := 540) (by decide +kernel)) (by decide +kernel)
theorem lk_RL_104 : Cond.methodLink RL 104 yX6_shift ∈ jj_tb := jj_mem (List.mem_of_getElem? (i := 544) (by decide +kernel)) (by decide +kernel)
theorem lk_RL_108 : Cond.methodLink RL 108 yX6_stretch ∈ jj_tb := jj_mem (List.mem_of_getElem? (i := 548) (by decide +kernel)) (by decide +kernel)
theorem lk_RX6_202 : Cond.methodLink RX6 202 yX3_stretchParts ∈ jj_tb := jj_mem (List.mem_of_getElem? (i := 552) (by decide +kernel)) (by decide +kernel)
theorem lk_RX3_52 : Cond.methodLink RX3 52 yX3_freeShift ∈ jj_tb := jj_mem (List.mem_of_getElem? (i := 556) (by decide +kernel)) (by decide +kernel)
theorem lk_RX3_48 : Cond.methodLink RX3 48 yX3_isFree ∈ jj_tb := jj_mem (List.mem_of_getElem? (i := 560) (by decide +kernel)) (by decide +kernel)
theorem lk_RX6_205 : Cond.constantLong RX6 205 (12) ∈ jj_tb := jj_mem (List.mem_of_getElem? (i := 561) (by decide +kernel)) (by decide +kernel)
theorem lk_RL_112 : Cond.methodLink RL 112 yX6_work ∈ jj_tb := jj_mem (List.mem_of_getElem? (i := 562) (by decide +kernel)) (by decide +kernel)
theorem lk_RX6_207 : Cond.methodLink RX6 207 yX3_workParts ∈ jj_tb := jj_mem (List.mem_of_getElem? (i := 566) (by decide +kernel)) (by decide +kernel)
theorem lk_RL_116 : Cond.methodLink RL 116 yX6_proves ∈ jj_tb := jj_mem (List.mem_of_getElem? (i := 570) (by decide +kernel)) (by decide +kernel)
theorem lk_RL_120 : Cond.methodLink RL 120 yX6_cross ∈ jj_tb := jj_mem (List.mem_of_getElem? (i := 574) (by decide +kernel)) (by decide +kernel)
theorem lk_RX6_221 : Cond.methodLink RX6 221 yX1_pass ∈ jj_tb := jj_mem (List.mem_of_getElem? (i := 578) (by decide +kernel)) (by decide +kernel)
theorem lk_RX1_9 : Cond.methodLink RX1 9 yX1_meet ∈ jj_tb := jj_mem (List.mem_of_getElem? (i := 582) (by decide +kernel)) (by decide +kernel)
theorem lk_RX1_27 : Cond.methodLink RX1 27 yX1_isInside ∈ jj_tb := jj_mem (List.mem_of_getElem? (i := 587) (by decide +kernel)) (by decide +kernel)
theorem lk_RL_124 : Cond.methodLink RL 124 yX6_sheet ∈ jj_tb := jj_mem (List.mem_of_getElem? (i := 590) (by decide +kernel)) (by decide +kernel)
theorem lk_RX6_239 : Cond.methodLink RX6 239 yX4_renew ∈ jj_tb := jj_mem (List.mem_of_getElem? (i := 594) (by decide +kernel)) (by decide +kernel)
theorem lk_RL_128 : Cond.methodLink RL 128 yX6_lose ∈ jj_tb := jj_mem (List.mem_of_getElem? (i := 598) (by decide +kernel)) (by decide +kernel)
theorem lk_RL_132 : Cond.methodLink RL 132 yX6_put ∈ jj_tb := jj_mem (List.mem_of_getElem? (i := 602) (by decide +kernel)) (by decide +kernel)
theorem lk_RX6_246 : Cond.constant RX6 246 (-2097152) ∈ jj_tb := jj_mem (List.mem_of_getElem? (i := 606) (by decide +kernel)) (by decide +kernel)
theorem lk_RX6_247 : Cond.constant RX6 247 (2097151) ∈ jj_tb := jj_mem (List.mem_of_getElem? (i := 607) (by decide +kernel)) (by decide +kernel)
theorem lk_RL_137 : Cond.methodLink RL 137 yX6_get ∈ jj_tb := jj_mem (List.mem_of_getElem? (i := 608) (by decide +kernel)) (by decide +kernel)
theorem lk_RL_141 : Cond.methodLink RL 141 yX6_copy ∈ jj_tb := jj_mem (List.mem_of_getElem? (i := 612) (by decide +kernel)) (by decide +kernel)
theorem lk_RX6_248 : Cond.methodLink RX6 248 yX4_hasItems ∈ jj_tb := jj_mem (List.mem_of_getElem? (i := 616) (by decide +kernel)) (by decide +kernel)
theorem lk_RX6_251 : Cond.methodLink RX6 251 arraycopyName ∈ jj_tb := jj_mem (List.mem_of_getElem? (i := 620) (by decide +kernel)) (by decide +kernel)
theorem lk_RL_146 : Cond.methodLink RL 146 yX6_write ∈ jj_tb := jj_mem (List.mem_of_getElem? (i := 623) (by decide +kernel)) (by decide +kernel)
theorem lk_RL_150 : Cond.methodLink RL 150 yX6_count ∈ jj_tb := jj_mem (List.mem_of_getElem? (i := 627) (by decide +kernel)) (by decide +kernel)
theorem lk_RX6_257 : Cond.methodLink RX6 257 yX3_ways ∈ jj_tb := jj_mem (List.mem_of_getElem? (i := 631) (by decide +kernel)) (by decide +kernel)
theorem lk_RX6_260 : Cond.methodLink RX6 260 yX6_bitsOrNone ∈ jj_tb := jj_mem (List.mem_of_getElem? (i := 635) (by decide +kernel)) (by decide +kernel)
theorem lk_RX6_263 : Cond.methodLink RX6 263 yX6_crossings ∈ jj_tb := jj_mem (List.mem_of_getElem? (i := 638) (by decide +kernel)) (by decide +kernel)
theorem lk_RX6_266 : Cond.methodLink RX6 266 yX6_proves ∈ jj_tb := jj_mem (List.mem_of_getElem? (i := 642) (by decide +kernel)) (by decide +kernel)
theorem lk_RL_154 : Cond.methodLink RL 154 yX6_digest ∈ jj_tb := jj_mem (List.mem_of_getElem? (i := 643) (by decide +kernel)) (by decide +kernel)
theorem lk_RX6_272 : Cond.constantLong RX6 272 (17) ∈ jj_tb := jj_mem (List.mem_of_getElem? (i := 647) (by decide +kernel)) (by decide +kernel)
theorem lk_RX6_274 : Cond.constantLong RX6 274 (31) ∈ jj_tb := jj_mem (List.mem_of_getElem? (i := 648) (by decide +kernel)) (by decide +kernel)
theorem lk_RX6_276 : Cond.methodLink RX6 276 yX6_count ∈ jj_tb := jj_mem (List.mem_of_getElem? (i := 649) (by decide +kernel)) (by decide +kernel)
theorem lk_RX6_279 : Cond.methodLink RX6 279 yX6_least ∈ jj_tb := jj_mem (List.mem_of_getElem? (i := 650) (by decide +kernel)) (by decide +kernel)
theorem lk_RX6_282 : Cond.methodLink RX6 282 yX6_fault ∈ jj_tb := jj_mem (List.mem_of_getElem? (i := 651) (by decide +kernel)) (by decide +kernel)
theorem lk_RX6_285 : Cond.methodLink RX6 285 yX6_dearest ∈ jj_tb := jj_mem (List.mem_of_getElem? (i := 652) (by decide +kernel)) (by decide +kernel)
theorem lk_RX6_288 : Cond.methodLink RX6 288 yX6_info ∈ jj_tb := jj_mem (List.mem_of_getElem? (i := 653) (by decide +kernel)) (by decide +kernel)
theorem lk_RX6_291 : Cond.methodLink RX6 291 yX6_digestPair ∈ jj_tb := jj_mem (List.mem_of_getElem? (i := 654) (by decide +kernel)) (by decide +kernel)
theorem lk_RX6_301 : Cond.methodLink RX6 301 yX6_pair ∈ jj_tb := jj_mem (List.mem_of_getElem? (i := 658) (by decide +kernel)) (by decide +kernel)
theorem lk_RX6_304 : Cond.methodLink RX6 304 yX6_pull ∈ jj_tb := jj_mem (List.mem_of_getElem? (i := 659) (by decide +kernel)) (by decide +kernel)
theorem lk_RX6_307 : Cond.methodLink RX6 307 yX6_stretch ∈ jj_tb := jj_mem (List.mem_of_getElem? (i := 660) (by decide +kernel)) (by decide +kernel)
theorem lk_RX6_310 : Cond.methodLink RX6 310 yX6_without ∈ jj_tb := jj_mem (List.mem_of_getElem? (i := 661) (by decide +kernel)) (by decide +kernel)
theorem lk_RX6_313 : Cond.methodLink RX6 313 yX6_why ∈ jj_tb := jj_mem (List.mem_of_getElem? (i := 662) (by decide +kernel)) (by decide +kernel)
theorem lk_RX6_316 : Cond.methodLink RX6 316 yX6_gain ∈ jj_tb := jj_mem (List.mem_of_getElem? (i := 663) (by decide +kernel)) (by decide +kernel)
theorem lk_RX6_295 : Cond.methodLink RX6 295 yX6_work ∈ jj_tb := jj_mem (List.mem_of_getElem? (i := 664) (by decide +kernel)) (by decide +kernel)
theorem lk_RX6_298 : Cond.methodLink RX6 298 yX6_cross ∈ jj_tb := jj_mem (List.mem_of_getElem? (i := 665) (by decide +kernel)) (by decide +kernel)
theorem lk_RX7_7 : Cond.fieldLink RX7 7 "LeastFramesModel" "xs" "[I" ∈ jj_tb := jj_mem (List.mem_of_getElem? (i := 672) (by decide +kernel)) (by decide +kernel)
theorem lk_RX7_13 : Cond.fieldLink RX7 13 "LeastFramesModel" "ys" "[I" ∈ jj_tb := jj_mem (List.mem_of_getElem? (i := 673) (by decide +kernel)) (by decide +kernel)
theorem lk_RX7_16 : Cond.fieldLink RX7 16 "LeastFramesModel" "helds" "[I" ∈ jj_tb := jj_mem (List.mem_of_getElem? (i := 674) (by decide +kernel)) (by decide +kernel)
theorem lk_RX7_19 : Cond.fieldLink RX7 19 "LeastFramesModel" "loads" "[I" ∈ jj_tb := jj_mem (List.mem_of_getElem? (i := 675) (by decide +kernel)) (by decide +kernel)
theorem lk_RX7_22 : Cond.fieldLink RX7 22 "LeastFramesModel" "shifts" "[I" ∈ jj_tb := jj_mem (List.mem_of_getElem? (i := 676) (by decide +kernel)) (by decide +kernel)
theorem lk_RX7_60 : Cond.fieldLink RX7 60 "LeastFramesModel" "points" "I" ∈ jj_tb := jj_mem (List.mem_of_getElem? (i := 677) (by decide +kernel)) (by decide +kernel)
theorem lk_RX7_76 : Cond.fieldLink RX7 76 "LeastFramesModel" "bars" "I" ∈ jj_tb := jj_mem (List.mem_of_getElem? (i := 678) (by decide +kernel)) (by decide +kernel)
theorem lk_RX7_25 : Cond.fieldLink RX7 25 "LeastFramesModel" "rows" "[J" ∈ jj_tb := jj_mem (List.mem_of_getElem? (i := 679) (by decide +kernel)) (by decide +kernel)
theorem lk_RX7_29 : Cond.fieldLink RX7 29 "LeastFramesModel" "pivots" "[I" ∈ jj_tb := jj_mem (List.mem_of_getElem? (i := 680) (by decide +kernel)) (by decide +kernel)
theorem lk_RX7_121 : Cond.fieldLink RX7 121 "LeastFramesModel" "rank" "I" ∈ jj_tb := jj_mem (List.mem_of_getElem? (i := 681) (by decide +kernel)) (by decide +kernel)
theorem lk_RX7_32 : Cond.fieldLink RX7 32 "LeastFramesModel" "bears" "[Z" ∈ jj_tb := jj_mem (List.mem_of_getElem? (i := 682) (by decide +kernel)) (by decide +kernel)
theorem lk_RX7_36 : Cond.fieldLink RX7 36 "LeastFramesModel" "aboves" "[J" ∈ jj_tb := jj_mem (List.mem_of_getElem? (i := 683) (by decide +kernel)) (by decide +kernel)
theorem lk_RX7_39 : Cond.fieldLink RX7 39 "LeastFramesModel" "belows" "[J" ∈ jj_tb := jj_mem (List.mem_of_getElem? (i := 684) (by decide +kernel)) (by decide +kernel)
theorem lk_RX7_90 : Cond.fieldLink RX7 90 "LeastFramesModel" "isKnown" "Z" ∈ jj_tb := jj_mem (List.mem_of_getElem? (i := 685) (by decide +kernel)) (by decide +kernel)
theorem lk_RX7_213 : Cond.fieldLink RX7 213 "LeastFramesModel" "sHit" "I" ∈ jj_tb := jj_mem (List.mem_of_getElem? (i := 686) (by decide +kernel)) (by decide +kernel)
theorem lk_RX7_216 : Cond.fieldLink RX7 216 "LeastFramesModel" "tHit" "I" ∈ jj_tb := jj_mem (List.mem_of_getElem? (i := 687) (by decide +kernel)) (by decide +kernel)
theorem lk_RX7_210 : Cond.fieldLink RX7 210 "LeastFramesModel" "under" "I" ∈ jj_tb := jj_mem (List.mem_of_getElem? (i := 688) (by decide +kernel)) (by decide +kernel)
theorem lk_RX7_42 : Cond.fieldLink RX7 42 "LeastFramesModel" "forms" "[I" ∈ jj_tb := jj_mem (List.mem_of_getElem? (i := 689) (by decide +kernel)) (by decide +kernel)
theorem lk_RX7_45 : Cond.fieldLink RX7 45 "LeastFramesModel" "sizes" "[I" ∈ jj_tb := jj_mem (List.mem_of_getElem? (i := 690) (by decide +kernel)) (by decide +kernel)
theorem lk_RX7_48 : Cond.fieldLink RX7 48 "LeastFramesModel" "items" "[J" ∈ jj_tb := jj_mem (List.mem_of_getElem? (i := 691) (by decide +kernel)) (by decide +kernel)
theorem lk_RX7_51 : Cond.fieldLink RX7 51 "LeastFramesModel" "movedItems" "[J" ∈ jj_tb := jj_mem (List.mem_of_getElem? (i := 692) (by decide +kernel)) (by decide +kernel)
theorem lk_RX7_228 : Cond.fieldLink RX7 228 "LeastFramesModel" "finding" "I" ∈ jj_tb := jj_mem (List.mem_of_getElem? (i := 693) (by decide +kernel)) (by decide +kernel)
theorem lk_RL_17 : Cond.methodLink RL 17 yX7_point ∈ jj_tb := jj_mem (List.mem_of_getElem? (i := 740) (by decide +kernel)) (by decide +kernel)
theorem lk_RX7_64 : Cond.methodLink RX7 64 yX7_in ∈ jj_tb := jj_mem (List.mem_of_getElem? (i := 744) (by decide +kernel)) (by decide +kernel)
theorem lk_RL_22 : Cond.methodLink RL 22 yX7_back ∈ jj_tb := jj_mem (List.mem_of_getElem? (i := 747) (by decide +kernel)) (by decide +kernel)
theorem lk_RX7_68 : Cond.methodLink RX7 68 yX7_pairs ∈ jj_tb := jj_mem (List.mem_of_getElem? (i := 751) (by decide +kernel)) (by decide +kernel)
theorem lk_RL_26 : Cond.methodLink RL 26 yX7_hold ∈ jj_tb := jj_mem (List.mem_of_getElem? (i := 755) (by decide +kernel)) (by decide +kernel)
theorem lk_RX7_94 : Cond.methodLink RX7 94 yX7_isPoint ∈ jj_tb := jj_mem (List.mem_of_getElem? (i := 759) (by decide +kernel)) (by decide +kernel)
theorem lk_RL_31 : Cond.methodLink RL 31 yX7_load ∈ jj_tb := jj_mem (List.mem_of_getElem? (i := 763) (by decide +kernel)) (by decide +kernel)
theorem lk_RX7_97 : Cond.constant RX7 97 (-2147483648) ∈ jj_tb := jj_mem (List.mem_of_getElem? (i := 767) (by decide +kernel)) (by decide +kernel)
theorem lk_RL_36 : Cond.methodLink RL 36 yX7_bar ∈ jj_tb := jj_mem (List.mem_of_getElem? (i := 768) (by decide +kernel)) (by decide +kernel)
theorem lk_RX7_72 : Cond.methodLink RX7 72 yX7_isPair ∈ jj_tb := jj_mem (List.mem_of_getElem? (i := 772) (by decide +kernel)) (by decide +kernel)
theorem lk_RL_40 : Cond.methodLink RL 40 yX7_all ∈ jj_tb := jj_mem (List.mem_of_getElem? (i := 776) (by decide +kernel)) (by decide +kernel)
theorem lk_RL_44 : Cond.methodLink RL 44 yX7_read ∈ jj_tb := jj_mem (List.mem_of_getElem? (i := 780) (by decide +kernel)) (by decide +kernel)
theorem lk_RX7_98 : Cond.methodLink RX7 98 yX7_isSheet ∈ jj_tb := jj_mem (List.mem_of_getElem? (i := 784) (by decide +kernel)) (by decide +kernel)
theorem lk_RX7_101 : Cond.methodLink RX7 101 yX7_meets ∈ jj_tb := jj_mem (List.mem_of_getElem? (i := 787) (by decide +kernel)) (by decide +kernel)
theorem lk_RX7_104 : Cond.constantLong RX7 104 (-9) ∈ jj_tb := jj_mem (List.mem_of_getElem? (i := 791) (by decide +kernel)) (by decide +kernel)
theorem lk_RX7_106 : Cond.constantLong RX7 106 (9) ∈ jj_tb := jj_mem (List.mem_of_getElem? (i := 792) (by decide +kernel)) (by decide +kernel)
theorem lk_RL_48 : Cond.methodLink RL 48 yX7_info ∈ jj_tb := jj_mem (List.mem_of_getElem? (i := 793) (by decide +kernel)) (by decide +kernel)
theorem lk_RX7_108 : Cond.methodLink RX7 108 yX7_infoOf ∈ jj_tb := jj_mem (List.mem_of_getElem? (i := 797) (by decide +kernel)) (by decide +kernel)
theorem lk_RL_52 : Cond.methodLink RL 52 yX7_pair ∈ jj_tb := jj_mem (List.mem_of_getElem? (i := 801) (by decide +kernel)) (by decide +kernel)
theorem lk_RX7_114 : Cond.methodLink RX7 114 yX7_pairOf ∈ jj_tb := jj_mem (List.mem_of_getElem? (i := 805) (by decide +kernel)) (by decide +kernel)
theorem lk_RX7_83 : Cond.methodLink RX7 83 yX7_lesser ∈ jj_tb := jj_mem (List.mem_of_getElem? (i := 809) (by decide +kernel)) (by decide +kernel)
theorem lk_RX7_79 : Cond.methodLink RX7 79 yX7_greater ∈ jj_tb := jj_mem (List.mem_of_getElem? (i := 812) (by decide +kernel)) (by decide +kernel)
theorem lk_RX7_111 : Cond.methodLink RX7 111 yX7_quad ∈ jj_tb := jj_mem (List.mem_of_getElem? (i := 815) (by decide +kernel)) (by decide +kernel)
theorem lk_RX7_86 : Cond.methodLink RX7 86 yX7_far ∈ jj_tb := jj_mem (List.mem_of_getElem? (i := 819) (by decide +kernel)) (by decide +kernel)
theorem lk_RL_57 : Cond.methodLink RL 57 yX7_least ∈ jj_tb := jj_mem (List.mem_of_getElem? (i := 823) (by decide +kernel)) (by decide +kernel)
theorem lk_RX7_164 : Cond.methodLink RX7 164 yX7_volumeOf ∈ jj_tb := jj_mem (List.mem_of_getElem? (i := 827) (by decide +kernel)) (by decide +kernel)
theorem lk_RX7_157 : Cond.methodLink RX7 157 yX7_bestOf ∈ jj_tb := jj_mem (List.mem_of_getElem? (i := 831) (by decide +kernel)) (by decide +kernel)
theorem lk_RX7_151 : Cond.methodLink RX7 151 yX7_finds ∈ jj_tb := jj_mem (List.mem_of_getElem? (i := 835) (by decide +kernel)) (by decide +kernel)
theorem lk_RX7_142 : Cond.methodLink RX7 142 yX7_faultOf ∈ jj_tb := jj_mem (List.mem_of_getElem? (i := 839) (by decide +kernel)) (by decide +kernel)
theorem lk_RX7_131 : Cond.methodLink RX7 131 yX7_isWay ∈ jj_tb := jj_mem (List.mem_of_getElem? (i := 843) (by decide +kernel)) (by decide +kernel)
theorem lk_RX7_134 : Cond.methodLink RX7 134 yX7_adds ∈ jj_tb := jj_mem (List.mem_of_getElem? (i := 847) (by decide +kernel)) (by decide +kernel)
theorem lk_RX7_124 : Cond.methodLink RX7 124 yX7_brought ∈ jj_tb := jj_mem (List.mem_of_getElem? (i := 851) (by decide +kernel)) (by decide +kernel)
theorem lk_RX7_127 : Cond.methodLink RX7 127 yX7_clears ∈ jj_tb := jj_mem (List.mem_of_getElem? (i := 855) (by decide +kernel)) (by decide +kernel)
theorem lk_RX7_117 : Cond.methodLink RX7 117 yX7_lowers ∈ jj_tb := jj_mem (List.mem_of_getElem? (i := 859) (by decide +kernel)) (by decide +kernel)
theorem lk_RX7_56 : Cond.methodLink RX7 56 yX7_divisor ∈ jj_tb := jj_mem (List.mem_of_getElem? (i := 863) (by decide +kernel)) (by decide +kernel)
theorem lk_RX7_145 : Cond.methodLink RX7 145 yX7_size ∈ jj_tb := jj_mem (List.mem_of_getElem? (i := 866) (by decide +kernel)) (by decide +kernel)
theorem lk_RX7_148 : Cond.methodLink RX7 148 yX7_volumes ∈ jj_tb := jj_mem (List.mem_of_getElem? (i := 869) (by decide +kernel)) (by decide +kernel)
theorem lk_RX7_138 : Cond.methodLink RX7 138 yX7_partOf ∈ jj_tb := jj_mem (List.mem_of_getElem? (i := 873) (by decide +kernel)) (by decide +kernel)
theorem lk_RX7_154 : Cond.methodLink RX7 154 yX7_isLess ∈ jj_tb := jj_mem (List.mem_of_getElem? (i := 876) (by decide +kernel)) (by decide +kernel)
theorem lk_RX7_160 : Cond.methodLink RX7 160 yX7_no ∈ jj_tb := jj_mem (List.mem_of_getElem? (i := 880) (by decide +kernel)) (by decide +kernel)
theorem lk_RX7_54 : Cond.constantLong RX7 54 (-9223372036854775808) ∈ jj_tb := jj_mem (List.mem_of_getElem? (i := 883) (by decide +kernel)) (by decide +kernel)
theorem lk_RL_61 : Cond.methodLink RL 61 yX7_fault ∈ jj_tb := jj_mem (List.mem_of_getElem? (i := 884) (by decide +kernel)) (by decide +kernel)
theorem lk_RL_65 : Cond.methodLink RL 65 yX7_frame ∈ jj_tb := jj_mem (List.mem_of_getElem? (i := 888) (by decide +kernel)) (by decide +kernel)
theorem lk_RX7_168 : Cond.methodLink RX7 168 yX7_frameNow ∈ jj_tb := jj_mem (List.mem_of_getElem? (i := 892) (by decide +kernel)) (by decide +kernel)
theorem lk_RL_70 : Cond.methodLink RL 70 yX7_pull ∈ jj_tb := jj_mem (List.mem_of_getElem? (i := 896) (by decide +kernel)) (by decide +kernel)
theorem lk_RX7_171 : Cond.methodLink RX7 171 yX7_pullOf ∈ jj_tb := jj_mem (List.mem_of_getElem? (i := 900) (by decide +kernel)) (by decide +kernel)
theorem lk_RL_74 : Cond.methodLink RL 74 yX7_without ∈ jj_tb := jj_mem (List.mem_of_getElem? (i := 904) (by decide +kernel)) (by decide +kernel)
theorem lk_RX7_174 : Cond.methodLink RX7 174 yX7_isBar ∈ jj_tb := jj_mem (List.mem_of_getElem? (i := 908) (by decide +kernel)) (by decide +kernel)
theorem lk_RL_78 : Cond.methodLink RL 78 yX7_why ∈ jj_tb := jj_mem (List.mem_of_getElem? (i := 912) (by decide +kernel)) (by decide +kernel)
theorem lk_RL_82 : Cond.methodLink RL 82 yX7_needed ∈ jj_tb := jj_mem (List.mem_of_getElem? (i := 916) (by decide +kernel)) (by decide +kernel)
theorem lk_RX7_180 : Cond.methodLink RX7 180 yX7_neededNow ∈ jj_tb := jj_mem (List.mem_of_getElem? (i := 920) (by decide +kernel)) (by decide +kernel)
theorem lk_RX7_177 : Cond.methodLink RX7 177 yX7_isNeeded ∈ jj_tb := jj_mem (List.mem_of_getElem? (i := 924) (by decide +kernel)) (by decide +kernel)
theorem lk_RL_86 : Cond.methodLink RL 86 yX7_dearest ∈ jj_tb := jj_mem (List.mem_of_getElem? (i := 928) (by decide +kernel)) (by decide +kernel)
theorem lk_RX7_183 : Cond.methodLink RX7 183 yX7_dearestNow ∈ jj_tb := jj_mem (List.mem_of_getElem? (i := 932) (by decide +kernel)) (by decide +kernel)
theorem lk_RL_90 : Cond.methodLink RL 90 yX7_gain ∈ jj_tb := jj_mem (List.mem_of_getElem? (i := 936) (by decide +kernel)) (by decide +kernel)
theorem lk_RX7_186 : Cond.methodLink RX7 186 yX7_gainOf ∈ jj_tb := jj_mem (List.mem_of_getElem? (i := 940) (by decide +kernel)) (by decide +kernel)
theorem lk_RL_94 : Cond.methodLink RL 94 yX7_grow ∈ jj_tb := jj_mem (List.mem_of_getElem? (i := 944) (by decide +kernel)) (by decide +kernel)
theorem lk_RX7_189 : Cond.methodLink RX7 189 yX7_growing ∈ jj_tb := jj_mem (List.mem_of_getElem? (i := 948) (by decide +kernel)) (by decide +kernel)
theorem lk_RL_98 : Cond.methodLink RL 98 yX7_prune ∈ jj_tb := jj_mem (List.mem_of_getElem? (i := 952) (by decide +kernel)) (by decide +kernel)
theorem lk_RL_103 : Cond.methodLink RL 103 yX7_would ∈ jj_tb := jj_mem (List.mem_of_getElem? (i := 956) (by decide +kernel)) (by decide +kernel)
theorem lk_RX7_192 : Cond.methodLink RX7 192 yX7_wouldBe ∈ jj_tb := jj_mem (List.mem_of_getElem? (i := 960) (by decide +kernel)) (by decide +kernel)
theorem lk_RL_107 : Cond.methodLink RL 107 yX7_shift ∈ jj_tb := jj_mem (List.mem_of_getElem? (i := 964) (by decide +kernel)) (by decide +kernel)
theorem lk_RL_111 : Cond.methodLink RL 111 yX7_stretch ∈ jj_tb := jj_mem (List.mem_of_getElem? (i := 968) (by decide +kernel)) (by decide +kernel)
theorem lk_RX7_199 : Cond.methodLink RX7 199 yX7_stretchOf ∈ jj_tb := jj_mem (List.mem_of_getElem? (i := 972) (by decide +kernel)) (by decide +kernel)
theorem lk_RX7_196 : Cond.methodLink RX7 196 yX7_shiftAt ∈ jj_tb := jj_mem (List.mem_of_getElem? (i := 976) (by decide +kernel)) (by decide +kernel)
theorem lk_RX7_202 : Cond.constantLong RX7 202 (12) ∈ jj_tb := jj_mem (List.mem_of_getElem? (i := 980) (by decide +kernel)) (by decide +kernel)
theorem lk_RL_115 : Cond.methodLink RL 115 yX7_work ∈ jj_tb := jj_mem (List.mem_of_getElem? (i := 981) (by decide +kernel)) (by decide +kernel)
theorem lk_RX7_204 : Cond.methodLink RX7 204 yX7_workNow ∈ jj_tb := jj_mem (List.mem_of_getElem? (i := 985) (by decide +kernel)) (by decide +kernel)
theorem lk_RL_119 : Cond.methodLink RL 119 yX7_proves ∈ jj_tb := jj_mem (List.mem_of_getElem? (i := 989) (by decide +kernel)) (by decide +kernel)
theorem lk_RX7_207 : Cond.methodLink RX7 207 yX7_provesNow ∈ jj_tb := jj_mem (List.mem_of_getElem? (i := 993) (by decide +kernel)) (by decide +kernel)
theorem lk_RL_123 : Cond.methodLink RL 123 yX7_cross ∈ jj_tb := jj_mem (List.mem_of_getElem? (i := 997) (by decide +kernel)) (by decide +kernel)
theorem lk_RX7_225 : Cond.methodLink RX7 225 yX7_crossOf ∈ jj_tb := jj_mem (List.mem_of_getElem? (i := 1001) (by decide +kernel)) (by decide +kernel)
theorem lk_RX7_222 : Cond.methodLink RX7 222 yX7_crossing ∈ jj_tb := jj_mem (List.mem_of_getElem? (i := 1005) (by decide +kernel)) (by decide +kernel)
theorem lk_RX7_219 : Cond.methodLink RX7 219 yX7_isCross ∈ jj_tb := jj_mem (List.mem_of_getElem? (i := 1009) (by decide +kernel)) (by decide +kernel)
theorem lk_RL_127 : Cond.methodLink RL 127 yX7_sheet ∈ jj_tb := jj_mem (List.mem_of_getElem? (i := 1013) (by decide +kernel)) (by decide +kernel)
theorem lk_RL_131 : Cond.methodLink RL 131 yX7_lose ∈ jj_tb := jj_mem (List.mem_of_getElem? (i := 1017) (by decide +kernel)) (by decide +kernel)
theorem lk_RL_136 : Cond.methodLink RL 136 yX7_put ∈ jj_tb := jj_mem (List.mem_of_getElem? (i := 1021) (by decide +kernel)) (by decide +kernel)
theorem lk_RX7_231 : Cond.constant RX7 231 (-2097152) ∈ jj_tb := jj_mem (List.mem_of_getElem? (i := 1025) (by decide +kernel)) (by decide +kernel)
theorem lk_RX7_232 : Cond.constant RX7 232 (2097151) ∈ jj_tb := jj_mem (List.mem_of_getElem? (i := 1026) (by decide +kernel)) (by decide +kernel)
theorem lk_RL_140 : Cond.methodLink RL 140 yX7_get ∈ jj_tb := jj_mem (List.mem_of_getElem? (i := 1027) (by decide +kernel)) (by decide +kernel)
theorem lk_RL_145 : Cond.methodLink RL 145 yX7_copy ∈ jj_tb := jj_mem (List.mem_of_getElem? (i := 1031) (by decide +kernel)) (by decide +kernel)
theorem lk_RL_149 : Cond.methodLink RL 149 yX7_write ∈ jj_tb := jj_mem (List.mem_of_getElem? (i := 1035) (by decide +kernel)) (by decide +kernel)
theorem lk_RL_153 : Cond.methodLink RL 153 yX7_count ∈ jj_tb := jj_mem (List.mem_of_getElem? (i := 1039) (by decide +kernel)) (by decide +kernel)
theorem lk_RX7_233 : Cond.methodLink RX7 233 yX7_ways ∈ jj_tb := jj_mem (List.mem_of_getElem? (i := 1043) (by decide +kernel)) (by decide +kernel)
theorem lk_RX7_236 : Cond.methodLink RX7 236 yX7_crossings ∈ jj_tb := jj_mem (List.mem_of_getElem? (i := 1047) (by decide +kernel)) (by decide +kernel)
theorem lk_RL_158 : Cond.methodLink RL 158 yX7_digest ∈ jj_tb := jj_mem (List.mem_of_getElem? (i := 1051) (by decide +kernel)) (by decide +kernel)
theorem lk_RX7_250 : Cond.constantLong RX7 250 (17) ∈ jj_tb := jj_mem (List.mem_of_getElem? (i := 1055) (by decide +kernel)) (by decide +kernel)
theorem lk_RX7_239 : Cond.constantLong RX7 239 (31) ∈ jj_tb := jj_mem (List.mem_of_getElem? (i := 1056) (by decide +kernel)) (by decide +kernel)
theorem lk_RX7_252 : Cond.methodLink RX7 252 yX7_count ∈ jj_tb := jj_mem (List.mem_of_getElem? (i := 1057) (by decide +kernel)) (by decide +kernel)
theorem lk_RX7_255 : Cond.methodLink RX7 255 yX7_fault ∈ jj_tb := jj_mem (List.mem_of_getElem? (i := 1058) (by decide +kernel)) (by decide +kernel)
theorem lk_RX7_258 : Cond.methodLink RX7 258 yX7_pairDigest ∈ jj_tb := jj_mem (List.mem_of_getElem? (i := 1059) (by decide +kernel)) (by decide +kernel)
theorem lk_RX7_241 : Cond.methodLink RX7 241 yX7_stretch ∈ jj_tb := jj_mem (List.mem_of_getElem? (i := 1063) (by decide +kernel)) (by decide +kernel)
theorem lk_RX7_244 : Cond.methodLink RX7 244 yX7_without ∈ jj_tb := jj_mem (List.mem_of_getElem? (i := 1064) (by decide +kernel)) (by decide +kernel)
theorem lk_RX7_247 : Cond.methodLink RX7 247 yX7_why ∈ jj_tb := jj_mem (List.mem_of_getElem? (i := 1065) (by decide +kernel)) (by decide +kernel)
theorem lk_RX7_262 : Cond.methodLink RX7 262 yX7_work ∈ jj_tb := jj_mem (List.mem_of_getElem? (i := 1066) (by decide +kernel)) (by decide +kernel)
theorem lk_acN : Cond.native arraycopyName ∈ jj_tb := jj_mem (List.mem_of_getElem? (i := 622) (by decide +kernel)) (by decide +kernel)
theorem lk_acS : Cond.static arraycopyName ∈ jj_tb := jj_mem (List.mem_of_getElem? (i := 621) (by decide +kernel)) (by decide +kernel)
theorem lk_acI : Cond.initialized "java/lang/System" ∈ jj_tb := jj_mem (List.mem_of_getElem? (i := 63) (by decide +kernel)) (by decide +kernel)
