abbrev mX0_takeFrom : wf_M := (yX0_takeFrom, cX0_takeFrom, 3, none)
abbrev mX0_hasWatcher : wf_M := (yX0_hasWatcher, cX0_hasWatcher, 2, some .boolean)
abbrev mX0_hires : wf_M := (yX0_hires, cX0_hires, 5, some .int)
abbrev mX0_draw : wf_M := (yX0_draw, cX0_draw, 1, some .int)
abbrev mX0_onMany : wf_M := (yX0_onMany, cX0_onMany, 3, some .int)
abbrev mX0_wakesOnly : wf_M := (yX0_wakesOnly, cX0_wakesOnly, 3, none)
abbrev mX0_byLaw : wf_M := (yX0_byLaw, cX0_byLaw, 7, some .int)
abbrev mX0_lightBy : wf_M := (yX0_lightBy, cX0_lightBy, 3, some .int)
abbrev mX0_measure : wf_M := (yX0_measure, cX0_measure, 3, none)
abbrev mX0_sightOf : wf_M := (yX0_sightOf, cX0_sightOf, 2, some .int)
abbrev mX0_fearsOf : wf_M := (yX0_fearsOf, cX0_fearsOf, 3, some .int)
abbrev mX0_leastFeared : wf_M := (yX0_leastFeared, cX0_leastFeared, 5, some .int)
abbrev mX0_cameTold : wf_M := (yX0_cameTold, cX0_cameTold, 1, some .int)
abbrev mX0_pass : wf_M := (yX0_pass, cX0_pass, 3, none)
abbrev mX0_burn : wf_M := (yX0_burn, cX0_burn, 3, some .boolean)
abbrev mX0_meet : wf_M := (yX0_meet, cX0_meet, 2, none)
abbrev mX0_tire : wf_M := (yX0_tire, cX0_tire, 4, none)
abbrev mX1_runOn : wf_M := (yX1_runOn, cX1_runOn, 7, none)
abbrev mX1_putFires : wf_M := (yX1_putFires, cX1_putFires, 7, some .int)
abbrev mX1_leastLight : wf_M := (yX1_leastLight, cX1_leastLight, 5, some .int)
abbrev mX2_begins : wf_M := (yX2_begins, cX2_begins, 2, none)
abbrev mX2_addNumber : wf_M := (yX2_addNumber, cX2_addNumber, 2, none)
abbrev mX2_addName : wf_M := (yX2_addName, cX2_addName, 2, none)
abbrev mX2_addSign : wf_M := (yX2_addSign, cX2_addSign, 2, none)
abbrev mX2_addCode : wf_M := (yX2_addCode, cX2_addCode, 2, none)
abbrev mX2_work : wf_M := (yX2_work, cX2_work, 7, some .int)
abbrev mX2_named : wf_M := (yX2_named, cX2_named, 4, some .int)
abbrev mX2_joined : wf_M := (yX2_joined, cX2_joined, 3, some .int)
abbrev mX3_has : wf_M := (yX3_has, cX3_has, 2, some .boolean)
abbrev mX3_joins : wf_M := (yX3_joins, cX3_joins, 2, some .int)
abbrev mX3_row : wf_M := (yX3_row, cX3_row, 2, some (.array .int))
abbrev mX3_nextFires : wf_M := (yX3_nextFires, cX3_nextFires, 4, some .int)
abbrev mX3_allFoals : wf_M := (yX3_allFoals, cX3_allFoals, 3, some .int)
abbrev mX3_takeFrom : wf_M := (yX3_takeFrom, cX3_takeFrom, 2, none)
abbrev mX4_has : wf_M := (yX4_has, cX4_has, 2, some .boolean)
abbrev mX4_hasRun : wf_M := (yX4_hasRun, cX4_hasRun, 3, some .boolean)
abbrev mX4_becomes : wf_M := (yX4_becomes, cX4_becomes, 3, none)
abbrev mX4_takeFrom : wf_M := (yX4_takeFrom, cX4_takeFrom, 2, none)
abbrev mX4_differences : wf_M := (yX4_differences, cX4_differences, 5, some .int)
abbrev mX6_takesNumber : wf_M := (yX6_takesNumber, cX6_takesNumber, 3, none)
abbrev mX6_readInto : wf_M := (yX6_readInto, cX6_readInto, 6, some .int)
abbrev mX6_steps : wf_M := (yX6_steps, cX6_steps, 2, none)
abbrev mX6_sortHere : wf_M := (yX6_sortHere, cX6_sortHere, 1, some .int)
abbrev mX6_sortOf : wf_M := (yX6_sortOf, cX6_sortOf, 1, some .int)
abbrev mX6_keyHere : wf_M := (yX6_keyHere, cX6_keyHere, 1, some .int)
abbrev mX6_isHere : wf_M := (yX6_isHere, cX6_isHere, 3, some .boolean)
abbrev mX6_takesPiece : wf_M := (yX6_takesPiece, cX6_takesPiece, 2, some .boolean)
abbrev mX6_takesName : wf_M := (yX6_takesName, cX6_takesName, 3, some .boolean)
abbrev mX6_namesOf : wf_M := (yX6_namesOf, cX6_namesOf, 1, some (.object "java/lang/String"))
abbrev mX6_takesDigits : wf_M := (yX6_takesDigits, cX6_takesDigits, 4, some .boolean)
abbrev mX6_opens : wf_M := (yX6_opens, cX6_opens, 2, some .boolean)
abbrev mX6_pushes : wf_M := (yX6_pushes, cX6_pushes, 2, none)
abbrev mX6_endsPiece : wf_M := (yX6_endsPiece, cX6_endsPiece, 2, none)
abbrev mX6_takesSign : wf_M := (yX6_takesSign, cX6_takesSign, 4, some .boolean)
abbrev mX6_takesClose : wf_M := (yX6_takesClose, cX6_takesClose, 2, some .boolean)
abbrev mX6_closesDownTo : wf_M := (yX6_closesDownTo, cX6_closesDownTo, 3, none)
abbrev mX6_levelOf : wf_M := (yX6_levelOf, cX6_levelOf, 1, some .int)
abbrev mX7_canBe : wf_M := (yX7_canBe, cX7_canBe, 2, some .boolean)
abbrev mX7_isOf : wf_M := (yX7_isOf, cX7_isOf, 4, some .boolean)
abbrev mX7_sight : wf_M := (yX7_sight, cX7_sight, 3, some .int)
abbrev mX7_plainSight : wf_M := (yX7_plainSight, cX7_plainSight, 2, some .int)
abbrev mX7_worth : wf_M := (yX7_worth, cX7_worth, 1, some .int)
abbrev mX7_takeFrom : wf_M := (yX7_takeFrom, cX7_takeFrom, 2, none)
abbrev mX8_wagon : wf_M := (yX8_wagon, cX8_wagon, 2, some .int)
abbrev mX8_at : wf_M := (yX8_at, cX8_at, 3, some .int)
abbrev mX8_lays : wf_M := (yX8_lays, cX8_lays, 6, some .int)
abbrev mX8_far : wf_M := (yX8_far, cX8_far, 4, some .int)
abbrev mX8_plain : wf_M := (yX8_plain, cX8_plain, 4, some .int)
abbrev mX8_watcher : wf_M := (yX8_watcher, cX8_watcher, 4, some .int)
abbrev mX8_told : wf_M := (yX8_told, cX8_told, 4, some .int)
abbrev mX8_as : wf_M := (yX8_as, cX8_as, 4, some .int)
abbrev mX8_turns : wf_M := (yX8_turns, cX8_turns, 5, some .int)
abbrev mX8_set : wf_M := (yX8_set, cX8_set, 6, some .int)
abbrev mX8_deal : wf_M := (yX8_deal, cX8_deal, 7, some .int)
abbrev mX8_seed : wf_M := (yX8_seed, cX8_seed, 3, some .int)
abbrev mX8_hours : wf_M := (yX8_hours, cX8_hours, 3, some .int)
abbrev mX8_night : wf_M := (yX8_night, cX8_night, 2, some .int)
abbrev mX8_behind : wf_M := (yX8_behind, cX8_behind, 3, some .int)
abbrev mX8_lasts : wf_M := (yX8_lasts, cX8_lasts, 2, some .int)
abbrev mX8_loss : wf_M := (yX8_loss, cX8_loss, 2, some .int)
abbrev mX8_dark : wf_M := (yX8_dark, cX8_dark, 4, some .int)
abbrev mX8_fires : wf_M := (yX8_fires, cX8_fires, 3, some .int)
abbrev mX8_watch : wf_M := (yX8_watch, cX8_watch, 6, some .int)
abbrev mX8_place : wf_M := (yX8_place, cX8_place, 6, some .int)
abbrev mX8_signs : wf_M := (yX8_signs, cX8_signs, 8, some .int)
abbrev mX8_feed : wf_M := (yX8_feed, cX8_feed, 4, some .int)
abbrev mX8_trim : wf_M := (yX8_trim, cX8_trim, 2, some .int)
abbrev mX8_text : wf_M := (yX8_text, cX8_text, 3, some .int)
abbrev mX8_textTold : wf_M := (yX8_textTold, cX8_textTold, 3, some .int)
abbrev mX8_why : wf_M := (yX8_why, cX8_why, 2, some .int)
abbrev mX8_sheet : wf_M := (yX8_sheet, cX8_sheet, 4, some .int)
abbrev mX8_mark : wf_M := (yX8_mark, cX8_mark, 5, some .int)
abbrev mX8_pour : wf_M := (yX8_pour, cX8_pour, 6, some .int)
abbrev mX8_reads : wf_M := (yX8_reads, cX8_reads, 5, some .int)
abbrev mX8_copy : wf_M := (yX8_copy, cX8_copy, 8, some .int)
abbrev mX8_lay : wf_M := (yX8_lay, cX8_lay, 6, some .int)
abbrev mX8_ask : wf_M := (yX8_ask, cX8_ask, 4, some .int)
abbrev mX8_item : wf_M := (yX8_item, cX8_item, 5, some .int)
abbrev mX8_rest : wf_M := (yX8_rest, cX8_rest, 4, some .int)
abbrev mX8_tell : wf_M := (yX8_tell, cX8_tell, 2, some .int)
abbrev mX8_check : wf_M := (yX8_check, cX8_check, 6, some .int)
abbrev mX8_keep : wf_M := (yX8_keep, cX8_keep, 1, some .int)
abbrev mX8_back : wf_M := (yX8_back, cX8_back, 1, some .int)
abbrev mX8_count : wf_M := (yX8_count, cX8_count, 2, some .int)
abbrev mX8_within : wf_M := (yX8_within, cX8_within, 3, some .boolean)
abbrev mX8_held : wf_M := (yX8_held, cX8_held, 3, some .int)
abbrev mX8_isKind : wf_M := (yX8_isKind, cX8_isKind, 1, some .boolean)
abbrev mX8_isSheet : wf_M := (yX8_isSheet, cX8_isSheet, 1, some .boolean)
abbrev mX8_isSlot : wf_M := (yX8_isSlot, cX8_isSlot, 1, some .boolean)
abbrev mX9_isIn : wf_M := (yX9_isIn, cX9_isIn, 6, some .boolean)
abbrev mX9_orNone : wf_M := (yX9_orNone, cX9_orNone, 1, some .int)
abbrev mX9_within : wf_M := (yX9_within, cX9_within, 2, some .int)
abbrev mX9_off : wf_M := (yX9_off, cX9_off, 2, some .int)
abbrev mX9_becomes : wf_M := (yX9_becomes, cX9_becomes, 4, some .int)
abbrev mX9_textAt : wf_M := (yX9_textAt, cX9_textAt, 2, some .int)
abbrev mX9_wagonsOwn : wf_M := (yX9_wagonsOwn, cX9_wagonsOwn, 3, some .int)
abbrev mX9_of : wf_M := (yX9_of, cX9_of, 3, some .int)
abbrev mX9_isWagon : wf_M := (yX9_isWagon, cX9_isWagon, 2, some .boolean)
abbrev mX9_isWatcher : wf_M := (yX9_isWatcher, cX9_isWatcher, 2, some .boolean)
abbrev mX9_isText : wf_M := (yX9_isText, cX9_isText, 2, some .boolean)
abbrev mX9_drawn : wf_M := (yX9_drawn, cX9_drawn, 1, some .int)
abbrev mX9_wagon : wf_M := (yX9_wagon, cX9_wagon, 3, some .int)
abbrev mX9_nextFires : wf_M := (yX9_nextFires, cX9_nextFires, 3, some .int)
abbrev mX9_light : wf_M := (yX9_light, cX9_light, 5, some .int)
abbrev mX9_sees : wf_M := (yX9_sees, cX9_sees, 5, some .int)
abbrev mX9_worth : wf_M := (yX9_worth, cX9_worth, 3, some .int)
abbrev mX9_guard : wf_M := (yX9_guard, cX9_guard, 4, some .int)
abbrev mX9_fears : wf_M := (yX9_fears, cX9_fears, 4, some .int)
abbrev mX9_at : wf_M := (yX9_at, cX9_at, 3, some .int)
abbrev mX9_lays : wf_M := (yX9_lays, cX9_lays, 4, some .int)
abbrev mX9_far : wf_M := (yX9_far, cX9_far, 4, some .int)
abbrev mX9_plain : wf_M := (yX9_plain, cX9_plain, 3, some .int)
abbrev mX9_comes : wf_M := (yX9_comes, cX9_comes, 5, none)
abbrev mX9_watcher : wf_M := (yX9_watcher, cX9_watcher, 4, some .int)
abbrev mX9_told : wf_M := (yX9_told, cX9_told, 3, some .int)
abbrev mX9_isOf : wf_M := (yX9_isOf, cX9_isOf, 2, some .boolean)
abbrev mX9_as : wf_M := (yX9_as, cX9_as, 3, some .int)
abbrev mX9_turns : wf_M := (yX9_turns, cX9_turns, 3, some .int)
abbrev mX9_mayBe : wf_M := (yX9_mayBe, cX9_mayBe, 2, some .boolean)
abbrev mX9_set : wf_M := (yX9_set, cX9_set, 4, some .int)
abbrev mX9_deal : wf_M := (yX9_deal, cX9_deal, 5, some .int)
abbrev mX9_seed : wf_M := (yX9_seed, cX9_seed, 2, some .int)
abbrev mX9_comeTo : wf_M := (yX9_comeTo, cX9_comeTo, 5, some .int)
abbrev mX9_burns : wf_M := (yX9_burns, cX9_burns, 3, none)
abbrev mX9_comeAndTake : wf_M := (yX9_comeAndTake, cX9_comeAndTake, 2, none)
abbrev mX9_tires : wf_M := (yX9_tires, cX9_tires, 3, some .int)
abbrev mX9_goesOn : wf_M := (yX9_goesOn, cX9_goesOn, 3, none)
abbrev mX9_hours : wf_M := (yX9_hours, cX9_hours, 4, some .int)
abbrev mX9_night : wf_M := (yX9_night, cX9_night, 2, some .int)
abbrev mX9_allFoals : wf_M := (yX9_allFoals, cX9_allFoals, 3, some .int)
abbrev mX9_laysBy : wf_M := (yX9_laysBy, cX9_laysBy, 2, none)
abbrev mX9_laysBack : wf_M := (yX9_laysBack, cX9_laysBack, 2, none)
abbrev mX9_goesOnMany : wf_M := (yX9_goesOnMany, cX9_goesOnMany, 3, none)
abbrev mX9_behind : wf_M := (yX9_behind, cX9_behind, 4, some .int)
abbrev mX9_lasts : wf_M := (yX9_lasts, cX9_lasts, 3, some .int)
abbrev mX9_loss : wf_M := (yX9_loss, cX9_loss, 3, some .int)
abbrev mX9_dark : wf_M := (yX9_dark, cX9_dark, 4, some .int)
abbrev mX9_laysFires : wf_M := (yX9_laysFires, cX9_laysFires, 5, some .int)
abbrev mX9_leastLight : wf_M := (yX9_leastLight, cX9_leastLight, 4, some .int)
abbrev mX9_fires : wf_M := (yX9_fires, cX9_fires, 9, some .int)
abbrev mX9_watch : wf_M := (yX9_watch, cX9_watch, 7, some .int)
abbrev mX9_place : wf_M := (yX9_place, cX9_place, 7, some .int)
abbrev mX9_feed : wf_M := (yX9_feed, cX9_feed, 6, some .int)
abbrev mX9_trim : wf_M := (yX9_trim, cX9_trim, 2, some .int)
abbrev mX9_isLetter : wf_M := (yX9_isLetter, cX9_isLetter, 2, some .boolean)
abbrev mX9_isDigit : wf_M := (yX9_isDigit, cX9_isDigit, 2, some .boolean)
abbrev mX9_nextToken : wf_M := (yX9_nextToken, cX9_nextToken, 3, none)
abbrev mX9_isSign : wf_M := (yX9_isSign, cX9_isSign, 2, some .boolean)
abbrev mX9_isWordAt : wf_M := (yX9_isWordAt, cX9_isWordAt, 6, some .boolean)
abbrev mX9_isLong : wf_M := (yX9_isLong, cX9_isLong, 8, some .boolean)
abbrev mX9_key : wf_M := (yX9_key, cX9_key, 1, some .int)
abbrev mX9_isName : wf_M := (yX9_isName, cX9_isName, 2, some .boolean)
abbrev mX9_step : wf_M := (yX9_step, cX9_step, 3, none)
abbrev mX9_either : wf_M := (yX9_either, cX9_either, 2, some .boolean)
abbrev mX9_both : wf_M := (yX9_both, cX9_both, 2, some .boolean)
abbrev mX9_test : wf_M := (yX9_test, cX9_test, 3, some .boolean)
abbrev mX9_sum : wf_M := (yX9_sum, cX9_sum, 3, some .boolean)
abbrev mX9_term : wf_M := (yX9_term, cX9_term, 3, some .boolean)
abbrev mX9_part0 : wf_M := (yX9_part0, cX9_part0, 2, some .boolean)
abbrev mX9_parse : wf_M := (yX9_parse, cX9_parse, 3, some .int)
abbrev mX9_text : wf_M := (yX9_text, cX9_text, 3, some .int)
abbrev mX9_textTold : wf_M := (yX9_textTold, cX9_textTold, 3, some .int)
abbrev mX9_counts : wf_M := (yX9_counts, cX9_counts, 4, some .int)
abbrev mX9_why : wf_M := (yX9_why, cX9_why, 2, some .int)
abbrev mX9_joined : wf_M := (yX9_joined, cX9_joined, 3, some .int)
abbrev mX9_worked : wf_M := (yX9_worked, cX9_worked, 6, some .int)
abbrev mX9_isSheet : wf_M := (yX9_isSheet, cX9_isSheet, 1, some .boolean)
abbrev mX9_sheet : wf_M := (yX9_sheet, cX9_sheet, 5, some .int)
abbrev mX9_mark : wf_M := (yX9_mark, cX9_mark, 4, some .int)
abbrev mX9_pour : wf_M := (yX9_pour, cX9_pour, 6, some .int)
abbrev mX9_reads : wf_M := (yX9_reads, cX9_reads, 4, some .int)
abbrev mX9_signs : wf_M := (yX9_signs, cX9_signs, 10, some .int)
abbrev mX9_copy : wf_M := (yX9_copy, cX9_copy, 7, some .int)
abbrev mX9_isSlot : wf_M := (yX9_isSlot, cX9_isSlot, 1, some .boolean)
abbrev mX9_lay : wf_M := (yX9_lay, cX9_lay, 7, some .int)
abbrev mX9_ask : wf_M := (yX9_ask, cX9_ask, 3, some .int)
abbrev mX9_item : wf_M := (yX9_item, cX9_item, 4, some .int)
abbrev mX9_rest : wf_M := (yX9_rest, cX9_rest, 3, some .int)
abbrev mX9_tell : wf_M := (yX9_tell, cX9_tell, 2, some .int)
abbrev mX9_setAside : wf_M := (yX9_setAside, cX9_setAside, 4, none)
abbrev mX9_check : wf_M := (yX9_check, cX9_check, 5, some .int)
abbrev mX9_keep : wf_M := (yX9_keep, cX9_keep, 1, some .int)
abbrev mX9_back : wf_M := (yX9_back, cX9_back, 1, some .int)
abbrev mX9_awake : wf_M := (yX9_awake, cX9_awake, 3, some .int)
abbrev mX9_count : wf_M := (yX9_count, cX9_count, 2, some .int)
abbrev mJ0_length_8abf5 : wf_M := (yJ0_length_8abf5, cJ0_length_8abf5, 1, some .int)
abbrev mJ0_charAt_5068e : wf_M := (yJ0_charAt_5068e, cJ0_charAt_5068e, 2, some .char)
abbrev mJ0_indexOf_0f7a4 : wf_M := (yJ0_indexOf_0f7a4, cJ0_indexOf_0f7a4, 2, some .int)
abbrev mJ0_indexOf_7cf53 : wf_M := (yJ0_indexOf_7cf53, cJ0_indexOf_7cf53, 3, some .int)
abbrev mJ0_coder_7d493 : wf_M := (yJ0_coder_7d493, cJ0_coder_7d493, 1, some .byte)
abbrev mJ0_isLatin1_aae02 : wf_M := (yJ0_isLatin1_aae02, cJ0_isLatin1_aae02, 1, some .boolean)
abbrev mJ0_checkIndex_df160 : wf_M := (yJ0_checkIndex_df160, cJ0_checkIndex_df160, 2, none)
abbrev mJ3_checkIndex_8e157 : wf_M := (yJ3_checkIndex_8e157, cJ3_checkIndex_8e157, 3, some .int)
abbrev mJ1_charAt_3b067 : wf_M := (yJ1_charAt_3b067, cJ1_charAt_3b067, 2, some .char)
abbrev mJ1_canEncode_9a6ad : wf_M := (yJ1_canEncode_9a6ad, cJ1_canEncode_9a6ad, 1, some .boolean)
abbrev mJ1_indexOf_4cfef : wf_M := (yJ1_indexOf_4cfef, cJ1_indexOf_4cfef, 4, some .int)
abbrev mJ1_indexOfChar_4cfef : wf_M := (yJ1_indexOfChar_4cfef, cJ1_indexOfChar_4cfef, 6, some .int)
abbrev mJ7_fill_53178 : wf_M := (yJ7_fill_53178, cJ7_fill_53178, 4, none)
theorem gi_X0 : ∀ w ∈ u_ws RX0 TX0 17, w ∈ gw_tbl := by decide +kernel
theorem gi_X1 : ∀ w ∈ u_ws RX1 TX1 4, w ∈ gw_tbl := by decide +kernel
theorem gi_X2 : ∀ w ∈ u_ws RX2 TX2 5, w ∈ gw_tbl := by decide +kernel
theorem gi_X3 : ∀ w ∈ u_ws RX3 TX3 4, w ∈ gw_tbl := by decide +kernel
theorem gi_X4 : ∀ w ∈ u_ws RX4 TX4 3, w ∈ gw_tbl := by decide +kernel
theorem gi_X5 : ∀ w ∈ u_ws RX5 TX5 4, w ∈ gw_tbl := by decide +kernel
theorem gi_X6 : ∀ w ∈ u_ws RX6 TX6 9, w ∈ gw_tbl := by decide +kernel
theorem gi_X7 : ∀ w ∈ u_ws RX7 TX7 5, w ∈ gw_tbl := by decide +kernel
theorem gi_X8 : ∀ w ∈ u_ws RX8 TX8 11, w ∈ gw_tbl := by decide +kernel
theorem gi_X9 : ∀ w ∈ u_ws RX9 TX9 33, w ∈ gw_tbl := by decide +kernel
theorem wm_max_s : Cond.static Lib.Math.max.name ∈ gw_tbl := gw_in (List.mem_of_getElem? (i := 458) (by decide +kernel)) (by decide +kernel)
theorem wm_max_c : Cond.code Lib.Math.max.name Lib.Math.max.code 2 (some .int) ∈ gw_tbl := gw_in (List.mem_of_getElem? (i := 459) (by decide +kernel)) (by decide +kernel)
theorem wm_min_s : Cond.static Lib.Math.min.name ∈ gw_tbl := gw_in (List.mem_of_getElem? (i := 455) (by decide +kernel)) (by decide +kernel)
theorem wm_min_c : Cond.code Lib.Math.min.name Lib.Math.min.code 2 (some .int) ∈ gw_tbl := gw_in (List.mem_of_getElem? (i := 456) (by decide +kernel)) (by decide +kernel)
theorem wm_abs_s : Cond.static Lib.Math.abs.name ∈ gw_tbl := gw_in (List.mem_of_getElem? (i := 487) (by decide +kernel)) (by decide +kernel)
theorem wm_abs_c : Cond.code Lib.Math.abs.name Lib.Math.abs.code 1 (some .int) ∈ gw_tbl := gw_in (List.mem_of_getElem? (i := 488) (by decide +kernel)) (by decide +kernel)
theorem wm_ini : Cond.initialized "java/lang/Math" ∈ gw_tbl := gw_in (List.mem_of_getElem? (i := 76) (by decide +kernel)) (by decide +kernel)
theorem wm_max : Cond.static Lib.Math.max.name ∈ gw_tbl ∧ Cond.initialized "java/lang/Math" ∈ gw_tbl ∧ Cond.code Lib.Math.max.name Lib.Math.max.code 2 (some .int) ∈ gw_tbl := ⟨wm_max_s, wm_ini, wm_max_c⟩
theorem wm_min : Cond.static Lib.Math.min.name ∈ gw_tbl ∧ Cond.initialized "java/lang/Math" ∈ gw_tbl ∧ Cond.code Lib.Math.min.name Lib.Math.min.code 2 (some .int) ∈ gw_tbl := ⟨wm_min_s, wm_ini, wm_min_c⟩
theorem wm_abs : Cond.static Lib.Math.abs.name ∈ gw_tbl ∧ Cond.initialized "java/lang/Math" ∈ gw_tbl ∧ Cond.code Lib.Math.abs.name Lib.Math.abs.code 1 (some .int) ∈ gw_tbl := ⟨wm_abs_s, wm_ini, wm_abs_c⟩
theorem wm_cp1 : Cond.native arraycopyName ∈ gw_tbl := gw_in (List.mem_of_getElem? (i := 603) (by decide +kernel)) (by decide +kernel)
theorem wm_cp2 : Cond.static arraycopyName ∈ gw_tbl := gw_in (List.mem_of_getElem? (i := 602) (by decide +kernel)) (by decide +kernel)
theorem wm_cp3 : Cond.initialized "java/lang/System" ∈ gw_tbl := gw_in (List.mem_of_getElem? (i := 77) (by decide +kernel)) (by decide +kernel)
theorem wm_copy : Cond.native arraycopyName ∈ gw_tbl ∧ Cond.static arraycopyName ∈ gw_tbl ∧ Cond.initialized "java/lang/System" ∈ gw_tbl := ⟨wm_cp1, wm_cp2, wm_cp3⟩
theorem w_0 : Cond.fieldLink RX0 12 "WolfFires$Camp" "ring" "LWolfFires$Ring;" ∈ gw_tbl := gw_in (List.mem_of_getElem? (i := 251) (by decide +kernel)) (by decide +kernel)
theorem w_1 : Cond.code yX3_takeFrom cX3_takeFrom 2 none ∈ gw_tbl := gw_in (List.mem_of_getElem? (i := 600) (by decide +kernel)) (by decide +kernel)
theorem w_2 : Cond.initialized RX3 ∈ gw_tbl := gw_in (List.mem_of_getElem? (i := 71) (by decide +kernel)) (by decide +kernel)
theorem w_3 : Cond.instanceMethod yX3_takeFrom ∈ gw_tbl := gw_in (List.mem_of_getElem? (i := 598) (by decide +kernel)) (by decide +kernel)
theorem w_4 : Cond.selects RX3 yX3_takeFrom yX3_takeFrom ∈ gw_tbl := gw_in (List.mem_of_getElem? (i := 599) (by decide +kernel)) (by decide +kernel)
theorem w_5 : Cond.methodLink RX0 74 yX3_takeFrom ∈ gw_tbl := gw_in (List.mem_of_getElem? (i := 597) (by decide +kernel)) (by decide +kernel)
theorem w_6 : Cond.fieldLink RX0 24 "WolfFires$Camp" "watchersMany" "I" ∈ gw_tbl := gw_in (List.mem_of_getElem? (i := 256) (by decide +kernel)) (by decide +kernel)
theorem w_7 : Cond.fieldLink RX0 28 "WolfFires$Camp" "wood" "I" ∈ gw_tbl := gw_in (List.mem_of_getElem? (i := 258) (by decide +kernel)) (by decide +kernel)
theorem w_8 : Cond.fieldLink RX0 31 "WolfFires$Camp" "wolves" "I" ∈ gw_tbl := gw_in (List.mem_of_getElem? (i := 260) (by decide +kernel)) (by decide +kernel)
theorem w_9 : Cond.fieldLink RX0 34 "WolfFires$Camp" "hunger" "I" ∈ gw_tbl := gw_in (List.mem_of_getElem? (i := 262) (by decide +kernel)) (by decide +kernel)
theorem w_10 : Cond.fieldLink RX0 37 "WolfFires$Camp" "hour" "I" ∈ gw_tbl := gw_in (List.mem_of_getElem? (i := 264) (by decide +kernel)) (by decide +kernel)
theorem w_11 : Cond.fieldLink RX0 40 "WolfFires$Camp" "slept" "I" ∈ gw_tbl := gw_in (List.mem_of_getElem? (i := 266) (by decide +kernel)) (by decide +kernel)
theorem w_12 : Cond.fieldLink RX0 43 "WolfFires$Camp" "lost" "I" ∈ gw_tbl := gw_in (List.mem_of_getElem? (i := 268) (by decide +kernel)) (by decide +kernel)
theorem w_13 : Cond.fieldLink RX0 46 "WolfFires$Camp" "burnt" "I" ∈ gw_tbl := gw_in (List.mem_of_getElem? (i := 270) (by decide +kernel)) (by decide +kernel)
theorem w_14 : Cond.fieldLink RX0 49 "WolfFires$Camp" "z" "I" ∈ gw_tbl := gw_in (List.mem_of_getElem? (i := 272) (by decide +kernel)) (by decide +kernel)
theorem w_15 : Cond.fieldLink RX0 52 "WolfFires$Camp" "texts" "I" ∈ gw_tbl := gw_in (List.mem_of_getElem? (i := 275) (by decide +kernel)) (by decide +kernel)
theorem w_16 : Cond.fieldLink RX0 56 "WolfFires$Camp" "textFor" "[I" ∈ gw_tbl := gw_in (List.mem_of_getElem? (i := 277) (by decide +kernel)) (by decide +kernel)
theorem w_17 : Cond.methodLink RX0 81 arraycopyName ∈ gw_tbl := gw_in (List.mem_of_getElem? (i := 608) (by decide +kernel)) (by decide +kernel)
theorem w_18 : Cond.fieldLink RX0 20 "WolfFires$Camp" "watchers" "[LWolfFires$Watcher;" ∈ gw_tbl := gw_in (List.mem_of_getElem? (i := 254) (by decide +kernel)) (by decide +kernel)
theorem w_19 : Cond.code yX7_takeFrom cX7_takeFrom 2 none ∈ gw_tbl := gw_in (List.mem_of_getElem? (i := 607) (by decide +kernel)) (by decide +kernel)
theorem w_20 : Cond.initialized RX7 ∈ gw_tbl := gw_in (List.mem_of_getElem? (i := 72) (by decide +kernel)) (by decide +kernel)
theorem w_21 : Cond.instanceMethod yX7_takeFrom ∈ gw_tbl := gw_in (List.mem_of_getElem? (i := 605) (by decide +kernel)) (by decide +kernel)
theorem w_22 : Cond.selects RX7 yX7_takeFrom yX7_takeFrom ∈ gw_tbl := gw_in (List.mem_of_getElem? (i := 606) (by decide +kernel)) (by decide +kernel)
theorem w_23 : Cond.methodLink RX0 78 yX7_takeFrom ∈ gw_tbl := gw_in (List.mem_of_getElem? (i := 604) (by decide +kernel)) (by decide +kernel)
theorem w_24 : Cond.code yX8_within cX8_within 3 (some .boolean) ∈ gw_tbl := gw_in (List.mem_of_getElem? (i := 403) (by decide +kernel)) (by decide +kernel)
theorem w_25 : Cond.initialized RX8 ∈ gw_tbl := gw_in (List.mem_of_getElem? (i := 66) (by decide +kernel)) (by decide +kernel)
theorem w_26 : Cond.static yX8_within ∈ gw_tbl := gw_in (List.mem_of_getElem? (i := 402) (by decide +kernel)) (by decide +kernel)
theorem w_27 : Cond.fieldLink RX0 92 "WolfFires$Watcher" "kind" "I" ∈ gw_tbl := gw_in (List.mem_of_getElem? (i := 226) (by decide +kernel)) (by decide +kernel)
theorem w_28 : Cond.fieldLink RX0 95 "WolfFires$Watcher" "at" "I" ∈ gw_tbl := gw_in (List.mem_of_getElem? (i := 229) (by decide +kernel)) (by decide +kernel)
theorem w_29 : Cond.fieldLink RX0 98 "WolfFires$Watcher" "eyes" "I" ∈ gw_tbl := gw_in (List.mem_of_getElem? (i := 232) (by decide +kernel)) (by decide +kernel)
theorem w_30 : Cond.fieldLink RX0 101 "WolfFires$Watcher" "tired" "I" ∈ gw_tbl := gw_in (List.mem_of_getElem? (i := 235) (by decide +kernel)) (by decide +kernel)
theorem w_31 : Cond.fieldLink RX0 104 "WolfFires$Watcher" "on" "I" ∈ gw_tbl := gw_in (List.mem_of_getElem? (i := 238) (by decide +kernel)) (by decide +kernel)
theorem w_32 : Cond.constant RX0 91 (-1000000003) ∈ gw_tbl := gw_in (List.mem_of_getElem? (i := 506) (by decide +kernel)) (by decide +kernel)
theorem w_33 : Cond.constant RX0 107 1103515245 ∈ gw_tbl := gw_in (List.mem_of_getElem? (i := 551) (by decide +kernel)) (by decide +kernel)
theorem w_34 : Cond.fieldLink RX0 69 "WolfFires$Camp" "laws" "[LWolfFires$Law;" ∈ gw_tbl := gw_in (List.mem_of_getElem? (i := 274) (by decide +kernel)) (by decide +kernel)
theorem w_35 : Cond.code yX2_work cX2_work 7 (some .int) ∈ gw_tbl := gw_in (List.mem_of_getElem? (i := 444) (by decide +kernel)) (by decide +kernel)
theorem w_36 : Cond.initialized RX2 ∈ gw_tbl := gw_in (List.mem_of_getElem? (i := 69) (by decide +kernel)) (by decide +kernel)
theorem w_37 : Cond.instanceMethod yX2_work ∈ gw_tbl := gw_in (List.mem_of_getElem? (i := 442) (by decide +kernel)) (by decide +kernel)
theorem w_38 : Cond.selects RX2 yX2_work yX2_work ∈ gw_tbl := gw_in (List.mem_of_getElem? (i := 443) (by decide +kernel)) (by decide +kernel)
theorem w_39 : Cond.methodLink RX0 108 yX2_work ∈ gw_tbl := gw_in (List.mem_of_getElem? (i := 441) (by decide +kernel)) (by decide +kernel)
theorem w_40 : Cond.code yX0_byLaw cX0_byLaw 7 (some .int) ∈ gw_tbl := gw_in (List.mem_of_getElem? (i := 439) (by decide +kernel)) (by decide +kernel)
theorem w_41 : Cond.initialized RX0 ∈ gw_tbl := gw_in (List.mem_of_getElem? (i := 70) (by decide +kernel)) (by decide +kernel)
theorem w_42 : Cond.instanceMethod yX0_byLaw ∈ gw_tbl := gw_in (List.mem_of_getElem? (i := 438) (by decide +kernel)) (by decide +kernel)
theorem w_43 : Cond.selects RX0 yX0_byLaw yX0_byLaw ∈ gw_tbl := gw_in (List.mem_of_getElem? (i := 0) (by decide +kernel)) (by decide +kernel)
theorem w_44 : Cond.methodLink RX0 114 yX0_byLaw ∈ gw_tbl := gw_in (List.mem_of_getElem? (i := 436) (by decide +kernel)) (by decide +kernel)
theorem w_45 : Cond.code yX8_held cX8_held 3 (some .int) ∈ gw_tbl := gw_in (List.mem_of_getElem? (i := 453) (by decide +kernel)) (by decide +kernel)
theorem w_46 : Cond.static yX8_held ∈ gw_tbl := gw_in (List.mem_of_getElem? (i := 452) (by decide +kernel)) (by decide +kernel)
theorem w_47 : Cond.fieldLink RX0 121 "WolfFires$Ring" "many" "I" ∈ gw_tbl := gw_in (List.mem_of_getElem? (i := 198) (by decide +kernel)) (by decide +kernel)
theorem w_48 : Cond.fieldLink RX0 60 "WolfFires$Camp" "light" "[I" ∈ gw_tbl := gw_in (List.mem_of_getElem? (i := 279) (by decide +kernel)) (by decide +kernel)
theorem w_49 : Cond.fieldLink RX0 124 "WolfFires$Ring" "fire" "[I" ∈ gw_tbl := gw_in (List.mem_of_getElem? (i := 205) (by decide +kernel)) (by decide +kernel)
theorem w_50 : Cond.code yX3_nextFires cX3_nextFires 4 (some .int) ∈ gw_tbl := gw_in (List.mem_of_getElem? (i := 430) (by decide +kernel)) (by decide +kernel)
theorem w_51 : Cond.instanceMethod yX3_nextFires ∈ gw_tbl := gw_in (List.mem_of_getElem? (i := 428) (by decide +kernel)) (by decide +kernel)
theorem w_52 : Cond.selects RX3 yX3_nextFires yX3_nextFires ∈ gw_tbl := gw_in (List.mem_of_getElem? (i := 429) (by decide +kernel)) (by decide +kernel)
theorem w_53 : Cond.methodLink RX0 127 yX3_nextFires ∈ gw_tbl := gw_in (List.mem_of_getElem? (i := 427) (by decide +kernel)) (by decide +kernel)
theorem w_54 : Cond.code yX0_lightBy cX0_lightBy 3 (some .int) ∈ gw_tbl := gw_in (List.mem_of_getElem? (i := 435) (by decide +kernel)) (by decide +kernel)
theorem w_55 : Cond.instanceMethod yX0_lightBy ∈ gw_tbl := gw_in (List.mem_of_getElem? (i := 433) (by decide +kernel)) (by decide +kernel)
theorem w_56 : Cond.selects RX0 yX0_lightBy yX0_lightBy ∈ gw_tbl := gw_in (List.mem_of_getElem? (i := 434) (by decide +kernel)) (by decide +kernel)
theorem w_57 : Cond.methodLink RX0 131 yX0_lightBy ∈ gw_tbl := gw_in (List.mem_of_getElem? (i := 432) (by decide +kernel)) (by decide +kernel)
theorem w_58 : Cond.fieldLink RX0 63 "WolfFires$Camp" "guard" "[I" ∈ gw_tbl := gw_in (List.mem_of_getElem? (i := 281) (by decide +kernel)) (by decide +kernel)
theorem w_59 : Cond.code yX3_has cX3_has 2 (some .boolean) ∈ gw_tbl := gw_in (List.mem_of_getElem? (i := 417) (by decide +kernel)) (by decide +kernel)
theorem w_60 : Cond.instanceMethod yX3_has ∈ gw_tbl := gw_in (List.mem_of_getElem? (i := 415) (by decide +kernel)) (by decide +kernel)
theorem w_61 : Cond.selects RX3 yX3_has yX3_has ∈ gw_tbl := gw_in (List.mem_of_getElem? (i := 416) (by decide +kernel)) (by decide +kernel)
theorem w_62 : Cond.methodLink RX0 135 yX3_has ∈ gw_tbl := gw_in (List.mem_of_getElem? (i := 460) (by decide +kernel)) (by decide +kernel)
theorem w_63 : Cond.code yX0_sightOf cX0_sightOf 2 (some .int) ∈ gw_tbl := gw_in (List.mem_of_getElem? (i := 464) (by decide +kernel)) (by decide +kernel)
theorem w_64 : Cond.instanceMethod yX0_sightOf ∈ gw_tbl := gw_in (List.mem_of_getElem? (i := 462) (by decide +kernel)) (by decide +kernel)
theorem w_65 : Cond.selects RX0 yX0_sightOf yX0_sightOf ∈ gw_tbl := gw_in (List.mem_of_getElem? (i := 463) (by decide +kernel)) (by decide +kernel)
theorem w_66 : Cond.methodLink RX0 139 yX0_sightOf ∈ gw_tbl := gw_in (List.mem_of_getElem? (i := 461) (by decide +kernel)) (by decide +kernel)
theorem w_67 : Cond.fieldLink RX0 143 "WolfFires$Ring" "foals" "[I" ∈ gw_tbl := gw_in (List.mem_of_getElem? (i := 201) (by decide +kernel)) (by decide +kernel)
theorem w_68 : Cond.code yX7_sight cX7_sight 3 (some .int) ∈ gw_tbl := gw_in (List.mem_of_getElem? (i := 468) (by decide +kernel)) (by decide +kernel)
theorem w_69 : Cond.instanceMethod yX7_sight ∈ gw_tbl := gw_in (List.mem_of_getElem? (i := 466) (by decide +kernel)) (by decide +kernel)
theorem w_70 : Cond.selects RX7 yX7_sight yX7_sight ∈ gw_tbl := gw_in (List.mem_of_getElem? (i := 467) (by decide +kernel)) (by decide +kernel)
theorem w_71 : Cond.methodLink RX0 146 yX7_sight ∈ gw_tbl := gw_in (List.mem_of_getElem? (i := 465) (by decide +kernel)) (by decide +kernel)
theorem w_72 : Cond.fieldLink RX0 149 "WolfFires$Ring" "tried" "[I" ∈ gw_tbl := gw_in (List.mem_of_getElem? (i := 207) (by decide +kernel)) (by decide +kernel)
theorem w_73 : Cond.constant RX0 55 (-1000000005) ∈ gw_tbl := gw_in (List.mem_of_getElem? (i := 219) (by decide +kernel)) (by decide +kernel)
theorem w_74 : Cond.code yX0_fearsOf cX0_fearsOf 3 (some .int) ∈ gw_tbl := gw_in (List.mem_of_getElem? (i := 477) (by decide +kernel)) (by decide +kernel)
theorem w_75 : Cond.instanceMethod yX0_fearsOf ∈ gw_tbl := gw_in (List.mem_of_getElem? (i := 475) (by decide +kernel)) (by decide +kernel)
theorem w_76 : Cond.selects RX0 yX0_fearsOf yX0_fearsOf ∈ gw_tbl := gw_in (List.mem_of_getElem? (i := 476) (by decide +kernel)) (by decide +kernel)
theorem w_77 : Cond.methodLink RX0 152 yX0_fearsOf ∈ gw_tbl := gw_in (List.mem_of_getElem? (i := 573) (by decide +kernel)) (by decide +kernel)
theorem w_78 : Cond.fieldLink RX0 66 "WolfFires$Camp" "came" "I" ∈ gw_tbl := gw_in (List.mem_of_getElem? (i := 283) (by decide +kernel)) (by decide +kernel)
theorem w_79 : Cond.code yX0_burn cX0_burn 3 (some .boolean) ∈ gw_tbl := gw_in (List.mem_of_getElem? (i := 567) (by decide +kernel)) (by decide +kernel)
theorem w_80 : Cond.instanceMethod yX0_burn ∈ gw_tbl := gw_in (List.mem_of_getElem? (i := 565) (by decide +kernel)) (by decide +kernel)
theorem w_81 : Cond.selects RX0 yX0_burn yX0_burn ∈ gw_tbl := gw_in (List.mem_of_getElem? (i := 566) (by decide +kernel)) (by decide +kernel)
theorem w_82 : Cond.methodLink RX0 155 yX0_burn ∈ gw_tbl := gw_in (List.mem_of_getElem? (i := 564) (by decide +kernel)) (by decide +kernel)
theorem w_83 : Cond.code yX0_measure cX0_measure 3 none ∈ gw_tbl := gw_in (List.mem_of_getElem? (i := 426) (by decide +kernel)) (by decide +kernel)
theorem w_84 : Cond.instanceMethod yX0_measure ∈ gw_tbl := gw_in (List.mem_of_getElem? (i := 424) (by decide +kernel)) (by decide +kernel)
theorem w_85 : Cond.selects RX0 yX0_measure yX0_measure ∈ gw_tbl := gw_in (List.mem_of_getElem? (i := 425) (by decide +kernel)) (by decide +kernel)
theorem w_86 : Cond.methodLink RX0 159 yX0_measure ∈ gw_tbl := gw_in (List.mem_of_getElem? (i := 568) (by decide +kernel)) (by decide +kernel)
theorem w_87 : Cond.code yX0_leastFeared cX0_leastFeared 5 (some .int) ∈ gw_tbl := gw_in (List.mem_of_getElem? (i := 572) (by decide +kernel)) (by decide +kernel)
theorem w_88 : Cond.instanceMethod yX0_leastFeared ∈ gw_tbl := gw_in (List.mem_of_getElem? (i := 570) (by decide +kernel)) (by decide +kernel)
theorem w_89 : Cond.selects RX0 yX0_leastFeared yX0_leastFeared ∈ gw_tbl := gw_in (List.mem_of_getElem? (i := 571) (by decide +kernel)) (by decide +kernel)
theorem w_90 : Cond.methodLink RX0 162 yX0_leastFeared ∈ gw_tbl := gw_in (List.mem_of_getElem? (i := 569) (by decide +kernel)) (by decide +kernel)
theorem w_91 : Cond.code yX0_tire cX0_tire 4 none ∈ gw_tbl := gw_in (List.mem_of_getElem? (i := 582) (by decide +kernel)) (by decide +kernel)
theorem w_92 : Cond.instanceMethod yX0_tire ∈ gw_tbl := gw_in (List.mem_of_getElem? (i := 581) (by decide +kernel)) (by decide +kernel)
theorem w_93 : Cond.selects RX0 yX0_tire yX0_tire ∈ gw_tbl := gw_in (List.mem_of_getElem? (i := 3) (by decide +kernel)) (by decide +kernel)
theorem w_94 : Cond.methodLink RX0 170 yX0_tire ∈ gw_tbl := gw_in (List.mem_of_getElem? (i := 579) (by decide +kernel)) (by decide +kernel)
theorem w_95 : Cond.code yX0_meet cX0_meet 2 none ∈ gw_tbl := gw_in (List.mem_of_getElem? (i := 577) (by decide +kernel)) (by decide +kernel)
theorem w_96 : Cond.instanceMethod yX0_meet ∈ gw_tbl := gw_in (List.mem_of_getElem? (i := 576) (by decide +kernel)) (by decide +kernel)
theorem w_97 : Cond.selects RX0 yX0_meet yX0_meet ∈ gw_tbl := gw_in (List.mem_of_getElem? (i := 2) (by decide +kernel)) (by decide +kernel)
theorem w_98 : Cond.methodLink RX0 166 yX0_meet ∈ gw_tbl := gw_in (List.mem_of_getElem? (i := 574) (by decide +kernel)) (by decide +kernel)
theorem w_99 : Cond.methodLink RX0 173 Lib.Math.min.name ∈ gw_tbl := gw_in (List.mem_of_getElem? (i := 578) (by decide +kernel)) (by decide +kernel)
theorem w_100 : Cond.methodLink RX0 178 Lib.Math.max.name ∈ gw_tbl := gw_in (List.mem_of_getElem? (i := 583) (by decide +kernel)) (by decide +kernel)
theorem w_101 : Cond.fieldLink RX1 11 "WolfFires$FireSearch" "lights" "[I" ∈ gw_tbl := gw_in (List.mem_of_getElem? (i := 98) (by decide +kernel)) (by decide +kernel)
theorem w_102 : Cond.fieldLink RX1 15 "WolfFires$FireSearch" "light" "I" ∈ gw_tbl := gw_in (List.mem_of_getElem? (i := 99) (by decide +kernel)) (by decide +kernel)
theorem w_103 : Cond.fieldLink RX1 31 "WolfFires$Camp" "ring" "LWolfFires$Ring;" ∈ gw_tbl := gw_in (List.mem_of_getElem? (i := 252) (by decide +kernel)) (by decide +kernel)
theorem w_104 : Cond.fieldLink RX1 35 "WolfFires$Ring" "many" "I" ∈ gw_tbl := gw_in (List.mem_of_getElem? (i := 196) (by decide +kernel)) (by decide +kernel)
theorem w_105 : Cond.methodLink RX1 40 Lib.Math.min.name ∈ gw_tbl := gw_in (List.mem_of_getElem? (i := 636) (by decide +kernel)) (by decide +kernel)
theorem w_106 : Cond.methodLink RX1 25 yX0_lightBy ∈ gw_tbl := gw_in (List.mem_of_getElem? (i := 635) (by decide +kernel)) (by decide +kernel)
theorem w_107 : Cond.code yX1_putFires cX1_putFires 7 (some .int) ∈ gw_tbl := gw_in (List.mem_of_getElem? (i := 640) (by decide +kernel)) (by decide +kernel)
theorem w_108 : Cond.initialized RX1 ∈ gw_tbl := gw_in (List.mem_of_getElem? (i := 67) (by decide +kernel)) (by decide +kernel)
theorem w_109 : Cond.instanceMethod yX1_putFires ∈ gw_tbl := gw_in (List.mem_of_getElem? (i := 639) (by decide +kernel)) (by decide +kernel)
theorem w_110 : Cond.selects RX1 yX1_putFires yX1_putFires ∈ gw_tbl := gw_in (List.mem_of_getElem? (i := 4) (by decide +kernel)) (by decide +kernel)
theorem w_111 : Cond.methodLink RX1 45 yX1_putFires ∈ gw_tbl := gw_in (List.mem_of_getElem? (i := 637) (by decide +kernel)) (by decide +kernel)
theorem w_112 : Cond.code yX1_leastLight cX1_leastLight 5 (some .int) ∈ gw_tbl := gw_in (List.mem_of_getElem? (i := 644) (by decide +kernel)) (by decide +kernel)
theorem w_113 : Cond.instanceMethod yX1_leastLight ∈ gw_tbl := gw_in (List.mem_of_getElem? (i := 643) (by decide +kernel)) (by decide +kernel)
theorem w_114 : Cond.selects RX1 yX1_leastLight yX1_leastLight ∈ gw_tbl := gw_in (List.mem_of_getElem? (i := 5) (by decide +kernel)) (by decide +kernel)
theorem w_115 : Cond.methodLink RX1 49 yX1_leastLight ∈ gw_tbl := gw_in (List.mem_of_getElem? (i := 641) (by decide +kernel)) (by decide +kernel)
theorem w_116 : Cond.fieldLink RX1 19 "WolfFires$FireSearch" "together" "I" ∈ gw_tbl := gw_in (List.mem_of_getElem? (i := 101) (by decide +kernel)) (by decide +kernel)
theorem w_117 : Cond.fieldLink RX1 22 "WolfFires$FireSearch" "digits" "I" ∈ gw_tbl := gw_in (List.mem_of_getElem? (i := 103) (by decide +kernel)) (by decide +kernel)
theorem w_118 : Cond.fieldLink RX1 53 "WolfFires$Ring" "fire" "[I" ∈ gw_tbl := gw_in (List.mem_of_getElem? (i := 204) (by decide +kernel)) (by decide +kernel)
theorem w_119 : Cond.methodLink RX1 56 yX3_nextFires ∈ gw_tbl := gw_in (List.mem_of_getElem? (i := 645) (by decide +kernel)) (by decide +kernel)
theorem w_120 : Cond.fieldLink RX2 9 "WolfFires$Law" "key" "I" ∈ gw_tbl := gw_in (List.mem_of_getElem? (i := 164) (by decide +kernel)) (by decide +kernel)
theorem w_121 : Cond.fieldLink RX2 15 "WolfFires$Law" "leaves" "I" ∈ gw_tbl := gw_in (List.mem_of_getElem? (i := 167) (by decide +kernel)) (by decide +kernel)
theorem w_122 : Cond.fieldLink RX2 22 "WolfFires$Law" "many" "I" ∈ gw_tbl := gw_in (List.mem_of_getElem? (i := 170) (by decide +kernel)) (by decide +kernel)
theorem w_123 : Cond.code yX2_addCode cX2_addCode 2 none ∈ gw_tbl := gw_in (List.mem_of_getElem? (i := 845) (by decide +kernel)) (by decide +kernel)
theorem w_124 : Cond.instanceMethod yX2_addCode ∈ gw_tbl := gw_in (List.mem_of_getElem? (i := 844) (by decide +kernel)) (by decide +kernel)
theorem w_125 : Cond.selects RX2 yX2_addCode yX2_addCode ∈ gw_tbl := gw_in (List.mem_of_getElem? (i := 12) (by decide +kernel)) (by decide +kernel)
theorem w_126 : Cond.methodLink RX2 28 yX2_addCode ∈ gw_tbl := gw_in (List.mem_of_getElem? (i := 842) (by decide +kernel)) (by decide +kernel)
theorem w_127 : Cond.fieldLink RX2 18 "WolfFires$Law" "codes" "[I" ∈ gw_tbl := gw_in (List.mem_of_getElem? (i := 169) (by decide +kernel)) (by decide +kernel)
theorem w_128 : Cond.fieldLink RX2 25 "WolfFires$Law" "stack" "[I" ∈ gw_tbl := gw_in (List.mem_of_getElem? (i := 171) (by decide +kernel)) (by decide +kernel)
theorem w_129 : Cond.code yX2_named cX2_named 4 (some .int) ∈ gw_tbl := gw_in (List.mem_of_getElem? (i := 447) (by decide +kernel)) (by decide +kernel)
theorem w_130 : Cond.static yX2_named ∈ gw_tbl := gw_in (List.mem_of_getElem? (i := 446) (by decide +kernel)) (by decide +kernel)
theorem w_131 : Cond.methodLink RX2 32 yX2_named ∈ gw_tbl := gw_in (List.mem_of_getElem? (i := 445) (by decide +kernel)) (by decide +kernel)
theorem w_132 : Cond.code yX2_joined cX2_joined 3 (some .int) ∈ gw_tbl := gw_in (List.mem_of_getElem? (i := 450) (by decide +kernel)) (by decide +kernel)
theorem w_133 : Cond.static yX2_joined ∈ gw_tbl := gw_in (List.mem_of_getElem? (i := 449) (by decide +kernel)) (by decide +kernel)
theorem w_134 : Cond.methodLink RX2 36 yX2_joined ∈ gw_tbl := gw_in (List.mem_of_getElem? (i := 448) (by decide +kernel)) (by decide +kernel)
theorem w_135 : Cond.fieldLink RX3 9 "WolfFires$Ring" "many" "I" ∈ gw_tbl := gw_in (List.mem_of_getElem? (i := 195) (by decide +kernel)) (by decide +kernel)
theorem w_136 : Cond.fieldLink RX3 15 "WolfFires$Ring" "foals" "[I" ∈ gw_tbl := gw_in (List.mem_of_getElem? (i := 199) (by decide +kernel)) (by decide +kernel)
theorem w_137 : Cond.fieldLink RX3 19 "WolfFires$Ring" "fire" "[I" ∈ gw_tbl := gw_in (List.mem_of_getElem? (i := 203) (by decide +kernel)) (by decide +kernel)
theorem w_138 : Cond.fieldLink RX3 22 "WolfFires$Ring" "tried" "[I" ∈ gw_tbl := gw_in (List.mem_of_getElem? (i := 206) (by decide +kernel)) (by decide +kernel)
theorem w_139 : Cond.constant RX3 29 (-1000000003) ∈ gw_tbl := gw_in (List.mem_of_getElem? (i := 409) (by decide +kernel)) (by decide +kernel)
theorem w_140 : Cond.methodLink RX3 30 yX3_has ∈ gw_tbl := gw_in (List.mem_of_getElem? (i := 431) (by decide +kernel)) (by decide +kernel)
theorem w_141 : Cond.methodLink RX3 34 arraycopyName ∈ gw_tbl := gw_in (List.mem_of_getElem? (i := 601) (by decide +kernel)) (by decide +kernel)
theorem w_142 : Cond.fieldLink RX4 15 "WolfFires$Sheet" "many" "I" ∈ gw_tbl := gw_in (List.mem_of_getElem? (i := 326) (by decide +kernel)) (by decide +kernel)
theorem w_143 : Cond.fieldLink RX4 9 "WolfFires$Sheet" "sort" "I" ∈ gw_tbl := gw_in (List.mem_of_getElem? (i := 324) (by decide +kernel)) (by decide +kernel)
theorem w_144 : Cond.fieldLink RX4 18 "WolfFires$Sheet" "places" "[I" ∈ gw_tbl := gw_in (List.mem_of_getElem? (i := 328) (by decide +kernel)) (by decide +kernel)
theorem w_145 : Cond.code yJ7_fill_53178 cJ7_fill_53178 4 none ∈ gw_tbl := gw_in (List.mem_of_getElem? (i := 904) (by decide +kernel)) (by decide +kernel)
theorem w_146 : Cond.initialized RJ7 ∈ gw_tbl := gw_in (List.mem_of_getElem? (i := 83) (by decide +kernel)) (by decide +kernel)
theorem w_147 : Cond.static yJ7_fill_53178 ∈ gw_tbl := gw_in (List.mem_of_getElem? (i := 903) (by decide +kernel)) (by decide +kernel)
theorem w_148 : Cond.methodLink RX4 26 yJ7_fill_53178 ∈ gw_tbl := gw_in (List.mem_of_getElem? (i := 902) (by decide +kernel)) (by decide +kernel)
theorem w_149 : Cond.methodLink RX4 32 arraycopyName ∈ gw_tbl := gw_in (List.mem_of_getElem? (i := 948) (by decide +kernel)) (by decide +kernel)
theorem w_150 : Cond.constant RX4 38 (-1000000005) ∈ gw_tbl := gw_in (List.mem_of_getElem? (i := 670) (by decide +kernel)) (by decide +kernel)
theorem w_151 : Cond.methodLink RX4 39 yX3_has ∈ gw_tbl := gw_in (List.mem_of_getElem? (i := 671) (by decide +kernel)) (by decide +kernel)
theorem w_152 : Cond.fieldLink RX4 45 "WolfFires$Ring" "foals" "[I" ∈ gw_tbl := gw_in (List.mem_of_getElem? (i := 200) (by decide +kernel)) (by decide +kernel)
theorem w_153 : Cond.methodLink RX4 48 Lib.Math.abs.name ∈ gw_tbl := gw_in (List.mem_of_getElem? (i := 672) (by decide +kernel)) (by decide +kernel)
theorem w_154 : Cond.fieldLink RX6 15 "WolfFires$Tape" "many" "I" ∈ gw_tbl := gw_in (List.mem_of_getElem? (i := 122) (by decide +kernel)) (by decide +kernel)
theorem w_155 : Cond.fieldLink RX6 9 "WolfFires$Tape" "bytes" "[I" ∈ gw_tbl := gw_in (List.mem_of_getElem? (i := 121) (by decide +kernel)) (by decide +kernel)
theorem w_156 : Cond.fieldLink RX6 22 "WolfFires$Tape" "to" "I" ∈ gw_tbl := gw_in (List.mem_of_getElem? (i := 125) (by decide +kernel)) (by decide +kernel)
theorem w_157 : Cond.fieldLink RX6 28 "WolfFires$Tape" "height" "I" ∈ gw_tbl := gw_in (List.mem_of_getElem? (i := 127) (by decide +kernel)) (by decide +kernel)
theorem w_158 : Cond.fieldLink RX6 31 "WolfFires$Tape" "parens" "I" ∈ gw_tbl := gw_in (List.mem_of_getElem? (i := 128) (by decide +kernel)) (by decide +kernel)
theorem w_159 : Cond.fieldLink RX6 34 "WolfFires$Tape" "nots" "I" ∈ gw_tbl := gw_in (List.mem_of_getElem? (i := 129) (by decide +kernel)) (by decide +kernel)
theorem w_160 : Cond.fieldLink RX6 37 "WolfFires$Tape" "wantsPiece" "Z" ∈ gw_tbl := gw_in (List.mem_of_getElem? (i := 130) (by decide +kernel)) (by decide +kernel)
theorem w_161 : Cond.code yX6_steps cX6_steps 2 none ∈ gw_tbl := gw_in (List.mem_of_getElem? (i := 697) (by decide +kernel)) (by decide +kernel)
theorem w_162 : Cond.initialized RX6 ∈ gw_tbl := gw_in (List.mem_of_getElem? (i := 68) (by decide +kernel)) (by decide +kernel)
theorem w_163 : Cond.instanceMethod yX6_steps ∈ gw_tbl := gw_in (List.mem_of_getElem? (i := 696) (by decide +kernel)) (by decide +kernel)
theorem w_164 : Cond.selects RX6 yX6_steps yX6_steps ∈ gw_tbl := gw_in (List.mem_of_getElem? (i := 6) (by decide +kernel)) (by decide +kernel)
theorem w_165 : Cond.methodLink RX6 41 yX6_steps ∈ gw_tbl := gw_in (List.mem_of_getElem? (i := 694) (by decide +kernel)) (by decide +kernel)
theorem w_166 : Cond.code yX6_keyHere cX6_keyHere 1 (some .int) ∈ gw_tbl := gw_in (List.mem_of_getElem? (i := 709) (by decide +kernel)) (by decide +kernel)
theorem w_167 : Cond.instanceMethod yX6_keyHere ∈ gw_tbl := gw_in (List.mem_of_getElem? (i := 708) (by decide +kernel)) (by decide +kernel)
theorem w_168 : Cond.selects RX6 yX6_keyHere yX6_keyHere ∈ gw_tbl := gw_in (List.mem_of_getElem? (i := 8) (by decide +kernel)) (by decide +kernel)
theorem w_169 : Cond.methodLink RX6 44 yX6_keyHere ∈ gw_tbl := gw_in (List.mem_of_getElem? (i := 706) (by decide +kernel)) (by decide +kernel)
theorem w_170 : Cond.code yX2_begins cX2_begins 2 none ∈ gw_tbl := gw_in (List.mem_of_getElem? (i := 768) (by decide +kernel)) (by decide +kernel)
theorem w_171 : Cond.instanceMethod yX2_begins ∈ gw_tbl := gw_in (List.mem_of_getElem? (i := 766) (by decide +kernel)) (by decide +kernel)
theorem w_172 : Cond.selects RX2 yX2_begins yX2_begins ∈ gw_tbl := gw_in (List.mem_of_getElem? (i := 767) (by decide +kernel)) (by decide +kernel)
theorem w_173 : Cond.methodLink RX6 48 yX2_begins ∈ gw_tbl := gw_in (List.mem_of_getElem? (i := 765) (by decide +kernel)) (by decide +kernel)
theorem w_174 : Cond.fieldLink RX6 19 "WolfFires$Tape" "from" "I" ∈ gw_tbl := gw_in (List.mem_of_getElem? (i := 124) (by decide +kernel)) (by decide +kernel)
theorem w_175 : Cond.code yX6_sortHere cX6_sortHere 1 (some .int) ∈ gw_tbl := gw_in (List.mem_of_getElem? (i := 702) (by decide +kernel)) (by decide +kernel)
theorem w_176 : Cond.instanceMethod yX6_sortHere ∈ gw_tbl := gw_in (List.mem_of_getElem? (i := 701) (by decide +kernel)) (by decide +kernel)
theorem w_177 : Cond.selects RX6 yX6_sortHere yX6_sortHere ∈ gw_tbl := gw_in (List.mem_of_getElem? (i := 7) (by decide +kernel)) (by decide +kernel)
theorem w_178 : Cond.methodLink RX6 54 yX6_sortHere ∈ gw_tbl := gw_in (List.mem_of_getElem? (i := 699) (by decide +kernel)) (by decide +kernel)
theorem w_179 : Cond.code yX6_takesSign cX6_takesSign 4 (some .boolean) ∈ gw_tbl := gw_in (List.mem_of_getElem? (i := 873) (by decide +kernel)) (by decide +kernel)
theorem w_180 : Cond.instanceMethod yX6_takesSign ∈ gw_tbl := gw_in (List.mem_of_getElem? (i := 872) (by decide +kernel)) (by decide +kernel)
theorem w_181 : Cond.selects RX6 yX6_takesSign yX6_takesSign ∈ gw_tbl := gw_in (List.mem_of_getElem? (i := 17) (by decide +kernel)) (by decide +kernel)
theorem w_182 : Cond.methodLink RX6 61 yX6_takesSign ∈ gw_tbl := gw_in (List.mem_of_getElem? (i := 870) (by decide +kernel)) (by decide +kernel)
theorem w_183 : Cond.code yX6_takesPiece cX6_takesPiece 2 (some .boolean) ∈ gw_tbl := gw_in (List.mem_of_getElem? (i := 772) (by decide +kernel)) (by decide +kernel)
theorem w_184 : Cond.instanceMethod yX6_takesPiece ∈ gw_tbl := gw_in (List.mem_of_getElem? (i := 771) (by decide +kernel)) (by decide +kernel)
theorem w_185 : Cond.selects RX6 yX6_takesPiece yX6_takesPiece ∈ gw_tbl := gw_in (List.mem_of_getElem? (i := 10) (by decide +kernel)) (by decide +kernel)
theorem w_186 : Cond.methodLink RX6 57 yX6_takesPiece ∈ gw_tbl := gw_in (List.mem_of_getElem? (i := 769) (by decide +kernel)) (by decide +kernel)
theorem w_187 : Cond.code yX6_closesDownTo cX6_closesDownTo 3 none ∈ gw_tbl := gw_in (List.mem_of_getElem? (i := 881) (by decide +kernel)) (by decide +kernel)
theorem w_188 : Cond.instanceMethod yX6_closesDownTo ∈ gw_tbl := gw_in (List.mem_of_getElem? (i := 880) (by decide +kernel)) (by decide +kernel)
theorem w_189 : Cond.selects RX6 yX6_closesDownTo yX6_closesDownTo ∈ gw_tbl := gw_in (List.mem_of_getElem? (i := 19) (by decide +kernel)) (by decide +kernel)
theorem w_190 : Cond.methodLink RX6 64 yX6_closesDownTo ∈ gw_tbl := gw_in (List.mem_of_getElem? (i := 878) (by decide +kernel)) (by decide +kernel)
theorem w_191 : Cond.methodLink RX6 68 Lib.Math.min.name ∈ gw_tbl := gw_in (List.mem_of_getElem? (i := 698) (by decide +kernel)) (by decide +kernel)
theorem w_192 : Cond.code yX6_sortOf cX6_sortOf 1 (some .int) ∈ gw_tbl := gw_in (List.mem_of_getElem? (i := 705) (by decide +kernel)) (by decide +kernel)
theorem w_193 : Cond.static yX6_sortOf ∈ gw_tbl := gw_in (List.mem_of_getElem? (i := 704) (by decide +kernel)) (by decide +kernel)
theorem w_194 : Cond.methodLink RX6 74 yX6_sortOf ∈ gw_tbl := gw_in (List.mem_of_getElem? (i := 703) (by decide +kernel)) (by decide +kernel)
theorem w_195 : Cond.code yX6_isHere cX6_isHere 3 (some .boolean) ∈ gw_tbl := gw_in (List.mem_of_getElem? (i := 714) (by decide +kernel)) (by decide +kernel)
theorem w_196 : Cond.instanceMethod yX6_isHere ∈ gw_tbl := gw_in (List.mem_of_getElem? (i := 713) (by decide +kernel)) (by decide +kernel)
theorem w_197 : Cond.selects RX6 yX6_isHere yX6_isHere ∈ gw_tbl := gw_in (List.mem_of_getElem? (i := 9) (by decide +kernel)) (by decide +kernel)
theorem w_198 : Cond.methodLink RX6 80 yX6_isHere ∈ gw_tbl := gw_in (List.mem_of_getElem? (i := 711) (by decide +kernel)) (by decide +kernel)
theorem w_199 : Cond.code yJ0_length_8abf5 cJ0_length_8abf5 1 (some .int) ∈ gw_tbl := gw_in (List.mem_of_getElem? (i := 718) (by decide +kernel)) (by decide +kernel)
theorem w_200 : Cond.initialized RJ0 ∈ gw_tbl := gw_in (List.mem_of_getElem? (i := 78) (by decide +kernel)) (by decide +kernel)
theorem w_201 : Cond.instanceMethod yJ0_length_8abf5 ∈ gw_tbl := gw_in (List.mem_of_getElem? (i := 716) (by decide +kernel)) (by decide +kernel)
theorem w_202 : Cond.selects RJ0 yJ0_length_8abf5 yJ0_length_8abf5 ∈ gw_tbl := gw_in (List.mem_of_getElem? (i := 717) (by decide +kernel)) (by decide +kernel)
theorem w_203 : Cond.methodLink RX6 88 yJ0_length_8abf5 ∈ gw_tbl := gw_in (List.mem_of_getElem? (i := 715) (by decide +kernel)) (by decide +kernel)
theorem w_204 : Cond.code yJ0_charAt_5068e cJ0_charAt_5068e 2 (some .char) ∈ gw_tbl := gw_in (List.mem_of_getElem? (i := 728) (by decide +kernel)) (by decide +kernel)
theorem w_205 : Cond.instanceMethod yJ0_charAt_5068e ∈ gw_tbl := gw_in (List.mem_of_getElem? (i := 726) (by decide +kernel)) (by decide +kernel)
theorem w_206 : Cond.selects RJ0 yJ0_charAt_5068e yJ0_charAt_5068e ∈ gw_tbl := gw_in (List.mem_of_getElem? (i := 727) (by decide +kernel)) (by decide +kernel)
theorem w_207 : Cond.methodLink RX6 93 yJ0_charAt_5068e ∈ gw_tbl := gw_in (List.mem_of_getElem? (i := 725) (by decide +kernel)) (by decide +kernel)
theorem w_208 : Cond.code yX6_takesName cX6_takesName 3 (some .boolean) ∈ gw_tbl := gw_in (List.mem_of_getElem? (i := 776) (by decide +kernel)) (by decide +kernel)
theorem w_209 : Cond.instanceMethod yX6_takesName ∈ gw_tbl := gw_in (List.mem_of_getElem? (i := 775) (by decide +kernel)) (by decide +kernel)
theorem w_210 : Cond.selects RX6 yX6_takesName yX6_takesName ∈ gw_tbl := gw_in (List.mem_of_getElem? (i := 11) (by decide +kernel)) (by decide +kernel)
theorem w_211 : Cond.methodLink RX6 97 yX6_takesName ∈ gw_tbl := gw_in (List.mem_of_getElem? (i := 773) (by decide +kernel)) (by decide +kernel)
theorem w_212 : Cond.code yX6_takesDigits cX6_takesDigits 4 (some .boolean) ∈ gw_tbl := gw_in (List.mem_of_getElem? (i := 857) (by decide +kernel)) (by decide +kernel)
theorem w_213 : Cond.instanceMethod yX6_takesDigits ∈ gw_tbl := gw_in (List.mem_of_getElem? (i := 856) (by decide +kernel)) (by decide +kernel)
theorem w_214 : Cond.selects RX6 yX6_takesDigits yX6_takesDigits ∈ gw_tbl := gw_in (List.mem_of_getElem? (i := 14) (by decide +kernel)) (by decide +kernel)
theorem w_215 : Cond.methodLink RX6 100 yX6_takesDigits ∈ gw_tbl := gw_in (List.mem_of_getElem? (i := 854) (by decide +kernel)) (by decide +kernel)
theorem w_216 : Cond.code yX6_opens cX6_opens 2 (some .boolean) ∈ gw_tbl := gw_in (List.mem_of_getElem? (i := 865) (by decide +kernel)) (by decide +kernel)
theorem w_217 : Cond.instanceMethod yX6_opens ∈ gw_tbl := gw_in (List.mem_of_getElem? (i := 864) (by decide +kernel)) (by decide +kernel)
theorem w_218 : Cond.selects RX6 yX6_opens yX6_opens ∈ gw_tbl := gw_in (List.mem_of_getElem? (i := 15) (by decide +kernel)) (by decide +kernel)
theorem w_219 : Cond.methodLink RX6 103 yX6_opens ∈ gw_tbl := gw_in (List.mem_of_getElem? (i := 862) (by decide +kernel)) (by decide +kernel)
theorem w_220 : Cond.fieldLink RX6 107 "WolfFires$Law" "key" "I" ∈ gw_tbl := gw_in (List.mem_of_getElem? (i := 165) (by decide +kernel)) (by decide +kernel)
theorem w_221 : Cond.code yX6_namesOf cX6_namesOf 1 (some (.object "java/lang/String")) ∈ gw_tbl := gw_in (List.mem_of_getElem? (i := 779) (by decide +kernel)) (by decide +kernel)
theorem w_222 : Cond.static yX6_namesOf ∈ gw_tbl := gw_in (List.mem_of_getElem? (i := 778) (by decide +kernel)) (by decide +kernel)
theorem w_223 : Cond.methodLink RX6 110 yX6_namesOf ∈ gw_tbl := gw_in (List.mem_of_getElem? (i := 777) (by decide +kernel)) (by decide +kernel)
theorem w_224 : Cond.code yJ0_indexOf_0f7a4 cJ0_indexOf_0f7a4 2 (some .int) ∈ gw_tbl := gw_in (List.mem_of_getElem? (i := 786) (by decide +kernel)) (by decide +kernel)
theorem w_225 : Cond.instanceMethod yJ0_indexOf_0f7a4 ∈ gw_tbl := gw_in (List.mem_of_getElem? (i := 784) (by decide +kernel)) (by decide +kernel)
theorem w_226 : Cond.selects RJ0 yJ0_indexOf_0f7a4 yJ0_indexOf_0f7a4 ∈ gw_tbl := gw_in (List.mem_of_getElem? (i := 785) (by decide +kernel)) (by decide +kernel)
theorem w_227 : Cond.methodLink RX6 114 yJ0_indexOf_0f7a4 ∈ gw_tbl := gw_in (List.mem_of_getElem? (i := 783) (by decide +kernel)) (by decide +kernel)
theorem w_228 : Cond.code yX2_addName cX2_addName 2 none ∈ gw_tbl := gw_in (List.mem_of_getElem? (i := 841) (by decide +kernel)) (by decide +kernel)
theorem w_229 : Cond.instanceMethod yX2_addName ∈ gw_tbl := gw_in (List.mem_of_getElem? (i := 839) (by decide +kernel)) (by decide +kernel)
theorem w_230 : Cond.selects RX2 yX2_addName yX2_addName ∈ gw_tbl := gw_in (List.mem_of_getElem? (i := 840) (by decide +kernel)) (by decide +kernel)
theorem w_231 : Cond.methodLink RX6 117 yX2_addName ∈ gw_tbl := gw_in (List.mem_of_getElem? (i := 838) (by decide +kernel)) (by decide +kernel)
theorem w_232 : Cond.code yX6_endsPiece cX6_endsPiece 2 none ∈ gw_tbl := gw_in (List.mem_of_getElem? (i := 849) (by decide +kernel)) (by decide +kernel)
theorem w_233 : Cond.instanceMethod yX6_endsPiece ∈ gw_tbl := gw_in (List.mem_of_getElem? (i := 848) (by decide +kernel)) (by decide +kernel)
theorem w_234 : Cond.selects RX6 yX6_endsPiece yX6_endsPiece ∈ gw_tbl := gw_in (List.mem_of_getElem? (i := 13) (by decide +kernel)) (by decide +kernel)
theorem w_235 : Cond.methodLink RX6 120 yX6_endsPiece ∈ gw_tbl := gw_in (List.mem_of_getElem? (i := 846) (by decide +kernel)) (by decide +kernel)
theorem w_236 : Cond.code yX2_addNumber cX2_addNumber 2 none ∈ gw_tbl := gw_in (List.mem_of_getElem? (i := 861) (by decide +kernel)) (by decide +kernel)
theorem w_237 : Cond.instanceMethod yX2_addNumber ∈ gw_tbl := gw_in (List.mem_of_getElem? (i := 859) (by decide +kernel)) (by decide +kernel)
theorem w_238 : Cond.selects RX2 yX2_addNumber yX2_addNumber ∈ gw_tbl := gw_in (List.mem_of_getElem? (i := 860) (by decide +kernel)) (by decide +kernel)
theorem w_239 : Cond.methodLink RX6 130 yX2_addNumber ∈ gw_tbl := gw_in (List.mem_of_getElem? (i := 858) (by decide +kernel)) (by decide +kernel)
theorem w_240 : Cond.code yX6_pushes cX6_pushes 2 none ∈ gw_tbl := gw_in (List.mem_of_getElem? (i := 869) (by decide +kernel)) (by decide +kernel)
theorem w_241 : Cond.instanceMethod yX6_pushes ∈ gw_tbl := gw_in (List.mem_of_getElem? (i := 868) (by decide +kernel)) (by decide +kernel)
theorem w_242 : Cond.selects RX6 yX6_pushes yX6_pushes ∈ gw_tbl := gw_in (List.mem_of_getElem? (i := 16) (by decide +kernel)) (by decide +kernel)
theorem w_243 : Cond.methodLink RX6 133 yX6_pushes ∈ gw_tbl := gw_in (List.mem_of_getElem? (i := 866) (by decide +kernel)) (by decide +kernel)
theorem w_244 : Cond.fieldLink RX6 25 "WolfFires$Tape" "open" "[I" ∈ gw_tbl := gw_in (List.mem_of_getElem? (i := 126) (by decide +kernel)) (by decide +kernel)
theorem w_245 : Cond.code yX2_addSign cX2_addSign 2 none ∈ gw_tbl := gw_in (List.mem_of_getElem? (i := 853) (by decide +kernel)) (by decide +kernel)
theorem w_246 : Cond.instanceMethod yX2_addSign ∈ gw_tbl := gw_in (List.mem_of_getElem? (i := 851) (by decide +kernel)) (by decide +kernel)
theorem w_247 : Cond.selects RX2 yX2_addSign yX2_addSign ∈ gw_tbl := gw_in (List.mem_of_getElem? (i := 852) (by decide +kernel)) (by decide +kernel)
theorem w_248 : Cond.methodLink RX6 136 yX2_addSign ∈ gw_tbl := gw_in (List.mem_of_getElem? (i := 850) (by decide +kernel)) (by decide +kernel)
theorem w_249 : Cond.code yX6_levelOf cX6_levelOf 1 (some .int) ∈ gw_tbl := gw_in (List.mem_of_getElem? (i := 884) (by decide +kernel)) (by decide +kernel)
theorem w_250 : Cond.static yX6_levelOf ∈ gw_tbl := gw_in (List.mem_of_getElem? (i := 883) (by decide +kernel)) (by decide +kernel)
theorem w_251 : Cond.methodLink RX6 142 yX6_levelOf ∈ gw_tbl := gw_in (List.mem_of_getElem? (i := 882) (by decide +kernel)) (by decide +kernel)
theorem w_252 : Cond.code yX6_takesClose cX6_takesClose 2 (some .boolean) ∈ gw_tbl := gw_in (List.mem_of_getElem? (i := 877) (by decide +kernel)) (by decide +kernel)
theorem w_253 : Cond.instanceMethod yX6_takesClose ∈ gw_tbl := gw_in (List.mem_of_getElem? (i := 876) (by decide +kernel)) (by decide +kernel)
theorem w_254 : Cond.selects RX6 yX6_takesClose yX6_takesClose ∈ gw_tbl := gw_in (List.mem_of_getElem? (i := 18) (by decide +kernel)) (by decide +kernel)
theorem w_255 : Cond.methodLink RX6 139 yX6_takesClose ∈ gw_tbl := gw_in (List.mem_of_getElem? (i := 874) (by decide +kernel)) (by decide +kernel)
theorem w_256 : Cond.fieldLink RX7 9 "WolfFires$Watcher" "kind" "I" ∈ gw_tbl := gw_in (List.mem_of_getElem? (i := 225) (by decide +kernel)) (by decide +kernel)
theorem w_257 : Cond.code yX8_isKind cX8_isKind 1 (some .boolean) ∈ gw_tbl := gw_in (List.mem_of_getElem? (i := 499) (by decide +kernel)) (by decide +kernel)
theorem w_258 : Cond.static yX8_isKind ∈ gw_tbl := gw_in (List.mem_of_getElem? (i := 498) (by decide +kernel)) (by decide +kernel)
theorem w_259 : Cond.fieldLink RX7 24 "WolfFires$Watcher" "on" "I" ∈ gw_tbl := gw_in (List.mem_of_getElem? (i := 237) (by decide +kernel)) (by decide +kernel)
theorem w_260 : Cond.code yX7_plainSight cX7_plainSight 2 (some .int) ∈ gw_tbl := gw_in (List.mem_of_getElem? (i := 472) (by decide +kernel)) (by decide +kernel)
theorem w_261 : Cond.instanceMethod yX7_plainSight ∈ gw_tbl := gw_in (List.mem_of_getElem? (i := 471) (by decide +kernel)) (by decide +kernel)
theorem w_262 : Cond.selects RX7 yX7_plainSight yX7_plainSight ∈ gw_tbl := gw_in (List.mem_of_getElem? (i := 1) (by decide +kernel)) (by decide +kernel)
theorem w_263 : Cond.methodLink RX7 39 yX7_plainSight ∈ gw_tbl := gw_in (List.mem_of_getElem? (i := 469) (by decide +kernel)) (by decide +kernel)
theorem w_264 : Cond.fieldLink RX7 18 "WolfFires$Watcher" "eyes" "I" ∈ gw_tbl := gw_in (List.mem_of_getElem? (i := 231) (by decide +kernel)) (by decide +kernel)
theorem w_265 : Cond.fieldLink RX7 21 "WolfFires$Watcher" "tired" "I" ∈ gw_tbl := gw_in (List.mem_of_getElem? (i := 234) (by decide +kernel)) (by decide +kernel)
theorem w_266 : Cond.methodLink RX7 43 Lib.Math.max.name ∈ gw_tbl := gw_in (List.mem_of_getElem? (i := 473) (by decide +kernel)) (by decide +kernel)
theorem w_267 : Cond.fieldLink RX7 15 "WolfFires$Watcher" "at" "I" ∈ gw_tbl := gw_in (List.mem_of_getElem? (i := 228) (by decide +kernel)) (by decide +kernel)
theorem w_268 : Cond.methodLink RX8 77 yX8_within ∈ gw_tbl := gw_in (List.mem_of_getElem? (i := 401) (by decide +kernel)) (by decide +kernel)
theorem w_269 : Cond.fieldLink RX8 60 "WolfFires" "now" "LWolfFires$Camp;" ∈ gw_tbl := gw_in (List.mem_of_getElem? (i := 364) (by decide +kernel)) (by decide +kernel)
theorem w_270 : Cond.fieldLink RX8 82 "WolfFires$Camp" "ring" "LWolfFires$Ring;" ∈ gw_tbl := gw_in (List.mem_of_getElem? (i := 253) (by decide +kernel)) (by decide +kernel)
theorem w_271 : Cond.code yX3_joins cX3_joins 2 (some .int) ∈ gw_tbl := gw_in (List.mem_of_getElem? (i := 408) (by decide +kernel)) (by decide +kernel)
theorem w_272 : Cond.instanceMethod yX3_joins ∈ gw_tbl := gw_in (List.mem_of_getElem? (i := 406) (by decide +kernel)) (by decide +kernel)
theorem w_273 : Cond.selects RX3 yX3_joins yX3_joins ∈ gw_tbl := gw_in (List.mem_of_getElem? (i := 407) (by decide +kernel)) (by decide +kernel)
theorem w_274 : Cond.methodLink RX8 86 yX3_joins ∈ gw_tbl := gw_in (List.mem_of_getElem? (i := 405) (by decide +kernel)) (by decide +kernel)
theorem w_275 : Cond.constant RX8 81 (-1000000001) ∈ gw_tbl := gw_in (List.mem_of_getElem? (i := 404) (by decide +kernel)) (by decide +kernel)
theorem w_276 : Cond.methodLink RX8 92 yX3_has ∈ gw_tbl := gw_in (List.mem_of_getElem? (i := 414) (by decide +kernel)) (by decide +kernel)
theorem w_277 : Cond.methodLink RX8 100 yX0_measure ∈ gw_tbl := gw_in (List.mem_of_getElem? (i := 423) (by decide +kernel)) (by decide +kernel)
theorem w_278 : Cond.fieldLink RX8 103 "WolfFires$Camp" "light" "[I" ∈ gw_tbl := gw_in (List.mem_of_getElem? (i := 280) (by decide +kernel)) (by decide +kernel)
theorem w_279 : Cond.fieldLink RX8 106 "WolfFires$Camp" "guard" "[I" ∈ gw_tbl := gw_in (List.mem_of_getElem? (i := 282) (by decide +kernel)) (by decide +kernel)
theorem w_280 : Cond.methodLink RX8 109 yX0_fearsOf ∈ gw_tbl := gw_in (List.mem_of_getElem? (i := 474) (by decide +kernel)) (by decide +kernel)
theorem w_281 : Cond.code yX3_row cX3_row 2 (some (.array .int)) ∈ gw_tbl := gw_in (List.mem_of_getElem? (i := 422) (by decide +kernel)) (by decide +kernel)
theorem w_282 : Cond.instanceMethod yX3_row ∈ gw_tbl := gw_in (List.mem_of_getElem? (i := 420) (by decide +kernel)) (by decide +kernel)
theorem w_283 : Cond.selects RX3 yX3_row yX3_row ∈ gw_tbl := gw_in (List.mem_of_getElem? (i := 421) (by decide +kernel)) (by decide +kernel)
theorem w_284 : Cond.methodLink RX8 96 yX3_row ∈ gw_tbl := gw_in (List.mem_of_getElem? (i := 419) (by decide +kernel)) (by decide +kernel)
theorem w_285 : Cond.methodLink RX8 112 Lib.Math.abs.name ∈ gw_tbl := gw_in (List.mem_of_getElem? (i := 486) (by decide +kernel)) (by decide +kernel)
theorem w_286 : Cond.fieldLink RX8 117 "WolfFires$Ring" "many" "I" ∈ gw_tbl := gw_in (List.mem_of_getElem? (i := 197) (by decide +kernel)) (by decide +kernel)
theorem w_287 : Cond.methodLink RX8 120 Lib.Math.min.name ∈ gw_tbl := gw_in (List.mem_of_getElem? (i := 454) (by decide +kernel)) (by decide +kernel)
theorem w_288 : Cond.fieldLink RX8 130 "WolfFires$Camp" "hunger" "I" ∈ gw_tbl := gw_in (List.mem_of_getElem? (i := 263) (by decide +kernel)) (by decide +kernel)
theorem w_289 : Cond.fieldLink RX8 127 "WolfFires$Camp" "wolves" "I" ∈ gw_tbl := gw_in (List.mem_of_getElem? (i := 261) (by decide +kernel)) (by decide +kernel)
theorem w_290 : Cond.fieldLink RX8 124 "WolfFires$Camp" "wood" "I" ∈ gw_tbl := gw_in (List.mem_of_getElem? (i := 259) (by decide +kernel)) (by decide +kernel)
theorem w_291 : Cond.methodLink RX8 133 yX8_isKind ∈ gw_tbl := gw_in (List.mem_of_getElem? (i := 497) (by decide +kernel)) (by decide +kernel)
theorem w_292 : Cond.code yX0_hires cX0_hires 5 (some .int) ∈ gw_tbl := gw_in (List.mem_of_getElem? (i := 505) (by decide +kernel)) (by decide +kernel)
theorem w_293 : Cond.instanceMethod yX0_hires ∈ gw_tbl := gw_in (List.mem_of_getElem? (i := 503) (by decide +kernel)) (by decide +kernel)
theorem w_294 : Cond.selects RX0 yX0_hires yX0_hires ∈ gw_tbl := gw_in (List.mem_of_getElem? (i := 504) (by decide +kernel)) (by decide +kernel)
theorem w_295 : Cond.methodLink RX8 136 yX0_hires ∈ gw_tbl := gw_in (List.mem_of_getElem? (i := 502) (by decide +kernel)) (by decide +kernel)
theorem w_296 : Cond.code yX0_hasWatcher cX0_hasWatcher 2 (some .boolean) ∈ gw_tbl := gw_in (List.mem_of_getElem? (i := 514) (by decide +kernel)) (by decide +kernel)
theorem w_297 : Cond.instanceMethod yX0_hasWatcher ∈ gw_tbl := gw_in (List.mem_of_getElem? (i := 512) (by decide +kernel)) (by decide +kernel)
theorem w_298 : Cond.selects RX0 yX0_hasWatcher yX0_hasWatcher ∈ gw_tbl := gw_in (List.mem_of_getElem? (i := 513) (by decide +kernel)) (by decide +kernel)
theorem w_299 : Cond.methodLink RX8 140 yX0_hasWatcher ∈ gw_tbl := gw_in (List.mem_of_getElem? (i := 511) (by decide +kernel)) (by decide +kernel)
theorem w_300 : Cond.fieldLink RX8 143 "WolfFires$Camp" "watchers" "[LWolfFires$Watcher;" ∈ gw_tbl := gw_in (List.mem_of_getElem? (i := 255) (by decide +kernel)) (by decide +kernel)
theorem w_301 : Cond.fieldLink RX8 147 "WolfFires$Watcher" "kind" "I" ∈ gw_tbl := gw_in (List.mem_of_getElem? (i := 227) (by decide +kernel)) (by decide +kernel)
theorem w_302 : Cond.fieldLink RX8 152 "WolfFires$Watcher" "at" "I" ∈ gw_tbl := gw_in (List.mem_of_getElem? (i := 230) (by decide +kernel)) (by decide +kernel)
theorem w_303 : Cond.fieldLink RX8 155 "WolfFires$Watcher" "eyes" "I" ∈ gw_tbl := gw_in (List.mem_of_getElem? (i := 233) (by decide +kernel)) (by decide +kernel)
theorem w_304 : Cond.fieldLink RX8 158 "WolfFires$Watcher" "tired" "I" ∈ gw_tbl := gw_in (List.mem_of_getElem? (i := 236) (by decide +kernel)) (by decide +kernel)
theorem w_305 : Cond.fieldLink RX8 161 "WolfFires$Watcher" "on" "I" ∈ gw_tbl := gw_in (List.mem_of_getElem? (i := 239) (by decide +kernel)) (by decide +kernel)
theorem w_306 : Cond.methodLink RX8 164 yX0_sightOf ∈ gw_tbl := gw_in (List.mem_of_getElem? (i := 515) (by decide +kernel)) (by decide +kernel)
theorem w_307 : Cond.code yX7_worth cX7_worth 1 (some .int) ∈ gw_tbl := gw_in (List.mem_of_getElem? (i := 519) (by decide +kernel)) (by decide +kernel)
theorem w_308 : Cond.instanceMethod yX7_worth ∈ gw_tbl := gw_in (List.mem_of_getElem? (i := 517) (by decide +kernel)) (by decide +kernel)
theorem w_309 : Cond.selects RX7 yX7_worth yX7_worth ∈ gw_tbl := gw_in (List.mem_of_getElem? (i := 518) (by decide +kernel)) (by decide +kernel)
theorem w_310 : Cond.methodLink RX8 168 yX7_worth ∈ gw_tbl := gw_in (List.mem_of_getElem? (i := 516) (by decide +kernel)) (by decide +kernel)
theorem w_311 : Cond.code yX7_isOf cX7_isOf 4 (some .boolean) ∈ gw_tbl := gw_in (List.mem_of_getElem? (i := 527) (by decide +kernel)) (by decide +kernel)
theorem w_312 : Cond.instanceMethod yX7_isOf ∈ gw_tbl := gw_in (List.mem_of_getElem? (i := 525) (by decide +kernel)) (by decide +kernel)
theorem w_313 : Cond.selects RX7 yX7_isOf yX7_isOf ∈ gw_tbl := gw_in (List.mem_of_getElem? (i := 526) (by decide +kernel)) (by decide +kernel)
theorem w_314 : Cond.methodLink RX8 172 yX7_isOf ∈ gw_tbl := gw_in (List.mem_of_getElem? (i := 524) (by decide +kernel)) (by decide +kernel)
theorem w_315 : Cond.constant RX8 175 (-1000000012) ∈ gw_tbl := gw_in (List.mem_of_getElem? (i := 530) (by decide +kernel)) (by decide +kernel)
theorem w_316 : Cond.code yX7_canBe cX7_canBe 2 (some .boolean) ∈ gw_tbl := gw_in (List.mem_of_getElem? (i := 541) (by decide +kernel)) (by decide +kernel)
theorem w_317 : Cond.static yX7_canBe ∈ gw_tbl := gw_in (List.mem_of_getElem? (i := 540) (by decide +kernel)) (by decide +kernel)
theorem w_318 : Cond.methodLink RX8 176 yX7_canBe ∈ gw_tbl := gw_in (List.mem_of_getElem? (i := 539) (by decide +kernel)) (by decide +kernel)
theorem w_319 : Cond.fieldLink RX8 180 "WolfFires$Camp" "watchersMany" "I" ∈ gw_tbl := gw_in (List.mem_of_getElem? (i := 257) (by decide +kernel)) (by decide +kernel)
theorem w_320 : Cond.code yX0_draw cX0_draw 1 (some .int) ∈ gw_tbl := gw_in (List.mem_of_getElem? (i := 550) (by decide +kernel)) (by decide +kernel)
theorem w_321 : Cond.instanceMethod yX0_draw ∈ gw_tbl := gw_in (List.mem_of_getElem? (i := 548) (by decide +kernel)) (by decide +kernel)
theorem w_322 : Cond.selects RX0 yX0_draw yX0_draw ∈ gw_tbl := gw_in (List.mem_of_getElem? (i := 549) (by decide +kernel)) (by decide +kernel)
theorem w_323 : Cond.methodLink RX8 183 yX0_draw ∈ gw_tbl := gw_in (List.mem_of_getElem? (i := 547) (by decide +kernel)) (by decide +kernel)
theorem w_324 : Cond.fieldLink RX8 186 RX8 "ABOVE" "[I" ∈ gw_tbl := gw_in (List.mem_of_getElem? (i := 500) (by decide +kernel)) (by decide +kernel)
theorem w_325 : Cond.fieldLink RX8 189 "WolfFires$Camp" "z" "I" ∈ gw_tbl := gw_in (List.mem_of_getElem? (i := 273) (by decide +kernel)) (by decide +kernel)
theorem w_326 : Cond.fieldLink RX8 192 "WolfFires$Camp" "lost" "I" ∈ gw_tbl := gw_in (List.mem_of_getElem? (i := 269) (by decide +kernel)) (by decide +kernel)
theorem w_327 : Cond.fieldLink RX8 195 "WolfFires$Camp" "hour" "I" ∈ gw_tbl := gw_in (List.mem_of_getElem? (i := 265) (by decide +kernel)) (by decide +kernel)
theorem w_328 : Cond.code yX0_pass cX0_pass 3 none ∈ gw_tbl := gw_in (List.mem_of_getElem? (i := 563) (by decide +kernel)) (by decide +kernel)
theorem w_329 : Cond.instanceMethod yX0_pass ∈ gw_tbl := gw_in (List.mem_of_getElem? (i := 561) (by decide +kernel)) (by decide +kernel)
theorem w_330 : Cond.selects RX0 yX0_pass yX0_pass ∈ gw_tbl := gw_in (List.mem_of_getElem? (i := 562) (by decide +kernel)) (by decide +kernel)
theorem w_331 : Cond.methodLink RX8 198 yX0_pass ∈ gw_tbl := gw_in (List.mem_of_getElem? (i := 560) (by decide +kernel)) (by decide +kernel)
theorem w_332 : Cond.fieldLink RX8 202 "WolfFires$Camp" "slept" "I" ∈ gw_tbl := gw_in (List.mem_of_getElem? (i := 267) (by decide +kernel)) (by decide +kernel)
theorem w_333 : Cond.fieldLink RX8 205 "WolfFires$Camp" "burnt" "I" ∈ gw_tbl := gw_in (List.mem_of_getElem? (i := 271) (by decide +kernel)) (by decide +kernel)
theorem w_334 : Cond.methodLink RX8 208 yX0_leastFeared ∈ gw_tbl := gw_in (List.mem_of_getElem? (i := 588) (by decide +kernel)) (by decide +kernel)
theorem w_335 : Cond.fieldLink RX8 67 "WolfFires" "thought" "LWolfFires$Camp;" ∈ gw_tbl := gw_in (List.mem_of_getElem? (i := 366) (by decide +kernel)) (by decide +kernel)
theorem w_336 : Cond.code yX0_takeFrom cX0_takeFrom 3 none ∈ gw_tbl := gw_in (List.mem_of_getElem? (i := 596) (by decide +kernel)) (by decide +kernel)
theorem w_337 : Cond.instanceMethod yX0_takeFrom ∈ gw_tbl := gw_in (List.mem_of_getElem? (i := 594) (by decide +kernel)) (by decide +kernel)
theorem w_338 : Cond.selects RX0 yX0_takeFrom yX0_takeFrom ∈ gw_tbl := gw_in (List.mem_of_getElem? (i := 595) (by decide +kernel)) (by decide +kernel)
theorem w_339 : Cond.methodLink RX8 211 yX0_takeFrom ∈ gw_tbl := gw_in (List.mem_of_getElem? (i := 593) (by decide +kernel)) (by decide +kernel)
theorem w_340 : Cond.code yX3_allFoals cX3_allFoals 3 (some .int) ∈ gw_tbl := gw_in (List.mem_of_getElem? (i := 612) (by decide +kernel)) (by decide +kernel)
theorem w_341 : Cond.instanceMethod yX3_allFoals ∈ gw_tbl := gw_in (List.mem_of_getElem? (i := 610) (by decide +kernel)) (by decide +kernel)
theorem w_342 : Cond.selects RX3 yX3_allFoals yX3_allFoals ∈ gw_tbl := gw_in (List.mem_of_getElem? (i := 611) (by decide +kernel)) (by decide +kernel)
theorem w_343 : Cond.methodLink RX8 215 yX3_allFoals ∈ gw_tbl := gw_in (List.mem_of_getElem? (i := 609) (by decide +kernel)) (by decide +kernel)
theorem w_344 : Cond.constant RX8 222 (-1000000005) ∈ gw_tbl := gw_in (List.mem_of_getElem? (i := 618) (by decide +kernel)) (by decide +kernel)
theorem w_345 : Cond.methodLink RX8 218 yX0_burn ∈ gw_tbl := gw_in (List.mem_of_getElem? (i := 617) (by decide +kernel)) (by decide +kernel)
theorem w_346 : Cond.fieldLink RX8 10 "WolfFires" "search" "LWolfFires$FireSearch;" ∈ gw_tbl := gw_in (List.mem_of_getElem? (i := 367) (by decide +kernel)) (by decide +kernel)
theorem w_347 : Cond.code yX1_runOn cX1_runOn 7 none ∈ gw_tbl := gw_in (List.mem_of_getElem? (i := 634) (by decide +kernel)) (by decide +kernel)
theorem w_348 : Cond.instanceMethod yX1_runOn ∈ gw_tbl := gw_in (List.mem_of_getElem? (i := 632) (by decide +kernel)) (by decide +kernel)
theorem w_349 : Cond.selects RX1 yX1_runOn yX1_runOn ∈ gw_tbl := gw_in (List.mem_of_getElem? (i := 633) (by decide +kernel)) (by decide +kernel)
theorem w_350 : Cond.methodLink RX8 223 yX1_runOn ∈ gw_tbl := gw_in (List.mem_of_getElem? (i := 631) (by decide +kernel)) (by decide +kernel)
theorem w_351 : Cond.fieldLink RX8 227 "WolfFires$FireSearch" "light" "I" ∈ gw_tbl := gw_in (List.mem_of_getElem? (i := 100) (by decide +kernel)) (by decide +kernel)
theorem w_352 : Cond.fieldLink RX8 229 "WolfFires$FireSearch" "together" "I" ∈ gw_tbl := gw_in (List.mem_of_getElem? (i := 102) (by decide +kernel)) (by decide +kernel)
theorem w_353 : Cond.fieldLink RX8 232 "WolfFires$FireSearch" "digits" "I" ∈ gw_tbl := gw_in (List.mem_of_getElem? (i := 104) (by decide +kernel)) (by decide +kernel)
theorem w_354 : Cond.code yX0_wakesOnly cX0_wakesOnly 3 none ∈ gw_tbl := gw_in (List.mem_of_getElem? (i := 653) (by decide +kernel)) (by decide +kernel)
theorem w_355 : Cond.instanceMethod yX0_wakesOnly ∈ gw_tbl := gw_in (List.mem_of_getElem? (i := 651) (by decide +kernel)) (by decide +kernel)
theorem w_356 : Cond.selects RX0 yX0_wakesOnly yX0_wakesOnly ∈ gw_tbl := gw_in (List.mem_of_getElem? (i := 652) (by decide +kernel)) (by decide +kernel)
theorem w_357 : Cond.methodLink RX8 235 yX0_wakesOnly ∈ gw_tbl := gw_in (List.mem_of_getElem? (i := 650) (by decide +kernel)) (by decide +kernel)
theorem w_358 : Cond.code yX8_isSheet cX8_isSheet 1 (some .boolean) ∈ gw_tbl := gw_in (List.mem_of_getElem? (i := 664) (by decide +kernel)) (by decide +kernel)
theorem w_359 : Cond.static yX8_isSheet ∈ gw_tbl := gw_in (List.mem_of_getElem? (i := 663) (by decide +kernel)) (by decide +kernel)
theorem w_360 : Cond.methodLink RX8 238 yX8_isSheet ∈ gw_tbl := gw_in (List.mem_of_getElem? (i := 662) (by decide +kernel)) (by decide +kernel)
theorem w_361 : Cond.fieldLink RX8 25 "WolfFires" "sheets" "[LWolfFires$Sheet;" ∈ gw_tbl := gw_in (List.mem_of_getElem? (i := 369) (by decide +kernel)) (by decide +kernel)
theorem w_362 : Cond.fieldLink RX8 241 "WolfFires$Sheet" "sort" "I" ∈ gw_tbl := gw_in (List.mem_of_getElem? (i := 325) (by decide +kernel)) (by decide +kernel)
theorem w_363 : Cond.constant RX8 244 (-1000000011) ∈ gw_tbl := gw_in (List.mem_of_getElem? (i := 665) (by decide +kernel)) (by decide +kernel)
theorem w_364 : Cond.code yX4_differences cX4_differences 5 (some .int) ∈ gw_tbl := gw_in (List.mem_of_getElem? (i := 669) (by decide +kernel)) (by decide +kernel)
theorem w_365 : Cond.initialized RX4 ∈ gw_tbl := gw_in (List.mem_of_getElem? (i := 73) (by decide +kernel)) (by decide +kernel)
theorem w_366 : Cond.instanceMethod yX4_differences ∈ gw_tbl := gw_in (List.mem_of_getElem? (i := 667) (by decide +kernel)) (by decide +kernel)
theorem w_367 : Cond.selects RX4 yX4_differences yX4_differences ∈ gw_tbl := gw_in (List.mem_of_getElem? (i := 668) (by decide +kernel)) (by decide +kernel)
theorem w_368 : Cond.methodLink RX8 245 yX4_differences ∈ gw_tbl := gw_in (List.mem_of_getElem? (i := 666) (by decide +kernel)) (by decide +kernel)
theorem w_369 : Cond.fieldLink RX8 19 "WolfFires" "tape" "LWolfFires$Tape;" ∈ gw_tbl := gw_in (List.mem_of_getElem? (i := 368) (by decide +kernel)) (by decide +kernel)
theorem w_370 : Cond.fieldLink RX8 249 "WolfFires$Tape" "many" "I" ∈ gw_tbl := gw_in (List.mem_of_getElem? (i := 123) (by decide +kernel)) (by decide +kernel)
theorem w_371 : Cond.code yX6_takesNumber cX6_takesNumber 3 none ∈ gw_tbl := gw_in (List.mem_of_getElem? (i := 681) (by decide +kernel)) (by decide +kernel)
theorem w_372 : Cond.instanceMethod yX6_takesNumber ∈ gw_tbl := gw_in (List.mem_of_getElem? (i := 679) (by decide +kernel)) (by decide +kernel)
theorem w_373 : Cond.selects RX6 yX6_takesNumber yX6_takesNumber ∈ gw_tbl := gw_in (List.mem_of_getElem? (i := 680) (by decide +kernel)) (by decide +kernel)
theorem w_374 : Cond.methodLink RX8 251 yX6_takesNumber ∈ gw_tbl := gw_in (List.mem_of_getElem? (i := 678) (by decide +kernel)) (by decide +kernel)
theorem w_375 : Cond.constant RX8 250 (-1000000003) ∈ gw_tbl := gw_in (List.mem_of_getElem? (i := 677) (by decide +kernel)) (by decide +kernel)
theorem w_376 : Cond.fieldLink RX8 51 "WolfFires" "laws" "[LWolfFires$Law;" ∈ gw_tbl := gw_in (List.mem_of_getElem? (i := 363) (by decide +kernel)) (by decide +kernel)
theorem w_377 : Cond.fieldLink RX8 254 "WolfFires$Camp" "texts" "I" ∈ gw_tbl := gw_in (List.mem_of_getElem? (i := 276) (by decide +kernel)) (by decide +kernel)
theorem w_378 : Cond.code yX6_readInto cX6_readInto 6 (some .int) ∈ gw_tbl := gw_in (List.mem_of_getElem? (i := 693) (by decide +kernel)) (by decide +kernel)
theorem w_379 : Cond.instanceMethod yX6_readInto ∈ gw_tbl := gw_in (List.mem_of_getElem? (i := 691) (by decide +kernel)) (by decide +kernel)
theorem w_380 : Cond.selects RX6 yX6_readInto yX6_readInto ∈ gw_tbl := gw_in (List.mem_of_getElem? (i := 692) (by decide +kernel)) (by decide +kernel)
theorem w_381 : Cond.methodLink RX8 257 yX6_readInto ∈ gw_tbl := gw_in (List.mem_of_getElem? (i := 690) (by decide +kernel)) (by decide +kernel)
theorem w_382 : Cond.fieldLink RX8 261 "WolfFires$Camp" "textFor" "[I" ∈ gw_tbl := gw_in (List.mem_of_getElem? (i := 278) (by decide +kernel)) (by decide +kernel)
theorem w_383 : Cond.fieldLink RX8 264 "WolfFires$Law" "key" "I" ∈ gw_tbl := gw_in (List.mem_of_getElem? (i := 166) (by decide +kernel)) (by decide +kernel)
theorem w_384 : Cond.fieldLink RX8 267 "WolfFires$Law" "leaves" "I" ∈ gw_tbl := gw_in (List.mem_of_getElem? (i := 168) (by decide +kernel)) (by decide +kernel)
theorem w_385 : Cond.code yX4_becomes cX4_becomes 3 none ∈ gw_tbl := gw_in (List.mem_of_getElem? (i := 901) (by decide +kernel)) (by decide +kernel)
theorem w_386 : Cond.instanceMethod yX4_becomes ∈ gw_tbl := gw_in (List.mem_of_getElem? (i := 899) (by decide +kernel)) (by decide +kernel)
theorem w_387 : Cond.selects RX4 yX4_becomes yX4_becomes ∈ gw_tbl := gw_in (List.mem_of_getElem? (i := 900) (by decide +kernel)) (by decide +kernel)
theorem w_388 : Cond.methodLink RX8 270 yX4_becomes ∈ gw_tbl := gw_in (List.mem_of_getElem? (i := 898) (by decide +kernel)) (by decide +kernel)
theorem w_389 : Cond.constant RX8 274 (-1000000014) ∈ gw_tbl := gw_in (List.mem_of_getElem? (i := 905) (by decide +kernel)) (by decide +kernel)
theorem w_390 : Cond.code yX4_has cX4_has 2 (some .boolean) ∈ gw_tbl := gw_in (List.mem_of_getElem? (i := 913) (by decide +kernel)) (by decide +kernel)
theorem w_391 : Cond.instanceMethod yX4_has ∈ gw_tbl := gw_in (List.mem_of_getElem? (i := 911) (by decide +kernel)) (by decide +kernel)
theorem w_392 : Cond.selects RX4 yX4_has yX4_has ∈ gw_tbl := gw_in (List.mem_of_getElem? (i := 912) (by decide +kernel)) (by decide +kernel)
theorem w_393 : Cond.methodLink RX8 275 yX4_has ∈ gw_tbl := gw_in (List.mem_of_getElem? (i := 910) (by decide +kernel)) (by decide +kernel)
theorem w_394 : Cond.fieldLink RX8 277 "WolfFires$Sheet" "places" "[I" ∈ gw_tbl := gw_in (List.mem_of_getElem? (i := 329) (by decide +kernel)) (by decide +kernel)
theorem w_395 : Cond.constant RX8 280 (-99999) ∈ gw_tbl := gw_in (List.mem_of_getElem? (i := 916) (by decide +kernel)) (by decide +kernel)
theorem w_396 : Cond.constant RX8 281 99999 ∈ gw_tbl := gw_in (List.mem_of_getElem? (i := 917) (by decide +kernel)) (by decide +kernel)
theorem w_397 : Cond.constant RX8 276 (-1000000013) ∈ gw_tbl := gw_in (List.mem_of_getElem? (i := 915) (by decide +kernel)) (by decide +kernel)
theorem w_398 : Cond.fieldLink RX8 282 "WolfFires$Sheet" "many" "I" ∈ gw_tbl := gw_in (List.mem_of_getElem? (i := 327) (by decide +kernel)) (by decide +kernel)
theorem w_399 : Cond.methodLink RX8 283 yX8_held ∈ gw_tbl := gw_in (List.mem_of_getElem? (i := 922) (by decide +kernel)) (by decide +kernel)
theorem w_400 : Cond.fieldLink RX8 286 "WolfFires$Ring" "foals" "[I" ∈ gw_tbl := gw_in (List.mem_of_getElem? (i := 202) (by decide +kernel)) (by decide +kernel)
theorem w_401 : Cond.code yX4_hasRun cX4_hasRun 3 (some .boolean) ∈ gw_tbl := gw_in (List.mem_of_getElem? (i := 934) (by decide +kernel)) (by decide +kernel)
theorem w_402 : Cond.instanceMethod yX4_hasRun ∈ gw_tbl := gw_in (List.mem_of_getElem? (i := 932) (by decide +kernel)) (by decide +kernel)
theorem w_403 : Cond.selects RX4 yX4_hasRun yX4_hasRun ∈ gw_tbl := gw_in (List.mem_of_getElem? (i := 933) (by decide +kernel)) (by decide +kernel)
theorem w_404 : Cond.methodLink RX8 289 yX4_hasRun ∈ gw_tbl := gw_in (List.mem_of_getElem? (i := 931) (by decide +kernel)) (by decide +kernel)
theorem w_405 : Cond.methodLink RX8 292 arraycopyName ∈ gw_tbl := gw_in (List.mem_of_getElem? (i := 935) (by decide +kernel)) (by decide +kernel)
theorem w_406 : Cond.code yX8_isSlot cX8_isSlot 1 (some .boolean) ∈ gw_tbl := gw_in (List.mem_of_getElem? (i := 942) (by decide +kernel)) (by decide +kernel)
theorem w_407 : Cond.static yX8_isSlot ∈ gw_tbl := gw_in (List.mem_of_getElem? (i := 941) (by decide +kernel)) (by decide +kernel)
theorem w_408 : Cond.methodLink RX8 298 yX8_isSlot ∈ gw_tbl := gw_in (List.mem_of_getElem? (i := 940) (by decide +kernel)) (by decide +kernel)
theorem w_409 : Cond.fieldLink RX8 31 "WolfFires" "slots" "[LWolfFires$Slot;" ∈ gw_tbl := gw_in (List.mem_of_getElem? (i := 370) (by decide +kernel)) (by decide +kernel)
theorem w_410 : Cond.fieldLink RX8 301 "WolfFires$Slot" "thing" "I" ∈ gw_tbl := gw_in (List.mem_of_getElem? (i := 347) (by decide +kernel)) (by decide +kernel)
theorem w_411 : Cond.fieldLink RX8 318 "WolfFires$Slot" "number" "I" ∈ gw_tbl := gw_in (List.mem_of_getElem? (i := 349) (by decide +kernel)) (by decide +kernel)
theorem w_412 : Cond.fieldLink RX8 311 "WolfFires$Slot" "sheet" "LWolfFires$Sheet;" ∈ gw_tbl := gw_in (List.mem_of_getElem? (i := 353) (by decide +kernel)) (by decide +kernel)
theorem w_413 : Cond.code yX4_takeFrom cX4_takeFrom 2 none ∈ gw_tbl := gw_in (List.mem_of_getElem? (i := 947) (by decide +kernel)) (by decide +kernel)
theorem w_414 : Cond.instanceMethod yX4_takeFrom ∈ gw_tbl := gw_in (List.mem_of_getElem? (i := 945) (by decide +kernel)) (by decide +kernel)
theorem w_415 : Cond.selects RX4 yX4_takeFrom yX4_takeFrom ∈ gw_tbl := gw_in (List.mem_of_getElem? (i := 946) (by decide +kernel)) (by decide +kernel)
theorem w_416 : Cond.methodLink RX8 315 yX4_takeFrom ∈ gw_tbl := gw_in (List.mem_of_getElem? (i := 944) (by decide +kernel)) (by decide +kernel)
theorem w_417 : Cond.fieldLink RX8 304 "WolfFires$Slot" "watcher" "LWolfFires$Watcher;" ∈ gw_tbl := gw_in (List.mem_of_getElem? (i := 351) (by decide +kernel)) (by decide +kernel)
theorem w_418 : Cond.methodLink RX8 308 yX7_takeFrom ∈ gw_tbl := gw_in (List.mem_of_getElem? (i := 943) (by decide +kernel)) (by decide +kernel)
theorem w_419 : Cond.constant RX8 321 (-1000000002) ∈ gw_tbl := gw_in (List.mem_of_getElem? (i := 961) (by decide +kernel)) (by decide +kernel)
theorem w_420 : Cond.fieldLink RX8 39 "WolfFires" "waitingMany" "I" ∈ gw_tbl := gw_in (List.mem_of_getElem? (i := 372) (by decide +kernel)) (by decide +kernel)
theorem w_421 : Cond.fieldLink RX8 35 "WolfFires" "waiting" "[I" ∈ gw_tbl := gw_in (List.mem_of_getElem? (i := 371) (by decide +kernel)) (by decide +kernel)
theorem w_422 : Cond.fieldLink RX8 43 "WolfFires" "kept" "Z" ∈ gw_tbl := gw_in (List.mem_of_getElem? (i := 373) (by decide +kernel)) (by decide +kernel)
theorem w_423 : Cond.fieldLink RX8 64 "WolfFires" "image" "LWolfFires$Camp;" ∈ gw_tbl := gw_in (List.mem_of_getElem? (i := 365) (by decide +kernel)) (by decide +kernel)
theorem w_424 : Cond.code yX0_cameTold cX0_cameTold 1 (some .int) ∈ gw_tbl := gw_in (List.mem_of_getElem? (i := 973) (by decide +kernel)) (by decide +kernel)
theorem w_425 : Cond.instanceMethod yX0_cameTold ∈ gw_tbl := gw_in (List.mem_of_getElem? (i := 971) (by decide +kernel)) (by decide +kernel)
theorem w_426 : Cond.selects RX0 yX0_cameTold yX0_cameTold ∈ gw_tbl := gw_in (List.mem_of_getElem? (i := 972) (by decide +kernel)) (by decide +kernel)
theorem w_427 : Cond.methodLink RX8 322 yX0_cameTold ∈ gw_tbl := gw_in (List.mem_of_getElem? (i := 970) (by decide +kernel)) (by decide +kernel)
theorem w_428 : Cond.code yX0_onMany cX0_onMany 3 (some .int) ∈ gw_tbl := gw_in (List.mem_of_getElem? (i := 989) (by decide +kernel)) (by decide +kernel)
theorem w_429 : Cond.instanceMethod yX0_onMany ∈ gw_tbl := gw_in (List.mem_of_getElem? (i := 987) (by decide +kernel)) (by decide +kernel)
theorem w_430 : Cond.selects RX0 yX0_onMany yX0_onMany ∈ gw_tbl := gw_in (List.mem_of_getElem? (i := 988) (by decide +kernel)) (by decide +kernel)
theorem w_431 : Cond.methodLink RX8 325 yX0_onMany ∈ gw_tbl := gw_in (List.mem_of_getElem? (i := 986) (by decide +kernel)) (by decide +kernel)
theorem w_432 : Cond.methodLink RX8 328 Lib.Math.max.name ∈ gw_tbl := gw_in (List.mem_of_getElem? (i := 457) (by decide +kernel)) (by decide +kernel)
theorem w_433 : Cond.constant RX9 64 (-1000000005) ∈ gw_tbl := gw_in (List.mem_of_getElem? (i := 1271) (by decide +kernel)) (by decide +kernel)
theorem w_434 : Cond.fieldLink RX9 7 "WolfFiresModel" "s" "[I" ∈ gw_tbl := gw_in (List.mem_of_getElem? (i := 996) (by decide +kernel)) (by decide +kernel)
theorem w_435 : Cond.code yX9_isIn cX9_isIn 6 (some .boolean) ∈ gw_tbl := gw_in (List.mem_of_getElem? (i := 1103) (by decide +kernel)) (by decide +kernel)
theorem w_436 : Cond.initialized RX9 ∈ gw_tbl := gw_in (List.mem_of_getElem? (i := 75) (by decide +kernel)) (by decide +kernel)
theorem w_437 : Cond.static yX9_isIn ∈ gw_tbl := gw_in (List.mem_of_getElem? (i := 1102) (by decide +kernel)) (by decide +kernel)
theorem w_438 : Cond.methodLink RX9 65 yX9_isIn ∈ gw_tbl := gw_in (List.mem_of_getElem? (i := 1101) (by decide +kernel)) (by decide +kernel)
theorem w_439 : Cond.constant RX9 69 1103515245 ∈ gw_tbl := gw_in (List.mem_of_getElem? (i := 1234) (by decide +kernel)) (by decide +kernel)
theorem w_440 : Cond.constantLong RX9 70 99 ∈ gw_tbl := gw_in (List.mem_of_getElem? (i := 1100) (by decide +kernel)) (by decide +kernel)
theorem w_441 : Cond.constant RX9 73 (-1000000003) ∈ gw_tbl := gw_in (List.mem_of_getElem? (i := 1105) (by decide +kernel)) (by decide +kernel)
theorem w_442 : Cond.constant RX9 72 (-1000000001) ∈ gw_tbl := gw_in (List.mem_of_getElem? (i := 1104) (by decide +kernel)) (by decide +kernel)
theorem w_443 : Cond.code yX9_wagonsOwn cX9_wagonsOwn 3 (some .int) ∈ gw_tbl := gw_in (List.mem_of_getElem? (i := 1117) (by decide +kernel)) (by decide +kernel)
theorem w_444 : Cond.instanceMethod yX9_wagonsOwn ∈ gw_tbl := gw_in (List.mem_of_getElem? (i := 1116) (by decide +kernel)) (by decide +kernel)
theorem w_445 : Cond.selects RX9 yX9_wagonsOwn yX9_wagonsOwn ∈ gw_tbl := gw_in (List.mem_of_getElem? (i := 21) (by decide +kernel)) (by decide +kernel)
theorem w_446 : Cond.methodLink RX9 74 yX9_wagonsOwn ∈ gw_tbl := gw_in (List.mem_of_getElem? (i := 1114) (by decide +kernel)) (by decide +kernel)
theorem w_447 : Cond.code yX9_nextFires cX9_nextFires 3 (some .int) ∈ gw_tbl := gw_in (List.mem_of_getElem? (i := 1125) (by decide +kernel)) (by decide +kernel)
theorem w_448 : Cond.instanceMethod yX9_nextFires ∈ gw_tbl := gw_in (List.mem_of_getElem? (i := 1124) (by decide +kernel)) (by decide +kernel)
theorem w_449 : Cond.selects RX9 yX9_nextFires yX9_nextFires ∈ gw_tbl := gw_in (List.mem_of_getElem? (i := 23) (by decide +kernel)) (by decide +kernel)
theorem w_450 : Cond.methodLink RX9 78 yX9_nextFires ∈ gw_tbl := gw_in (List.mem_of_getElem? (i := 1122) (by decide +kernel)) (by decide +kernel)
theorem w_451 : Cond.code yX9_counts cX9_counts 4 (some .int) ∈ gw_tbl := gw_in (List.mem_of_getElem? (i := 1129) (by decide +kernel)) (by decide +kernel)
theorem w_452 : Cond.instanceMethod yX9_counts ∈ gw_tbl := gw_in (List.mem_of_getElem? (i := 1128) (by decide +kernel)) (by decide +kernel)
theorem w_453 : Cond.selects RX9 yX9_counts yX9_counts ∈ gw_tbl := gw_in (List.mem_of_getElem? (i := 24) (by decide +kernel)) (by decide +kernel)
theorem w_454 : Cond.methodLink RX9 82 yX9_counts ∈ gw_tbl := gw_in (List.mem_of_getElem? (i := 1126) (by decide +kernel)) (by decide +kernel)
theorem w_455 : Cond.fieldLink RX9 49 "WolfFiresModel" "named" "[I" ∈ gw_tbl := gw_in (List.mem_of_getElem? (i := 1023) (by decide +kernel)) (by decide +kernel)
theorem w_456 : Cond.code yX9_worked cX9_worked 6 (some .int) ∈ gw_tbl := gw_in (List.mem_of_getElem? (i := 1137) (by decide +kernel)) (by decide +kernel)
theorem w_457 : Cond.instanceMethod yX9_worked ∈ gw_tbl := gw_in (List.mem_of_getElem? (i := 1136) (by decide +kernel)) (by decide +kernel)
theorem w_458 : Cond.selects RX9 yX9_worked yX9_worked ∈ gw_tbl := gw_in (List.mem_of_getElem? (i := 26) (by decide +kernel)) (by decide +kernel)
theorem w_459 : Cond.methodLink RX9 85 yX9_worked ∈ gw_tbl := gw_in (List.mem_of_getElem? (i := 1134) (by decide +kernel)) (by decide +kernel)
theorem w_460 : Cond.code yX9_within cX9_within 2 (some .int) ∈ gw_tbl := gw_in (List.mem_of_getElem? (i := 1143) (by decide +kernel)) (by decide +kernel)
theorem w_461 : Cond.static yX9_within ∈ gw_tbl := gw_in (List.mem_of_getElem? (i := 1142) (by decide +kernel)) (by decide +kernel)
theorem w_462 : Cond.methodLink RX9 88 yX9_within ∈ gw_tbl := gw_in (List.mem_of_getElem? (i := 1141) (by decide +kernel)) (by decide +kernel)
theorem w_463 : Cond.code yX9_of cX9_of 3 (some .int) ∈ gw_tbl := gw_in (List.mem_of_getElem? (i := 1151) (by decide +kernel)) (by decide +kernel)
theorem w_464 : Cond.instanceMethod yX9_of ∈ gw_tbl := gw_in (List.mem_of_getElem? (i := 1150) (by decide +kernel)) (by decide +kernel)
theorem w_465 : Cond.selects RX9 yX9_of yX9_of ∈ gw_tbl := gw_in (List.mem_of_getElem? (i := 28) (by decide +kernel)) (by decide +kernel)
theorem w_466 : Cond.methodLink RX9 91 yX9_of ∈ gw_tbl := gw_in (List.mem_of_getElem? (i := 1148) (by decide +kernel)) (by decide +kernel)
theorem w_467 : Cond.code yX9_isWagon cX9_isWagon 2 (some .boolean) ∈ gw_tbl := gw_in (List.mem_of_getElem? (i := 1113) (by decide +kernel)) (by decide +kernel)
theorem w_468 : Cond.instanceMethod yX9_isWagon ∈ gw_tbl := gw_in (List.mem_of_getElem? (i := 1112) (by decide +kernel)) (by decide +kernel)
theorem w_469 : Cond.selects RX9 yX9_isWagon yX9_isWagon ∈ gw_tbl := gw_in (List.mem_of_getElem? (i := 20) (by decide +kernel)) (by decide +kernel)
theorem w_470 : Cond.methodLink RX9 94 yX9_isWagon ∈ gw_tbl := gw_in (List.mem_of_getElem? (i := 1110) (by decide +kernel)) (by decide +kernel)
theorem w_471 : Cond.code yX9_light cX9_light 5 (some .int) ∈ gw_tbl := gw_in (List.mem_of_getElem? (i := 1121) (by decide +kernel)) (by decide +kernel)
theorem w_472 : Cond.instanceMethod yX9_light ∈ gw_tbl := gw_in (List.mem_of_getElem? (i := 1120) (by decide +kernel)) (by decide +kernel)
theorem w_473 : Cond.selects RX9 yX9_light yX9_light ∈ gw_tbl := gw_in (List.mem_of_getElem? (i := 22) (by decide +kernel)) (by decide +kernel)
theorem w_474 : Cond.methodLink RX9 98 yX9_light ∈ gw_tbl := gw_in (List.mem_of_getElem? (i := 1118) (by decide +kernel)) (by decide +kernel)
theorem w_475 : Cond.code yX9_sees cX9_sees 5 (some .int) ∈ gw_tbl := gw_in (List.mem_of_getElem? (i := 1155) (by decide +kernel)) (by decide +kernel)
theorem w_476 : Cond.instanceMethod yX9_sees ∈ gw_tbl := gw_in (List.mem_of_getElem? (i := 1154) (by decide +kernel)) (by decide +kernel)
theorem w_477 : Cond.selects RX9 yX9_sees yX9_sees ∈ gw_tbl := gw_in (List.mem_of_getElem? (i := 29) (by decide +kernel)) (by decide +kernel)
theorem w_478 : Cond.methodLink RX9 101 yX9_sees ∈ gw_tbl := gw_in (List.mem_of_getElem? (i := 1152) (by decide +kernel)) (by decide +kernel)
theorem w_479 : Cond.code yX9_guard cX9_guard 4 (some .int) ∈ gw_tbl := gw_in (List.mem_of_getElem? (i := 1147) (by decide +kernel)) (by decide +kernel)
theorem w_480 : Cond.instanceMethod yX9_guard ∈ gw_tbl := gw_in (List.mem_of_getElem? (i := 1146) (by decide +kernel)) (by decide +kernel)
theorem w_481 : Cond.selects RX9 yX9_guard yX9_guard ∈ gw_tbl := gw_in (List.mem_of_getElem? (i := 27) (by decide +kernel)) (by decide +kernel)
theorem w_482 : Cond.methodLink RX9 104 yX9_guard ∈ gw_tbl := gw_in (List.mem_of_getElem? (i := 1144) (by decide +kernel)) (by decide +kernel)
theorem w_483 : Cond.code yX9_fears cX9_fears 4 (some .int) ∈ gw_tbl := gw_in (List.mem_of_getElem? (i := 1159) (by decide +kernel)) (by decide +kernel)
theorem w_484 : Cond.instanceMethod yX9_fears ∈ gw_tbl := gw_in (List.mem_of_getElem? (i := 1158) (by decide +kernel)) (by decide +kernel)
theorem w_485 : Cond.selects RX9 yX9_fears yX9_fears ∈ gw_tbl := gw_in (List.mem_of_getElem? (i := 30) (by decide +kernel)) (by decide +kernel)
theorem w_486 : Cond.methodLink RX9 107 yX9_fears ∈ gw_tbl := gw_in (List.mem_of_getElem? (i := 1156) (by decide +kernel)) (by decide +kernel)
theorem w_487 : Cond.constantLong RX9 110 2 ∈ gw_tbl := gw_in (List.mem_of_getElem? (i := 1164) (by decide +kernel)) (by decide +kernel)
theorem w_488 : Cond.constantLong RX9 112 9 ∈ gw_tbl := gw_in (List.mem_of_getElem? (i := 1165) (by decide +kernel)) (by decide +kernel)
theorem w_489 : Cond.code yX9_becomes cX9_becomes 4 (some .int) ∈ gw_tbl := gw_in (List.mem_of_getElem? (i := 1169) (by decide +kernel)) (by decide +kernel)
theorem w_490 : Cond.instanceMethod yX9_becomes ∈ gw_tbl := gw_in (List.mem_of_getElem? (i := 1168) (by decide +kernel)) (by decide +kernel)
theorem w_491 : Cond.selects RX9 yX9_becomes yX9_becomes ∈ gw_tbl := gw_in (List.mem_of_getElem? (i := 31) (by decide +kernel)) (by decide +kernel)
theorem w_492 : Cond.methodLink RX9 114 yX9_becomes ∈ gw_tbl := gw_in (List.mem_of_getElem? (i := 1166) (by decide +kernel)) (by decide +kernel)
theorem w_493 : Cond.code yX9_off cX9_off 2 (some .int) ∈ gw_tbl := gw_in (List.mem_of_getElem? (i := 1176) (by decide +kernel)) (by decide +kernel)
theorem w_494 : Cond.static yX9_off ∈ gw_tbl := gw_in (List.mem_of_getElem? (i := 1175) (by decide +kernel)) (by decide +kernel)
theorem w_495 : Cond.methodLink RX9 117 yX9_off ∈ gw_tbl := gw_in (List.mem_of_getElem? (i := 1174) (by decide +kernel)) (by decide +kernel)
theorem w_496 : Cond.constantLong RX9 120 9999 ∈ gw_tbl := gw_in (List.mem_of_getElem? (i := 1181) (by decide +kernel)) (by decide +kernel)
theorem w_497 : Cond.constantLong RX9 122 5 ∈ gw_tbl := gw_in (List.mem_of_getElem? (i := 1186) (by decide +kernel)) (by decide +kernel)
theorem w_498 : Cond.constantLong RX9 124 11 ∈ gw_tbl := gw_in (List.mem_of_getElem? (i := 1187) (by decide +kernel)) (by decide +kernel)
theorem w_499 : Cond.code yX9_comes cX9_comes 5 none ∈ gw_tbl := gw_in (List.mem_of_getElem? (i := 1191) (by decide +kernel)) (by decide +kernel)
theorem w_500 : Cond.instanceMethod yX9_comes ∈ gw_tbl := gw_in (List.mem_of_getElem? (i := 1190) (by decide +kernel)) (by decide +kernel)
theorem w_501 : Cond.selects RX9 yX9_comes yX9_comes ∈ gw_tbl := gw_in (List.mem_of_getElem? (i := 32) (by decide +kernel)) (by decide +kernel)
theorem w_502 : Cond.methodLink RX9 126 yX9_comes ∈ gw_tbl := gw_in (List.mem_of_getElem? (i := 1188) (by decide +kernel)) (by decide +kernel)
theorem w_503 : Cond.code yX9_isWatcher cX9_isWatcher 2 (some .boolean) ∈ gw_tbl := gw_in (List.mem_of_getElem? (i := 1199) (by decide +kernel)) (by decide +kernel)
theorem w_504 : Cond.instanceMethod yX9_isWatcher ∈ gw_tbl := gw_in (List.mem_of_getElem? (i := 1198) (by decide +kernel)) (by decide +kernel)
theorem w_505 : Cond.selects RX9 yX9_isWatcher yX9_isWatcher ∈ gw_tbl := gw_in (List.mem_of_getElem? (i := 33) (by decide +kernel)) (by decide +kernel)
theorem w_506 : Cond.methodLink RX9 130 yX9_isWatcher ∈ gw_tbl := gw_in (List.mem_of_getElem? (i := 1196) (by decide +kernel)) (by decide +kernel)
theorem w_507 : Cond.constantLong RX9 133 6 ∈ gw_tbl := gw_in (List.mem_of_getElem? (i := 1200) (by decide +kernel)) (by decide +kernel)
theorem w_508 : Cond.code yX9_worth cX9_worth 3 (some .int) ∈ gw_tbl := gw_in (List.mem_of_getElem? (i := 1204) (by decide +kernel)) (by decide +kernel)
theorem w_509 : Cond.instanceMethod yX9_worth ∈ gw_tbl := gw_in (List.mem_of_getElem? (i := 1203) (by decide +kernel)) (by decide +kernel)
theorem w_510 : Cond.selects RX9 yX9_worth yX9_worth ∈ gw_tbl := gw_in (List.mem_of_getElem? (i := 34) (by decide +kernel)) (by decide +kernel)
theorem w_511 : Cond.methodLink RX9 135 yX9_worth ∈ gw_tbl := gw_in (List.mem_of_getElem? (i := 1201) (by decide +kernel)) (by decide +kernel)
theorem w_512 : Cond.code yX9_isOf cX9_isOf 2 (some .boolean) ∈ gw_tbl := gw_in (List.mem_of_getElem? (i := 1211) (by decide +kernel)) (by decide +kernel)
theorem w_513 : Cond.static yX9_isOf ∈ gw_tbl := gw_in (List.mem_of_getElem? (i := 1210) (by decide +kernel)) (by decide +kernel)
theorem w_514 : Cond.methodLink RX9 138 yX9_isOf ∈ gw_tbl := gw_in (List.mem_of_getElem? (i := 1209) (by decide +kernel)) (by decide +kernel)
theorem w_515 : Cond.constant RX9 142 (-1000000012) ∈ gw_tbl := gw_in (List.mem_of_getElem? (i := 1212) (by decide +kernel)) (by decide +kernel)
theorem w_516 : Cond.constantLong RX9 143 999 ∈ gw_tbl := gw_in (List.mem_of_getElem? (i := 1224) (by decide +kernel)) (by decide +kernel)
theorem w_517 : Cond.code yX9_mayBe cX9_mayBe 2 (some .boolean) ∈ gw_tbl := gw_in (List.mem_of_getElem? (i := 1223) (by decide +kernel)) (by decide +kernel)
theorem w_518 : Cond.static yX9_mayBe ∈ gw_tbl := gw_in (List.mem_of_getElem? (i := 1222) (by decide +kernel)) (by decide +kernel)
theorem w_519 : Cond.methodLink RX9 145 yX9_mayBe ∈ gw_tbl := gw_in (List.mem_of_getElem? (i := 1221) (by decide +kernel)) (by decide +kernel)
theorem w_520 : Cond.constantLong RX9 148 8 ∈ gw_tbl := gw_in (List.mem_of_getElem? (i := 1229) (by decide +kernel)) (by decide +kernel)
theorem w_521 : Cond.code yX9_drawn cX9_drawn 1 (some .int) ∈ gw_tbl := gw_in (List.mem_of_getElem? (i := 1233) (by decide +kernel)) (by decide +kernel)
theorem w_522 : Cond.instanceMethod yX9_drawn ∈ gw_tbl := gw_in (List.mem_of_getElem? (i := 1232) (by decide +kernel)) (by decide +kernel)
theorem w_523 : Cond.selects RX9 yX9_drawn yX9_drawn ∈ gw_tbl := gw_in (List.mem_of_getElem? (i := 35) (by decide +kernel)) (by decide +kernel)
theorem w_524 : Cond.methodLink RX9 150 yX9_drawn ∈ gw_tbl := gw_in (List.mem_of_getElem? (i := 1230) (by decide +kernel)) (by decide +kernel)
theorem w_525 : Cond.fieldLink RX9 154 "WolfFiresModel" "wentOut" "Z" ∈ gw_tbl := gw_in (List.mem_of_getElem? (i := 1008) (by decide +kernel)) (by decide +kernel)
theorem w_526 : Cond.code yX9_comeTo cX9_comeTo 5 (some .int) ∈ gw_tbl := gw_in (List.mem_of_getElem? (i := 1259) (by decide +kernel)) (by decide +kernel)
theorem w_527 : Cond.instanceMethod yX9_comeTo ∈ gw_tbl := gw_in (List.mem_of_getElem? (i := 1258) (by decide +kernel)) (by decide +kernel)
theorem w_528 : Cond.selects RX9 yX9_comeTo yX9_comeTo ∈ gw_tbl := gw_in (List.mem_of_getElem? (i := 39) (by decide +kernel)) (by decide +kernel)
theorem w_529 : Cond.methodLink RX9 158 yX9_comeTo ∈ gw_tbl := gw_in (List.mem_of_getElem? (i := 1256) (by decide +kernel)) (by decide +kernel)
theorem w_530 : Cond.fieldLink RX9 161 "WolfFiresModel" "cameTo" "I" ∈ gw_tbl := gw_in (List.mem_of_getElem? (i := 1009) (by decide +kernel)) (by decide +kernel)
theorem w_531 : Cond.code yX9_burns cX9_burns 3 none ∈ gw_tbl := gw_in (List.mem_of_getElem? (i := 1251) (by decide +kernel)) (by decide +kernel)
theorem w_532 : Cond.instanceMethod yX9_burns ∈ gw_tbl := gw_in (List.mem_of_getElem? (i := 1250) (by decide +kernel)) (by decide +kernel)
theorem w_533 : Cond.selects RX9 yX9_burns yX9_burns ∈ gw_tbl := gw_in (List.mem_of_getElem? (i := 37) (by decide +kernel)) (by decide +kernel)
theorem w_534 : Cond.methodLink RX9 165 yX9_burns ∈ gw_tbl := gw_in (List.mem_of_getElem? (i := 1248) (by decide +kernel)) (by decide +kernel)
theorem w_535 : Cond.code yX9_comeAndTake cX9_comeAndTake 2 none ∈ gw_tbl := gw_in (List.mem_of_getElem? (i := 1255) (by decide +kernel)) (by decide +kernel)
theorem w_536 : Cond.instanceMethod yX9_comeAndTake ∈ gw_tbl := gw_in (List.mem_of_getElem? (i := 1254) (by decide +kernel)) (by decide +kernel)
theorem w_537 : Cond.selects RX9 yX9_comeAndTake yX9_comeAndTake ∈ gw_tbl := gw_in (List.mem_of_getElem? (i := 38) (by decide +kernel)) (by decide +kernel)
theorem w_538 : Cond.methodLink RX9 168 yX9_comeAndTake ∈ gw_tbl := gw_in (List.mem_of_getElem? (i := 1252) (by decide +kernel)) (by decide +kernel)
theorem w_539 : Cond.code yX9_tires cX9_tires 3 (some .int) ∈ gw_tbl := gw_in (List.mem_of_getElem? (i := 1263) (by decide +kernel)) (by decide +kernel)
theorem w_540 : Cond.instanceMethod yX9_tires ∈ gw_tbl := gw_in (List.mem_of_getElem? (i := 1262) (by decide +kernel)) (by decide +kernel)
theorem w_541 : Cond.selects RX9 yX9_tires yX9_tires ∈ gw_tbl := gw_in (List.mem_of_getElem? (i := 40) (by decide +kernel)) (by decide +kernel)
theorem w_542 : Cond.methodLink RX9 171 yX9_tires ∈ gw_tbl := gw_in (List.mem_of_getElem? (i := 1260) (by decide +kernel)) (by decide +kernel)
theorem w_543 : Cond.constantLong RX9 174 300 ∈ gw_tbl := gw_in (List.mem_of_getElem? (i := 1243) (by decide +kernel)) (by decide +kernel)
theorem w_544 : Cond.code yX9_goesOn cX9_goesOn 3 none ∈ gw_tbl := gw_in (List.mem_of_getElem? (i := 1247) (by decide +kernel)) (by decide +kernel)
theorem w_545 : Cond.instanceMethod yX9_goesOn ∈ gw_tbl := gw_in (List.mem_of_getElem? (i := 1246) (by decide +kernel)) (by decide +kernel)
theorem w_546 : Cond.selects RX9 yX9_goesOn yX9_goesOn ∈ gw_tbl := gw_in (List.mem_of_getElem? (i := 36) (by decide +kernel)) (by decide +kernel)
theorem w_547 : Cond.methodLink RX9 176 yX9_goesOn ∈ gw_tbl := gw_in (List.mem_of_getElem? (i := 1244) (by decide +kernel)) (by decide +kernel)
theorem w_548 : Cond.code yX9_orNone cX9_orNone 1 (some .int) ∈ gw_tbl := gw_in (List.mem_of_getElem? (i := 1270) (by decide +kernel)) (by decide +kernel)
theorem w_549 : Cond.static yX9_orNone ∈ gw_tbl := gw_in (List.mem_of_getElem? (i := 1269) (by decide +kernel)) (by decide +kernel)
theorem w_550 : Cond.methodLink RX9 179 yX9_orNone ∈ gw_tbl := gw_in (List.mem_of_getElem? (i := 1268) (by decide +kernel)) (by decide +kernel)
theorem w_551 : Cond.fieldLink RX9 43 "WolfFiresModel" "close" "[I" ∈ gw_tbl := gw_in (List.mem_of_getElem? (i := 1010) (by decide +kernel)) (by decide +kernel)
theorem w_552 : Cond.constantLong RX9 182 3 ∈ gw_tbl := gw_in (List.mem_of_getElem? (i := 1276) (by decide +kernel)) (by decide +kernel)
theorem w_553 : Cond.code yX9_laysBy cX9_laysBy 2 none ∈ gw_tbl := gw_in (List.mem_of_getElem? (i := 1280) (by decide +kernel)) (by decide +kernel)
theorem w_554 : Cond.instanceMethod yX9_laysBy ∈ gw_tbl := gw_in (List.mem_of_getElem? (i := 1279) (by decide +kernel)) (by decide +kernel)
theorem w_555 : Cond.selects RX9 yX9_laysBy yX9_laysBy ∈ gw_tbl := gw_in (List.mem_of_getElem? (i := 41) (by decide +kernel)) (by decide +kernel)
theorem w_556 : Cond.methodLink RX9 184 yX9_laysBy ∈ gw_tbl := gw_in (List.mem_of_getElem? (i := 1277) (by decide +kernel)) (by decide +kernel)
theorem w_557 : Cond.code yX9_goesOnMany cX9_goesOnMany 3 none ∈ gw_tbl := gw_in (List.mem_of_getElem? (i := 1284) (by decide +kernel)) (by decide +kernel)
theorem w_558 : Cond.instanceMethod yX9_goesOnMany ∈ gw_tbl := gw_in (List.mem_of_getElem? (i := 1283) (by decide +kernel)) (by decide +kernel)
theorem w_559 : Cond.selects RX9 yX9_goesOnMany yX9_goesOnMany ∈ gw_tbl := gw_in (List.mem_of_getElem? (i := 42) (by decide +kernel)) (by decide +kernel)
theorem w_560 : Cond.methodLink RX9 187 yX9_goesOnMany ∈ gw_tbl := gw_in (List.mem_of_getElem? (i := 1281) (by decide +kernel)) (by decide +kernel)
theorem w_561 : Cond.code yX9_allFoals cX9_allFoals 3 (some .int) ∈ gw_tbl := gw_in (List.mem_of_getElem? (i := 1288) (by decide +kernel)) (by decide +kernel)
theorem w_562 : Cond.instanceMethod yX9_allFoals ∈ gw_tbl := gw_in (List.mem_of_getElem? (i := 1287) (by decide +kernel)) (by decide +kernel)
theorem w_563 : Cond.selects RX9 yX9_allFoals yX9_allFoals ∈ gw_tbl := gw_in (List.mem_of_getElem? (i := 43) (by decide +kernel)) (by decide +kernel)
theorem w_564 : Cond.methodLink RX9 191 yX9_allFoals ∈ gw_tbl := gw_in (List.mem_of_getElem? (i := 1285) (by decide +kernel)) (by decide +kernel)
theorem w_565 : Cond.code yX9_laysBack cX9_laysBack 2 none ∈ gw_tbl := gw_in (List.mem_of_getElem? (i := 1292) (by decide +kernel)) (by decide +kernel)
theorem w_566 : Cond.instanceMethod yX9_laysBack ∈ gw_tbl := gw_in (List.mem_of_getElem? (i := 1291) (by decide +kernel)) (by decide +kernel)
theorem w_567 : Cond.selects RX9 yX9_laysBack yX9_laysBack ∈ gw_tbl := gw_in (List.mem_of_getElem? (i := 44) (by decide +kernel)) (by decide +kernel)
theorem w_568 : Cond.methodLink RX9 194 yX9_laysBack ∈ gw_tbl := gw_in (List.mem_of_getElem? (i := 1289) (by decide +kernel)) (by decide +kernel)
theorem w_569 : Cond.constantLong RX9 197 100 ∈ gw_tbl := gw_in (List.mem_of_getElem? (i := 1305) (by decide +kernel)) (by decide +kernel)
theorem w_570 : Cond.constantLong RX9 199 18 ∈ gw_tbl := gw_in (List.mem_of_getElem? (i := 1310) (by decide +kernel)) (by decide +kernel)
theorem w_571 : Cond.code yX9_laysFires cX9_laysFires 5 (some .int) ∈ gw_tbl := gw_in (List.mem_of_getElem? (i := 1314) (by decide +kernel)) (by decide +kernel)
theorem w_572 : Cond.instanceMethod yX9_laysFires ∈ gw_tbl := gw_in (List.mem_of_getElem? (i := 1313) (by decide +kernel)) (by decide +kernel)
theorem w_573 : Cond.selects RX9 yX9_laysFires yX9_laysFires ∈ gw_tbl := gw_in (List.mem_of_getElem? (i := 45) (by decide +kernel)) (by decide +kernel)
theorem w_574 : Cond.methodLink RX9 201 yX9_laysFires ∈ gw_tbl := gw_in (List.mem_of_getElem? (i := 1311) (by decide +kernel)) (by decide +kernel)
theorem w_575 : Cond.code yX9_leastLight cX9_leastLight 4 (some .int) ∈ gw_tbl := gw_in (List.mem_of_getElem? (i := 1318) (by decide +kernel)) (by decide +kernel)
theorem w_576 : Cond.instanceMethod yX9_leastLight ∈ gw_tbl := gw_in (List.mem_of_getElem? (i := 1317) (by decide +kernel)) (by decide +kernel)
theorem w_577 : Cond.selects RX9 yX9_leastLight yX9_leastLight ∈ gw_tbl := gw_in (List.mem_of_getElem? (i := 46) (by decide +kernel)) (by decide +kernel)
theorem w_578 : Cond.methodLink RX9 204 yX9_leastLight ∈ gw_tbl := gw_in (List.mem_of_getElem? (i := 1315) (by decide +kernel)) (by decide +kernel)
theorem w_579 : Cond.constantLong RX9 207 60 ∈ gw_tbl := gw_in (List.mem_of_getElem? (i := 1323) (by decide +kernel)) (by decide +kernel)
theorem w_580 : Cond.fieldLink RX9 209 "WolfFiresModel" "taped" "I" ∈ gw_tbl := gw_in (List.mem_of_getElem? (i := 1012) (by decide +kernel)) (by decide +kernel)
theorem w_581 : Cond.fieldLink RX9 46 "WolfFiresModel" "tape" "[I" ∈ gw_tbl := gw_in (List.mem_of_getElem? (i := 1011) (by decide +kernel)) (by decide +kernel)
theorem w_582 : Cond.constantLong RX9 212 97 ∈ gw_tbl := gw_in (List.mem_of_getElem? (i := 1352) (by decide +kernel)) (by decide +kernel)
theorem w_583 : Cond.constantLong RX9 214 122 ∈ gw_tbl := gw_in (List.mem_of_getElem? (i := 1353) (by decide +kernel)) (by decide +kernel)
theorem w_584 : Cond.constantLong RX9 216 48 ∈ gw_tbl := gw_in (List.mem_of_getElem? (i := 1358) (by decide +kernel)) (by decide +kernel)
theorem w_585 : Cond.constantLong RX9 218 57 ∈ gw_tbl := gw_in (List.mem_of_getElem? (i := 1359) (by decide +kernel)) (by decide +kernel)
theorem w_586 : Cond.fieldLink RX9 220 "WolfFiresModel" "behind" "I" ∈ gw_tbl := gw_in (List.mem_of_getElem? (i := 1014) (by decide +kernel)) (by decide +kernel)
theorem w_587 : Cond.fieldLink RX9 223 "WolfFiresModel" "token" "I" ∈ gw_tbl := gw_in (List.mem_of_getElem? (i := 1015) (by decide +kernel)) (by decide +kernel)
theorem w_588 : Cond.fieldLink RX9 226 "WolfFiresModel" "begin" "I" ∈ gw_tbl := gw_in (List.mem_of_getElem? (i := 1013) (by decide +kernel)) (by decide +kernel)
theorem w_589 : Cond.code yX9_isLetter cX9_isLetter 2 (some .boolean) ∈ gw_tbl := gw_in (List.mem_of_getElem? (i := 1351) (by decide +kernel)) (by decide +kernel)
theorem w_590 : Cond.instanceMethod yX9_isLetter ∈ gw_tbl := gw_in (List.mem_of_getElem? (i := 1350) (by decide +kernel)) (by decide +kernel)
theorem w_591 : Cond.selects RX9 yX9_isLetter yX9_isLetter ∈ gw_tbl := gw_in (List.mem_of_getElem? (i := 49) (by decide +kernel)) (by decide +kernel)
theorem w_592 : Cond.methodLink RX9 229 yX9_isLetter ∈ gw_tbl := gw_in (List.mem_of_getElem? (i := 1348) (by decide +kernel)) (by decide +kernel)
theorem w_593 : Cond.code yX9_isDigit cX9_isDigit 2 (some .boolean) ∈ gw_tbl := gw_in (List.mem_of_getElem? (i := 1357) (by decide +kernel)) (by decide +kernel)
theorem w_594 : Cond.instanceMethod yX9_isDigit ∈ gw_tbl := gw_in (List.mem_of_getElem? (i := 1356) (by decide +kernel)) (by decide +kernel)
theorem w_595 : Cond.selects RX9 yX9_isDigit yX9_isDigit ∈ gw_tbl := gw_in (List.mem_of_getElem? (i := 50) (by decide +kernel)) (by decide +kernel)
theorem w_596 : Cond.methodLink RX9 235 yX9_isDigit ∈ gw_tbl := gw_in (List.mem_of_getElem? (i := 1354) (by decide +kernel)) (by decide +kernel)
theorem w_597 : Cond.fieldLink RX9 232 "WolfFiresModel" "letter" "I" ∈ gw_tbl := gw_in (List.mem_of_getElem? (i := 1017) (by decide +kernel)) (by decide +kernel)
theorem w_598 : Cond.fieldLink RX9 238 "WolfFiresModel" "number" "I" ∈ gw_tbl := gw_in (List.mem_of_getElem? (i := 1016) (by decide +kernel)) (by decide +kernel)
theorem w_599 : Cond.code yX9_isLong cX9_isLong 8 (some .boolean) ∈ gw_tbl := gw_in (List.mem_of_getElem? (i := 1367) (by decide +kernel)) (by decide +kernel)
theorem w_600 : Cond.instanceMethod yX9_isLong ∈ gw_tbl := gw_in (List.mem_of_getElem? (i := 1366) (by decide +kernel)) (by decide +kernel)
theorem w_601 : Cond.selects RX9 yX9_isLong yX9_isLong ∈ gw_tbl := gw_in (List.mem_of_getElem? (i := 52) (by decide +kernel)) (by decide +kernel)
theorem w_602 : Cond.methodLink RX9 241 yX9_isLong ∈ gw_tbl := gw_in (List.mem_of_getElem? (i := 1364) (by decide +kernel)) (by decide +kernel)
theorem w_603 : Cond.code yX9_isWordAt cX9_isWordAt 6 (some .boolean) ∈ gw_tbl := gw_in (List.mem_of_getElem? (i := 1371) (by decide +kernel)) (by decide +kernel)
theorem w_604 : Cond.instanceMethod yX9_isWordAt ∈ gw_tbl := gw_in (List.mem_of_getElem? (i := 1370) (by decide +kernel)) (by decide +kernel)
theorem w_605 : Cond.selects RX9 yX9_isWordAt yX9_isWordAt ∈ gw_tbl := gw_in (List.mem_of_getElem? (i := 53) (by decide +kernel)) (by decide +kernel)
theorem w_606 : Cond.methodLink RX9 245 yX9_isWordAt ∈ gw_tbl := gw_in (List.mem_of_getElem? (i := 1368) (by decide +kernel)) (by decide +kernel)
theorem w_607 : Cond.fieldLink RX9 249 "WolfFiresModel" "laidAt" "I" ∈ gw_tbl := gw_in (List.mem_of_getElem? (i := 1021) (by decide +kernel)) (by decide +kernel)
theorem w_608 : Cond.fieldLink RX9 252 "WolfFiresModel" "laid" "I" ∈ gw_tbl := gw_in (List.mem_of_getElem? (i := 1020) (by decide +kernel)) (by decide +kernel)
theorem w_609 : Cond.code yX9_both cX9_both 2 (some .boolean) ∈ gw_tbl := gw_in (List.mem_of_getElem? (i := 1379) (by decide +kernel)) (by decide +kernel)
theorem w_610 : Cond.instanceMethod yX9_both ∈ gw_tbl := gw_in (List.mem_of_getElem? (i := 1378) (by decide +kernel)) (by decide +kernel)
theorem w_611 : Cond.selects RX9 yX9_both yX9_both ∈ gw_tbl := gw_in (List.mem_of_getElem? (i := 55) (by decide +kernel)) (by decide +kernel)
theorem w_612 : Cond.methodLink RX9 255 yX9_both ∈ gw_tbl := gw_in (List.mem_of_getElem? (i := 1376) (by decide +kernel)) (by decide +kernel)
theorem w_613 : Cond.code yX9_isSign cX9_isSign 2 (some .boolean) ∈ gw_tbl := gw_in (List.mem_of_getElem? (i := 1406) (by decide +kernel)) (by decide +kernel)
theorem w_614 : Cond.instanceMethod yX9_isSign ∈ gw_tbl := gw_in (List.mem_of_getElem? (i := 1405) (by decide +kernel)) (by decide +kernel)
theorem w_615 : Cond.selects RX9 yX9_isSign yX9_isSign ∈ gw_tbl := gw_in (List.mem_of_getElem? (i := 61) (by decide +kernel)) (by decide +kernel)
theorem w_616 : Cond.methodLink RX9 258 yX9_isSign ∈ gw_tbl := gw_in (List.mem_of_getElem? (i := 1403) (by decide +kernel)) (by decide +kernel)
theorem w_617 : Cond.code yX9_nextToken cX9_nextToken 3 none ∈ gw_tbl := gw_in (List.mem_of_getElem? (i := 1347) (by decide +kernel)) (by decide +kernel)
theorem w_618 : Cond.instanceMethod yX9_nextToken ∈ gw_tbl := gw_in (List.mem_of_getElem? (i := 1346) (by decide +kernel)) (by decide +kernel)
theorem w_619 : Cond.selects RX9 yX9_nextToken yX9_nextToken ∈ gw_tbl := gw_in (List.mem_of_getElem? (i := 48) (by decide +kernel)) (by decide +kernel)
theorem w_620 : Cond.methodLink RX9 261 yX9_nextToken ∈ gw_tbl := gw_in (List.mem_of_getElem? (i := 1344) (by decide +kernel)) (by decide +kernel)
theorem w_621 : Cond.code yX9_step cX9_step 3 none ∈ gw_tbl := gw_in (List.mem_of_getElem? (i := 1399) (by decide +kernel)) (by decide +kernel)
theorem w_622 : Cond.instanceMethod yX9_step ∈ gw_tbl := gw_in (List.mem_of_getElem? (i := 1398) (by decide +kernel)) (by decide +kernel)
theorem w_623 : Cond.selects RX9 yX9_step yX9_step ∈ gw_tbl := gw_in (List.mem_of_getElem? (i := 60) (by decide +kernel)) (by decide +kernel)
theorem w_624 : Cond.methodLink RX9 264 yX9_step ∈ gw_tbl := gw_in (List.mem_of_getElem? (i := 1396) (by decide +kernel)) (by decide +kernel)
theorem w_625 : Cond.code yX9_test cX9_test 3 (some .boolean) ∈ gw_tbl := gw_in (List.mem_of_getElem? (i := 1383) (by decide +kernel)) (by decide +kernel)
theorem w_626 : Cond.instanceMethod yX9_test ∈ gw_tbl := gw_in (List.mem_of_getElem? (i := 1382) (by decide +kernel)) (by decide +kernel)
theorem w_627 : Cond.selects RX9 yX9_test yX9_test ∈ gw_tbl := gw_in (List.mem_of_getElem? (i := 56) (by decide +kernel)) (by decide +kernel)
theorem w_628 : Cond.methodLink RX9 268 yX9_test ∈ gw_tbl := gw_in (List.mem_of_getElem? (i := 1380) (by decide +kernel)) (by decide +kernel)
theorem w_629 : Cond.code yX9_sum cX9_sum 3 (some .boolean) ∈ gw_tbl := gw_in (List.mem_of_getElem? (i := 1387) (by decide +kernel)) (by decide +kernel)
theorem w_630 : Cond.instanceMethod yX9_sum ∈ gw_tbl := gw_in (List.mem_of_getElem? (i := 1386) (by decide +kernel)) (by decide +kernel)
theorem w_631 : Cond.selects RX9 yX9_sum yX9_sum ∈ gw_tbl := gw_in (List.mem_of_getElem? (i := 57) (by decide +kernel)) (by decide +kernel)
theorem w_632 : Cond.methodLink RX9 271 yX9_sum ∈ gw_tbl := gw_in (List.mem_of_getElem? (i := 1384) (by decide +kernel)) (by decide +kernel)
theorem w_633 : Cond.code yX9_term cX9_term 3 (some .boolean) ∈ gw_tbl := gw_in (List.mem_of_getElem? (i := 1391) (by decide +kernel)) (by decide +kernel)
theorem w_634 : Cond.instanceMethod yX9_term ∈ gw_tbl := gw_in (List.mem_of_getElem? (i := 1390) (by decide +kernel)) (by decide +kernel)
theorem w_635 : Cond.selects RX9 yX9_term yX9_term ∈ gw_tbl := gw_in (List.mem_of_getElem? (i := 58) (by decide +kernel)) (by decide +kernel)
theorem w_636 : Cond.methodLink RX9 274 yX9_term ∈ gw_tbl := gw_in (List.mem_of_getElem? (i := 1388) (by decide +kernel)) (by decide +kernel)
theorem w_637 : Cond.code yX9_part0 cX9_part0 2 (some .boolean) ∈ gw_tbl := gw_in (List.mem_of_getElem? (i := 1395) (by decide +kernel)) (by decide +kernel)
theorem w_638 : Cond.instanceMethod yX9_part0 ∈ gw_tbl := gw_in (List.mem_of_getElem? (i := 1394) (by decide +kernel)) (by decide +kernel)
theorem w_639 : Cond.selects RX9 yX9_part0 yX9_part0 ∈ gw_tbl := gw_in (List.mem_of_getElem? (i := 59) (by decide +kernel)) (by decide +kernel)
theorem w_640 : Cond.methodLink RX9 277 yX9_part0 ∈ gw_tbl := gw_in (List.mem_of_getElem? (i := 1392) (by decide +kernel)) (by decide +kernel)
theorem w_641 : Cond.code yX9_isName cX9_isName 2 (some .boolean) ∈ gw_tbl := gw_in (List.mem_of_getElem? (i := 1402) (by decide +kernel)) (by decide +kernel)
theorem w_642 : Cond.static yX9_isName ∈ gw_tbl := gw_in (List.mem_of_getElem? (i := 1401) (by decide +kernel)) (by decide +kernel)
theorem w_643 : Cond.methodLink RX9 283 yX9_isName ∈ gw_tbl := gw_in (List.mem_of_getElem? (i := 1400) (by decide +kernel)) (by decide +kernel)
theorem w_644 : Cond.fieldLink RX9 280 "WolfFiresModel" "said" "I" ∈ gw_tbl := gw_in (List.mem_of_getElem? (i := 1022) (by decide +kernel)) (by decide +kernel)
theorem w_645 : Cond.fieldLink RX9 286 "WolfFiresModel" "turned" "I" ∈ gw_tbl := gw_in (List.mem_of_getElem? (i := 1019) (by decide +kernel)) (by decide +kernel)
theorem w_646 : Cond.fieldLink RX9 289 "WolfFiresModel" "deep" "I" ∈ gw_tbl := gw_in (List.mem_of_getElem? (i := 1018) (by decide +kernel)) (by decide +kernel)
theorem w_647 : Cond.code yX9_either cX9_either 2 (some .boolean) ∈ gw_tbl := gw_in (List.mem_of_getElem? (i := 1375) (by decide +kernel)) (by decide +kernel)
theorem w_648 : Cond.instanceMethod yX9_either ∈ gw_tbl := gw_in (List.mem_of_getElem? (i := 1374) (by decide +kernel)) (by decide +kernel)
theorem w_649 : Cond.selects RX9 yX9_either yX9_either ∈ gw_tbl := gw_in (List.mem_of_getElem? (i := 54) (by decide +kernel)) (by decide +kernel)
theorem w_650 : Cond.methodLink RX9 292 yX9_either ∈ gw_tbl := gw_in (List.mem_of_getElem? (i := 1372) (by decide +kernel)) (by decide +kernel)
theorem w_651 : Cond.code yX9_textAt cX9_textAt 2 (some .int) ∈ gw_tbl := gw_in (List.mem_of_getElem? (i := 1133) (by decide +kernel)) (by decide +kernel)
theorem w_652 : Cond.instanceMethod yX9_textAt ∈ gw_tbl := gw_in (List.mem_of_getElem? (i := 1132) (by decide +kernel)) (by decide +kernel)
theorem w_653 : Cond.selects RX9 yX9_textAt yX9_textAt ∈ gw_tbl := gw_in (List.mem_of_getElem? (i := 25) (by decide +kernel)) (by decide +kernel)
theorem w_654 : Cond.methodLink RX9 295 yX9_textAt ∈ gw_tbl := gw_in (List.mem_of_getElem? (i := 1130) (by decide +kernel)) (by decide +kernel)
theorem w_655 : Cond.code yX9_key cX9_key 1 (some .int) ∈ gw_tbl := gw_in (List.mem_of_getElem? (i := 1363) (by decide +kernel)) (by decide +kernel)
theorem w_656 : Cond.instanceMethod yX9_key ∈ gw_tbl := gw_in (List.mem_of_getElem? (i := 1362) (by decide +kernel)) (by decide +kernel)
theorem w_657 : Cond.selects RX9 yX9_key yX9_key ∈ gw_tbl := gw_in (List.mem_of_getElem? (i := 51) (by decide +kernel)) (by decide +kernel)
theorem w_658 : Cond.methodLink RX9 298 yX9_key ∈ gw_tbl := gw_in (List.mem_of_getElem? (i := 1360) (by decide +kernel)) (by decide +kernel)
theorem w_659 : Cond.code yX9_parse cX9_parse 3 (some .int) ∈ gw_tbl := gw_in (List.mem_of_getElem? (i := 1343) (by decide +kernel)) (by decide +kernel)
theorem w_660 : Cond.instanceMethod yX9_parse ∈ gw_tbl := gw_in (List.mem_of_getElem? (i := 1342) (by decide +kernel)) (by decide +kernel)
theorem w_661 : Cond.selects RX9 yX9_parse yX9_parse ∈ gw_tbl := gw_in (List.mem_of_getElem? (i := 47) (by decide +kernel)) (by decide +kernel)
theorem w_662 : Cond.methodLink RX9 301 yX9_parse ∈ gw_tbl := gw_in (List.mem_of_getElem? (i := 1340) (by decide +kernel)) (by decide +kernel)
theorem w_663 : Cond.code yX9_isText cX9_isText 2 (some .boolean) ∈ gw_tbl := gw_in (List.mem_of_getElem? (i := 1414) (by decide +kernel)) (by decide +kernel)
theorem w_664 : Cond.instanceMethod yX9_isText ∈ gw_tbl := gw_in (List.mem_of_getElem? (i := 1413) (by decide +kernel)) (by decide +kernel)
theorem w_665 : Cond.selects RX9 yX9_isText yX9_isText ∈ gw_tbl := gw_in (List.mem_of_getElem? (i := 62) (by decide +kernel)) (by decide +kernel)
theorem w_666 : Cond.methodLink RX9 304 yX9_isText ∈ gw_tbl := gw_in (List.mem_of_getElem? (i := 1411) (by decide +kernel)) (by decide +kernel)
theorem w_667 : Cond.fieldLink RX9 52 "WolfFiresModel" "pile" "[I" ∈ gw_tbl := gw_in (List.mem_of_getElem? (i := 1024) (by decide +kernel)) (by decide +kernel)
theorem w_668 : Cond.code yX9_joined cX9_joined 3 (some .int) ∈ gw_tbl := gw_in (List.mem_of_getElem? (i := 1140) (by decide +kernel)) (by decide +kernel)
theorem w_669 : Cond.static yX9_joined ∈ gw_tbl := gw_in (List.mem_of_getElem? (i := 1139) (by decide +kernel)) (by decide +kernel)
theorem w_670 : Cond.methodLink RX9 307 yX9_joined ∈ gw_tbl := gw_in (List.mem_of_getElem? (i := 1138) (by decide +kernel)) (by decide +kernel)
theorem w_671 : Cond.code yX9_isSheet cX9_isSheet 1 (some .boolean) ∈ gw_tbl := gw_in (List.mem_of_getElem? (i := 1425) (by decide +kernel)) (by decide +kernel)
theorem w_672 : Cond.static yX9_isSheet ∈ gw_tbl := gw_in (List.mem_of_getElem? (i := 1424) (by decide +kernel)) (by decide +kernel)
theorem w_673 : Cond.methodLink RX9 311 yX9_isSheet ∈ gw_tbl := gw_in (List.mem_of_getElem? (i := 1423) (by decide +kernel)) (by decide +kernel)
theorem w_674 : Cond.constantLong RX9 314 (-1) ∈ gw_tbl := gw_in (List.mem_of_getElem? (i := 1426) (by decide +kernel)) (by decide +kernel)
theorem w_675 : Cond.constant RX9 316 (-1000000014) ∈ gw_tbl := gw_in (List.mem_of_getElem? (i := 1427) (by decide +kernel)) (by decide +kernel)
theorem w_676 : Cond.fieldLink RX9 19 "WolfFiresModel" "tSort" "[I" ∈ gw_tbl := gw_in (List.mem_of_getElem? (i := 1000) (by decide +kernel)) (by decide +kernel)
theorem w_677 : Cond.fieldLink RX9 22 "WolfFiresModel" "tSize" "[I" ∈ gw_tbl := gw_in (List.mem_of_getElem? (i := 1001) (by decide +kernel)) (by decide +kernel)
theorem w_678 : Cond.fieldLink RX9 25 "WolfFiresModel" "tNumber" "[I" ∈ gw_tbl := gw_in (List.mem_of_getElem? (i := 1002) (by decide +kernel)) (by decide +kernel)
theorem w_679 : Cond.constant RX9 318 (-1000000013) ∈ gw_tbl := gw_in (List.mem_of_getElem? (i := 1433) (by decide +kernel)) (by decide +kernel)
theorem w_680 : Cond.constant RX9 317 (-1000000011) ∈ gw_tbl := gw_in (List.mem_of_getElem? (i := 1432) (by decide +kernel)) (by decide +kernel)
theorem w_681 : Cond.constantLong RX9 319 (-99999) ∈ gw_tbl := gw_in (List.mem_of_getElem? (i := 1434) (by decide +kernel)) (by decide +kernel)
theorem w_682 : Cond.constantLong RX9 321 99999 ∈ gw_tbl := gw_in (List.mem_of_getElem? (i := 1435) (by decide +kernel)) (by decide +kernel)
theorem w_683 : Cond.fieldLink RX9 55 "WolfFiresModel" "carried" "[I" ∈ gw_tbl := gw_in (List.mem_of_getElem? (i := 1025) (by decide +kernel)) (by decide +kernel)
theorem w_684 : Cond.constantLong RX9 323 4 ∈ gw_tbl := gw_in (List.mem_of_getElem? (i := 1459) (by decide +kernel)) (by decide +kernel)
theorem w_685 : Cond.code yX9_isSlot cX9_isSlot 1 (some .boolean) ∈ gw_tbl := gw_in (List.mem_of_getElem? (i := 1458) (by decide +kernel)) (by decide +kernel)
theorem w_686 : Cond.static yX9_isSlot ∈ gw_tbl := gw_in (List.mem_of_getElem? (i := 1457) (by decide +kernel)) (by decide +kernel)
theorem w_687 : Cond.methodLink RX9 325 yX9_isSlot ∈ gw_tbl := gw_in (List.mem_of_getElem? (i := 1456) (by decide +kernel)) (by decide +kernel)
theorem w_688 : Cond.fieldLink RX9 28 "WolfFiresModel" "held" "[I" ∈ gw_tbl := gw_in (List.mem_of_getElem? (i := 1003) (by decide +kernel)) (by decide +kernel)
theorem w_689 : Cond.fieldLink RX9 31 "WolfFiresModel" "heldNumber" "[I" ∈ gw_tbl := gw_in (List.mem_of_getElem? (i := 1004) (by decide +kernel)) (by decide +kernel)
theorem w_690 : Cond.fieldLink RX9 34 "WolfFiresModel" "heldWorth" "[I" ∈ gw_tbl := gw_in (List.mem_of_getElem? (i := 1005) (by decide +kernel)) (by decide +kernel)
theorem w_691 : Cond.fieldLink RX9 37 "WolfFiresModel" "heldSize" "[I" ∈ gw_tbl := gw_in (List.mem_of_getElem? (i := 1006) (by decide +kernel)) (by decide +kernel)
theorem w_692 : Cond.fieldLink RX9 40 "WolfFiresModel" "heldRow" "[I" ∈ gw_tbl := gw_in (List.mem_of_getElem? (i := 1007) (by decide +kernel)) (by decide +kernel)
theorem w_693 : Cond.constant RX9 328 (-1000000002) ∈ gw_tbl := gw_in (List.mem_of_getElem? (i := 1472) (by decide +kernel)) (by decide +kernel)
theorem w_694 : Cond.fieldLink RX9 329 "WolfFiresModel" "waiting" "I" ∈ gw_tbl := gw_in (List.mem_of_getElem? (i := 1027) (by decide +kernel)) (by decide +kernel)
theorem w_695 : Cond.fieldLink RX9 58 "WolfFiresModel" "waits" "[I" ∈ gw_tbl := gw_in (List.mem_of_getElem? (i := 1026) (by decide +kernel)) (by decide +kernel)
theorem w_696 : Cond.constantLong RX9 332 30 ∈ gw_tbl := gw_in (List.mem_of_getElem? (i := 1481) (by decide +kernel)) (by decide +kernel)
theorem w_697 : Cond.fieldLink RX9 334 "WolfFiresModel" "hasImage" "Z" ∈ gw_tbl := gw_in (List.mem_of_getElem? (i := 999) (by decide +kernel)) (by decide +kernel)
theorem w_698 : Cond.fieldLink RX9 16 "WolfFiresModel" "aside" "[I" ∈ gw_tbl := gw_in (List.mem_of_getElem? (i := 998) (by decide +kernel)) (by decide +kernel)
theorem w_699 : Cond.code yX9_setAside cX9_setAside 4 none ∈ gw_tbl := gw_in (List.mem_of_getElem? (i := 1485) (by decide +kernel)) (by decide +kernel)
theorem w_700 : Cond.instanceMethod yX9_setAside ∈ gw_tbl := gw_in (List.mem_of_getElem? (i := 1484) (by decide +kernel)) (by decide +kernel)
theorem w_701 : Cond.selects RX9 yX9_setAside yX9_setAside ∈ gw_tbl := gw_in (List.mem_of_getElem? (i := 63) (by decide +kernel)) (by decide +kernel)
theorem w_702 : Cond.methodLink RX9 337 yX9_setAside ∈ gw_tbl := gw_in (List.mem_of_getElem? (i := 1482) (by decide +kernel)) (by decide +kernel)
theorem w_703 : Cond.fieldLink RX9 13 "WolfFiresModel" "image" "[I" ∈ gw_tbl := gw_in (List.mem_of_getElem? (i := 997) (by decide +kernel)) (by decide +kernel)
theorem w_704 : Cond.fieldLink RX9 61 "WolfFiresModel" "rowDue" "[I" ∈ gw_tbl := gw_in (List.mem_of_getElem? (i := 1028) (by decide +kernel)) (by decide +kernel)
theorem w_705 : Cond.code yX9_awake cX9_awake 3 (some .int) ∈ gw_tbl := gw_in (List.mem_of_getElem? (i := 1501) (by decide +kernel)) (by decide +kernel)
theorem w_706 : Cond.instanceMethod yX9_awake ∈ gw_tbl := gw_in (List.mem_of_getElem? (i := 1500) (by decide +kernel)) (by decide +kernel)
theorem w_707 : Cond.selects RX9 yX9_awake yX9_awake ∈ gw_tbl := gw_in (List.mem_of_getElem? (i := 64) (by decide +kernel)) (by decide +kernel)
theorem w_708 : Cond.methodLink RX9 341 yX9_awake ∈ gw_tbl := gw_in (List.mem_of_getElem? (i := 1498) (by decide +kernel)) (by decide +kernel)
theorem w_709 : Cond.fieldLink RJ0 9 RJ0 "value" "[B" ∈ gw_tbl := gw_in (List.mem_of_getElem? (i := 1502) (by decide +kernel)) (by decide +kernel)
theorem w_710 : Cond.code yJ0_coder_7d493 cJ0_coder_7d493 1 (some .byte) ∈ gw_tbl := gw_in (List.mem_of_getElem? (i := 722) (by decide +kernel)) (by decide +kernel)
theorem w_711 : Cond.instanceMethod yJ0_coder_7d493 ∈ gw_tbl := gw_in (List.mem_of_getElem? (i := 720) (by decide +kernel)) (by decide +kernel)
theorem w_712 : Cond.selects RJ0 yJ0_coder_7d493 yJ0_coder_7d493 ∈ gw_tbl := gw_in (List.mem_of_getElem? (i := 721) (by decide +kernel)) (by decide +kernel)
theorem w_713 : Cond.methodLink RJ0 335 yJ0_coder_7d493 ∈ gw_tbl := gw_in (List.mem_of_getElem? (i := 719) (by decide +kernel)) (by decide +kernel)
theorem w_714 : Cond.code yJ0_isLatin1_aae02 cJ0_isLatin1_aae02 1 (some .boolean) ∈ gw_tbl := gw_in (List.mem_of_getElem? (i := 732) (by decide +kernel)) (by decide +kernel)
theorem w_715 : Cond.instanceMethod yJ0_isLatin1_aae02 ∈ gw_tbl := gw_in (List.mem_of_getElem? (i := 730) (by decide +kernel)) (by decide +kernel)
theorem w_716 : Cond.selects RJ0 yJ0_isLatin1_aae02 yJ0_isLatin1_aae02 ∈ gw_tbl := gw_in (List.mem_of_getElem? (i := 731) (by decide +kernel)) (by decide +kernel)
theorem w_717 : Cond.methodLink RJ0 492 yJ0_isLatin1_aae02 ∈ gw_tbl := gw_in (List.mem_of_getElem? (i := 729) (by decide +kernel)) (by decide +kernel)
theorem w_718 : Cond.code yJ1_charAt_3b067 cJ1_charAt_3b067 2 (some .char) ∈ gw_tbl := gw_in (List.mem_of_getElem? (i := 735) (by decide +kernel)) (by decide +kernel)
theorem w_719 : Cond.initialized RJ1 ∈ gw_tbl := gw_in (List.mem_of_getElem? (i := 79) (by decide +kernel)) (by decide +kernel)
theorem w_720 : Cond.static yJ1_charAt_3b067 ∈ gw_tbl := gw_in (List.mem_of_getElem? (i := 734) (by decide +kernel)) (by decide +kernel)
theorem w_721 : Cond.methodLink RJ0 495 yJ1_charAt_3b067 ∈ gw_tbl := gw_in (List.mem_of_getElem? (i := 733) (by decide +kernel)) (by decide +kernel)
theorem w_722 : Cond.code yJ0_indexOf_7cf53 cJ0_indexOf_7cf53 3 (some .int) ∈ gw_tbl := gw_in (List.mem_of_getElem? (i := 790) (by decide +kernel)) (by decide +kernel)
theorem w_723 : Cond.instanceMethod yJ0_indexOf_7cf53 ∈ gw_tbl := gw_in (List.mem_of_getElem? (i := 788) (by decide +kernel)) (by decide +kernel)
theorem w_724 : Cond.selects RJ0 yJ0_indexOf_7cf53 yJ0_indexOf_7cf53 ∈ gw_tbl := gw_in (List.mem_of_getElem? (i := 789) (by decide +kernel)) (by decide +kernel)
theorem w_725 : Cond.methodLink RJ0 633 yJ0_indexOf_7cf53 ∈ gw_tbl := gw_in (List.mem_of_getElem? (i := 787) (by decide +kernel)) (by decide +kernel)
theorem w_726 : Cond.methodLink RJ0 505 yJ0_length_8abf5 ∈ gw_tbl := gw_in (List.mem_of_getElem? (i := 791) (by decide +kernel)) (by decide +kernel)
theorem w_727 : Cond.code yJ1_indexOf_4cfef cJ1_indexOf_4cfef 4 (some .int) ∈ gw_tbl := gw_in (List.mem_of_getElem? (i := 794) (by decide +kernel)) (by decide +kernel)
theorem w_728 : Cond.static yJ1_indexOf_4cfef ∈ gw_tbl := gw_in (List.mem_of_getElem? (i := 793) (by decide +kernel)) (by decide +kernel)
theorem w_729 : Cond.methodLink RJ0 637 yJ1_indexOf_4cfef ∈ gw_tbl := gw_in (List.mem_of_getElem? (i := 792) (by decide +kernel)) (by decide +kernel)
theorem w_730 : Cond.fieldLink RJ0 38 RJ0 "COMPACT_STRINGS" "Z" ∈ gw_tbl := gw_in (List.mem_of_getElem? (i := 723) (by decide +kernel)) (by decide +kernel)
theorem w_731 : Cond.fieldLink RJ0 15 RJ0 "coder" "B" ∈ gw_tbl := gw_in (List.mem_of_getElem? (i := 1503) (by decide +kernel)) (by decide +kernel)
theorem w_732 : Cond.fieldLink RJ0 1053 RJ3 "SIOOBE_FORMATTER" "Ljava/util/function/BiFunction;" ∈ gw_tbl := gw_in (List.mem_of_getElem? (i := 739) (by decide +kernel)) (by decide +kernel)
theorem w_733 : Cond.code yJ3_checkIndex_8e157 cJ3_checkIndex_8e157 3 (some .int) ∈ gw_tbl := gw_in (List.mem_of_getElem? (i := 743) (by decide +kernel)) (by decide +kernel)
theorem w_734 : Cond.initialized RJ3 ∈ gw_tbl := gw_in (List.mem_of_getElem? (i := 80) (by decide +kernel)) (by decide +kernel)
theorem w_735 : Cond.static yJ3_checkIndex_8e157 ∈ gw_tbl := gw_in (List.mem_of_getElem? (i := 742) (by decide +kernel)) (by decide +kernel)
theorem w_736 : Cond.methodLink RJ0 1059 yJ3_checkIndex_8e157 ∈ gw_tbl := gw_in (List.mem_of_getElem? (i := 741) (by decide +kernel)) (by decide +kernel)
theorem w_737 : Cond.code yJ0_checkIndex_df160 cJ0_checkIndex_df160 2 none ∈ gw_tbl := gw_in (List.mem_of_getElem? (i := 738) (by decide +kernel)) (by decide +kernel)
theorem w_738 : Cond.static yJ0_checkIndex_df160 ∈ gw_tbl := gw_in (List.mem_of_getElem? (i := 737) (by decide +kernel)) (by decide +kernel)
theorem w_739 : Cond.methodLink RJ1 9 yJ0_checkIndex_df160 ∈ gw_tbl := gw_in (List.mem_of_getElem? (i := 736) (by decide +kernel)) (by decide +kernel)
theorem w_740 : Cond.code yJ1_canEncode_9a6ad cJ1_canEncode_9a6ad 1 (some .boolean) ∈ gw_tbl := gw_in (List.mem_of_getElem? (i := 797) (by decide +kernel)) (by decide +kernel)
theorem w_741 : Cond.static yJ1_canEncode_9a6ad ∈ gw_tbl := gw_in (List.mem_of_getElem? (i := 796) (by decide +kernel)) (by decide +kernel)
theorem w_742 : Cond.methodLink RJ1 88 yJ1_canEncode_9a6ad ∈ gw_tbl := gw_in (List.mem_of_getElem? (i := 795) (by decide +kernel)) (by decide +kernel)
theorem w_743 : Cond.methodLink RJ1 92 Lib.Math.max.name ∈ gw_tbl := gw_in (List.mem_of_getElem? (i := 798) (by decide +kernel)) (by decide +kernel)
theorem w_744 : Cond.methodLink RJ1 38 Lib.Math.min.name ∈ gw_tbl := gw_in (List.mem_of_getElem? (i := 799) (by decide +kernel)) (by decide +kernel)
theorem w_745 : Cond.code yJ1_indexOfChar_4cfef cJ1_indexOfChar_4cfef 6 (some .int) ∈ gw_tbl := gw_in (List.mem_of_getElem? (i := 802) (by decide +kernel)) (by decide +kernel)
theorem w_746 : Cond.static yJ1_indexOfChar_4cfef ∈ gw_tbl := gw_in (List.mem_of_getElem? (i := 801) (by decide +kernel)) (by decide +kernel)
theorem w_747 : Cond.methodLink RJ1 95 yJ1_indexOfChar_4cfef ∈ gw_tbl := gw_in (List.mem_of_getElem? (i := 800) (by decide +kernel)) (by decide +kernel)
theorem mv_X3_takeFrom : wf_MV mX3_takeFrom 1 := ⟨⟨w_1, w_2, ⟨by decide +kernel, by decide +kernel, by decide +kernel⟩, by decide⟩, w_3, w_4⟩
theorem mv_X7_takeFrom : wf_MV mX7_takeFrom 1 := ⟨⟨w_19, w_20, ⟨by decide +kernel, by decide +kernel, by decide +kernel⟩, by decide⟩, w_21, w_22⟩
theorem ms_X8_within : wf_MS mX8_within 3 := ⟨⟨w_24, w_25, ⟨by decide +kernel, by decide +kernel, by decide +kernel⟩, by decide⟩, w_26⟩
theorem mv_X2_work : wf_MV mX2_work 3 := ⟨⟨w_35, w_36, ⟨by decide +kernel, by decide +kernel, by decide +kernel⟩, by decide⟩, w_37, w_38⟩
theorem mv_X0_byLaw : wf_MV mX0_byLaw 5 := ⟨⟨w_40, w_41, ⟨by decide +kernel, by decide +kernel, by decide +kernel⟩, by decide⟩, w_42, w_43⟩
theorem ms_X8_held : wf_MS mX8_held 3 := ⟨⟨w_45, w_25, ⟨by decide +kernel, by decide +kernel, by decide +kernel⟩, by decide⟩, w_46⟩
theorem mv_X3_nextFires : wf_MV mX3_nextFires 1 := ⟨⟨w_50, w_2, ⟨by decide +kernel, by decide +kernel, by decide +kernel⟩, by decide⟩, w_51, w_52⟩
theorem mv_X0_lightBy : wf_MV mX0_lightBy 2 := ⟨⟨w_54, w_41, ⟨by decide +kernel, by decide +kernel, by decide +kernel⟩, by decide⟩, w_55, w_56⟩
theorem mv_X3_has : wf_MV mX3_has 1 := ⟨⟨w_59, w_2, ⟨by decide +kernel, by decide +kernel, by decide +kernel⟩, by decide⟩, w_60, w_61⟩
theorem mv_X0_sightOf : wf_MV mX0_sightOf 1 := ⟨⟨w_63, w_41, ⟨by decide +kernel, by decide +kernel, by decide +kernel⟩, by decide⟩, w_64, w_65⟩
theorem mv_X7_sight : wf_MV mX7_sight 2 := ⟨⟨w_68, w_20, ⟨by decide +kernel, by decide +kernel, by decide +kernel⟩, by decide⟩, w_69, w_70⟩
theorem mv_X0_fearsOf : wf_MV mX0_fearsOf 1 := ⟨⟨w_74, w_41, ⟨by decide +kernel, by decide +kernel, by decide +kernel⟩, by decide⟩, w_75, w_76⟩
theorem mv_X0_burn : wf_MV mX0_burn 0 := ⟨⟨w_79, w_41, ⟨by decide +kernel, by decide +kernel, by decide +kernel⟩, by decide⟩, w_80, w_81⟩
theorem mv_X0_measure : wf_MV mX0_measure 0 := ⟨⟨w_83, w_41, ⟨by decide +kernel, by decide +kernel, by decide +kernel⟩, by decide⟩, w_84, w_85⟩
theorem mv_X0_leastFeared : wf_MV mX0_leastFeared 0 := ⟨⟨w_87, w_41, ⟨by decide +kernel, by decide +kernel, by decide +kernel⟩, by decide⟩, w_88, w_89⟩
theorem mv_X0_tire : wf_MV mX0_tire 0 := ⟨⟨w_91, w_41, ⟨by decide +kernel, by decide +kernel, by decide +kernel⟩, by decide⟩, w_92, w_93⟩
theorem mv_X0_meet : wf_MV mX0_meet 1 := ⟨⟨w_95, w_41, ⟨by decide +kernel, by decide +kernel, by decide +kernel⟩, by decide⟩, w_96, w_97⟩
theorem mv_X1_putFires : wf_MV mX1_putFires 3 := ⟨⟨w_107, w_108, ⟨by decide +kernel, by decide +kernel, by decide +kernel⟩, by decide⟩, w_109, w_110⟩
theorem mv_X1_leastLight : wf_MV mX1_leastLight 2 := ⟨⟨w_112, w_108, ⟨by decide +kernel, by decide +kernel, by decide +kernel⟩, by decide⟩, w_113, w_114⟩
theorem mv_X2_addCode : wf_MV mX2_addCode 1 := ⟨⟨w_123, w_36, ⟨by decide +kernel, by decide +kernel, by decide +kernel⟩, by decide⟩, w_124, w_125⟩
theorem ms_X2_named : wf_MS mX2_named 4 := ⟨⟨w_129, w_36, ⟨by decide +kernel, by decide +kernel, by decide +kernel⟩, by decide⟩, w_130⟩
theorem ms_X2_joined : wf_MS mX2_joined 3 := ⟨⟨w_132, w_36, ⟨by decide +kernel, by decide +kernel, by decide +kernel⟩, by decide⟩, w_133⟩
theorem ms_J7_fill_53178 : wf_MS mJ7_fill_53178 2 := ⟨⟨w_145, w_146, ⟨by decide +kernel, by decide +kernel, by decide +kernel⟩, by decide⟩, w_147⟩
theorem mv_X6_steps : wf_MV mX6_steps 0 := ⟨⟨w_161, w_162, ⟨by decide +kernel, by decide +kernel, by decide +kernel⟩, by decide⟩, w_163, w_164⟩
theorem mv_X6_keyHere : wf_MV mX6_keyHere 0 := ⟨⟨w_166, w_162, ⟨by decide +kernel, by decide +kernel, by decide +kernel⟩, by decide⟩, w_167, w_168⟩
theorem mv_X2_begins : wf_MV mX2_begins 1 := ⟨⟨w_170, w_36, ⟨by decide +kernel, by decide +kernel, by decide +kernel⟩, by decide⟩, w_171, w_172⟩
theorem mv_X6_sortHere : wf_MV mX6_sortHere 0 := ⟨⟨w_175, w_162, ⟨by decide +kernel, by decide +kernel, by decide +kernel⟩, by decide⟩, w_176, w_177⟩
theorem mv_X6_takesSign : wf_MV mX6_takesSign 1 := ⟨⟨w_179, w_162, ⟨by decide +kernel, by decide +kernel, by decide +kernel⟩, by decide⟩, w_180, w_181⟩
theorem mv_X6_takesPiece : wf_MV mX6_takesPiece 1 := ⟨⟨w_183, w_162, ⟨by decide +kernel, by decide +kernel, by decide +kernel⟩, by decide⟩, w_184, w_185⟩
theorem mv_X6_closesDownTo : wf_MV mX6_closesDownTo 2 := ⟨⟨w_187, w_162, ⟨by decide +kernel, by decide +kernel, by decide +kernel⟩, by decide⟩, w_188, w_189⟩
theorem ms_X6_sortOf : wf_MS mX6_sortOf 1 := ⟨⟨w_192, w_162, ⟨by decide +kernel, by decide +kernel, by decide +kernel⟩, by decide⟩, w_193⟩
theorem mv_X6_isHere : wf_MV mX6_isHere 1 := ⟨⟨w_195, w_162, ⟨by decide +kernel, by decide +kernel, by decide +kernel⟩, by decide⟩, w_196, w_197⟩
theorem mv_J0_length_8abf5 : wf_MV mJ0_length_8abf5 0 := ⟨⟨w_199, w_200, ⟨by decide +kernel, by decide +kernel, by decide +kernel⟩, by decide⟩, w_201, w_202⟩
theorem mv_J0_charAt_5068e : wf_MV mJ0_charAt_5068e 1 := ⟨⟨w_204, w_200, ⟨by decide +kernel, by decide +kernel, by decide +kernel⟩, by decide⟩, w_205, w_206⟩
theorem mv_X6_takesName : wf_MV mX6_takesName 1 := ⟨⟨w_208, w_162, ⟨by decide +kernel, by decide +kernel, by decide +kernel⟩, by decide⟩, w_209, w_210⟩
theorem mv_X6_takesDigits : wf_MV mX6_takesDigits 1 := ⟨⟨w_212, w_162, ⟨by decide +kernel, by decide +kernel, by decide +kernel⟩, by decide⟩, w_213, w_214⟩
theorem mv_X6_opens : wf_MV mX6_opens 1 := ⟨⟨w_216, w_162, ⟨by decide +kernel, by decide +kernel, by decide +kernel⟩, by decide⟩, w_217, w_218⟩
theorem ms_X6_namesOf : wf_MS mX6_namesOf 1 := ⟨⟨w_221, w_162, ⟨by decide +kernel, by decide +kernel, by decide +kernel⟩, by decide⟩, w_222⟩
theorem mv_J0_indexOf_0f7a4 : wf_MV mJ0_indexOf_0f7a4 1 := ⟨⟨w_224, w_200, ⟨by decide +kernel, by decide +kernel, by decide +kernel⟩, by decide⟩, w_225, w_226⟩
theorem mv_X2_addName : wf_MV mX2_addName 1 := ⟨⟨w_228, w_36, ⟨by decide +kernel, by decide +kernel, by decide +kernel⟩, by decide⟩, w_229, w_230⟩
theorem mv_X6_endsPiece : wf_MV mX6_endsPiece 1 := ⟨⟨w_232, w_162, ⟨by decide +kernel, by decide +kernel, by decide +kernel⟩, by decide⟩, w_233, w_234⟩
theorem mv_X2_addNumber : wf_MV mX2_addNumber 1 := ⟨⟨w_236, w_36, ⟨by decide +kernel, by decide +kernel, by decide +kernel⟩, by decide⟩, w_237, w_238⟩
theorem mv_X6_pushes : wf_MV mX6_pushes 1 := ⟨⟨w_240, w_162, ⟨by decide +kernel, by decide +kernel, by decide +kernel⟩, by decide⟩, w_241, w_242⟩
theorem mv_X2_addSign : wf_MV mX2_addSign 1 := ⟨⟨w_245, w_36, ⟨by decide +kernel, by decide +kernel, by decide +kernel⟩, by decide⟩, w_246, w_247⟩
theorem ms_X6_levelOf : wf_MS mX6_levelOf 1 := ⟨⟨w_249, w_162, ⟨by decide +kernel, by decide +kernel, by decide +kernel⟩, by decide⟩, w_250⟩
theorem mv_X6_takesClose : wf_MV mX6_takesClose 1 := ⟨⟨w_252, w_162, ⟨by decide +kernel, by decide +kernel, by decide +kernel⟩, by decide⟩, w_253, w_254⟩
theorem ms_X8_isKind : wf_MS mX8_isKind 1 := ⟨⟨w_257, w_25, ⟨by decide +kernel, by decide +kernel, by decide +kernel⟩, by decide⟩, w_258⟩
theorem mv_X7_plainSight : wf_MV mX7_plainSight 1 := ⟨⟨w_260, w_20, ⟨by decide +kernel, by decide +kernel, by decide +kernel⟩, by decide⟩, w_261, w_262⟩
theorem mv_X3_joins : wf_MV mX3_joins 1 := ⟨⟨w_271, w_2, ⟨by decide +kernel, by decide +kernel, by decide +kernel⟩, by decide⟩, w_272, w_273⟩
theorem mv_X3_row : wf_MV mX3_row 1 := ⟨⟨w_281, w_2, ⟨by decide +kernel, by decide +kernel, by decide +kernel⟩, by decide⟩, w_282, w_283⟩
theorem mv_X0_hires : wf_MV mX0_hires 3 := ⟨⟨w_292, w_41, ⟨by decide +kernel, by decide +kernel, by decide +kernel⟩, by decide⟩, w_293, w_294⟩
theorem mv_X0_hasWatcher : wf_MV mX0_hasWatcher 1 := ⟨⟨w_296, w_41, ⟨by decide +kernel, by decide +kernel, by decide +kernel⟩, by decide⟩, w_297, w_298⟩
theorem mv_X7_worth : wf_MV mX7_worth 0 := ⟨⟨w_307, w_20, ⟨by decide +kernel, by decide +kernel, by decide +kernel⟩, by decide⟩, w_308, w_309⟩
theorem mv_X7_isOf : wf_MV mX7_isOf 1 := ⟨⟨w_311, w_20, ⟨by decide +kernel, by decide +kernel, by decide +kernel⟩, by decide⟩, w_312, w_313⟩
theorem ms_X7_canBe : wf_MS mX7_canBe 2 := ⟨⟨w_316, w_20, ⟨by decide +kernel, by decide +kernel, by decide +kernel⟩, by decide⟩, w_317⟩
theorem mv_X0_draw : wf_MV mX0_draw 0 := ⟨⟨w_320, w_41, ⟨by decide +kernel, by decide +kernel, by decide +kernel⟩, by decide⟩, w_321, w_322⟩
theorem mv_X0_pass : wf_MV mX0_pass 1 := ⟨⟨w_328, w_41, ⟨by decide +kernel, by decide +kernel, by decide +kernel⟩, by decide⟩, w_329, w_330⟩
theorem mv_X0_takeFrom : wf_MV mX0_takeFrom 1 := ⟨⟨w_336, w_41, ⟨by decide +kernel, by decide +kernel, by decide +kernel⟩, by decide⟩, w_337, w_338⟩
theorem mv_X3_allFoals : wf_MV mX3_allFoals 0 := ⟨⟨w_340, w_2, ⟨by decide +kernel, by decide +kernel, by decide +kernel⟩, by decide⟩, w_341, w_342⟩
theorem mv_X1_runOn : wf_MV mX1_runOn 2 := ⟨⟨w_347, w_108, ⟨by decide +kernel, by decide +kernel, by decide +kernel⟩, by decide⟩, w_348, w_349⟩
theorem mv_X0_wakesOnly : wf_MV mX0_wakesOnly 1 := ⟨⟨w_354, w_41, ⟨by decide +kernel, by decide +kernel, by decide +kernel⟩, by decide⟩, w_355, w_356⟩
theorem ms_X8_isSheet : wf_MS mX8_isSheet 1 := ⟨⟨w_358, w_25, ⟨by decide +kernel, by decide +kernel, by decide +kernel⟩, by decide⟩, w_359⟩
theorem mv_X4_differences : wf_MV mX4_differences 1 := ⟨⟨w_364, w_365, ⟨by decide +kernel, by decide +kernel, by decide +kernel⟩, by decide⟩, w_366, w_367⟩
theorem mv_X6_takesNumber : wf_MV mX6_takesNumber 1 := ⟨⟨w_371, w_162, ⟨by decide +kernel, by decide +kernel, by decide +kernel⟩, by decide⟩, w_372, w_373⟩
theorem mv_X6_readInto : wf_MV mX6_readInto 1 := ⟨⟨w_378, w_162, ⟨by decide +kernel, by decide +kernel, by decide +kernel⟩, by decide⟩, w_379, w_380⟩
theorem mv_X4_becomes : wf_MV mX4_becomes 2 := ⟨⟨w_385, w_365, ⟨by decide +kernel, by decide +kernel, by decide +kernel⟩, by decide⟩, w_386, w_387⟩
theorem mv_X4_has : wf_MV mX4_has 1 := ⟨⟨w_390, w_365, ⟨by decide +kernel, by decide +kernel, by decide +kernel⟩, by decide⟩, w_391, w_392⟩
theorem mv_X4_hasRun : wf_MV mX4_hasRun 2 := ⟨⟨w_401, w_365, ⟨by decide +kernel, by decide +kernel, by decide +kernel⟩, by decide⟩, w_402, w_403⟩
theorem ms_X8_isSlot : wf_MS mX8_isSlot 1 := ⟨⟨w_406, w_25, ⟨by decide +kernel, by decide +kernel, by decide +kernel⟩, by decide⟩, w_407⟩
theorem mv_X4_takeFrom : wf_MV mX4_takeFrom 1 := ⟨⟨w_413, w_365, ⟨by decide +kernel, by decide +kernel, by decide +kernel⟩, by decide⟩, w_414, w_415⟩
theorem mv_X0_cameTold : wf_MV mX0_cameTold 0 := ⟨⟨w_424, w_41, ⟨by decide +kernel, by decide +kernel, by decide +kernel⟩, by decide⟩, w_425, w_426⟩
theorem mv_X0_onMany : wf_MV mX0_onMany 0 := ⟨⟨w_428, w_41, ⟨by decide +kernel, by decide +kernel, by decide +kernel⟩, by decide⟩, w_429, w_430⟩
theorem ms_X9_isIn : wf_MS mX9_isIn 3 := ⟨⟨w_435, w_436, ⟨by decide +kernel, by decide +kernel, by decide +kernel⟩, by decide⟩, w_437⟩
theorem mv_X9_wagonsOwn : wf_MV mX9_wagonsOwn 2 := ⟨⟨w_443, w_436, ⟨by decide +kernel, by decide +kernel, by decide +kernel⟩, by decide⟩, w_444, w_445⟩
theorem mv_X9_nextFires : wf_MV mX9_nextFires 1 := ⟨⟨w_447, w_436, ⟨by decide +kernel, by decide +kernel, by decide +kernel⟩, by decide⟩, w_448, w_449⟩
theorem mv_X9_counts : wf_MV mX9_counts 1 := ⟨⟨w_451, w_436, ⟨by decide +kernel, by decide +kernel, by decide +kernel⟩, by decide⟩, w_452, w_453⟩
theorem mv_X9_worked : wf_MV mX9_worked 1 := ⟨⟨w_456, w_436, ⟨by decide +kernel, by decide +kernel, by decide +kernel⟩, by decide⟩, w_457, w_458⟩
theorem ms_X9_within : wf_MS mX9_within 2 := ⟨⟨w_460, w_436, ⟨by decide +kernel, by decide +kernel, by decide +kernel⟩, by decide⟩, w_461⟩
theorem mv_X9_of : wf_MV mX9_of 2 := ⟨⟨w_463, w_436, ⟨by decide +kernel, by decide +kernel, by decide +kernel⟩, by decide⟩, w_464, w_465⟩
theorem mv_X9_isWagon : wf_MV mX9_isWagon 1 := ⟨⟨w_467, w_436, ⟨by decide +kernel, by decide +kernel, by decide +kernel⟩, by decide⟩, w_468, w_469⟩
theorem mv_X9_light : wf_MV mX9_light 1 := ⟨⟨w_471, w_436, ⟨by decide +kernel, by decide +kernel, by decide +kernel⟩, by decide⟩, w_472, w_473⟩
theorem mv_X9_sees : wf_MV mX9_sees 1 := ⟨⟨w_475, w_436, ⟨by decide +kernel, by decide +kernel, by decide +kernel⟩, by decide⟩, w_476, w_477⟩
theorem mv_X9_guard : wf_MV mX9_guard 1 := ⟨⟨w_479, w_436, ⟨by decide +kernel, by decide +kernel, by decide +kernel⟩, by decide⟩, w_480, w_481⟩
theorem mv_X9_fears : wf_MV mX9_fears 1 := ⟨⟨w_483, w_436, ⟨by decide +kernel, by decide +kernel, by decide +kernel⟩, by decide⟩, w_484, w_485⟩
theorem mv_X9_becomes : wf_MV mX9_becomes 2 := ⟨⟨w_489, w_436, ⟨by decide +kernel, by decide +kernel, by decide +kernel⟩, by decide⟩, w_490, w_491⟩
theorem ms_X9_off : wf_MS mX9_off 2 := ⟨⟨w_493, w_436, ⟨by decide +kernel, by decide +kernel, by decide +kernel⟩, by decide⟩, w_494⟩
theorem mv_X9_comes : wf_MV mX9_comes 3 := ⟨⟨w_499, w_436, ⟨by decide +kernel, by decide +kernel, by decide +kernel⟩, by decide⟩, w_500, w_501⟩
theorem mv_X9_isWatcher : wf_MV mX9_isWatcher 1 := ⟨⟨w_503, w_436, ⟨by decide +kernel, by decide +kernel, by decide +kernel⟩, by decide⟩, w_504, w_505⟩
theorem mv_X9_worth : wf_MV mX9_worth 1 := ⟨⟨w_508, w_436, ⟨by decide +kernel, by decide +kernel, by decide +kernel⟩, by decide⟩, w_509, w_510⟩
theorem ms_X9_isOf : wf_MS mX9_isOf 2 := ⟨⟨w_512, w_436, ⟨by decide +kernel, by decide +kernel, by decide +kernel⟩, by decide⟩, w_513⟩
theorem ms_X9_mayBe : wf_MS mX9_mayBe 2 := ⟨⟨w_517, w_436, ⟨by decide +kernel, by decide +kernel, by decide +kernel⟩, by decide⟩, w_518⟩
theorem mv_X9_drawn : wf_MV mX9_drawn 0 := ⟨⟨w_521, w_436, ⟨by decide +kernel, by decide +kernel, by decide +kernel⟩, by decide⟩, w_522, w_523⟩
theorem mv_X9_comeTo : wf_MV mX9_comeTo 0 := ⟨⟨w_526, w_436, ⟨by decide +kernel, by decide +kernel, by decide +kernel⟩, by decide⟩, w_527, w_528⟩
theorem mv_X9_burns : wf_MV mX9_burns 0 := ⟨⟨w_531, w_436, ⟨by decide +kernel, by decide +kernel, by decide +kernel⟩, by decide⟩, w_532, w_533⟩
theorem mv_X9_comeAndTake : wf_MV mX9_comeAndTake 0 := ⟨⟨w_535, w_436, ⟨by decide +kernel, by decide +kernel, by decide +kernel⟩, by decide⟩, w_536, w_537⟩
theorem mv_X9_tires : wf_MV mX9_tires 1 := ⟨⟨w_539, w_436, ⟨by decide +kernel, by decide +kernel, by decide +kernel⟩, by decide⟩, w_540, w_541⟩
theorem mv_X9_goesOn : wf_MV mX9_goesOn 0 := ⟨⟨w_544, w_436, ⟨by decide +kernel, by decide +kernel, by decide +kernel⟩, by decide⟩, w_545, w_546⟩
theorem ms_X9_orNone : wf_MS mX9_orNone 1 := ⟨⟨w_548, w_436, ⟨by decide +kernel, by decide +kernel, by decide +kernel⟩, by decide⟩, w_549⟩
theorem mv_X9_laysBy : wf_MV mX9_laysBy 0 := ⟨⟨w_553, w_436, ⟨by decide +kernel, by decide +kernel, by decide +kernel⟩, by decide⟩, w_554, w_555⟩
theorem mv_X9_goesOnMany : wf_MV mX9_goesOnMany 1 := ⟨⟨w_557, w_436, ⟨by decide +kernel, by decide +kernel, by decide +kernel⟩, by decide⟩, w_558, w_559⟩
theorem mv_X9_allFoals : wf_MV mX9_allFoals 0 := ⟨⟨w_561, w_436, ⟨by decide +kernel, by decide +kernel, by decide +kernel⟩, by decide⟩, w_562, w_563⟩
theorem mv_X9_laysBack : wf_MV mX9_laysBack 0 := ⟨⟨w_565, w_436, ⟨by decide +kernel, by decide +kernel, by decide +kernel⟩, by decide⟩, w_566, w_567⟩
theorem mv_X9_laysFires : wf_MV mX9_laysFires 1 := ⟨⟨w_571, w_436, ⟨by decide +kernel, by decide +kernel, by decide +kernel⟩, by decide⟩, w_572, w_573⟩
theorem mv_X9_leastLight : wf_MV mX9_leastLight 0 := ⟨⟨w_575, w_436, ⟨by decide +kernel, by decide +kernel, by decide +kernel⟩, by decide⟩, w_576, w_577⟩
theorem mv_X9_isLetter : wf_MV mX9_isLetter 1 := ⟨⟨w_589, w_436, ⟨by decide +kernel, by decide +kernel, by decide +kernel⟩, by decide⟩, w_590, w_591⟩
theorem mv_X9_isDigit : wf_MV mX9_isDigit 1 := ⟨⟨w_593, w_436, ⟨by decide +kernel, by decide +kernel, by decide +kernel⟩, by decide⟩, w_594, w_595⟩
theorem mv_X9_isLong : wf_MV mX9_isLong 6 := ⟨⟨w_599, w_436, ⟨by decide +kernel, by decide +kernel, by decide +kernel⟩, by decide⟩, w_600, w_601⟩
theorem mv_X9_isWordAt : wf_MV mX9_isWordAt 4 := ⟨⟨w_603, w_436, ⟨by decide +kernel, by decide +kernel, by decide +kernel⟩, by decide⟩, w_604, w_605⟩
theorem mv_X9_both : wf_MV mX9_both 1 := ⟨⟨w_609, w_436, ⟨by decide +kernel, by decide +kernel, by decide +kernel⟩, by decide⟩, w_610, w_611⟩
theorem mv_X9_isSign : wf_MV mX9_isSign 1 := ⟨⟨w_613, w_436, ⟨by decide +kernel, by decide +kernel, by decide +kernel⟩, by decide⟩, w_614, w_615⟩
theorem mv_X9_nextToken : wf_MV mX9_nextToken 0 := ⟨⟨w_617, w_436, ⟨by decide +kernel, by decide +kernel, by decide +kernel⟩, by decide⟩, w_618, w_619⟩
theorem mv_X9_step : wf_MV mX9_step 2 := ⟨⟨w_621, w_436, ⟨by decide +kernel, by decide +kernel, by decide +kernel⟩, by decide⟩, w_622, w_623⟩
theorem mv_X9_test : wf_MV mX9_test 1 := ⟨⟨w_625, w_436, ⟨by decide +kernel, by decide +kernel, by decide +kernel⟩, by decide⟩, w_626, w_627⟩
theorem mv_X9_sum : wf_MV mX9_sum 1 := ⟨⟨w_629, w_436, ⟨by decide +kernel, by decide +kernel, by decide +kernel⟩, by decide⟩, w_630, w_631⟩
theorem mv_X9_term : wf_MV mX9_term 1 := ⟨⟨w_633, w_436, ⟨by decide +kernel, by decide +kernel, by decide +kernel⟩, by decide⟩, w_634, w_635⟩
theorem mv_X9_part0 : wf_MV mX9_part0 1 := ⟨⟨w_637, w_436, ⟨by decide +kernel, by decide +kernel, by decide +kernel⟩, by decide⟩, w_638, w_639⟩
theorem ms_X9_isName : wf_MS mX9_isName 2 := ⟨⟨w_641, w_436, ⟨by decide +kernel, by decide +kernel, by decide +kernel⟩, by decide⟩, w_642⟩
theorem mv_X9_either : wf_MV mX9_either 1 := ⟨⟨w_647, w_436, ⟨by decide +kernel, by decide +kernel, by decide +kernel⟩, by decide⟩, w_648, w_649⟩
theorem mv_X9_textAt : wf_MV mX9_textAt 1 := ⟨⟨w_651, w_436, ⟨by decide +kernel, by decide +kernel, by decide +kernel⟩, by decide⟩, w_652, w_653⟩
theorem mv_X9_key : wf_MV mX9_key 0 := ⟨⟨w_655, w_436, ⟨by decide +kernel, by decide +kernel, by decide +kernel⟩, by decide⟩, w_656, w_657⟩
theorem mv_X9_parse : wf_MV mX9_parse 0 := ⟨⟨w_659, w_436, ⟨by decide +kernel, by decide +kernel, by decide +kernel⟩, by decide⟩, w_660, w_661⟩
theorem mv_X9_isText : wf_MV mX9_isText 1 := ⟨⟨w_663, w_436, ⟨by decide +kernel, by decide +kernel, by decide +kernel⟩, by decide⟩, w_664, w_665⟩
theorem ms_X9_joined : wf_MS mX9_joined 3 := ⟨⟨w_668, w_436, ⟨by decide +kernel, by decide +kernel, by decide +kernel⟩, by decide⟩, w_669⟩
theorem ms_X9_isSheet : wf_MS mX9_isSheet 1 := ⟨⟨w_671, w_436, ⟨by decide +kernel, by decide +kernel, by decide +kernel⟩, by decide⟩, w_672⟩
theorem ms_X9_isSlot : wf_MS mX9_isSlot 1 := ⟨⟨w_685, w_436, ⟨by decide +kernel, by decide +kernel, by decide +kernel⟩, by decide⟩, w_686⟩
theorem mv_X9_setAside : wf_MV mX9_setAside 2 := ⟨⟨w_699, w_436, ⟨by decide +kernel, by decide +kernel, by decide +kernel⟩, by decide⟩, w_700, w_701⟩
theorem mv_X9_awake : wf_MV mX9_awake 0 := ⟨⟨w_705, w_436, ⟨by decide +kernel, by decide +kernel, by decide +kernel⟩, by decide⟩, w_706, w_707⟩
theorem mv_J0_coder_7d493 : wf_MV mJ0_coder_7d493 0 := ⟨⟨w_710, w_200, ⟨by decide +kernel, by decide +kernel, by decide +kernel⟩, by decide⟩, w_711, w_712⟩
theorem mv_J0_isLatin1_aae02 : wf_MV mJ0_isLatin1_aae02 0 := ⟨⟨w_714, w_200, ⟨by decide +kernel, by decide +kernel, by decide +kernel⟩, by decide⟩, w_715, w_716⟩
theorem ms_J1_charAt_3b067 : wf_MS mJ1_charAt_3b067 2 := ⟨⟨w_718, w_719, ⟨by decide +kernel, by decide +kernel, by decide +kernel⟩, by decide⟩, w_720⟩
theorem mv_J0_indexOf_7cf53 : wf_MV mJ0_indexOf_7cf53 2 := ⟨⟨w_722, w_200, ⟨by decide +kernel, by decide +kernel, by decide +kernel⟩, by decide⟩, w_723, w_724⟩
theorem ms_J1_indexOf_4cfef : wf_MS mJ1_indexOf_4cfef 4 := ⟨⟨w_727, w_719, ⟨by decide +kernel, by decide +kernel, by decide +kernel⟩, by decide⟩, w_728⟩
theorem ms_J3_checkIndex_8e157 : wf_MS mJ3_checkIndex_8e157 3 := ⟨⟨w_733, w_734, ⟨by decide +kernel, by decide +kernel, by decide +kernel⟩, by decide⟩, w_735⟩
theorem ms_J0_checkIndex_df160 : wf_MS mJ0_checkIndex_df160 2 := ⟨⟨w_737, w_200, ⟨by decide +kernel, by decide +kernel, by decide +kernel⟩, by decide⟩, w_738⟩
theorem ms_J1_canEncode_9a6ad : wf_MS mJ1_canEncode_9a6ad 1 := ⟨⟨w_740, w_719, ⟨by decide +kernel, by decide +kernel, by decide +kernel⟩, by decide⟩, w_741⟩
theorem ms_J1_indexOfChar_4cfef : wf_MS mJ1_indexOfChar_4cfef 4 := ⟨⟨w_745, w_719, ⟨by decide +kernel, by decide +kernel, by decide +kernel⟩, by decide⟩, w_746⟩
theorem gf_X0_12 : wf_FL RX0 12 0 0 := ⟨RX0, TX0, 17, rfl, gi_X0, by decide, rfl, by decide, w_0⟩
theorem gf_X0_24 : wf_FL RX0 24 0 2 := ⟨RX0, TX0, 17, rfl, gi_X0, by decide, rfl, by decide, w_6⟩
theorem pf_X0_24 : wf_PL RX0 24 0 2 .int := ⟨RX0, TX0, 17, tyX0, rfl, gi_X0, by decide, rfl, by decide, w_6, tyX0_ok, nmX0, rfl, by decide +kernel, fun _ => rfl⟩
theorem gf_X0_28 : wf_FL RX0 28 0 3 := ⟨RX0, TX0, 17, rfl, gi_X0, by decide, rfl, by decide, w_7⟩
theorem pf_X0_28 : wf_PL RX0 28 0 3 .int := ⟨RX0, TX0, 17, tyX0, rfl, gi_X0, by decide, rfl, by decide, w_7, tyX0_ok, nmX0, rfl, by decide +kernel, fun _ => rfl⟩
theorem gf_X0_31 : wf_FL RX0 31 0 4 := ⟨RX0, TX0, 17, rfl, gi_X0, by decide, rfl, by decide, w_8⟩
theorem pf_X0_31 : wf_PL RX0 31 0 4 .int := ⟨RX0, TX0, 17, tyX0, rfl, gi_X0, by decide, rfl, by decide, w_8, tyX0_ok, nmX0, rfl, by decide +kernel, fun _ => rfl⟩
theorem gf_X0_34 : wf_FL RX0 34 0 5 := ⟨RX0, TX0, 17, rfl, gi_X0, by decide, rfl, by decide, w_9⟩
theorem pf_X0_34 : wf_PL RX0 34 0 5 .int := ⟨RX0, TX0, 17, tyX0, rfl, gi_X0, by decide, rfl, by decide, w_9, tyX0_ok, nmX0, rfl, by decide +kernel, fun _ => rfl⟩
theorem gf_X0_37 : wf_FL RX0 37 0 6 := ⟨RX0, TX0, 17, rfl, gi_X0, by decide, rfl, by decide, w_10⟩
theorem pf_X0_37 : wf_PL RX0 37 0 6 .int := ⟨RX0, TX0, 17, tyX0, rfl, gi_X0, by decide, rfl, by decide, w_10, tyX0_ok, nmX0, rfl, by decide +kernel, fun _ => rfl⟩
theorem gf_X0_40 : wf_FL RX0 40 0 7 := ⟨RX0, TX0, 17, rfl, gi_X0, by decide, rfl, by decide, w_11⟩
theorem pf_X0_40 : wf_PL RX0 40 0 7 .int := ⟨RX0, TX0, 17, tyX0, rfl, gi_X0, by decide, rfl, by decide, w_11, tyX0_ok, nmX0, rfl, by decide +kernel, fun _ => rfl⟩
theorem gf_X0_43 : wf_FL RX0 43 0 8 := ⟨RX0, TX0, 17, rfl, gi_X0, by decide, rfl, by decide, w_12⟩
theorem pf_X0_43 : wf_PL RX0 43 0 8 .int := ⟨RX0, TX0, 17, tyX0, rfl, gi_X0, by decide, rfl, by decide, w_12, tyX0_ok, nmX0, rfl, by decide +kernel, fun _ => rfl⟩
theorem gf_X0_46 : wf_FL RX0 46 0 9 := ⟨RX0, TX0, 17, rfl, gi_X0, by decide, rfl, by decide, w_13⟩
theorem pf_X0_46 : wf_PL RX0 46 0 9 .int := ⟨RX0, TX0, 17, tyX0, rfl, gi_X0, by decide, rfl, by decide, w_13, tyX0_ok, nmX0, rfl, by decide +kernel, fun _ => rfl⟩
theorem gf_X0_49 : wf_FL RX0 49 0 10 := ⟨RX0, TX0, 17, rfl, gi_X0, by decide, rfl, by decide, w_14⟩
theorem pf_X0_49 : wf_PL RX0 49 0 10 .int := ⟨RX0, TX0, 17, tyX0, rfl, gi_X0, by decide, rfl, by decide, w_14, tyX0_ok, nmX0, rfl, by decide +kernel, fun _ => rfl⟩
theorem gf_X0_52 : wf_FL RX0 52 0 12 := ⟨RX0, TX0, 17, rfl, gi_X0, by decide, rfl, by decide, w_15⟩
theorem pf_X0_52 : wf_PL RX0 52 0 12 .int := ⟨RX0, TX0, 17, tyX0, rfl, gi_X0, by decide, rfl, by decide, w_15, tyX0_ok, nmX0, rfl, by decide +kernel, fun _ => rfl⟩
theorem gf_X0_56 : wf_FL RX0 56 0 13 := ⟨RX0, TX0, 17, rfl, gi_X0, by decide, rfl, by decide, w_16⟩
theorem gf_X0_20 : wf_FL RX0 20 0 1 := ⟨RX0, TX0, 17, rfl, gi_X0, by decide, rfl, by decide, w_18⟩
theorem pf_X0_92 : wf_PL RX0 92 7 0 .int := ⟨RX7, TX7, 5, tyX7, rfl, gi_X7, by decide, rfl, by decide, w_27, tyX7_ok, nmX7, rfl, by decide +kernel, fun _ => rfl⟩
theorem pf_X0_95 : wf_PL RX0 95 7 1 .int := ⟨RX7, TX7, 5, tyX7, rfl, gi_X7, by decide, rfl, by decide, w_28, tyX7_ok, nmX7, rfl, by decide +kernel, fun _ => rfl⟩
theorem pf_X0_98 : wf_PL RX0 98 7 2 .int := ⟨RX7, TX7, 5, tyX7, rfl, gi_X7, by decide, rfl, by decide, w_29, tyX7_ok, nmX7, rfl, by decide +kernel, fun _ => rfl⟩
theorem pf_X0_101 : wf_PL RX0 101 7 3 .int := ⟨RX7, TX7, 5, tyX7, rfl, gi_X7, by decide, rfl, by decide, w_30, tyX7_ok, nmX7, rfl, by decide +kernel, fun _ => rfl⟩
theorem pf_X0_104 : wf_PL RX0 104 7 4 .int := ⟨RX7, TX7, 5, tyX7, rfl, gi_X7, by decide, rfl, by decide, w_31, tyX7_ok, nmX7, rfl, by decide +kernel, fun _ => rfl⟩
theorem gf_X0_104 : wf_FL RX0 104 7 4 := ⟨RX7, TX7, 5, rfl, gi_X7, by decide, rfl, by decide, w_31⟩
theorem gf_X0_69 : wf_FL RX0 69 0 11 := ⟨RX0, TX0, 17, rfl, gi_X0, by decide, rfl, by decide, w_34⟩
theorem gf_X0_121 : wf_FL RX0 121 3 0 := ⟨RX3, TX3, 4, rfl, gi_X3, by decide, rfl, by decide, w_47⟩
theorem gf_X0_60 : wf_FL RX0 60 0 14 := ⟨RX0, TX0, 17, rfl, gi_X0, by decide, rfl, by decide, w_48⟩
theorem gf_X0_124 : wf_FL RX0 124 3 2 := ⟨RX3, TX3, 4, rfl, gi_X3, by decide, rfl, by decide, w_49⟩
theorem gf_X0_63 : wf_FL RX0 63 0 15 := ⟨RX0, TX0, 17, rfl, gi_X0, by decide, rfl, by decide, w_58⟩
theorem gf_X0_95 : wf_FL RX0 95 7 1 := ⟨RX7, TX7, 5, rfl, gi_X7, by decide, rfl, by decide, w_28⟩
theorem gf_X0_143 : wf_FL RX0 143 3 1 := ⟨RX3, TX3, 4, rfl, gi_X3, by decide, rfl, by decide, w_67⟩
theorem gf_X0_149 : wf_FL RX0 149 3 3 := ⟨RX3, TX3, 4, rfl, gi_X3, by decide, rfl, by decide, w_72⟩
theorem gf_X0_66 : wf_FL RX0 66 0 16 := ⟨RX0, TX0, 17, rfl, gi_X0, by decide, rfl, by decide, w_78⟩
theorem pf_X0_66 : wf_PL RX0 66 0 16 .int := ⟨RX0, TX0, 17, tyX0, rfl, gi_X0, by decide, rfl, by decide, w_78, tyX0_ok, nmX0, rfl, by decide +kernel, fun _ => rfl⟩
theorem gf_X0_101 : wf_FL RX0 101 7 3 := ⟨RX7, TX7, 5, rfl, gi_X7, by decide, rfl, by decide, w_30⟩
theorem gf_X0_98 : wf_FL RX0 98 7 2 := ⟨RX7, TX7, 5, rfl, gi_X7, by decide, rfl, by decide, w_29⟩
theorem gf_X1_11 : wf_FL RX1 11 1 0 := ⟨RX1, TX1, 4, rfl, gi_X1, by decide, rfl, by decide, w_101⟩
theorem pf_X1_15 : wf_PL RX1 15 1 1 .int := ⟨RX1, TX1, 4, tyX1, rfl, gi_X1, by decide, rfl, by decide, w_102, tyX1_ok, nmX1, rfl, by decide +kernel, fun _ => rfl⟩
theorem gf_X1_31 : wf_FL RX1 31 0 0 := ⟨RX0, TX0, 17, rfl, gi_X0, by decide, rfl, by decide, w_103⟩
theorem gf_X1_35 : wf_FL RX1 35 3 0 := ⟨RX3, TX3, 4, rfl, gi_X3, by decide, rfl, by decide, w_104⟩
theorem gf_X1_15 : wf_FL RX1 15 1 1 := ⟨RX1, TX1, 4, rfl, gi_X1, by decide, rfl, by decide, w_102⟩
theorem pf_X1_19 : wf_PL RX1 19 1 2 .int := ⟨RX1, TX1, 4, tyX1, rfl, gi_X1, by decide, rfl, by decide, w_116, tyX1_ok, nmX1, rfl, by decide +kernel, fun _ => rfl⟩
theorem pf_X1_22 : wf_PL RX1 22 1 3 .int := ⟨RX1, TX1, 4, tyX1, rfl, gi_X1, by decide, rfl, by decide, w_117, tyX1_ok, nmX1, rfl, by decide +kernel, fun _ => rfl⟩
theorem gf_X1_19 : wf_FL RX1 19 1 2 := ⟨RX1, TX1, 4, rfl, gi_X1, by decide, rfl, by decide, w_116⟩
theorem gf_X1_53 : wf_FL RX1 53 3 2 := ⟨RX3, TX3, 4, rfl, gi_X3, by decide, rfl, by decide, w_118⟩
theorem pf_X2_9 : wf_PL RX2 9 2 0 .int := ⟨RX2, TX2, 5, tyX2, rfl, gi_X2, by decide, rfl, by decide, w_120, tyX2_ok, nmX2, rfl, by decide +kernel, fun _ => rfl⟩
theorem pf_X2_15 : wf_PL RX2 15 2 1 .int := ⟨RX2, TX2, 5, tyX2, rfl, gi_X2, by decide, rfl, by decide, w_121, tyX2_ok, nmX2, rfl, by decide +kernel, fun _ => rfl⟩
theorem pf_X2_22 : wf_PL RX2 22 2 3 .int := ⟨RX2, TX2, 5, tyX2, rfl, gi_X2, by decide, rfl, by decide, w_122, tyX2_ok, nmX2, rfl, by decide +kernel, fun _ => rfl⟩
theorem gf_X2_15 : wf_FL RX2 15 2 1 := ⟨RX2, TX2, 5, rfl, gi_X2, by decide, rfl, by decide, w_121⟩
theorem gf_X2_22 : wf_FL RX2 22 2 3 := ⟨RX2, TX2, 5, rfl, gi_X2, by decide, rfl, by decide, w_122⟩
theorem gf_X2_18 : wf_FL RX2 18 2 2 := ⟨RX2, TX2, 5, rfl, gi_X2, by decide, rfl, by decide, w_127⟩
theorem gf_X2_25 : wf_FL RX2 25 2 4 := ⟨RX2, TX2, 5, rfl, gi_X2, by decide, rfl, by decide, w_128⟩
theorem gf_X3_9 : wf_FL RX3 9 3 0 := ⟨RX3, TX3, 4, rfl, gi_X3, by decide, rfl, by decide, w_135⟩
theorem gf_X3_15 : wf_FL RX3 15 3 1 := ⟨RX3, TX3, 4, rfl, gi_X3, by decide, rfl, by decide, w_136⟩
theorem gf_X3_19 : wf_FL RX3 19 3 2 := ⟨RX3, TX3, 4, rfl, gi_X3, by decide, rfl, by decide, w_137⟩
theorem gf_X3_22 : wf_FL RX3 22 3 3 := ⟨RX3, TX3, 4, rfl, gi_X3, by decide, rfl, by decide, w_138⟩
theorem pf_X3_9 : wf_PL RX3 9 3 0 .int := ⟨RX3, TX3, 4, tyX3, rfl, gi_X3, by decide, rfl, by decide, w_135, tyX3_ok, nmX3, rfl, by decide +kernel, fun _ => rfl⟩
theorem gf_X4_15 : wf_FL RX4 15 4 1 := ⟨RX4, TX4, 3, rfl, gi_X4, by decide, rfl, by decide, w_142⟩
theorem pf_X4_9 : wf_PL RX4 9 4 0 .int := ⟨RX4, TX4, 3, tyX4, rfl, gi_X4, by decide, rfl, by decide, w_143, tyX4_ok, nmX4, rfl, by decide +kernel, fun _ => rfl⟩
theorem pf_X4_15 : wf_PL RX4 15 4 1 .int := ⟨RX4, TX4, 3, tyX4, rfl, gi_X4, by decide, rfl, by decide, w_142, tyX4_ok, nmX4, rfl, by decide +kernel, fun _ => rfl⟩
theorem gf_X4_18 : wf_FL RX4 18 4 2 := ⟨RX4, TX4, 3, rfl, gi_X4, by decide, rfl, by decide, w_144⟩
theorem gf_X4_9 : wf_FL RX4 9 4 0 := ⟨RX4, TX4, 3, rfl, gi_X4, by decide, rfl, by decide, w_143⟩
theorem gf_X4_45 : wf_FL RX4 45 3 1 := ⟨RX3, TX3, 4, rfl, gi_X3, by decide, rfl, by decide, w_152⟩
theorem gf_X6_15 : wf_FL RX6 15 6 1 := ⟨RX6, TX6, 9, rfl, gi_X6, by decide, rfl, by decide, w_154⟩
theorem gf_X6_9 : wf_FL RX6 9 6 0 := ⟨RX6, TX6, 9, rfl, gi_X6, by decide, rfl, by decide, w_155⟩
theorem pf_X6_15 : wf_PL RX6 15 6 1 .int := ⟨RX6, TX6, 9, tyX6, rfl, gi_X6, by decide, rfl, by decide, w_154, tyX6_ok, nmX6, rfl, by decide +kernel, fun _ => rfl⟩
theorem pf_X6_22 : wf_PL RX6 22 6 3 .int := ⟨RX6, TX6, 9, tyX6, rfl, gi_X6, by decide, rfl, by decide, w_156, tyX6_ok, nmX6, rfl, by decide +kernel, fun _ => rfl⟩
theorem pf_X6_28 : wf_PL RX6 28 6 5 .int := ⟨RX6, TX6, 9, tyX6, rfl, gi_X6, by decide, rfl, by decide, w_157, tyX6_ok, nmX6, rfl, by decide +kernel, fun _ => rfl⟩
theorem pf_X6_31 : wf_PL RX6 31 6 6 .int := ⟨RX6, TX6, 9, tyX6, rfl, gi_X6, by decide, rfl, by decide, w_158, tyX6_ok, nmX6, rfl, by decide +kernel, fun _ => rfl⟩
theorem pf_X6_34 : wf_PL RX6 34 6 7 .int := ⟨RX6, TX6, 9, tyX6, rfl, gi_X6, by decide, rfl, by decide, w_159, tyX6_ok, nmX6, rfl, by decide +kernel, fun _ => rfl⟩
theorem pf_X6_37 : wf_PL RX6 37 6 8 .boolean := ⟨RX6, TX6, 9, tyX6, rfl, gi_X6, by decide, rfl, by decide, w_160, tyX6_ok, nmX6, rfl, by decide +kernel, fun _ => rfl⟩
theorem gf_X6_22 : wf_FL RX6 22 6 3 := ⟨RX6, TX6, 9, rfl, gi_X6, by decide, rfl, by decide, w_156⟩
theorem gf_X6_19 : wf_FL RX6 19 6 2 := ⟨RX6, TX6, 9, rfl, gi_X6, by decide, rfl, by decide, w_174⟩
theorem gf_X6_37 : wf_FL RX6 37 6 8 := ⟨RX6, TX6, 9, rfl, gi_X6, by decide, rfl, by decide, w_160⟩
theorem gf_X6_31 : wf_FL RX6 31 6 6 := ⟨RX6, TX6, 9, rfl, gi_X6, by decide, rfl, by decide, w_158⟩
theorem pf_X6_19 : wf_PL RX6 19 6 2 .int := ⟨RX6, TX6, 9, tyX6, rfl, gi_X6, by decide, rfl, by decide, w_174, tyX6_ok, nmX6, rfl, by decide +kernel, fun _ => rfl⟩
theorem gf_X6_107 : wf_FL RX6 107 2 0 := ⟨RX2, TX2, 5, rfl, gi_X2, by decide, rfl, by decide, w_220⟩
theorem gf_X6_34 : wf_FL RX6 34 6 7 := ⟨RX6, TX6, 9, rfl, gi_X6, by decide, rfl, by decide, w_159⟩
theorem gf_X6_28 : wf_FL RX6 28 6 5 := ⟨RX6, TX6, 9, rfl, gi_X6, by decide, rfl, by decide, w_157⟩
theorem gf_X6_25 : wf_FL RX6 25 6 4 := ⟨RX6, TX6, 9, rfl, gi_X6, by decide, rfl, by decide, w_244⟩
theorem gf_X7_9 : wf_FL RX7 9 7 0 := ⟨RX7, TX7, 5, rfl, gi_X7, by decide, rfl, by decide, w_256⟩
theorem gf_X7_24 : wf_FL RX7 24 7 4 := ⟨RX7, TX7, 5, rfl, gi_X7, by decide, rfl, by decide, w_259⟩
theorem gf_X7_18 : wf_FL RX7 18 7 2 := ⟨RX7, TX7, 5, rfl, gi_X7, by decide, rfl, by decide, w_264⟩
theorem gf_X7_21 : wf_FL RX7 21 7 3 := ⟨RX7, TX7, 5, rfl, gi_X7, by decide, rfl, by decide, w_265⟩
theorem pf_X7_9 : wf_PL RX7 9 7 0 .int := ⟨RX7, TX7, 5, tyX7, rfl, gi_X7, by decide, rfl, by decide, w_256, tyX7_ok, nmX7, rfl, by decide +kernel, fun _ => rfl⟩
theorem gf_X7_15 : wf_FL RX7 15 7 1 := ⟨RX7, TX7, 5, rfl, gi_X7, by decide, rfl, by decide, w_267⟩
theorem pf_X7_15 : wf_PL RX7 15 7 1 .int := ⟨RX7, TX7, 5, tyX7, rfl, gi_X7, by decide, rfl, by decide, w_267, tyX7_ok, nmX7, rfl, by decide +kernel, fun _ => rfl⟩
theorem pf_X7_18 : wf_PL RX7 18 7 2 .int := ⟨RX7, TX7, 5, tyX7, rfl, gi_X7, by decide, rfl, by decide, w_264, tyX7_ok, nmX7, rfl, by decide +kernel, fun _ => rfl⟩
theorem pf_X7_21 : wf_PL RX7 21 7 3 .int := ⟨RX7, TX7, 5, tyX7, rfl, gi_X7, by decide, rfl, by decide, w_265, tyX7_ok, nmX7, rfl, by decide +kernel, fun _ => rfl⟩
theorem pf_X7_24 : wf_PL RX7 24 7 4 .int := ⟨RX7, TX7, 5, tyX7, rfl, gi_X7, by decide, rfl, by decide, w_259, tyX7_ok, nmX7, rfl, by decide +kernel, fun _ => rfl⟩
theorem gf_X8_60 : wf_FL RX8 60 8 1 := ⟨RX8, TX8, 11, rfl, gi_X8, by decide, rfl, by decide, w_269⟩
theorem gf_X8_82 : wf_FL RX8 82 0 0 := ⟨RX0, TX0, 17, rfl, gi_X0, by decide, rfl, by decide, w_270⟩
theorem gf_X8_103 : wf_FL RX8 103 0 14 := ⟨RX0, TX0, 17, rfl, gi_X0, by decide, rfl, by decide, w_278⟩
theorem gf_X8_106 : wf_FL RX8 106 0 15 := ⟨RX0, TX0, 17, rfl, gi_X0, by decide, rfl, by decide, w_279⟩
theorem gf_X8_117 : wf_FL RX8 117 3 0 := ⟨RX3, TX3, 4, rfl, gi_X3, by decide, rfl, by decide, w_286⟩
theorem gf_X8_130 : wf_FL RX8 130 0 5 := ⟨RX0, TX0, 17, rfl, gi_X0, by decide, rfl, by decide, w_288⟩
theorem pf_X8_130 : wf_PL RX8 130 0 5 .int := ⟨RX0, TX0, 17, tyX0, rfl, gi_X0, by decide, rfl, by decide, w_288, tyX0_ok, nmX0, rfl, by decide +kernel, fun _ => rfl⟩
theorem gf_X8_127 : wf_FL RX8 127 0 4 := ⟨RX0, TX0, 17, rfl, gi_X0, by decide, rfl, by decide, w_289⟩
theorem pf_X8_127 : wf_PL RX8 127 0 4 .int := ⟨RX0, TX0, 17, tyX0, rfl, gi_X0, by decide, rfl, by decide, w_289, tyX0_ok, nmX0, rfl, by decide +kernel, fun _ => rfl⟩
theorem gf_X8_124 : wf_FL RX8 124 0 3 := ⟨RX0, TX0, 17, rfl, gi_X0, by decide, rfl, by decide, w_290⟩
theorem pf_X8_124 : wf_PL RX8 124 0 3 .int := ⟨RX0, TX0, 17, tyX0, rfl, gi_X0, by decide, rfl, by decide, w_290, tyX0_ok, nmX0, rfl, by decide +kernel, fun _ => rfl⟩
theorem gf_X8_143 : wf_FL RX8 143 0 1 := ⟨RX0, TX0, 17, rfl, gi_X0, by decide, rfl, by decide, w_300⟩
theorem gf_X8_147 : wf_FL RX8 147 7 0 := ⟨RX7, TX7, 5, rfl, gi_X7, by decide, rfl, by decide, w_301⟩
theorem gf_X8_152 : wf_FL RX8 152 7 1 := ⟨RX7, TX7, 5, rfl, gi_X7, by decide, rfl, by decide, w_302⟩
theorem gf_X8_155 : wf_FL RX8 155 7 2 := ⟨RX7, TX7, 5, rfl, gi_X7, by decide, rfl, by decide, w_303⟩
theorem gf_X8_158 : wf_FL RX8 158 7 3 := ⟨RX7, TX7, 5, rfl, gi_X7, by decide, rfl, by decide, w_304⟩
theorem gf_X8_161 : wf_FL RX8 161 7 4 := ⟨RX7, TX7, 5, rfl, gi_X7, by decide, rfl, by decide, w_305⟩
theorem pf_X8_147 : wf_PL RX8 147 7 0 .int := ⟨RX7, TX7, 5, tyX7, rfl, gi_X7, by decide, rfl, by decide, w_301, tyX7_ok, nmX7, rfl, by decide +kernel, fun _ => rfl⟩
theorem pf_X8_152 : wf_PL RX8 152 7 1 .int := ⟨RX7, TX7, 5, tyX7, rfl, gi_X7, by decide, rfl, by decide, w_302, tyX7_ok, nmX7, rfl, by decide +kernel, fun _ => rfl⟩
theorem pf_X8_155 : wf_PL RX8 155 7 2 .int := ⟨RX7, TX7, 5, tyX7, rfl, gi_X7, by decide, rfl, by decide, w_303, tyX7_ok, nmX7, rfl, by decide +kernel, fun _ => rfl⟩
theorem pf_X8_158 : wf_PL RX8 158 7 3 .int := ⟨RX7, TX7, 5, tyX7, rfl, gi_X7, by decide, rfl, by decide, w_304, tyX7_ok, nmX7, rfl, by decide +kernel, fun _ => rfl⟩
theorem pf_X8_161 : wf_PL RX8 161 7 4 .int := ⟨RX7, TX7, 5, tyX7, rfl, gi_X7, by decide, rfl, by decide, w_305, tyX7_ok, nmX7, rfl, by decide +kernel, fun _ => rfl⟩
theorem gf_X8_180 : wf_FL RX8 180 0 2 := ⟨RX0, TX0, 17, rfl, gi_X0, by decide, rfl, by decide, w_319⟩
theorem gf_X8_189 : wf_FL RX8 189 0 10 := ⟨RX0, TX0, 17, rfl, gi_X0, by decide, rfl, by decide, w_325⟩
theorem pf_X8_189 : wf_PL RX8 189 0 10 .int := ⟨RX0, TX0, 17, tyX0, rfl, gi_X0, by decide, rfl, by decide, w_325, tyX0_ok, nmX0, rfl, by decide +kernel, fun _ => rfl⟩
theorem gf_X8_192 : wf_FL RX8 192 0 8 := ⟨RX0, TX0, 17, rfl, gi_X0, by decide, rfl, by decide, w_326⟩
theorem gf_X8_195 : wf_FL RX8 195 0 6 := ⟨RX0, TX0, 17, rfl, gi_X0, by decide, rfl, by decide, w_327⟩
theorem gf_X8_202 : wf_FL RX8 202 0 7 := ⟨RX0, TX0, 17, rfl, gi_X0, by decide, rfl, by decide, w_332⟩
theorem gf_X8_205 : wf_FL RX8 205 0 9 := ⟨RX0, TX0, 17, rfl, gi_X0, by decide, rfl, by decide, w_333⟩
theorem gf_X8_67 : wf_FL RX8 67 8 3 := ⟨RX8, TX8, 11, rfl, gi_X8, by decide, rfl, by decide, w_335⟩
theorem gf_X8_10 : wf_FL RX8 10 8 4 := ⟨RX8, TX8, 11, rfl, gi_X8, by decide, rfl, by decide, w_346⟩
theorem gf_X8_227 : wf_FL RX8 227 1 1 := ⟨RX1, TX1, 4, rfl, gi_X1, by decide, rfl, by decide, w_351⟩
theorem gf_X8_229 : wf_FL RX8 229 1 2 := ⟨RX1, TX1, 4, rfl, gi_X1, by decide, rfl, by decide, w_352⟩
theorem gf_X8_232 : wf_FL RX8 232 1 3 := ⟨RX1, TX1, 4, rfl, gi_X1, by decide, rfl, by decide, w_353⟩
theorem gf_X8_25 : wf_FL RX8 25 8 6 := ⟨RX8, TX8, 11, rfl, gi_X8, by decide, rfl, by decide, w_361⟩
theorem gf_X8_241 : wf_FL RX8 241 4 0 := ⟨RX4, TX4, 3, rfl, gi_X4, by decide, rfl, by decide, w_362⟩
theorem gf_X8_19 : wf_FL RX8 19 8 5 := ⟨RX8, TX8, 11, rfl, gi_X8, by decide, rfl, by decide, w_369⟩
theorem gf_X8_249 : wf_FL RX8 249 6 1 := ⟨RX6, TX6, 9, rfl, gi_X6, by decide, rfl, by decide, w_370⟩
theorem pf_X8_249 : wf_PL RX8 249 6 1 .int := ⟨RX6, TX6, 9, tyX6, rfl, gi_X6, by decide, rfl, by decide, w_370, tyX6_ok, nmX6, rfl, by decide +kernel, fun _ => rfl⟩
theorem gf_X8_51 : wf_FL RX8 51 8 0 := ⟨RX8, TX8, 11, rfl, gi_X8, by decide, rfl, by decide, w_376⟩
theorem gf_X8_254 : wf_FL RX8 254 0 12 := ⟨RX0, TX0, 17, rfl, gi_X0, by decide, rfl, by decide, w_377⟩
theorem gf_X8_261 : wf_FL RX8 261 0 13 := ⟨RX0, TX0, 17, rfl, gi_X0, by decide, rfl, by decide, w_382⟩
theorem gf_X8_264 : wf_FL RX8 264 2 0 := ⟨RX2, TX2, 5, rfl, gi_X2, by decide, rfl, by decide, w_383⟩
theorem pf_X8_254 : wf_PL RX8 254 0 12 .int := ⟨RX0, TX0, 17, tyX0, rfl, gi_X0, by decide, rfl, by decide, w_377, tyX0_ok, nmX0, rfl, by decide +kernel, fun _ => rfl⟩
theorem gf_X8_267 : wf_FL RX8 267 2 1 := ⟨RX2, TX2, 5, rfl, gi_X2, by decide, rfl, by decide, w_384⟩
theorem gf_X8_277 : wf_FL RX8 277 4 2 := ⟨RX4, TX4, 3, rfl, gi_X4, by decide, rfl, by decide, w_394⟩
theorem gf_X8_282 : wf_FL RX8 282 4 1 := ⟨RX4, TX4, 3, rfl, gi_X4, by decide, rfl, by decide, w_398⟩
theorem gf_X8_286 : wf_FL RX8 286 3 1 := ⟨RX3, TX3, 4, rfl, gi_X3, by decide, rfl, by decide, w_400⟩
theorem gf_X8_31 : wf_FL RX8 31 8 7 := ⟨RX8, TX8, 11, rfl, gi_X8, by decide, rfl, by decide, w_409⟩
theorem gf_X8_301 : wf_FL RX8 301 5 0 := ⟨RX5, TX5, 4, rfl, gi_X5, by decide, rfl, by decide, w_410⟩
theorem pf_X8_301 : wf_PL RX8 301 5 0 .int := ⟨RX5, TX5, 4, tyX5, rfl, gi_X5, by decide, rfl, by decide, w_410, tyX5_ok, nmX5, rfl, by decide +kernel, fun _ => rfl⟩
theorem pf_X8_318 : wf_PL RX8 318 5 1 .int := ⟨RX5, TX5, 4, tyX5, rfl, gi_X5, by decide, rfl, by decide, w_411, tyX5_ok, nmX5, rfl, by decide +kernel, fun _ => rfl⟩
theorem gf_X8_311 : wf_FL RX8 311 5 3 := ⟨RX5, TX5, 4, rfl, gi_X5, by decide, rfl, by decide, w_412⟩
theorem gf_X8_304 : wf_FL RX8 304 5 2 := ⟨RX5, TX5, 4, rfl, gi_X5, by decide, rfl, by decide, w_417⟩
theorem gf_X8_318 : wf_FL RX8 318 5 1 := ⟨RX5, TX5, 4, rfl, gi_X5, by decide, rfl, by decide, w_411⟩
theorem gf_X8_39 : wf_FL RX8 39 8 9 := ⟨RX8, TX8, 11, rfl, gi_X8, by decide, rfl, by decide, w_420⟩
theorem gf_X8_35 : wf_FL RX8 35 8 8 := ⟨RX8, TX8, 11, rfl, gi_X8, by decide, rfl, by decide, w_421⟩
theorem pf_X8_39 : wf_PL RX8 39 8 9 .int := ⟨RX8, TX8, 11, tyX8, rfl, gi_X8, by decide, rfl, by decide, w_420, tyX8_ok, nmX8, rfl, by decide +kernel, fun _ => rfl⟩
theorem gf_X8_43 : wf_FL RX8 43 8 10 := ⟨RX8, TX8, 11, rfl, gi_X8, by decide, rfl, by decide, w_422⟩
theorem gf_X8_64 : wf_FL RX8 64 8 2 := ⟨RX8, TX8, 11, rfl, gi_X8, by decide, rfl, by decide, w_423⟩
theorem pf_X8_43 : wf_PL RX8 43 8 10 .boolean := ⟨RX8, TX8, 11, tyX8, rfl, gi_X8, by decide, rfl, by decide, w_422, tyX8_ok, nmX8, rfl, by decide +kernel, fun _ => rfl⟩
theorem gf_X9_7 : wf_FL RX9 7 9 0 := ⟨RX9, TX9, 33, rfl, gi_X9, by decide, rfl, by decide, w_434⟩
theorem gf_X9_49 : wf_FL RX9 49 9 27 := ⟨RX9, TX9, 33, rfl, gi_X9, by decide, rfl, by decide, w_455⟩
theorem pf_X9_154 : wf_PL RX9 154 9 12 .boolean := ⟨RX9, TX9, 33, tyX9, rfl, gi_X9, by decide, rfl, by decide, w_525, tyX9_ok, nmX9, rfl, by decide +kernel, fun _ => rfl⟩
theorem pf_X9_161 : wf_PL RX9 161 9 13 .int := ⟨RX9, TX9, 33, tyX9, rfl, gi_X9, by decide, rfl, by decide, w_530, tyX9_ok, nmX9, rfl, by decide +kernel, fun _ => rfl⟩
theorem gf_X9_161 : wf_FL RX9 161 9 13 := ⟨RX9, TX9, 33, rfl, gi_X9, by decide, rfl, by decide, w_530⟩
theorem gf_X9_43 : wf_FL RX9 43 9 14 := ⟨RX9, TX9, 33, rfl, gi_X9, by decide, rfl, by decide, w_551⟩
theorem gf_X9_154 : wf_FL RX9 154 9 12 := ⟨RX9, TX9, 33, rfl, gi_X9, by decide, rfl, by decide, w_525⟩
theorem gf_X9_209 : wf_FL RX9 209 9 16 := ⟨RX9, TX9, 33, rfl, gi_X9, by decide, rfl, by decide, w_580⟩
theorem gf_X9_46 : wf_FL RX9 46 9 15 := ⟨RX9, TX9, 33, rfl, gi_X9, by decide, rfl, by decide, w_581⟩
theorem pf_X9_209 : wf_PL RX9 209 9 16 .int := ⟨RX9, TX9, 33, tyX9, rfl, gi_X9, by decide, rfl, by decide, w_580, tyX9_ok, nmX9, rfl, by decide +kernel, fun _ => rfl⟩
theorem gf_X9_220 : wf_FL RX9 220 9 18 := ⟨RX9, TX9, 33, rfl, gi_X9, by decide, rfl, by decide, w_586⟩
theorem gf_X9_223 : wf_FL RX9 223 9 19 := ⟨RX9, TX9, 33, rfl, gi_X9, by decide, rfl, by decide, w_587⟩
theorem pf_X9_220 : wf_PL RX9 220 9 18 .int := ⟨RX9, TX9, 33, tyX9, rfl, gi_X9, by decide, rfl, by decide, w_586, tyX9_ok, nmX9, rfl, by decide +kernel, fun _ => rfl⟩
theorem pf_X9_226 : wf_PL RX9 226 9 17 .int := ⟨RX9, TX9, 33, tyX9, rfl, gi_X9, by decide, rfl, by decide, w_588, tyX9_ok, nmX9, rfl, by decide +kernel, fun _ => rfl⟩
theorem gf_X9_226 : wf_FL RX9 226 9 17 := ⟨RX9, TX9, 33, rfl, gi_X9, by decide, rfl, by decide, w_588⟩
theorem pf_X9_223 : wf_PL RX9 223 9 19 .int := ⟨RX9, TX9, 33, tyX9, rfl, gi_X9, by decide, rfl, by decide, w_587, tyX9_ok, nmX9, rfl, by decide +kernel, fun _ => rfl⟩
theorem pf_X9_232 : wf_PL RX9 232 9 21 .int := ⟨RX9, TX9, 33, tyX9, rfl, gi_X9, by decide, rfl, by decide, w_597, tyX9_ok, nmX9, rfl, by decide +kernel, fun _ => rfl⟩
theorem pf_X9_238 : wf_PL RX9 238 9 20 .int := ⟨RX9, TX9, 33, tyX9, rfl, gi_X9, by decide, rfl, by decide, w_598, tyX9_ok, nmX9, rfl, by decide +kernel, fun _ => rfl⟩
theorem gf_X9_238 : wf_FL RX9 238 9 20 := ⟨RX9, TX9, 33, rfl, gi_X9, by decide, rfl, by decide, w_598⟩
theorem gf_X9_232 : wf_FL RX9 232 9 21 := ⟨RX9, TX9, 33, rfl, gi_X9, by decide, rfl, by decide, w_597⟩
theorem gf_X9_249 : wf_FL RX9 249 9 25 := ⟨RX9, TX9, 33, rfl, gi_X9, by decide, rfl, by decide, w_607⟩
theorem gf_X9_252 : wf_FL RX9 252 9 24 := ⟨RX9, TX9, 33, rfl, gi_X9, by decide, rfl, by decide, w_608⟩
theorem pf_X9_252 : wf_PL RX9 252 9 24 .int := ⟨RX9, TX9, 33, tyX9, rfl, gi_X9, by decide, rfl, by decide, w_608, tyX9_ok, nmX9, rfl, by decide +kernel, fun _ => rfl⟩
theorem gf_X9_280 : wf_FL RX9 280 9 26 := ⟨RX9, TX9, 33, rfl, gi_X9, by decide, rfl, by decide, w_644⟩
theorem pf_X9_280 : wf_PL RX9 280 9 26 .int := ⟨RX9, TX9, 33, tyX9, rfl, gi_X9, by decide, rfl, by decide, w_644, tyX9_ok, nmX9, rfl, by decide +kernel, fun _ => rfl⟩
theorem gf_X9_286 : wf_FL RX9 286 9 23 := ⟨RX9, TX9, 33, rfl, gi_X9, by decide, rfl, by decide, w_645⟩
theorem pf_X9_286 : wf_PL RX9 286 9 23 .int := ⟨RX9, TX9, 33, tyX9, rfl, gi_X9, by decide, rfl, by decide, w_645, tyX9_ok, nmX9, rfl, by decide +kernel, fun _ => rfl⟩
theorem gf_X9_289 : wf_FL RX9 289 9 22 := ⟨RX9, TX9, 33, rfl, gi_X9, by decide, rfl, by decide, w_646⟩
theorem pf_X9_289 : wf_PL RX9 289 9 22 .int := ⟨RX9, TX9, 33, tyX9, rfl, gi_X9, by decide, rfl, by decide, w_646, tyX9_ok, nmX9, rfl, by decide +kernel, fun _ => rfl⟩
theorem pf_X9_249 : wf_PL RX9 249 9 25 .int := ⟨RX9, TX9, 33, tyX9, rfl, gi_X9, by decide, rfl, by decide, w_607, tyX9_ok, nmX9, rfl, by decide +kernel, fun _ => rfl⟩
theorem gf_X9_52 : wf_FL RX9 52 9 28 := ⟨RX9, TX9, 33, rfl, gi_X9, by decide, rfl, by decide, w_667⟩
theorem gf_X9_19 : wf_FL RX9 19 9 4 := ⟨RX9, TX9, 33, rfl, gi_X9, by decide, rfl, by decide, w_676⟩
theorem gf_X9_22 : wf_FL RX9 22 9 5 := ⟨RX9, TX9, 33, rfl, gi_X9, by decide, rfl, by decide, w_677⟩
theorem gf_X9_25 : wf_FL RX9 25 9 6 := ⟨RX9, TX9, 33, rfl, gi_X9, by decide, rfl, by decide, w_678⟩
theorem gf_X9_55 : wf_FL RX9 55 9 29 := ⟨RX9, TX9, 33, rfl, gi_X9, by decide, rfl, by decide, w_683⟩
theorem gf_X9_28 : wf_FL RX9 28 9 7 := ⟨RX9, TX9, 33, rfl, gi_X9, by decide, rfl, by decide, w_688⟩
theorem gf_X9_31 : wf_FL RX9 31 9 8 := ⟨RX9, TX9, 33, rfl, gi_X9, by decide, rfl, by decide, w_689⟩
theorem gf_X9_34 : wf_FL RX9 34 9 9 := ⟨RX9, TX9, 33, rfl, gi_X9, by decide, rfl, by decide, w_690⟩
theorem gf_X9_37 : wf_FL RX9 37 9 10 := ⟨RX9, TX9, 33, rfl, gi_X9, by decide, rfl, by decide, w_691⟩
theorem gf_X9_40 : wf_FL RX9 40 9 11 := ⟨RX9, TX9, 33, rfl, gi_X9, by decide, rfl, by decide, w_692⟩
theorem gf_X9_329 : wf_FL RX9 329 9 31 := ⟨RX9, TX9, 33, rfl, gi_X9, by decide, rfl, by decide, w_694⟩
theorem gf_X9_58 : wf_FL RX9 58 9 30 := ⟨RX9, TX9, 33, rfl, gi_X9, by decide, rfl, by decide, w_695⟩
theorem pf_X9_329 : wf_PL RX9 329 9 31 .int := ⟨RX9, TX9, 33, tyX9, rfl, gi_X9, by decide, rfl, by decide, w_694, tyX9_ok, nmX9, rfl, by decide +kernel, fun _ => rfl⟩
theorem gf_X9_334 : wf_FL RX9 334 9 3 := ⟨RX9, TX9, 33, rfl, gi_X9, by decide, rfl, by decide, w_697⟩
theorem gf_X9_16 : wf_FL RX9 16 9 2 := ⟨RX9, TX9, 33, rfl, gi_X9, by decide, rfl, by decide, w_698⟩
theorem gf_X9_13 : wf_FL RX9 13 9 1 := ⟨RX9, TX9, 33, rfl, gi_X9, by decide, rfl, by decide, w_703⟩
theorem gf_X9_61 : wf_FL RX9 61 9 32 := ⟨RX9, TX9, 33, rfl, gi_X9, by decide, rfl, by decide, w_704⟩
theorem pf_X9_334 : wf_PL RX9 334 9 3 .boolean := ⟨RX9, TX9, 33, tyX9, rfl, gi_X9, by decide, rfl, by decide, w_697, tyX9_ok, nmX9, rfl, by decide +kernel, fun _ => rfl⟩
theorem sh_a0 : wf_sh 0 = (8, 0) := rfl
theorem sh_a1 : wf_sh 1 = (1, 0) := rfl
theorem sh_a2 : wf_sh 2 = (20, 28) := rfl
theorem sh_a3 : wf_sh 3 = (6, 0) := rfl
theorem sh_a4 : wf_sh 4 = (20, 96) := rfl
theorem sh_a5 : wf_sh 5 = (20, 96) := rfl
theorem sh_a6 : wf_sh 6 = (23, 4) := rfl
theorem sh_a7 : wf_sh 7 = (24, 5) := rfl
theorem sh_a8 : wf_sh 8 = (20, 60) := rfl
theorem sh_a9 : wf_sh 9 = (20, 96) := rfl
theorem sh_a10 : wf_sh 10 = (21, 15) := rfl
theorem sh_a41 : wf_sh 41 = (0, 0) := rfl
theorem sh_a42 : wf_sh 42 = (3, 0) := rfl
theorem sh_a43 : wf_sh 43 = (20, 12) := rfl
theorem sh_a46 : wf_sh 46 = (22, 8) := rfl
theorem sh_a47 : wf_sh 47 = (20, 3) := rfl
theorem sh_a48 : wf_sh 48 = (20, 12) := rfl
theorem sh_a49 : wf_sh 49 = (20, 12) := rfl
theorem sh_a58 : wf_sh 58 = (0, 0) := rfl
theorem sh_a75 : wf_sh 75 = (0, 0) := rfl
theorem sh_a76 : wf_sh 76 = (3, 0) := rfl
theorem sh_a80 : wf_sh 80 = (22, 8) := rfl
theorem sh_a120 : wf_sh 120 = (9, 0) := rfl
theorem sh_a121 : wf_sh 121 = (20, 3088) := rfl
theorem sh_a122 : wf_sh 122 = (20, 3088) := rfl
theorem sh_a123 : wf_sh 123 = (20, 3088) := rfl
theorem sh_a124 : wf_sh 124 = (20, 4) := rfl
theorem sh_a125 : wf_sh 125 = (20, 4) := rfl
theorem sh_a126 : wf_sh 126 = (20, 96) := rfl
theorem sh_a127 : wf_sh 127 = (20, 5) := rfl
theorem sh_a128 : wf_sh 128 = (20, 5) := rfl
theorem sh_a129 : wf_sh 129 = (20, 5) := rfl
theorem sh_a130 : wf_sh 130 = (20, 5) := rfl
theorem sh_a131 : wf_sh 131 = (20, 120) := rfl
theorem sh_a132 : wf_sh 132 = (20, 88) := rfl
theorem sh_a133 : wf_sh 133 = (20, 96) := rfl
theorem sh_a134 : wf_sh 134 = (20, 128) := rfl
theorem sh_a135 : wf_sh 135 = (20, 100) := rfl
theorem sh_a136 : wf_sh 136 = (20, 24) := rfl
theorem sh_a137 : wf_sh 137 = (20, 60) := rfl
theorem sh_a138 : wf_sh 138 = (20, 60) := rfl
