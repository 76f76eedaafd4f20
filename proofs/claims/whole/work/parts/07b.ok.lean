set_option maxRecDepth 100000 in
theorem kX0_init : am_ok0 mX0_init := ⟨by decide +kernel, rfl⟩
set_option maxRecDepth 100000 in
theorem kX11_within : am_ok0 mX11_within := ⟨by decide +kernel, rfl⟩
set_option maxRecDepth 100000 in
theorem kX11_at : am_ok0 mX11_at := ⟨by decide +kernel, rfl⟩
set_option maxRecDepth 100000 in
theorem kX0_left : am_ok0 mX0_left := ⟨by decide +kernel, rfl⟩
set_option maxRecDepth 100000 in
theorem kX5_has : am_ok0 mX5_has := ⟨by decide +kernel, rfl⟩
set_option maxRecDepth 100000 in
theorem kX5_wordAt : am_ok0 mX5_wordAt := ⟨by decide +kernel, rfl⟩
set_option maxRecDepth 100000 in
theorem kX5_kindAt : am_ok0 mX5_kindAt := ⟨by decide +kernel, rfl⟩
set_option maxRecDepth 100000 in
theorem kX0_begin : am_ok0 mX0_begin := ⟨by decide +kernel, rfl⟩
set_option maxRecDepth 100000 in
theorem kX0_leave : am_ok0 mX0_leave := ⟨by decide +kernel, rfl⟩
set_option maxRecDepth 100000 in
theorem kX0_body10 : am_ok0 mX0_body10 := ⟨by decide +kernel, rfl⟩
set_option maxRecDepth 100000 in
theorem kX0_body20 : am_ok0 mX0_body20 := ⟨by decide +kernel, rfl⟩
set_option maxRecDepth 100000 in
theorem kX0_body11 : am_ok0 mX0_body11 := ⟨by decide +kernel, rfl⟩
set_option maxRecDepth 100000 in
theorem kX0_body22 : am_ok0 mX0_body22 := ⟨by decide +kernel, rfl⟩
set_option maxRecDepth 100000 in
theorem kX0_body12 : am_ok0 mX0_body12 := ⟨by decide +kernel, rfl⟩
set_option maxRecDepth 100000 in
theorem kX0_body13 : am_ok0 mX0_body13 := ⟨by decide +kernel, rfl⟩
set_option maxRecDepth 100000 in
theorem kX0_body14 : am_ok0 mX0_body14 := ⟨by decide +kernel, rfl⟩
set_option maxRecDepth 100000 in
theorem kX0_sizeOfAsked : am_ok0 mX0_sizeOfAsked := ⟨by decide +kernel, rfl⟩
set_option maxRecDepth 100000 in
theorem kX0_body21 : am_ok0 mX0_body21 := ⟨by decide +kernel, rfl⟩
set_option maxRecDepth 100000 in
theorem kX0_body23 : am_ok0 mX0_body23 := ⟨by decide +kernel, rfl⟩
set_option maxRecDepth 100000 in
theorem kX0_markOfAsked : am_ok0 mX0_markOfAsked := ⟨by decide +kernel, rfl⟩
set_option maxRecDepth 100000 in
theorem kX1_init : am_ok0 mX1_init := ⟨by decide +kernel, rfl⟩
set_option maxRecDepth 100000 in
theorem kX1_classOf : am_ok0 mX1_classOf := ⟨by decide +kernel, rfl⟩
set_option maxRecDepth 100000 in
theorem kX1_classes : am_ok0 mX1_classes := ⟨by decide +kernel, rfl⟩
set_option maxRecDepth 100000 in
theorem kX8_corners : am_ok0 mX8_corners := ⟨by decide +kernel, rfl⟩
set_option maxRecDepth 100000 in
theorem kX8_steepest : am_ok0 mX8_steepest := ⟨by decide +kernel, rfl⟩
set_option maxRecDepth 100000 in
theorem kX11_put : am_ok0 mX11_put := ⟨by decide +kernel, rfl⟩
set_option maxRecDepth 100000 in
theorem kX8_marked : am_ok0 mX8_marked := ⟨by decide +kernel, rfl⟩
set_option maxRecDepth 100000 in
theorem kX1_look : am_ok0 mX1_look := ⟨by decide +kernel, rfl⟩
set_option maxRecDepth 100000 in
theorem kX1_goalOf : am_ok0 mX1_goalOf := ⟨by decide +kernel, rfl⟩
set_option maxRecDepth 100000 in
theorem kX11_fill : am_ok0 mX11_fill := ⟨by decide +kernel, rfl⟩
set_option maxRecDepth 100000 in
theorem kX8_markOf : am_ok0 mX8_markOf := ⟨by decide +kernel, rfl⟩
set_option maxRecDepth 100000 in
theorem kX1_alikeSoFar : am_ok0 mX1_alikeSoFar := ⟨by decide +kernel, rfl⟩
set_option maxRecDepth 100000 in
theorem kX1_finerClassOf : am_ok0 mX1_finerClassOf := ⟨by decide +kernel, rfl⟩
set_option maxRecDepth 100000 in
theorem kX11_putAll : am_ok0 mX11_putAll := ⟨by decide +kernel, rfl⟩
set_option maxRecDepth 100000 in
theorem kX1_sortIntoClasses : am_ok0 mX1_sortIntoClasses := ⟨by decide +kernel, rfl⟩
set_option maxRecDepth 100000 in
theorem kX1_notePair : am_ok0 mX1_notePair := ⟨by decide +kernel, rfl⟩
set_option maxRecDepth 100000 in
theorem kX1_stepOf : am_ok0 mX1_stepOf := ⟨by decide +kernel, rfl⟩
set_option maxRecDepth 100000 in
theorem kX1_soonestMeeting : am_ok0 mX1_soonestMeeting := ⟨by decide +kernel, rfl⟩
set_option maxRecDepth 100000 in
theorem kX8_init : am_ok0 mX8_init := ⟨by decide +kernel, rfl⟩
set_option maxRecDepth 100000 in
theorem kX5_init : am_ok0 mX5_init := ⟨by decide +kernel, rfl⟩
set_option maxRecDepth 100000 in
theorem kX2_init : am_ok0 mX2_init := ⟨by decide +kernel, rfl⟩
set_option maxRecDepth 100000 in
theorem kX2_isKept : am_ok0 mX2_isKept := ⟨by decide +kernel, rfl⟩
set_option maxRecDepth 100000 in
theorem kX8_become : am_ok0 mX8_become := ⟨by decide +kernel, rfl⟩
set_option maxRecDepth 100000 in
theorem kX5_become : am_ok0 mX5_become := ⟨by decide +kernel, rfl⟩
set_option maxRecDepth 100000 in
theorem kX2_keep : am_ok0 mX2_keep := ⟨by decide +kernel, rfl⟩
set_option maxRecDepth 100000 in
theorem kX2_giveBack : am_ok0 mX2_giveBack := ⟨by decide +kernel, rfl⟩
set_option maxRecDepth 100000 in
theorem kX3_init : am_ok0 mX3_init := ⟨by decide +kernel, rfl⟩
set_option maxRecDepth 100000 in
theorem kX3_forget : am_ok0 mX3_forget := ⟨by decide +kernel, rfl⟩
set_option maxRecDepth 100000 in
theorem kX8_heightOf : am_ok0 mX8_heightOf := ⟨by decide +kernel, rfl⟩
set_option maxRecDepth 100000 in
theorem kX8_hasWell : am_ok0 mX8_hasWell := ⟨by decide +kernel, rfl⟩
set_option maxRecDepth 100000 in
theorem kX8_streetsAt : am_ok0 mX8_streetsAt := ⟨by decide +kernel, rfl⟩
set_option maxRecDepth 100000 in
theorem kX8_joined : am_ok0 mX8_joined := ⟨by decide +kernel, rfl⟩
set_option maxRecDepth 100000 in
theorem kX3_fits : am_ok0 mX3_fits := ⟨by decide +kernel, rfl⟩
set_option maxRecDepth 100000 in
theorem kX8_neighbour : am_ok0 mX8_neighbour := ⟨by decide +kernel, rfl⟩
set_option maxRecDepth 100000 in
theorem kJ9_floorMod_7cf53 : am_ok0 mJ9_floorMod_7cf53 := ⟨by decide +kernel, rfl⟩
set_option maxRecDepth 100000 in
theorem kX8_roundFrom : am_ok0 mX8_roundFrom := ⟨by decide +kernel, rfl⟩
set_option maxRecDepth 100000 in
theorem kX3_ordersAgree : am_ok0 mX3_ordersAgree := ⟨by decide +kernel, rfl⟩
set_option maxRecDepth 100000 in
theorem kX3_nextToLay : am_ok0 mX3_nextToLay := ⟨by decide +kernel, rfl⟩
set_option maxRecDepth 100000 in
theorem kX3_canLay : am_ok0 mX3_canLay := ⟨by decide +kernel, rfl⟩
set_option maxRecDepth 100000 in
theorem kX3_canLayRest : am_ok0 mX3_canLayRest := ⟨by decide +kernel, rfl⟩
set_option maxRecDepth 100000 in
theorem kX3_countAll_0 : am_okR mX3_countAll 0 100 = true := by decide +kernel
set_option maxRecDepth 100000 in
theorem kX3_countAll_100 : am_okR mX3_countAll 100 200 = true := by decide +kernel
set_option maxRecDepth 100000 in
theorem kX3_countAll_200 : am_okR mX3_countAll 200 207 = true := by decide +kernel
theorem kX3_countAll : am_ok0 mX3_countAll := by
  refine ⟨am_okM_of fun pc h => ?_, rfl⟩
  have h : pc < 207 := h
  by_cases q0 : pc < 100
  · exact am_okR_of kX3_countAll_0 (by omega) q0
  by_cases q100 : pc < 200
  · exact am_okR_of kX3_countAll_100 (by omega) q100
  exact am_okR_of kX3_countAll_200 (by omega) h
set_option maxRecDepth 100000 in
theorem kX3_howMany : am_ok0 mX3_howMany := ⟨by decide +kernel, rfl⟩
set_option maxRecDepth 100000 in
theorem kX3_whereLaid : am_ok0 mX3_whereLaid := ⟨by decide +kernel, rfl⟩
set_option maxRecDepth 100000 in
theorem kX3_leastMovedByAllImages : am_ok0 mX3_leastMovedByAllImages := ⟨by decide +kernel, rfl⟩
set_option maxRecDepth 100000 in
theorem kX4_init : am_ok0 mX4_init := ⟨by decide +kernel, rfl⟩
set_option maxRecDepth 100000 in
theorem kX4_has : am_ok0 mX4_has := ⟨by decide +kernel, rfl⟩
set_option maxRecDepth 100000 in
theorem kX4_missing : am_ok0 mX4_missing := ⟨by decide +kernel, rfl⟩
set_option maxRecDepth 100000 in
theorem kX4_howMany : am_ok0 mX4_howMany := ⟨by decide +kernel, rfl⟩
set_option maxRecDepth 100000 in
theorem kX4_beyond : am_ok0 mX4_beyond := ⟨by decide +kernel, rfl⟩
set_option maxRecDepth 100000 in
theorem kX4_findingAt : am_ok0 mX4_findingAt := ⟨by decide +kernel, rfl⟩
set_option maxRecDepth 100000 in
theorem kX4_findingBetween : am_ok0 mX4_findingBetween := ⟨by decide +kernel, rfl⟩
set_option maxRecDepth 100000 in
theorem kX4_make : am_ok0 mX4_make := ⟨by decide +kernel, rfl⟩
set_option maxRecDepth 100000 in
theorem kX4_item : am_ok0 mX4_item := ⟨by decide +kernel, rfl⟩
set_option maxRecDepth 100000 in
theorem kX4_lowestBits : am_ok0 mX4_lowestBits := ⟨by decide +kernel, rfl⟩
set_option maxRecDepth 100000 in
theorem kX4_store : am_ok0 mX4_store := ⟨by decide +kernel, rfl⟩
set_option maxRecDepth 100000 in
theorem kX4_move : am_ok0 mX4_move := ⟨by decide +kernel, rfl⟩
set_option maxRecDepth 100000 in
theorem kX4_takeAway : am_ok0 mX4_takeAway := ⟨by decide +kernel, rfl⟩
set_option maxRecDepth 100000 in
theorem kX5_clear : am_ok0 mX5_clear := ⟨by decide +kernel, rfl⟩
set_option maxRecDepth 100000 in
theorem kX5_add : am_ok0 mX5_add := ⟨by decide +kernel, rfl⟩
set_option maxRecDepth 100000 in
theorem kX5_length : am_ok0 mX5_length := ⟨by decide +kernel, rfl⟩
set_option maxRecDepth 100000 in
theorem kX5_isOne : am_ok0 mX5_isOne := ⟨by decide +kernel, rfl⟩
set_option maxRecDepth 100000 in
theorem kX9_init : am_ok0 mX9_init := ⟨by decide +kernel, rfl⟩
set_option maxRecDepth 100000 in
theorem kX6_init : am_ok0 mX6_init := ⟨by decide +kernel, rfl⟩
set_option maxRecDepth 100000 in
theorem kX9_stand : am_ok0 mX9_stand := ⟨by decide +kernel, rfl⟩
set_option maxRecDepth 100000 in
theorem kX9_start : am_ok0 mX9_start := ⟨by decide +kernel, rfl⟩
set_option maxRecDepth 100000 in
theorem kX9_cameFrom : am_ok0 mX9_cameFrom := ⟨by decide +kernel, rfl⟩
set_option maxRecDepth 100000 in
theorem kX9_place : am_ok0 mX9_place := ⟨by decide +kernel, rfl⟩
set_option maxRecDepth 100000 in
theorem kX9_hasHand : am_ok0 mX9_hasHand := ⟨by decide +kernel, rfl⟩
set_option maxRecDepth 100000 in
theorem kX6_note : am_ok0 mX6_note := ⟨by decide +kernel, rfl⟩
set_option maxRecDepth 100000 in
theorem kX6_standAt : am_ok0 mX6_standAt := ⟨by decide +kernel, rfl⟩
set_option maxRecDepth 100000 in
theorem kX9_goalOf_0 : am_okR mX9_goalOf 0 100 = true := by decide +kernel
set_option maxRecDepth 100000 in
theorem kX9_goalOf_100 : am_okR mX9_goalOf 100 200 = true := by decide +kernel
set_option maxRecDepth 100000 in
theorem kX9_goalOf_200 : am_okR mX9_goalOf 200 212 = true := by decide +kernel
theorem kX9_goalOf : am_ok0 mX9_goalOf := by
  refine ⟨am_okM_of fun pc h => ?_, rfl⟩
  have h : pc < 212 := h
  by_cases q0 : pc < 100
  · exact am_okR_of kX9_goalOf_0 (by omega) q0
  by_cases q100 : pc < 200
  · exact am_okR_of kX9_goalOf_100 (by omega) q100
  exact am_okR_of kX9_goalOf_200 (by omega) h
set_option maxRecDepth 100000 in
theorem kX9_goBy : am_ok0 mX9_goBy := ⟨by decide +kernel, rfl⟩
set_option maxRecDepth 100000 in
theorem kX6_spread : am_ok0 mX6_spread := ⟨by decide +kernel, rfl⟩
set_option maxRecDepth 100000 in
theorem kX6_cornerAt : am_ok0 mX6_cornerAt := ⟨by decide +kernel, rfl⟩
set_option maxRecDepth 100000 in
theorem kX6_firstAt : am_ok0 mX6_firstAt := ⟨by decide +kernel, rfl⟩
set_option maxRecDepth 100000 in
theorem kX6_better : am_ok0 mX6_better := ⟨by decide +kernel, rfl⟩
set_option maxRecDepth 100000 in
theorem kX6_firstAtWell : am_ok0 mX6_firstAtWell := ⟨by decide +kernel, rfl⟩
set_option maxRecDepth 100000 in
theorem kX6_wordsTo : am_ok0 mX6_wordsTo := ⟨by decide +kernel, rfl⟩
set_option maxRecDepth 100000 in
theorem kX6_wordOnTheWay : am_ok0 mX6_wordOnTheWay := ⟨by decide +kernel, rfl⟩
set_option maxRecDepth 100000 in
theorem kX7_init : am_ok0 mX7_init := ⟨by decide +kernel, rfl⟩
set_option maxRecDepth 100000 in
theorem kX7_length : am_ok0 mX7_length := ⟨by decide +kernel, rfl⟩
set_option maxRecDepth 100000 in
theorem kX7_hasRoomFor : am_ok0 mX7_hasRoomFor := ⟨by decide +kernel, rfl⟩
set_option maxRecDepth 100000 in
theorem kX7_append : am_ok0 mX7_append := ⟨by decide +kernel, rfl⟩
set_option maxRecDepth 100000 in
theorem kX7_empty : am_ok0 mX7_empty := ⟨by decide +kernel, rfl⟩
set_option maxRecDepth 100000 in
theorem kX7_faultNumber : am_ok0 mX7_faultNumber := ⟨by decide +kernel, rfl⟩
set_option maxRecDepth 100000 in
theorem kX7_faultPlace : am_ok0 mX7_faultPlace := ⟨by decide +kernel, rfl⟩
set_option maxRecDepth 100000 in
theorem kX8_clear : am_ok0 mX8_clear := ⟨by decide +kernel, rfl⟩
set_option maxRecDepth 100000 in
theorem kX7_sortOf : am_ok0 mX7_sortOf := ⟨by decide +kernel, rfl⟩
set_option maxRecDepth 100000 in
theorem kX7_behindRun : am_ok0 mX7_behindRun := ⟨by decide +kernel, rfl⟩
set_option maxRecDepth 100000 in
theorem kX7_spelling : am_ok0 mX7_spelling := ⟨by decide +kernel, rfl⟩
set_option maxRecDepth 100000 in
theorem kJ0_coder_7d493 : am_ok0 mJ0_coder_7d493 := ⟨by decide +kernel, rfl⟩
set_option maxRecDepth 100000 in
theorem kJ0_length_8abf5 : am_ok0 mJ0_length_8abf5 := ⟨by decide +kernel, rfl⟩
set_option maxRecDepth 100000 in
theorem kJ0_isLatin1_aae02 : am_ok0 mJ0_isLatin1_aae02 := ⟨by decide +kernel, rfl⟩
set_option maxRecDepth 100000 in
theorem kJ3_checkIndex_8e157 : am_ok0 mJ3_checkIndex_8e157 := ⟨by decide +kernel, rfl⟩
set_option maxRecDepth 100000 in
theorem kJ0_checkIndex_df160 : am_ok0 mJ0_checkIndex_df160 := ⟨by decide +kernel, rfl⟩
set_option maxRecDepth 100000 in
theorem kJ1_charAt_3b067 : am_ok0 mJ1_charAt_3b067 := ⟨by decide +kernel, rfl⟩
set_option maxRecDepth 100000 in
theorem kJ0_charAt_5068e : am_ok0 mJ0_charAt_5068e := ⟨by decide +kernel, rfl⟩
set_option maxRecDepth 100000 in
theorem kX7_isSpelt : am_ok0 mX7_isSpelt := ⟨by decide +kernel, rfl⟩
set_option maxRecDepth 100000 in
theorem kX7_nameOf : am_ok0 mX7_nameOf := ⟨by decide +kernel, rfl⟩
set_option maxRecDepth 100000 in
theorem kX7_numberOf : am_ok0 mX7_numberOf := ⟨by decide +kernel, rfl⟩
set_option maxRecDepth 100000 in
theorem kX7_note : am_ok0 mX7_note := ⟨by decide +kernel, rfl⟩
set_option maxRecDepth 100000 in
theorem kX7_cut : am_ok0 mX7_cut := ⟨by decide +kernel, rfl⟩
set_option maxRecDepth 100000 in
theorem kX7_sort : am_ok0 mX7_sort := ⟨by decide +kernel, rfl⟩
set_option maxRecDepth 100000 in
theorem kX7_value : am_ok0 mX7_value := ⟨by decide +kernel, rfl⟩
set_option maxRecDepth 100000 in
theorem kX7_isName : am_ok0 mX7_isName := ⟨by decide +kernel, rfl⟩
set_option maxRecDepth 100000 in
theorem kX7_fail : am_ok0 mX7_fail := ⟨by decide +kernel, rfl⟩
set_option maxRecDepth 100000 in
theorem kX7_readNumber : am_ok0 mX7_readNumber := ⟨by decide +kernel, rfl⟩
set_option maxRecDepth 100000 in
theorem kX8_addCorner : am_ok0 mX8_addCorner := ⟨by decide +kernel, rfl⟩
set_option maxRecDepth 100000 in
theorem kX7_readSign : am_ok0 mX7_readSign := ⟨by decide +kernel, rfl⟩
set_option maxRecDepth 100000 in
theorem kX7_readCorner : am_ok0 mX7_readCorner := ⟨by decide +kernel, rfl⟩
set_option maxRecDepth 100000 in
theorem kX7_readCorners : am_ok0 mX7_readCorners := ⟨by decide +kernel, rfl⟩
set_option maxRecDepth 100000 in
theorem kX8_has : am_ok0 mX8_has := ⟨by decide +kernel, rfl⟩
set_option maxRecDepth 100000 in
theorem kX7_readStreetEnd : am_ok0 mX7_readStreetEnd := ⟨by decide +kernel, rfl⟩
set_option maxRecDepth 100000 in
theorem kX8_addStreetAt : am_ok0 mX8_addStreetAt := ⟨by decide +kernel, rfl⟩
set_option maxRecDepth 100000 in
theorem kX8_addStreet : am_ok0 mX8_addStreet := ⟨by decide +kernel, rfl⟩
set_option maxRecDepth 100000 in
theorem kX7_readStreet : am_ok0 mX7_readStreet := ⟨by decide +kernel, rfl⟩
set_option maxRecDepth 100000 in
theorem kX7_readStreets : am_ok0 mX7_readStreets := ⟨by decide +kernel, rfl⟩
set_option maxRecDepth 100000 in
theorem kX7_readTown : am_ok0 mX7_readTown := ⟨by decide +kernel, rfl⟩
set_option maxRecDepth 100000 in
theorem kX7_isWord : am_ok0 mX7_isWord := ⟨by decide +kernel, rfl⟩
set_option maxRecDepth 100000 in
theorem kX7_readWord : am_ok0 mX7_readWord := ⟨by decide +kernel, rfl⟩
set_option maxRecDepth 100000 in
theorem kX7_readSaying : am_ok0 mX7_readSaying := ⟨by decide +kernel, rfl⟩
set_option maxRecDepth 100000 in
theorem kX8_streets : am_ok0 mX8_streets := ⟨by decide +kernel, rfl⟩
set_option maxRecDepth 100000 in
theorem kX8_wells : am_ok0 mX8_wells := ⟨by decide +kernel, rfl⟩
set_option maxRecDepth 100000 in
theorem kX8_setMark : am_ok0 mX8_setMark := ⟨by decide +kernel, rfl⟩
set_option maxRecDepth 100000 in
theorem kX10_init : am_ok0 mX10_init := ⟨by decide +kernel, rfl⟩
set_option maxRecDepth 100000 in
theorem kX10_lead : am_ok0 mX10_lead := ⟨by decide +kernel, rfl⟩
set_option maxRecDepth 100000 in
theorem kX10_end : am_ok0 mX10_end := ⟨by decide +kernel, rfl⟩
set_option maxRecDepth 100000 in
theorem kX10_partingOf : am_ok0 mX10_partingOf := ⟨by decide +kernel, rfl⟩
set_option maxRecDepth 100000 in
theorem kX10_endsWithOneLost : am_ok0 mX10_endsWithOneLost := ⟨by decide +kernel, rfl⟩
set_option maxRecDepth 100000 in
theorem kX10_meeting : am_ok0 mX10_meeting := ⟨by decide +kernel, rfl⟩
set_option maxRecDepth 100000 in
theorem kX11_init : am_ok0 mX11_init := ⟨by decide +kernel, rfl⟩
set_option maxRecDepth 100000 in
theorem kX11_found : am_ok0 mX11_found := ⟨by decide +kernel, rfl⟩
set_option maxRecDepth 100000 in
theorem kX11_fine : am_ok0 mX11_fine := ⟨by decide +kernel, rfl⟩
set_option maxRecDepth 100000 in
theorem kX11_row : am_ok0 mX11_row := ⟨by decide +kernel, rfl⟩
set_option maxRecDepth 100000 in
theorem kX11_set : am_ok0 mX11_set := ⟨by decide +kernel, rfl⟩
set_option maxRecDepth 100000 in
theorem kX11_copy : am_ok0 mX11_copy := ⟨by decide +kernel, rfl⟩
set_option maxRecDepth 100000 in
theorem kX11_drop : am_ok0 mX11_drop := ⟨by decide +kernel, rfl⟩
set_option maxRecDepth 100000 in
theorem kX11_feed : am_ok0 mX11_feed := ⟨by decide +kernel, rfl⟩
set_option maxRecDepth 100000 in
theorem kX11_town : am_ok0 mX11_town := ⟨by decide +kernel, rfl⟩
set_option maxRecDepth 100000 in
theorem kX11_say : am_ok0 mX11_say := ⟨by decide +kernel, rfl⟩
set_option maxRecDepth 100000 in
theorem kX11_words : am_ok0 mX11_words := ⟨by decide +kernel, rfl⟩
set_option maxRecDepth 100000 in
theorem kX11_fault : am_ok0 mX11_fault := ⟨by decide +kernel, rfl⟩
set_option maxRecDepth 100000 in
theorem kX11_corner : am_ok0 mX11_corner := ⟨by decide +kernel, rfl⟩
set_option maxRecDepth 100000 in
theorem kX11_mark : am_ok0 mX11_mark := ⟨by decide +kernel, rfl⟩
set_option maxRecDepth 100000 in
theorem kX11_word : am_ok0 mX11_word := ⟨by decide +kernel, rfl⟩
set_option maxRecDepth 100000 in
theorem kX11_bit : am_ok0 mX11_bit := ⟨by decide +kernel, rfl⟩
set_option maxRecDepth 100000 in
theorem kX11_walk : am_ok0 mX11_walk := ⟨by decide +kernel, rfl⟩
set_option maxRecDepth 100000 in
theorem kX11_parts : am_ok0 mX11_parts := ⟨by decide +kernel, rfl⟩
set_option maxRecDepth 100000 in
theorem kX11_apart : am_ok0 mX11_apart := ⟨by decide +kernel, rfl⟩
set_option maxRecDepth 100000 in
theorem kX11_shortest : am_ok0 mX11_shortest := ⟨by decide +kernel, rfl⟩
set_option maxRecDepth 100000 in
theorem kX11_soonest : am_ok0 mX11_soonest := ⟨by decide +kernel, rfl⟩
set_option maxRecDepth 100000 in
theorem kX11_laid : am_ok0 mX11_laid := ⟨by decide +kernel, rfl⟩
set_option maxRecDepth 100000 in
theorem kX11_ends : am_ok0 mX11_ends := ⟨by decide +kernel, rfl⟩
set_option maxRecDepth 100000 in
theorem kX11_lost : am_ok0 mX11_lost := ⟨by decide +kernel, rfl⟩
set_option maxRecDepth 100000 in
theorem kX11_meet : am_ok0 mX11_meet := ⟨by decide +kernel, rfl⟩
set_option maxRecDepth 100000 in
theorem kX11_commonMeasure : am_ok0 mX11_commonMeasure := ⟨by decide +kernel, rfl⟩
set_option maxRecDepth 100000 in
theorem kX11_gloves : am_ok0 mX11_gloves := ⟨by decide +kernel, rfl⟩
set_option maxRecDepth 100000 in
theorem kX11_keptBy : am_ok0 mX11_keptBy := ⟨by decide +kernel, rfl⟩
set_option maxRecDepth 100000 in
theorem kX11_image : am_ok0 mX11_image := ⟨by decide +kernel, rfl⟩
set_option maxRecDepth 100000 in
theorem kX11_restore : am_ok0 mX11_restore := ⟨by decide +kernel, rfl⟩
set_option maxRecDepth 100000 in
theorem kX11_kind : am_ok0 mX11_kind := ⟨by decide +kernel, rfl⟩
set_option maxRecDepth 100000 in
theorem kX11_as : am_ok0 mX11_as := ⟨by decide +kernel, rfl⟩
set_option maxRecDepth 100000 in
theorem kX11_ask : am_ok0 mX11_ask := ⟨by decide +kernel, rfl⟩
set_option maxRecDepth 100000 in
theorem kX11_trace : am_ok0 mX11_trace := ⟨by decide +kernel, rfl⟩
set_option maxRecDepth 100000 in
theorem kX11_count : am_ok0 mX11_count := ⟨by decide +kernel, rfl⟩
set_option maxRecDepth 100000 in
theorem kX11_status : am_ok0 mX11_status := ⟨by decide +kernel, rfl⟩
set_option maxRecDepth 100000 in
theorem kX12_init : am_ok0 mX12_init := ⟨by decide +kernel, rfl⟩
set_option maxRecDepth 100000 in
theorem kX12_in : am_ok0 mX12_in := ⟨by decide +kernel, rfl⟩
set_option maxRecDepth 100000 in
theorem kX12_finding : am_ok0 mX12_finding := ⟨by decide +kernel, rfl⟩
set_option maxRecDepth 100000 in
theorem kX12_isRow : am_ok0 mX12_isRow := ⟨by decide +kernel, rfl⟩
set_option maxRecDepth 100000 in
theorem kX12_row : am_ok0 mX12_row := ⟨by decide +kernel, rfl⟩
set_option maxRecDepth 100000 in
theorem kX12_set : am_ok0 mX12_set := ⟨by decide +kernel, rfl⟩
set_option maxRecDepth 100000 in
theorem kX12_copy_0 : am_okR mX12_copy 0 100 = true := by decide +kernel
set_option maxRecDepth 100000 in
theorem kX12_copy_100 : am_okR mX12_copy 100 200 = true := by decide +kernel
set_option maxRecDepth 100000 in
theorem kX12_copy_200 : am_okR mX12_copy 200 207 = true := by decide +kernel
theorem kX12_copy : am_ok0 mX12_copy := by
  refine ⟨am_okM_of fun pc h => ?_, rfl⟩
  have h : pc < 207 := h
  by_cases q0 : pc < 100
  · exact am_okR_of kX12_copy_0 (by omega) q0
  by_cases q100 : pc < 200
  · exact am_okR_of kX12_copy_100 (by omega) q100
  exact am_okR_of kX12_copy_200 (by omega) h
set_option maxRecDepth 100000 in
theorem kX12_drop : am_ok0 mX12_drop := ⟨by decide +kernel, rfl⟩
set_option maxRecDepth 100000 in
theorem kX12_feed : am_ok0 mX12_feed := ⟨by decide +kernel, rfl⟩
set_option maxRecDepth 100000 in
theorem kX12_byteAt : am_ok0 mX12_byteAt := ⟨by decide +kernel, rfl⟩
set_option maxRecDepth 100000 in
theorem kX12_isLetter : am_ok0 mX12_isLetter := ⟨by decide +kernel, rfl⟩
set_option maxRecDepth 100000 in
theorem kX12_isFigure : am_ok0 mX12_isFigure := ⟨by decide +kernel, rfl⟩
set_option maxRecDepth 100000 in
theorem kX12_next_0 : am_okR mX12_next 0 100 = true := by decide +kernel
set_option maxRecDepth 100000 in
theorem kX12_next_100 : am_okR mX12_next 100 200 = true := by decide +kernel
set_option maxRecDepth 100000 in
theorem kX12_next_200 : am_okR mX12_next 200 205 = true := by decide +kernel
theorem kX12_next : am_ok0 mX12_next := by
  refine ⟨am_okM_of fun pc h => ?_, rfl⟩
  have h : pc < 205 := h
  by_cases q0 : pc < 100
  · exact am_okR_of kX12_next_0 (by omega) q0
  by_cases q100 : pc < 200
  · exact am_okR_of kX12_next_100 (by omega) q100
  exact am_okR_of kX12_next_200 (by omega) h
set_option maxRecDepth 100000 in
theorem kX12_begin : am_ok0 mX12_begin := ⟨by decide +kernel, rfl⟩
set_option maxRecDepth 100000 in
theorem kX12_bad : am_ok0 mX12_bad := ⟨by decide +kernel, rfl⟩
set_option maxRecDepth 100000 in
theorem kX12_must : am_ok0 mX12_must := ⟨by decide +kernel, rfl⟩
set_option maxRecDepth 100000 in
theorem kX12_name : am_ok0 mX12_name := ⟨by decide +kernel, rfl⟩
set_option maxRecDepth 100000 in
theorem kX12_figures : am_ok0 mX12_figures := ⟨by decide +kernel, rfl⟩
set_option maxRecDepth 100000 in
theorem kX12_number : am_ok0 mX12_number := ⟨by decide +kernel, rfl⟩
set_option maxRecDepth 100000 in
theorem kX12_wordOf : am_ok0 mX12_wordOf := ⟨by decide +kernel, rfl⟩
set_option maxRecDepth 100000 in
theorem kX12_begins : am_ok0 mX12_begins := ⟨by decide +kernel, rfl⟩
set_option maxRecDepth 100000 in
theorem kX12_mustEnd : am_ok0 mX12_mustEnd := ⟨by decide +kernel, rfl⟩
set_option maxRecDepth 100000 in
theorem kX12_readCorner : am_ok0 mX12_readCorner := ⟨by decide +kernel, rfl⟩
set_option maxRecDepth 100000 in
theorem kX12_isJoined : am_ok0 mX12_isJoined := ⟨by decide +kernel, rfl⟩
set_option maxRecDepth 100000 in
theorem kX12_end : am_ok0 mX12_end := ⟨by decide +kernel, rfl⟩
set_option maxRecDepth 100000 in
theorem kX12_readStreet : am_ok0 mX12_readStreet := ⟨by decide +kernel, rfl⟩
set_option maxRecDepth 100000 in
theorem kX12_ends : am_ok0 mX12_ends := ⟨by decide +kernel, rfl⟩
set_option maxRecDepth 100000 in
theorem kX12_town : am_ok0 mX12_town := ⟨by decide +kernel, rfl⟩
set_option maxRecDepth 100000 in
theorem kX12_say : am_ok0 mX12_say := ⟨by decide +kernel, rfl⟩
set_option maxRecDepth 100000 in
theorem kX12_isWordNumber : am_ok0 mX12_isWordNumber := ⟨by decide +kernel, rfl⟩
set_option maxRecDepth 100000 in
theorem kX12_words : am_ok0 mX12_words := ⟨by decide +kernel, rfl⟩
set_option maxRecDepth 100000 in
theorem kX12_fault : am_ok0 mX12_fault := ⟨by decide +kernel, rfl⟩
set_option maxRecDepth 100000 in
theorem kX12_isCorner : am_ok0 mX12_isCorner := ⟨by decide +kernel, rfl⟩
set_option maxRecDepth 100000 in
theorem kX12_corner : am_ok0 mX12_corner := ⟨by decide +kernel, rfl⟩
set_option maxRecDepth 100000 in
theorem kX12_mark : am_ok0 mX12_mark := ⟨by decide +kernel, rfl⟩
set_option maxRecDepth 100000 in
theorem kX12_word : am_ok0 mX12_word := ⟨by decide +kernel, rfl⟩
set_option maxRecDepth 100000 in
theorem kX12_starts : am_ok0 mX12_starts := ⟨by decide +kernel, rfl⟩
set_option maxRecDepth 100000 in
theorem kX12_slope : am_ok0 mX12_slope := ⟨by decide +kernel, rfl⟩
set_option maxRecDepth 100000 in
theorem kX12_marked : am_ok0 mX12_marked := ⟨by decide +kernel, rfl⟩
set_option maxRecDepth 100000 in
theorem kX12_besides : am_ok0 mX12_besides := ⟨by decide +kernel, rfl⟩
set_option maxRecDepth 100000 in
theorem kX12_streetBy : am_ok0 mX12_streetBy := ⟨by decide +kernel, rfl⟩
set_option maxRecDepth 100000 in
theorem kX12_goes : am_ok0 mX12_goes := ⟨by decide +kernel, rfl⟩
set_option maxRecDepth 100000 in
theorem kX12_walks : am_ok0 mX12_walks := ⟨by decide +kernel, rfl⟩
set_option maxRecDepth 100000 in
theorem kX12_walk : am_ok0 mX12_walk := ⟨by decide +kernel, rfl⟩
set_option maxRecDepth 100000 in
theorem kX12_change : am_ok0 mX12_change := ⟨by decide +kernel, rfl⟩
set_option maxRecDepth 100000 in
theorem kX12_startTwo : am_ok0 mX12_startTwo := ⟨by decide +kernel, rfl⟩
set_option maxRecDepth 100000 in
theorem kX12_parts : am_ok0 mX12_parts := ⟨by decide +kernel, rfl⟩
set_option maxRecDepth 100000 in
theorem kX12_plainWord : am_ok0 mX12_plainWord := ⟨by decide +kernel, rfl⟩
set_option maxRecDepth 100000 in
theorem kX12_classBy : am_ok0 mX12_classBy := ⟨by decide +kernel, rfl⟩
set_option maxRecDepth 100000 in
theorem kX12_areAlike : am_ok0 mX12_areAlike := ⟨by decide +kernel, rfl⟩
set_option maxRecDepth 100000 in
theorem kX12_splits : am_ok0 mX12_splits := ⟨by decide +kernel, rfl⟩
set_option maxRecDepth 100000 in
theorem kX12_apart : am_ok0 mX12_apart := ⟨by decide +kernel, rfl⟩
set_option maxRecDepth 100000 in
theorem kX12_sought : am_ok0 mX12_sought := ⟨by decide +kernel, rfl⟩
set_option maxRecDepth 100000 in
theorem kX12_stateNow : am_ok0 mX12_stateNow := ⟨by decide +kernel, rfl⟩
set_option maxRecDepth 100000 in
theorem kX12_beAt : am_ok0 mX12_beAt := ⟨by decide +kernel, rfl⟩
set_option maxRecDepth 100000 in
theorem kX12_reach : am_ok0 mX12_reach := ⟨by decide +kernel, rfl⟩
set_option maxRecDepth 100000 in
theorem kX12_seek : am_ok0 mX12_seek := ⟨by decide +kernel, rfl⟩
set_option maxRecDepth 100000 in
theorem kX12_firstAt : am_ok0 mX12_firstAt := ⟨by decide +kernel, rfl⟩
set_option maxRecDepth 100000 in
theorem kX12_shortest : am_ok0 mX12_shortest := ⟨by decide +kernel, rfl⟩
set_option maxRecDepth 100000 in
theorem kX12_soonest : am_ok0 mX12_soonest := ⟨by decide +kernel, rfl⟩
set_option maxRecDepth 100000 in
theorem kX12_isNear : am_ok0 mX12_isNear := ⟨by decide +kernel, rfl⟩
set_option maxRecDepth 100000 in
theorem kX12_fits : am_ok0 mX12_fits := ⟨by decide +kernel, rfl⟩
set_option maxRecDepth 100000 in
theorem kX12_turnsAbout : am_ok0 mX12_turnsAbout := ⟨by decide +kernel, rfl⟩
set_option maxRecDepth 100000 in
theorem kX12_isWay : am_ok0 mX12_isWay := ⟨by decide +kernel, rfl⟩
set_option maxRecDepth 100000 in
theorem kX12_fixedNow : am_ok0 mX12_fixedNow := ⟨by decide +kernel, rfl⟩
set_option maxRecDepth 100000 in
theorem kX12_layWay : am_ok0 mX12_layWay := ⟨by decide +kernel, rfl⟩
set_option maxRecDepth 100000 in
theorem kX12_laid : am_ok0 mX12_laid := ⟨by decide +kernel, rfl⟩
set_option maxRecDepth 100000 in
theorem kX12_ends_ : am_ok0 mX12_ends_ := ⟨by decide +kernel, rfl⟩
set_option maxRecDepth 100000 in
theorem kX12_lost : am_ok0 mX12_lost := ⟨by decide +kernel, rfl⟩
set_option maxRecDepth 100000 in
theorem kX12_meets : am_ok0 mX12_meets := ⟨by decide +kernel, rfl⟩
set_option maxRecDepth 100000 in
theorem kX12_plainTo : am_ok0 mX12_plainTo := ⟨by decide +kernel, rfl⟩
set_option maxRecDepth 100000 in
theorem kX12_soon_0 : am_okR mX12_soon 0 100 = true := by decide +kernel
set_option maxRecDepth 100000 in
theorem kX12_soon_100 : am_okR mX12_soon 100 200 = true := by decide +kernel
set_option maxRecDepth 100000 in
theorem kX12_soon_200 : am_okR mX12_soon 200 232 = true := by decide +kernel
theorem kX12_soon : am_ok0 mX12_soon := by
  refine ⟨am_okM_of fun pc h => ?_, rfl⟩
  have h : pc < 232 := h
  by_cases q0 : pc < 100
  · exact am_okR_of kX12_soon_0 (by omega) q0
  by_cases q100 : pc < 200
  · exact am_okR_of kX12_soon_100 (by omega) q100
  exact am_okR_of kX12_soon_200 (by omega) h
set_option maxRecDepth 100000 in
theorem kX12_meet : am_ok0 mX12_meet := ⟨by decide +kernel, rfl⟩
set_option maxRecDepth 100000 in
theorem kX12_gloves : am_ok0 mX12_gloves := ⟨by decide +kernel, rfl⟩
set_option maxRecDepth 100000 in
theorem kX12_image : am_ok0 mX12_image := ⟨by decide +kernel, rfl⟩
set_option maxRecDepth 100000 in
theorem kX12_restore : am_ok0 mX12_restore := ⟨by decide +kernel, rfl⟩
set_option maxRecDepth 100000 in
theorem kX12_isWord : am_ok0 mX12_isWord := ⟨by decide +kernel, rfl⟩
set_option maxRecDepth 100000 in
theorem kX12_wordAt : am_ok0 mX12_wordAt := ⟨by decide +kernel, rfl⟩
set_option maxRecDepth 100000 in
theorem kX12_kindOf : am_ok0 mX12_kindOf := ⟨by decide +kernel, rfl⟩
set_option maxRecDepth 100000 in
theorem kX12_isOf : am_ok0 mX12_isOf := ⟨by decide +kernel, rfl⟩
set_option maxRecDepth 100000 in
theorem kX12_kind : am_ok0 mX12_kind := ⟨by decide +kernel, rfl⟩
set_option maxRecDepth 100000 in
theorem kX12_as : am_ok0 mX12_as := ⟨by decide +kernel, rfl⟩
set_option maxRecDepth 100000 in
theorem kX12_began : am_ok0 mX12_began := ⟨by decide +kernel, rfl⟩
set_option maxRecDepth 100000 in
theorem kX12_plainSize : am_ok0 mX12_plainSize := ⟨by decide +kernel, rfl⟩
set_option maxRecDepth 100000 in
theorem kX12_takenSize : am_ok0 mX12_takenSize := ⟨by decide +kernel, rfl⟩
set_option maxRecDepth 100000 in
theorem kX12_markOf : am_ok0 mX12_markOf := ⟨by decide +kernel, rfl⟩
set_option maxRecDepth 100000 in
theorem kX12_turnedSize : am_ok0 mX12_turnedSize := ⟨by decide +kernel, rfl⟩
set_option maxRecDepth 100000 in
theorem kX12_sizeOf : am_ok0 mX12_sizeOf := ⟨by decide +kernel, rfl⟩
set_option maxRecDepth 100000 in
theorem kX12_ask : am_ok0 mX12_ask := ⟨by decide +kernel, rfl⟩
set_option maxRecDepth 100000 in
theorem kX12_trace : am_ok0 mX12_trace := ⟨by decide +kernel, rfl⟩
set_option maxRecDepth 100000 in
theorem kX12_count : am_ok0 mX12_count := ⟨by decide +kernel, rfl⟩
set_option maxRecDepth 100000 in
theorem kX12_status : am_ok0 mX12_status := ⟨by decide +kernel, rfl⟩
set_option maxRecDepth 100000 in
theorem kJ9_max_7cf53 : am_ok0 mJ9_max_7cf53 := ⟨by decide +kernel, rfl⟩
set_option maxRecDepth 100000 in
theorem kJ9_min_7cf53 : am_ok0 mJ9_min_7cf53 := ⟨by decide +kernel, rfl⟩
set_option maxRecDepth 100000 in
theorem kL_law_0 : am_okR mL_law 0 100 = true := by decide +kernel
set_option maxRecDepth 100000 in
theorem kL_law_100 : am_okR mL_law 100 200 = true := by decide +kernel
set_option maxRecDepth 100000 in
theorem kL_law_200 : am_okR mL_law 200 300 = true := by decide +kernel
set_option maxRecDepth 100000 in
theorem kL_law_300 : am_okR mL_law 300 400 = true := by decide +kernel
set_option maxRecDepth 100000 in
theorem kL_law_400 : am_okR mL_law 400 500 = true := by decide +kernel
set_option maxRecDepth 100000 in
theorem kL_law_500 : am_okR mL_law 500 600 = true := by decide +kernel
set_option maxRecDepth 100000 in
theorem kL_law_600 : am_okR mL_law 600 700 = true := by decide +kernel
set_option maxRecDepth 100000 in
theorem kL_law_700 : am_okR mL_law 700 800 = true := by decide +kernel
set_option maxRecDepth 100000 in
theorem kL_law_800 : am_okR mL_law 800 900 = true := by decide +kernel
set_option maxRecDepth 100000 in
theorem kL_law_900 : am_okR mL_law 900 1000 = true := by decide +kernel
set_option maxRecDepth 100000 in
theorem kL_law_1000 : am_okR mL_law 1000 1100 = true := by decide +kernel
set_option maxRecDepth 100000 in
theorem kL_law_1100 : am_okR mL_law 1100 1146 = true := by decide +kernel
theorem kL_law : am_ok0 mL_law := by
  refine ⟨am_okM_of fun pc h => ?_, rfl⟩
  have h : pc < 1146 := h
  by_cases q0 : pc < 100
  · exact am_okR_of kL_law_0 (by omega) q0
  by_cases q100 : pc < 200
  · exact am_okR_of kL_law_100 (by omega) q100
  by_cases q200 : pc < 300
  · exact am_okR_of kL_law_200 (by omega) q200
  by_cases q300 : pc < 400
  · exact am_okR_of kL_law_300 (by omega) q300
  by_cases q400 : pc < 500
  · exact am_okR_of kL_law_400 (by omega) q400
  by_cases q500 : pc < 600
  · exact am_okR_of kL_law_500 (by omega) q500
  by_cases q600 : pc < 700
  · exact am_okR_of kL_law_600 (by omega) q600
  by_cases q700 : pc < 800
  · exact am_okR_of kL_law_700 (by omega) q700
  by_cases q800 : pc < 900
  · exact am_okR_of kL_law_800 (by omega) q800
  by_cases q900 : pc < 1000
  · exact am_okR_of kL_law_900 (by omega) q900
  by_cases q1000 : pc < 1100
  · exact am_okR_of kL_law_1000 (by omega) q1000
  exact am_okR_of kL_law_1100 (by omega) h
theorem lw_T_in2 {w : Cond} (h : w ∈ lw_tbl) (hg : goodWord w = true) : w ∈ lw_T := List.mem_filter.mpr ⟨h, hg⟩
theorem nX0 : RX0 ≠ "java/lang/invoke/MethodHandle" ∧ RX0 ≠ "java/lang/invoke/VarHandle" := ⟨by decide +kernel, by decide +kernel⟩
theorem nX1 : RX1 ≠ "java/lang/invoke/MethodHandle" ∧ RX1 ≠ "java/lang/invoke/VarHandle" := ⟨by decide +kernel, by decide +kernel⟩
theorem nX2 : RX2 ≠ "java/lang/invoke/MethodHandle" ∧ RX2 ≠ "java/lang/invoke/VarHandle" := ⟨by decide +kernel, by decide +kernel⟩
theorem nX3 : RX3 ≠ "java/lang/invoke/MethodHandle" ∧ RX3 ≠ "java/lang/invoke/VarHandle" := ⟨by decide +kernel, by decide +kernel⟩
theorem nX4 : RX4 ≠ "java/lang/invoke/MethodHandle" ∧ RX4 ≠ "java/lang/invoke/VarHandle" := ⟨by decide +kernel, by decide +kernel⟩
theorem nX5 : RX5 ≠ "java/lang/invoke/MethodHandle" ∧ RX5 ≠ "java/lang/invoke/VarHandle" := ⟨by decide +kernel, by decide +kernel⟩
theorem nX6 : RX6 ≠ "java/lang/invoke/MethodHandle" ∧ RX6 ≠ "java/lang/invoke/VarHandle" := ⟨by decide +kernel, by decide +kernel⟩
theorem nX7 : RX7 ≠ "java/lang/invoke/MethodHandle" ∧ RX7 ≠ "java/lang/invoke/VarHandle" := ⟨by decide +kernel, by decide +kernel⟩
theorem nX8 : RX8 ≠ "java/lang/invoke/MethodHandle" ∧ RX8 ≠ "java/lang/invoke/VarHandle" := ⟨by decide +kernel, by decide +kernel⟩
theorem nX9 : RX9 ≠ "java/lang/invoke/MethodHandle" ∧ RX9 ≠ "java/lang/invoke/VarHandle" := ⟨by decide +kernel, by decide +kernel⟩
theorem nX10 : RX10 ≠ "java/lang/invoke/MethodHandle" ∧ RX10 ≠ "java/lang/invoke/VarHandle" := ⟨by decide +kernel, by decide +kernel⟩
theorem nX11 : RX11 ≠ "java/lang/invoke/MethodHandle" ∧ RX11 ≠ "java/lang/invoke/VarHandle" := ⟨by decide +kernel, by decide +kernel⟩
theorem nX12 : RX12 ≠ "java/lang/invoke/MethodHandle" ∧ RX12 ≠ "java/lang/invoke/VarHandle" := ⟨by decide +kernel, by decide +kernel⟩
theorem nJ9 : RJ9 ≠ "java/lang/invoke/MethodHandle" ∧ RJ9 ≠ "java/lang/invoke/VarHandle" := ⟨by decide +kernel, by decide +kernel⟩
theorem nJ0 : RJ0 ≠ "java/lang/invoke/MethodHandle" ∧ RJ0 ≠ "java/lang/invoke/VarHandle" := ⟨by decide +kernel, by decide +kernel⟩
theorem nJ1 : RJ1 ≠ "java/lang/invoke/MethodHandle" ∧ RJ1 ≠ "java/lang/invoke/VarHandle" := ⟨by decide +kernel, by decide +kernel⟩
theorem nJ2 : RJ2 ≠ "java/lang/invoke/MethodHandle" ∧ RJ2 ≠ "java/lang/invoke/VarHandle" := ⟨by decide +kernel, by decide +kernel⟩
theorem nJ3 : RJ3 ≠ "java/lang/invoke/MethodHandle" ∧ RJ3 ≠ "java/lang/invoke/VarHandle" := ⟨by decide +kernel, by decide +kernel⟩
theorem pX0 : plainName RX0 = true := by decide +kernel
theorem pX1 : plainName RX1 = true := by decide +kernel
theorem pX2 : plainName RX2 = true := by decide +kernel
theorem pX3 : plainName RX3 = true := by decide +kernel
theorem pX4 : plainName RX4 = true := by decide +kernel
theorem pX5 : plainName RX5 = true := by decide +kernel
theorem pX6 : plainName RX6 = true := by decide +kernel
theorem pX7 : plainName RX7 = true := by decide +kernel
theorem pX8 : plainName RX8 = true := by decide +kernel
theorem pX9 : plainName RX9 = true := by decide +kernel
theorem pX10 : plainName RX10 = true := by decide +kernel
theorem pX11 : plainName RX11 = true := by decide +kernel
theorem pX12 : plainName RX12 = true := by decide +kernel
theorem pJ0 : plainName RJ0 = true := by decide +kernel
theorem pJ1 : plainName RJ1 = true := by decide +kernel
theorem pJ2 : plainName RJ2 = true := by decide +kernel
theorem pJ3 : plainName RJ3 = true := by decide +kernel
theorem pX0_init : plainFor yX0_init = true := plainFor_of_name pX0
set_option maxRecDepth 100000 in
theorem oX0_init : am_okC2 mX0_init 2 1 := ⟨lw_T_in2 (lw_m2 (i := 39) rfl) rfl, lw_T_in2 (lw_m1 (i := 12) rfl) rfl, ⟨nX0.1, nX0.2, by decide +kernel⟩, Nat.le_of_ble_eq_true rfl, ⟨lw_T_in2 (lw_m2 (i := 38) rfl) rfl, rfl, rfl⟩⟩
theorem pX11_within : plainFor yX11_within = true := plainFor_of_name pX11
set_option maxRecDepth 100000 in
theorem oX11_within : am_okC2 mX11_within 1 2 := ⟨lw_T_in2 (lw_m2 (i := 113) rfl) rfl, lw_T_in2 (lw_m1 (i := 1) rfl) rfl, ⟨nX11.1, nX11.2, by decide +kernel⟩, Nat.le_of_ble_eq_true rfl, lw_T_in2 (lw_m2 (i := 112) rfl) rfl⟩
theorem pX11_at : plainFor yX11_at = true := plainFor_of_name pX11
set_option maxRecDepth 100000 in
theorem oX11_at : am_okC2 mX11_at 1 2 := ⟨lw_T_in2 (lw_m2 (i := 146) rfl) rfl, lw_T_in2 (lw_m1 (i := 1) rfl) rfl, ⟨nX11.1, nX11.2, by decide +kernel⟩, Nat.le_of_ble_eq_true rfl, lw_T_in2 (lw_m2 (i := 145) rfl) rfl⟩
theorem pX0_left : plainFor yX0_left = true := plainFor_of_name pX0
set_option maxRecDepth 100000 in
theorem oX0_left : am_okC2 mX0_left 0 1 := ⟨lw_T_in2 (lw_m5 (i := 161) rfl) rfl, lw_T_in2 (lw_m1 (i := 12) rfl) rfl, ⟨nX0.1, nX0.2, by decide +kernel⟩, Nat.le_of_ble_eq_true rfl, ⟨lw_T_in2 (lw_m5 (i := 159) rfl) rfl, lw_T_in2 (lw_m5 (i := 160) rfl) rfl⟩⟩
theorem pX5_has : plainFor yX5_has = true := plainFor_of_name pX5
set_option maxRecDepth 100000 in
theorem oX5_has : am_okC2 mX5_has 0 1 := ⟨lw_T_in2 (lw_m4 (i := 16) rfl) rfl, lw_T_in2 (lw_m1 (i := 5) rfl) rfl, ⟨nX5.1, nX5.2, by decide +kernel⟩, Nat.le_of_ble_eq_true rfl, ⟨lw_T_in2 (lw_m4 (i := 14) rfl) rfl, lw_T_in2 (lw_m4 (i := 15) rfl) rfl⟩⟩
theorem pX5_wordAt : plainFor yX5_wordAt = true := plainFor_of_name pX5
set_option maxRecDepth 100000 in
theorem oX5_wordAt : am_okC2 mX5_wordAt 0 1 := ⟨lw_T_in2 (lw_m4 (i := 12) rfl) rfl, lw_T_in2 (lw_m1 (i := 5) rfl) rfl, ⟨nX5.1, nX5.2, by decide +kernel⟩, Nat.le_of_ble_eq_true rfl, ⟨lw_T_in2 (lw_m4 (i := 10) rfl) rfl, lw_T_in2 (lw_m4 (i := 11) rfl) rfl⟩⟩
theorem pX5_kindAt : plainFor yX5_kindAt = true := plainFor_of_name pX5
set_option maxRecDepth 100000 in
theorem oX5_kindAt : am_okC2 mX5_kindAt 0 1 := ⟨lw_T_in2 (lw_m5 (i := 85) rfl) rfl, lw_T_in2 (lw_m1 (i := 5) rfl) rfl, ⟨nX5.1, nX5.2, by decide +kernel⟩, Nat.le_of_ble_eq_true rfl, ⟨lw_T_in2 (lw_m5 (i := 83) rfl) rfl, lw_T_in2 (lw_m5 (i := 84) rfl) rfl⟩⟩
theorem pX0_begin : plainFor yX0_begin = true := plainFor_of_name pX0
set_option maxRecDepth 100000 in
theorem oX0_begin : am_okC2 mX0_begin 0 1 := ⟨lw_T_in2 (lw_m5 (i := 103) rfl) rfl, lw_T_in2 (lw_m1 (i := 12) rfl) rfl, ⟨nX0.1, nX0.2, by decide +kernel⟩, Nat.le_of_ble_eq_true rfl, ⟨lw_T_in2 (lw_m5 (i := 101) rfl) rfl, lw_T_in2 (lw_m5 (i := 102) rfl) rfl⟩⟩
theorem pX0_leave : plainFor yX0_leave = true := plainFor_of_name pX0
set_option maxRecDepth 100000 in
theorem oX0_leave : am_okC2 mX0_leave 0 1 := ⟨lw_T_in2 (lw_m5 (i := 117) rfl) rfl, lw_T_in2 (lw_m1 (i := 12) rfl) rfl, ⟨nX0.1, nX0.2, by decide +kernel⟩, Nat.le_of_ble_eq_true rfl, ⟨lw_T_in2 (lw_m5 (i := 116) rfl) rfl, lw_T_in2 (lw_m0 (i := 40) rfl) rfl⟩⟩
theorem pX0_body10 : plainFor yX0_body10 = true := plainFor_of_name pX0
set_option maxRecDepth 100000 in
theorem oX0_body10 : am_okC2 mX0_body10 0 0 := ⟨lw_T_in2 (lw_m5 (i := 121) rfl) rfl, lw_T_in2 (lw_m1 (i := 12) rfl) rfl, ⟨nX0.1, nX0.2, by decide +kernel⟩, Nat.le_of_ble_eq_true rfl, ⟨lw_T_in2 (lw_m5 (i := 120) rfl) rfl, lw_T_in2 (lw_m0 (i := 41) rfl) rfl⟩⟩
theorem pX0_body20 : plainFor yX0_body20 = true := plainFor_of_name pX0
set_option maxRecDepth 100000 in
theorem oX0_body20 : am_okC2 mX0_body20 0 0 := ⟨lw_T_in2 (lw_m5 (i := 125) rfl) rfl, lw_T_in2 (lw_m1 (i := 12) rfl) rfl, ⟨nX0.1, nX0.2, by decide +kernel⟩, Nat.le_of_ble_eq_true rfl, ⟨lw_T_in2 (lw_m5 (i := 124) rfl) rfl, lw_T_in2 (lw_m0 (i := 42) rfl) rfl⟩⟩
theorem pX0_body11 : plainFor yX0_body11 = true := plainFor_of_name pX0
set_option maxRecDepth 100000 in
theorem oX0_body11 : am_okC2 mX0_body11 0 0 := ⟨lw_T_in2 (lw_m5 (i := 113) rfl) rfl, lw_T_in2 (lw_m1 (i := 12) rfl) rfl, ⟨nX0.1, nX0.2, by decide +kernel⟩, Nat.le_of_ble_eq_true rfl, ⟨lw_T_in2 (lw_m5 (i := 112) rfl) rfl, lw_T_in2 (lw_m0 (i := 39) rfl) rfl⟩⟩
theorem pX0_body22 : plainFor yX0_body22 = true := plainFor_of_name pX0
set_option maxRecDepth 100000 in
theorem oX0_body22 : am_okC2 mX0_body22 0 0 := ⟨lw_T_in2 (lw_m5 (i := 133) rfl) rfl, lw_T_in2 (lw_m1 (i := 12) rfl) rfl, ⟨nX0.1, nX0.2, by decide +kernel⟩, Nat.le_of_ble_eq_true rfl, ⟨lw_T_in2 (lw_m5 (i := 132) rfl) rfl, lw_T_in2 (lw_m0 (i := 44) rfl) rfl⟩⟩
theorem pX0_body12 : plainFor yX0_body12 = true := plainFor_of_name pX0
set_option maxRecDepth 100000 in
theorem oX0_body12 : am_okC2 mX0_body12 0 0 := ⟨lw_T_in2 (lw_m5 (i := 129) rfl) rfl, lw_T_in2 (lw_m1 (i := 12) rfl) rfl, ⟨nX0.1, nX0.2, by decide +kernel⟩, Nat.le_of_ble_eq_true rfl, ⟨lw_T_in2 (lw_m5 (i := 128) rfl) rfl, lw_T_in2 (lw_m0 (i := 43) rfl) rfl⟩⟩
theorem pX0_body13 : plainFor yX0_body13 = true := plainFor_of_name pX0
set_option maxRecDepth 100000 in
theorem oX0_body13 : am_okC2 mX0_body13 0 0 := ⟨lw_T_in2 (lw_m5 (i := 137) rfl) rfl, lw_T_in2 (lw_m1 (i := 12) rfl) rfl, ⟨nX0.1, nX0.2, by decide +kernel⟩, Nat.le_of_ble_eq_true rfl, ⟨lw_T_in2 (lw_m5 (i := 136) rfl) rfl, lw_T_in2 (lw_m0 (i := 45) rfl) rfl⟩⟩
theorem pX0_body14 : plainFor yX0_body14 = true := plainFor_of_name pX0
set_option maxRecDepth 100000 in
theorem oX0_body14 : am_okC2 mX0_body14 0 0 := ⟨lw_T_in2 (lw_m5 (i := 141) rfl) rfl, lw_T_in2 (lw_m1 (i := 12) rfl) rfl, ⟨nX0.1, nX0.2, by decide +kernel⟩, Nat.le_of_ble_eq_true rfl, ⟨lw_T_in2 (lw_m5 (i := 140) rfl) rfl, lw_T_in2 (lw_m0 (i := 46) rfl) rfl⟩⟩
theorem pX0_sizeOfAsked : plainFor yX0_sizeOfAsked = true := plainFor_of_name pX0
set_option maxRecDepth 100000 in
theorem oX0_sizeOfAsked : am_okC2 mX0_sizeOfAsked 0 0 := ⟨lw_T_in2 (lw_m5 (i := 109) rfl) rfl, lw_T_in2 (lw_m1 (i := 12) rfl) rfl, ⟨nX0.1, nX0.2, by decide +kernel⟩, Nat.le_of_ble_eq_true rfl, ⟨lw_T_in2 (lw_m5 (i := 107) rfl) rfl, lw_T_in2 (lw_m5 (i := 108) rfl) rfl⟩⟩
theorem pX0_body21 : plainFor yX0_body21 = true := plainFor_of_name pX0
set_option maxRecDepth 100000 in
theorem oX0_body21 : am_okC2 mX0_body21 0 0 := ⟨lw_T_in2 (lw_m5 (i := 149) rfl) rfl, lw_T_in2 (lw_m1 (i := 12) rfl) rfl, ⟨nX0.1, nX0.2, by decide +kernel⟩, Nat.le_of_ble_eq_true rfl, ⟨lw_T_in2 (lw_m5 (i := 148) rfl) rfl, lw_T_in2 (lw_m0 (i := 47) rfl) rfl⟩⟩
theorem pX0_body23 : plainFor yX0_body23 = true := plainFor_of_name pX0
set_option maxRecDepth 100000 in
theorem oX0_body23 : am_okC2 mX0_body23 0 0 := ⟨lw_T_in2 (lw_m5 (i := 153) rfl) rfl, lw_T_in2 (lw_m1 (i := 12) rfl) rfl, ⟨nX0.1, nX0.2, by decide +kernel⟩, Nat.le_of_ble_eq_true rfl, ⟨lw_T_in2 (lw_m5 (i := 152) rfl) rfl, lw_T_in2 (lw_m0 (i := 48) rfl) rfl⟩⟩
theorem pX0_markOfAsked : plainFor yX0_markOfAsked = true := plainFor_of_name pX0
set_option maxRecDepth 100000 in
theorem oX0_markOfAsked : am_okC2 mX0_markOfAsked 0 0 := ⟨lw_T_in2 (lw_m5 (i := 145) rfl) rfl, lw_T_in2 (lw_m1 (i := 12) rfl) rfl, ⟨nX0.1, nX0.2, by decide +kernel⟩, Nat.le_of_ble_eq_true rfl, ⟨lw_T_in2 (lw_m5 (i := 143) rfl) rfl, lw_T_in2 (lw_m5 (i := 144) rfl) rfl⟩⟩
theorem pX1_init : plainFor yX1_init = true := plainFor_of_name pX1
set_option maxRecDepth 100000 in
theorem oX1_init : am_okC2 mX1_init 2 1 := ⟨lw_T_in2 (lw_m1 (i := 193) rfl) rfl, lw_T_in2 (lw_m1 (i := 9) rfl) rfl, ⟨nX1.1, nX1.2, by decide +kernel⟩, Nat.le_of_ble_eq_true rfl, ⟨lw_T_in2 (lw_m1 (i := 192) rfl) rfl, rfl, rfl⟩⟩
theorem pX1_classOf : plainFor yX1_classOf = true := plainFor_of_name pX1
set_option maxRecDepth 100000 in
theorem oX1_classOf : am_okC2 mX1_classOf 0 1 := ⟨lw_T_in2 (lw_m4 (i := 112) rfl) rfl, lw_T_in2 (lw_m1 (i := 9) rfl) rfl, ⟨nX1.1, nX1.2, by decide +kernel⟩, Nat.le_of_ble_eq_true rfl, ⟨lw_T_in2 (lw_m4 (i := 110) rfl) rfl, lw_T_in2 (lw_m4 (i := 111) rfl) rfl⟩⟩
theorem pX1_classes : plainFor yX1_classes = true := plainFor_of_name pX1
set_option maxRecDepth 100000 in
theorem oX1_classes : am_okC2 mX1_classes 0 0 := ⟨lw_T_in2 (lw_m4 (i := 123) rfl) rfl, lw_T_in2 (lw_m1 (i := 9) rfl) rfl, ⟨nX1.1, nX1.2, by decide +kernel⟩, Nat.le_of_ble_eq_true rfl, ⟨lw_T_in2 (lw_m4 (i := 121) rfl) rfl, lw_T_in2 (lw_m4 (i := 122) rfl) rfl⟩⟩
theorem pX8_corners : plainFor yX8_corners = true := plainFor_of_name pX8
set_option maxRecDepth 100000 in
theorem oX8_corners : am_okC2 mX8_corners 0 0 := ⟨lw_T_in2 (lw_m3 (i := 162) rfl) rfl, lw_T_in2 (lw_m1 (i := 4) rfl) rfl, ⟨nX8.1, nX8.2, by decide +kernel⟩, Nat.le_of_ble_eq_true rfl, ⟨lw_T_in2 (lw_m3 (i := 160) rfl) rfl, lw_T_in2 (lw_m3 (i := 161) rfl) rfl⟩⟩
theorem pX8_steepest : plainFor yX8_steepest = true := plainFor_of_name pX8
set_option maxRecDepth 100000 in
theorem oX8_steepest : am_okC2 mX8_steepest 0 2 := ⟨lw_T_in2 (lw_m4 (i := 54) rfl) rfl, lw_T_in2 (lw_m1 (i := 4) rfl) rfl, ⟨nX8.1, nX8.2, by decide +kernel⟩, Nat.le_of_ble_eq_true rfl, ⟨lw_T_in2 (lw_m4 (i := 52) rfl) rfl, lw_T_in2 (lw_m4 (i := 53) rfl) rfl⟩⟩
theorem pX11_put : plainFor yX11_put = true := plainFor_of_name pX11
set_option maxRecDepth 100000 in
theorem oX11_put : am_okC2 mX11_put 1 3 := ⟨lw_T_in2 (lw_m2 (i := 127) rfl) rfl, lw_T_in2 (lw_m1 (i := 1) rfl) rfl, ⟨nX11.1, nX11.2, by decide +kernel⟩, Nat.le_of_ble_eq_true rfl, lw_T_in2 (lw_m2 (i := 126) rfl) rfl⟩
theorem pX8_marked : plainFor yX8_marked = true := plainFor_of_name pX8
set_option maxRecDepth 100000 in
theorem oX8_marked : am_okC2 mX8_marked 0 2 := ⟨lw_T_in2 (lw_m4 (i := 65) rfl) rfl, lw_T_in2 (lw_m1 (i := 4) rfl) rfl, ⟨nX8.1, nX8.2, by decide +kernel⟩, Nat.le_of_ble_eq_true rfl, ⟨lw_T_in2 (lw_m4 (i := 63) rfl) rfl, lw_T_in2 (lw_m4 (i := 64) rfl) rfl⟩⟩
theorem pX1_look : plainFor yX1_look = true := plainFor_of_name pX1
set_option maxRecDepth 100000 in
theorem oX1_look : am_okC2 mX1_look 0 0 := ⟨lw_T_in2 (lw_m4 (i := 94) rfl) rfl, lw_T_in2 (lw_m1 (i := 9) rfl) rfl, ⟨nX1.1, nX1.2, by decide +kernel⟩, Nat.le_of_ble_eq_true rfl, ⟨lw_T_in2 (lw_m4 (i := 93) rfl) rfl, lw_T_in2 (lw_m0 (i := 24) rfl) rfl⟩⟩
theorem pX1_goalOf : plainFor yX1_goalOf = true := plainFor_of_name pX1
set_option maxRecDepth 100000 in
theorem oX1_goalOf : am_okC2 mX1_goalOf 0 2 := ⟨lw_T_in2 (lw_m4 (i := 117) rfl) rfl, lw_T_in2 (lw_m1 (i := 9) rfl) rfl, ⟨nX1.1, nX1.2, by decide +kernel⟩, Nat.le_of_ble_eq_true rfl, ⟨lw_T_in2 (lw_m4 (i := 116) rfl) rfl, lw_T_in2 (lw_m0 (i := 27) rfl) rfl⟩⟩
theorem pX11_fill : plainFor yX11_fill = true := plainFor_of_name pX11
set_option maxRecDepth 100000 in
theorem oX11_fill : am_okC2 mX11_fill 1 2 := ⟨lw_T_in2 (lw_m1 (i := 35) rfl) rfl, lw_T_in2 (lw_m1 (i := 1) rfl) rfl, ⟨nX11.1, nX11.2, by decide +kernel⟩, Nat.le_of_ble_eq_true rfl, lw_T_in2 (lw_m1 (i := 34) rfl) rfl⟩
theorem pX8_markOf : plainFor yX8_markOf = true := plainFor_of_name pX8
set_option maxRecDepth 100000 in
theorem oX8_markOf : am_okC2 mX8_markOf 0 1 := ⟨lw_T_in2 (lw_m3 (i := 227) rfl) rfl, lw_T_in2 (lw_m1 (i := 4) rfl) rfl, ⟨nX8.1, nX8.2, by decide +kernel⟩, Nat.le_of_ble_eq_true rfl, ⟨lw_T_in2 (lw_m3 (i := 225) rfl) rfl, lw_T_in2 (lw_m3 (i := 226) rfl) rfl⟩⟩
theorem pX1_alikeSoFar : plainFor yX1_alikeSoFar = true := plainFor_of_name pX1
set_option maxRecDepth 100000 in
theorem oX1_alikeSoFar : am_okC2 mX1_alikeSoFar 0 2 := ⟨lw_T_in2 (lw_m4 (i := 107) rfl) rfl, lw_T_in2 (lw_m1 (i := 9) rfl) rfl, ⟨nX1.1, nX1.2, by decide +kernel⟩, Nat.le_of_ble_eq_true rfl, ⟨lw_T_in2 (lw_m4 (i := 106) rfl) rfl, lw_T_in2 (lw_m0 (i := 26) rfl) rfl⟩⟩
theorem pX1_finerClassOf : plainFor yX1_finerClassOf = true := plainFor_of_name pX1
set_option maxRecDepth 100000 in
theorem oX1_finerClassOf : am_okC2 mX1_finerClassOf 0 1 := ⟨lw_T_in2 (lw_m4 (i := 103) rfl) rfl, lw_T_in2 (lw_m1 (i := 9) rfl) rfl, ⟨nX1.1, nX1.2, by decide +kernel⟩, Nat.le_of_ble_eq_true rfl, ⟨lw_T_in2 (lw_m4 (i := 102) rfl) rfl, lw_T_in2 (lw_m0 (i := 25) rfl) rfl⟩⟩
theorem pX11_putAll : plainFor yX11_putAll = true := plainFor_of_name pX11
set_option maxRecDepth 100000 in
theorem oX11_putAll : am_okC2 mX11_putAll 1 2 := ⟨lw_T_in2 (lw_m3 (i := 154) rfl) rfl, lw_T_in2 (lw_m1 (i := 1) rfl) rfl, ⟨nX11.1, nX11.2, by decide +kernel⟩, Nat.le_of_ble_eq_true rfl, lw_T_in2 (lw_m3 (i := 153) rfl) rfl⟩
theorem pX1_sortIntoClasses : plainFor yX1_sortIntoClasses = true := plainFor_of_name pX1
set_option maxRecDepth 100000 in
theorem oX1_sortIntoClasses : am_okC2 mX1_sortIntoClasses 0 0 := ⟨lw_T_in2 (lw_m4 (i := 90) rfl) rfl, lw_T_in2 (lw_m1 (i := 9) rfl) rfl, ⟨nX1.1, nX1.2, by decide +kernel⟩, Nat.le_of_ble_eq_true rfl, ⟨lw_T_in2 (lw_m4 (i := 88) rfl) rfl, lw_T_in2 (lw_m4 (i := 89) rfl) rfl⟩⟩
theorem pX1_notePair : plainFor yX1_notePair = true := plainFor_of_name pX1
set_option maxRecDepth 100000 in
theorem oX1_notePair : am_okC2 mX1_notePair 0 3 := ⟨lw_T_in2 (lw_m5 (i := 33) rfl) rfl, lw_T_in2 (lw_m1 (i := 9) rfl) rfl, ⟨nX1.1, nX1.2, by decide +kernel⟩, Nat.le_of_ble_eq_true rfl, ⟨lw_T_in2 (lw_m5 (i := 32) rfl) rfl, lw_T_in2 (lw_m0 (i := 36) rfl) rfl⟩⟩
theorem pX1_stepOf : plainFor yX1_stepOf = true := plainFor_of_name pX1
set_option maxRecDepth 100000 in
theorem oX1_stepOf : am_okC2 mX1_stepOf 0 3 := ⟨lw_T_in2 (lw_m5 (i := 37) rfl) rfl, lw_T_in2 (lw_m1 (i := 9) rfl) rfl, ⟨nX1.1, nX1.2, by decide +kernel⟩, Nat.le_of_ble_eq_true rfl, ⟨lw_T_in2 (lw_m5 (i := 36) rfl) rfl, lw_T_in2 (lw_m0 (i := 37) rfl) rfl⟩⟩
theorem pX1_soonestMeeting : plainFor yX1_soonestMeeting = true := plainFor_of_name pX1
set_option maxRecDepth 100000 in
theorem oX1_soonestMeeting : am_okC2 mX1_soonestMeeting 0 2 := ⟨lw_T_in2 (lw_m5 (i := 28) rfl) rfl, lw_T_in2 (lw_m1 (i := 9) rfl) rfl, ⟨nX1.1, nX1.2, by decide +kernel⟩, Nat.le_of_ble_eq_true rfl, ⟨lw_T_in2 (lw_m5 (i := 26) rfl) rfl, lw_T_in2 (lw_m5 (i := 27) rfl) rfl⟩⟩
theorem pX8_init : plainFor yX8_init = true := plainFor_of_name pX8
set_option maxRecDepth 100000 in
theorem oX8_init : am_okC2 mX8_init 2 0 := ⟨lw_T_in2 (lw_m1 (i := 88) rfl) rfl, lw_T_in2 (lw_m1 (i := 4) rfl) rfl, ⟨nX8.1, nX8.2, by decide +kernel⟩, Nat.le_of_ble_eq_true rfl, ⟨lw_T_in2 (lw_m1 (i := 87) rfl) rfl, rfl, rfl⟩⟩
theorem pX5_init : plainFor yX5_init = true := plainFor_of_name pX5
set_option maxRecDepth 100000 in
theorem oX5_init : am_okC2 mX5_init 2 0 := ⟨lw_T_in2 (lw_m1 (i := 119) rfl) rfl, lw_T_in2 (lw_m1 (i := 5) rfl) rfl, ⟨nX5.1, nX5.2, by decide +kernel⟩, Nat.le_of_ble_eq_true rfl, ⟨lw_T_in2 (lw_m1 (i := 118) rfl) rfl, rfl, rfl⟩⟩
theorem pX2_init : plainFor yX2_init = true := plainFor_of_name pX2
set_option maxRecDepth 100000 in
theorem oX2_init : am_okC2 mX2_init 2 0 := ⟨lw_T_in2 (lw_m1 (i := 132) rfl) rfl, lw_T_in2 (lw_m1 (i := 6) rfl) rfl, ⟨nX2.1, nX2.2, by decide +kernel⟩, Nat.le_of_ble_eq_true rfl, ⟨lw_T_in2 (lw_m1 (i := 131) rfl) rfl, rfl, rfl⟩⟩
theorem pX2_isKept : plainFor yX2_isKept = true := plainFor_of_name pX2
set_option maxRecDepth 100000 in
theorem oX2_isKept : am_okC2 mX2_isKept 0 0 := ⟨lw_T_in2 (lw_m5 (i := 72) rfl) rfl, lw_T_in2 (lw_m1 (i := 6) rfl) rfl, ⟨nX2.1, nX2.2, by decide +kernel⟩, Nat.le_of_ble_eq_true rfl, ⟨lw_T_in2 (lw_m5 (i := 70) rfl) rfl, lw_T_in2 (lw_m5 (i := 71) rfl) rfl⟩⟩
theorem pX8_become : plainFor yX8_become = true := plainFor_of_name pX8
set_option maxRecDepth 100000 in
theorem oX8_become : am_okC2 mX8_become 0 1 := ⟨lw_T_in2 (lw_m3 (i := 151) rfl) rfl, lw_T_in2 (lw_m1 (i := 4) rfl) rfl, ⟨nX8.1, nX8.2, by decide +kernel⟩, Nat.le_of_ble_eq_true rfl, ⟨lw_T_in2 (lw_m3 (i := 149) rfl) rfl, lw_T_in2 (lw_m3 (i := 150) rfl) rfl⟩⟩
theorem pX5_become : plainFor yX5_become = true := plainFor_of_name pX5
set_option maxRecDepth 100000 in
theorem oX5_become : am_okC2 mX5_become 0 1 := ⟨lw_T_in2 (lw_m3 (i := 194) rfl) rfl, lw_T_in2 (lw_m1 (i := 5) rfl) rfl, ⟨nX5.1, nX5.2, by decide +kernel⟩, Nat.le_of_ble_eq_true rfl, ⟨lw_T_in2 (lw_m3 (i := 192) rfl) rfl, lw_T_in2 (lw_m3 (i := 193) rfl) rfl⟩⟩
theorem pX2_keep : plainFor yX2_keep = true := plainFor_of_name pX2
set_option maxRecDepth 100000 in
theorem oX2_keep : am_okC2 mX2_keep 0 2 := ⟨lw_T_in2 (lw_m5 (i := 62) rfl) rfl, lw_T_in2 (lw_m1 (i := 6) rfl) rfl, ⟨nX2.1, nX2.2, by decide +kernel⟩, Nat.le_of_ble_eq_true rfl, ⟨lw_T_in2 (lw_m5 (i := 60) rfl) rfl, lw_T_in2 (lw_m5 (i := 61) rfl) rfl⟩⟩
theorem pX2_giveBack : plainFor yX2_giveBack = true := plainFor_of_name pX2
set_option maxRecDepth 100000 in
theorem oX2_giveBack : am_okC2 mX2_giveBack 0 2 := ⟨lw_T_in2 (lw_m5 (i := 76) rfl) rfl, lw_T_in2 (lw_m1 (i := 6) rfl) rfl, ⟨nX2.1, nX2.2, by decide +kernel⟩, Nat.le_of_ble_eq_true rfl, ⟨lw_T_in2 (lw_m5 (i := 74) rfl) rfl, lw_T_in2 (lw_m5 (i := 75) rfl) rfl⟩⟩
theorem pX3_init : plainFor yX3_init = true := plainFor_of_name pX3
set_option maxRecDepth 100000 in
theorem oX3_init : am_okC2 mX3_init 2 1 := ⟨lw_T_in2 (lw_m2 (i := 17) rfl) rfl, lw_T_in2 (lw_m1 (i := 11) rfl) rfl, ⟨nX3.1, nX3.2, by decide +kernel⟩, Nat.le_of_ble_eq_true rfl, ⟨lw_T_in2 (lw_m2 (i := 16) rfl) rfl, rfl, rfl⟩⟩
theorem pX3_forget : plainFor yX3_forget = true := plainFor_of_name pX3
set_option maxRecDepth 100000 in
theorem oX3_forget : am_okC2 mX3_forget 0 0 := ⟨lw_T_in2 (lw_m3 (i := 158) rfl) rfl, lw_T_in2 (lw_m1 (i := 11) rfl) rfl, ⟨nX3.1, nX3.2, by decide +kernel⟩, Nat.le_of_ble_eq_true rfl, ⟨lw_T_in2 (lw_m3 (i := 156) rfl) rfl, lw_T_in2 (lw_m3 (i := 157) rfl) rfl⟩⟩
theorem pX8_heightOf : plainFor yX8_heightOf = true := plainFor_of_name pX8
set_option maxRecDepth 100000 in
theorem oX8_heightOf : am_okC2 mX8_heightOf 0 1 := ⟨lw_T_in2 (lw_m3 (i := 223) rfl) rfl, lw_T_in2 (lw_m1 (i := 4) rfl) rfl, ⟨nX8.1, nX8.2, by decide +kernel⟩, Nat.le_of_ble_eq_true rfl, ⟨lw_T_in2 (lw_m3 (i := 221) rfl) rfl, lw_T_in2 (lw_m3 (i := 222) rfl) rfl⟩⟩
theorem pX8_hasWell : plainFor yX8_hasWell = true := plainFor_of_name pX8
set_option maxRecDepth 100000 in
theorem oX8_hasWell : am_okC2 mX8_hasWell 0 1 := ⟨lw_T_in2 (lw_m3 (i := 231) rfl) rfl, lw_T_in2 (lw_m1 (i := 4) rfl) rfl, ⟨nX8.1, nX8.2, by decide +kernel⟩, Nat.le_of_ble_eq_true rfl, ⟨lw_T_in2 (lw_m3 (i := 229) rfl) rfl, lw_T_in2 (lw_m3 (i := 230) rfl) rfl⟩⟩
theorem pX8_streetsAt : plainFor yX8_streetsAt = true := plainFor_of_name pX8
set_option maxRecDepth 100000 in
theorem oX8_streetsAt : am_okC2 mX8_streetsAt 0 1 := ⟨lw_T_in2 (lw_m3 (i := 130) rfl) rfl, lw_T_in2 (lw_m1 (i := 4) rfl) rfl, ⟨nX8.1, nX8.2, by decide +kernel⟩, Nat.le_of_ble_eq_true rfl, ⟨lw_T_in2 (lw_m3 (i := 128) rfl) rfl, lw_T_in2 (lw_m3 (i := 129) rfl) rfl⟩⟩
theorem pX8_joined : plainFor yX8_joined = true := plainFor_of_name pX8
set_option maxRecDepth 100000 in
theorem oX8_joined : am_okC2 mX8_joined 0 2 := ⟨lw_T_in2 (lw_m3 (i := 125) rfl) rfl, lw_T_in2 (lw_m1 (i := 4) rfl) rfl, ⟨nX8.1, nX8.2, by decide +kernel⟩, Nat.le_of_ble_eq_true rfl, ⟨lw_T_in2 (lw_m3 (i := 123) rfl) rfl, lw_T_in2 (lw_m3 (i := 124) rfl) rfl⟩⟩
theorem pX3_fits : plainFor yX3_fits = true := plainFor_of_name pX3
set_option maxRecDepth 100000 in
theorem oX3_fits : am_okC2 mX3_fits 0 2 := ⟨lw_T_in2 (lw_m4 (i := 208) rfl) rfl, lw_T_in2 (lw_m1 (i := 11) rfl) rfl, ⟨nX3.1, nX3.2, by decide +kernel⟩, Nat.le_of_ble_eq_true rfl, ⟨lw_T_in2 (lw_m4 (i := 207) rfl) rfl, lw_T_in2 (lw_m0 (i := 32) rfl) rfl⟩⟩
theorem pX8_neighbour : plainFor yX8_neighbour = true := plainFor_of_name pX8
set_option maxRecDepth 100000 in
theorem oX8_neighbour : am_okC2 mX8_neighbour 0 2 := ⟨lw_T_in2 (lw_m3 (i := 236) rfl) rfl, lw_T_in2 (lw_m1 (i := 4) rfl) rfl, ⟨nX8.1, nX8.2, by decide +kernel⟩, Nat.le_of_ble_eq_true rfl, ⟨lw_T_in2 (lw_m3 (i := 234) rfl) rfl, lw_T_in2 (lw_m3 (i := 235) rfl) rfl⟩⟩
theorem pJ9_floorMod_7cf53 : plainFor yJ9_floorMod_7cf53 = true := by decide +kernel
set_option maxRecDepth 100000 in
theorem oJ9_floorMod_7cf53 : am_okC2 mJ9_floorMod_7cf53 1 2 := ⟨lw_T_in2 (lw_m4 (i := 61) rfl) rfl, lw_T_in2 (lw_m1 (i := 18) rfl) rfl, ⟨nJ9.1, nJ9.2, by decide +kernel⟩, Nat.le_of_ble_eq_true rfl, lw_T_in2 (lw_m4 (i := 60) rfl) rfl⟩
theorem pX8_roundFrom : plainFor yX8_roundFrom = true := plainFor_of_name pX8
set_option maxRecDepth 100000 in
theorem oX8_roundFrom : am_okC2 mX8_roundFrom 0 3 := ⟨lw_T_in2 (lw_m4 (i := 58) rfl) rfl, lw_T_in2 (lw_m1 (i := 4) rfl) rfl, ⟨nX8.1, nX8.2, by decide +kernel⟩, Nat.le_of_ble_eq_true rfl, ⟨lw_T_in2 (lw_m4 (i := 56) rfl) rfl, lw_T_in2 (lw_m4 (i := 57) rfl) rfl⟩⟩
theorem pX3_ordersAgree : plainFor yX3_ordersAgree = true := plainFor_of_name pX3
set_option maxRecDepth 100000 in
theorem oX3_ordersAgree : am_okC2 mX3_ordersAgree 0 1 := ⟨lw_T_in2 (lw_m4 (i := 219) rfl) rfl, lw_T_in2 (lw_m1 (i := 11) rfl) rfl, ⟨nX3.1, nX3.2, by decide +kernel⟩, Nat.le_of_ble_eq_true rfl, ⟨lw_T_in2 (lw_m4 (i := 218) rfl) rfl, lw_T_in2 (lw_m0 (i := 33) rfl) rfl⟩⟩
theorem pX3_nextToLay : plainFor yX3_nextToLay = true := plainFor_of_name pX3
set_option maxRecDepth 100000 in
theorem oX3_nextToLay : am_okC2 mX3_nextToLay 0 0 := ⟨lw_T_in2 (lw_m4 (i := 229) rfl) rfl, lw_T_in2 (lw_m1 (i := 11) rfl) rfl, ⟨nX3.1, nX3.2, by decide +kernel⟩, Nat.le_of_ble_eq_true rfl, ⟨lw_T_in2 (lw_m4 (i := 228) rfl) rfl, lw_T_in2 (lw_m0 (i := 35) rfl) rfl⟩⟩
theorem pX3_canLay : plainFor yX3_canLay = true := plainFor_of_name pX3
set_option maxRecDepth 100000 in
theorem oX3_canLay : am_okC2 mX3_canLay 0 4 := ⟨lw_T_in2 (lw_m4 (i := 204) rfl) rfl, lw_T_in2 (lw_m1 (i := 11) rfl) rfl, ⟨nX3.1, nX3.2, by decide +kernel⟩, Nat.le_of_ble_eq_true rfl, ⟨lw_T_in2 (lw_m4 (i := 203) rfl) rfl, lw_T_in2 (lw_m0 (i := 31) rfl) rfl⟩⟩
theorem pX3_canLayRest : plainFor yX3_canLayRest = true := plainFor_of_name pX3
set_option maxRecDepth 100000 in
theorem oX3_canLayRest : am_okC2 mX3_canLayRest 0 2 := ⟨lw_T_in2 (lw_m4 (i := 225) rfl) rfl, lw_T_in2 (lw_m1 (i := 11) rfl) rfl, ⟨nX3.1, nX3.2, by decide +kernel⟩, Nat.le_of_ble_eq_true rfl, ⟨lw_T_in2 (lw_m4 (i := 224) rfl) rfl, lw_T_in2 (lw_m0 (i := 34) rfl) rfl⟩⟩
theorem pX3_countAll : plainFor yX3_countAll = true := plainFor_of_name pX3
set_option maxRecDepth 100000 in
theorem oX3_countAll : am_okC2 mX3_countAll 0 0 := ⟨lw_T_in2 (lw_m4 (i := 197) rfl) rfl, lw_T_in2 (lw_m1 (i := 11) rfl) rfl, ⟨nX3.1, nX3.2, by decide +kernel⟩, Nat.le_of_ble_eq_true rfl, ⟨lw_T_in2 (lw_m4 (i := 195) rfl) rfl, lw_T_in2 (lw_m4 (i := 196) rfl) rfl⟩⟩
theorem pX3_howMany : plainFor yX3_howMany = true := plainFor_of_name pX3
set_option maxRecDepth 100000 in
theorem oX3_howMany : am_okC2 mX3_howMany 0 1 := ⟨lw_T_in2 (lw_m4 (i := 233) rfl) rfl, lw_T_in2 (lw_m1 (i := 11) rfl) rfl, ⟨nX3.1, nX3.2, by decide +kernel⟩, Nat.le_of_ble_eq_true rfl, ⟨lw_T_in2 (lw_m4 (i := 231) rfl) rfl, lw_T_in2 (lw_m4 (i := 232) rfl) rfl⟩⟩
theorem pX3_whereLaid : plainFor yX3_whereLaid = true := plainFor_of_name pX3
set_option maxRecDepth 100000 in
theorem oX3_whereLaid : am_okC2 mX3_whereLaid 0 3 := ⟨lw_T_in2 (lw_m4 (i := 237) rfl) rfl, lw_T_in2 (lw_m1 (i := 11) rfl) rfl, ⟨nX3.1, nX3.2, by decide +kernel⟩, Nat.le_of_ble_eq_true rfl, ⟨lw_T_in2 (lw_m4 (i := 235) rfl) rfl, lw_T_in2 (lw_m4 (i := 236) rfl) rfl⟩⟩
theorem pX3_leastMovedByAllImages : plainFor yX3_leastMovedByAllImages = true := plainFor_of_name pX3
set_option maxRecDepth 100000 in
theorem oX3_leastMovedByAllImages : am_okC2 mX3_leastMovedByAllImages 0 0 := ⟨lw_T_in2 (lw_m5 (i := 7) rfl) rfl, lw_T_in2 (lw_m1 (i := 11) rfl) rfl, ⟨nX3.1, nX3.2, by decide +kernel⟩, Nat.le_of_ble_eq_true rfl, ⟨lw_T_in2 (lw_m5 (i := 5) rfl) rfl, lw_T_in2 (lw_m5 (i := 6) rfl) rfl⟩⟩
theorem pX4_init : plainFor yX4_init = true := plainFor_of_name pX4
set_option maxRecDepth 100000 in
theorem oX4_init : am_okC2 mX4_init 2 0 := ⟨lw_T_in2 (lw_m1 (i := 31) rfl) rfl, lw_T_in2 (lw_m1 (i := 2) rfl) rfl, ⟨nX4.1, nX4.2, by decide +kernel⟩, Nat.le_of_ble_eq_true rfl, ⟨lw_T_in2 (lw_m1 (i := 30) rfl) rfl, rfl, rfl⟩⟩
theorem pX4_has : plainFor yX4_has = true := plainFor_of_name pX4
set_option maxRecDepth 100000 in
theorem oX4_has : am_okC2 mX4_has 0 1 := ⟨lw_T_in2 (lw_m2 (i := 110) rfl) rfl, lw_T_in2 (lw_m1 (i := 2) rfl) rfl, ⟨nX4.1, nX4.2, by decide +kernel⟩, Nat.le_of_ble_eq_true rfl, ⟨lw_T_in2 (lw_m2 (i := 108) rfl) rfl, lw_T_in2 (lw_m2 (i := 109) rfl) rfl⟩⟩
theorem pX4_missing : plainFor yX4_missing = true := plainFor_of_name pX4
set_option maxRecDepth 100000 in
theorem oX4_missing : am_okC2 mX4_missing 0 1 := ⟨lw_T_in2 (lw_m2 (i := 143) rfl) rfl, lw_T_in2 (lw_m1 (i := 2) rfl) rfl, ⟨nX4.1, nX4.2, by decide +kernel⟩, Nat.le_of_ble_eq_true rfl, ⟨lw_T_in2 (lw_m2 (i := 141) rfl) rfl, lw_T_in2 (lw_m2 (i := 142) rfl) rfl⟩⟩
theorem pX4_howMany : plainFor yX4_howMany = true := plainFor_of_name pX4
set_option maxRecDepth 100000 in
theorem oX4_howMany : am_okC2 mX4_howMany 0 0 := ⟨lw_T_in2 (lw_m5 (i := 172) rfl) rfl, lw_T_in2 (lw_m1 (i := 2) rfl) rfl, ⟨nX4.1, nX4.2, by decide +kernel⟩, Nat.le_of_ble_eq_true rfl, ⟨lw_T_in2 (lw_m5 (i := 170) rfl) rfl, lw_T_in2 (lw_m5 (i := 171) rfl) rfl⟩⟩
theorem pX4_beyond : plainFor yX4_beyond = true := plainFor_of_name pX4
set_option maxRecDepth 100000 in
theorem oX4_beyond : am_okC2 mX4_beyond 0 3 := ⟨lw_T_in2 (lw_m2 (i := 151) rfl) rfl, lw_T_in2 (lw_m1 (i := 2) rfl) rfl, ⟨nX4.1, nX4.2, by decide +kernel⟩, Nat.le_of_ble_eq_true rfl, ⟨lw_T_in2 (lw_m2 (i := 150) rfl) rfl, lw_T_in2 (lw_m0 (i := 2) rfl) rfl⟩⟩
theorem pX4_findingAt : plainFor yX4_findingAt = true := plainFor_of_name pX4
set_option maxRecDepth 100000 in
theorem oX4_findingAt : am_okC2 mX4_findingAt 0 3 := ⟨lw_T_in2 (lw_m2 (i := 139) rfl) rfl, lw_T_in2 (lw_m1 (i := 2) rfl) rfl, ⟨nX4.1, nX4.2, by decide +kernel⟩, Nat.le_of_ble_eq_true rfl, ⟨lw_T_in2 (lw_m2 (i := 137) rfl) rfl, lw_T_in2 (lw_m2 (i := 138) rfl) rfl⟩⟩
theorem pX4_findingBetween : plainFor yX4_findingBetween = true := plainFor_of_name pX4
set_option maxRecDepth 100000 in
theorem oX4_findingBetween : am_okC2 mX4_findingBetween 0 5 := ⟨lw_T_in2 (lw_m2 (i := 166) rfl) rfl, lw_T_in2 (lw_m1 (i := 2) rfl) rfl, ⟨nX4.1, nX4.2, by decide +kernel⟩, Nat.le_of_ble_eq_true rfl, ⟨lw_T_in2 (lw_m2 (i := 164) rfl) rfl, lw_T_in2 (lw_m2 (i := 165) rfl) rfl⟩⟩
theorem pX4_make : plainFor yX4_make = true := plainFor_of_name pX4
set_option maxRecDepth 100000 in
theorem oX4_make : am_okC2 mX4_make 0 3 := ⟨lw_T_in2 (lw_m2 (i := 124) rfl) rfl, lw_T_in2 (lw_m1 (i := 2) rfl) rfl, ⟨nX4.1, nX4.2, by decide +kernel⟩, Nat.le_of_ble_eq_true rfl, ⟨lw_T_in2 (lw_m2 (i := 122) rfl) rfl, lw_T_in2 (lw_m2 (i := 123) rfl) rfl⟩⟩
theorem pX4_item : plainFor yX4_item = true := plainFor_of_name pX4
set_option maxRecDepth 100000 in
theorem oX4_item : am_okC2 mX4_item 0 2 := ⟨lw_T_in2 (lw_m2 (i := 174) rfl) rfl, lw_T_in2 (lw_m1 (i := 2) rfl) rfl, ⟨nX4.1, nX4.2, by decide +kernel⟩, Nat.le_of_ble_eq_true rfl, ⟨lw_T_in2 (lw_m2 (i := 172) rfl) rfl, lw_T_in2 (lw_m2 (i := 173) rfl) rfl⟩⟩
theorem pX4_lowestBits : plainFor yX4_lowestBits = true := plainFor_of_name pX4
set_option maxRecDepth 100000 in
theorem oX4_lowestBits : am_okC2 mX4_lowestBits 1 2 := ⟨lw_T_in2 (lw_m2 (i := 158) rfl) rfl, lw_T_in2 (lw_m1 (i := 2) rfl) rfl, ⟨nX4.1, nX4.2, by decide +kernel⟩, Nat.le_of_ble_eq_true rfl, lw_T_in2 (lw_m2 (i := 157) rfl) rfl⟩
theorem pX4_store : plainFor yX4_store = true := plainFor_of_name pX4
set_option maxRecDepth 100000 in
theorem oX4_store : am_okC2 mX4_store 0 3 := ⟨lw_T_in2 (lw_m2 (i := 155) rfl) rfl, lw_T_in2 (lw_m1 (i := 2) rfl) rfl, ⟨nX4.1, nX4.2, by decide +kernel⟩, Nat.le_of_ble_eq_true rfl, ⟨lw_T_in2 (lw_m2 (i := 153) rfl) rfl, lw_T_in2 (lw_m2 (i := 154) rfl) rfl⟩⟩
theorem pX4_move : plainFor yX4_move = true := plainFor_of_name pX4
set_option maxRecDepth 100000 in
theorem oX4_move : am_okC2 mX4_move 0 5 := ⟨lw_T_in2 (lw_m2 (i := 170) rfl) rfl, lw_T_in2 (lw_m1 (i := 2) rfl) rfl, ⟨nX4.1, nX4.2, by decide +kernel⟩, Nat.le_of_ble_eq_true rfl, ⟨lw_T_in2 (lw_m2 (i := 168) rfl) rfl, lw_T_in2 (lw_m2 (i := 169) rfl) rfl⟩⟩
theorem pX4_takeAway : plainFor yX4_takeAway = true := plainFor_of_name pX4
set_option maxRecDepth 100000 in
theorem oX4_takeAway : am_okC2 mX4_takeAway 0 1 := ⟨lw_T_in2 (lw_m2 (i := 183) rfl) rfl, lw_T_in2 (lw_m1 (i := 2) rfl) rfl, ⟨nX4.1, nX4.2, by decide +kernel⟩, Nat.le_of_ble_eq_true rfl, ⟨lw_T_in2 (lw_m2 (i := 181) rfl) rfl, lw_T_in2 (lw_m2 (i := 182) rfl) rfl⟩⟩
theorem pX5_clear : plainFor yX5_clear = true := plainFor_of_name pX5
set_option maxRecDepth 100000 in
theorem oX5_clear : am_okC2 mX5_clear 0 0 := ⟨lw_T_in2 (lw_m3 (i := 175) rfl) rfl, lw_T_in2 (lw_m1 (i := 5) rfl) rfl, ⟨nX5.1, nX5.2, by decide +kernel⟩, Nat.le_of_ble_eq_true rfl, ⟨lw_T_in2 (lw_m3 (i := 173) rfl) rfl, lw_T_in2 (lw_m3 (i := 174) rfl) rfl⟩⟩
theorem pX5_add : plainFor yX5_add = true := plainFor_of_name pX5
set_option maxRecDepth 100000 in
theorem oX5_add : am_okC2 mX5_add 0 1 := ⟨lw_T_in2 (lw_m3 (i := 188) rfl) rfl, lw_T_in2 (lw_m1 (i := 5) rfl) rfl, ⟨nX5.1, nX5.2, by decide +kernel⟩, Nat.le_of_ble_eq_true rfl, ⟨lw_T_in2 (lw_m3 (i := 186) rfl) rfl, lw_T_in2 (lw_m3 (i := 187) rfl) rfl⟩⟩
theorem pX5_length : plainFor yX5_length = true := plainFor_of_name pX5
set_option maxRecDepth 100000 in
theorem oX5_length : am_okC2 mX5_length 0 0 := ⟨lw_T_in2 (lw_m3 (i := 199) rfl) rfl, lw_T_in2 (lw_m1 (i := 5) rfl) rfl, ⟨nX5.1, nX5.2, by decide +kernel⟩, Nat.le_of_ble_eq_true rfl, ⟨lw_T_in2 (lw_m3 (i := 197) rfl) rfl, lw_T_in2 (lw_m3 (i := 198) rfl) rfl⟩⟩
theorem pX5_isOne : plainFor yX5_isOne = true := plainFor_of_name pX5
set_option maxRecDepth 100000 in
theorem oX5_isOne : am_okC2 mX5_isOne 0 2 := ⟨lw_T_in2 (lw_m5 (i := 94) rfl) rfl, lw_T_in2 (lw_m1 (i := 5) rfl) rfl, ⟨nX5.1, nX5.2, by decide +kernel⟩, Nat.le_of_ble_eq_true rfl, ⟨lw_T_in2 (lw_m5 (i := 92) rfl) rfl, lw_T_in2 (lw_m5 (i := 93) rfl) rfl⟩⟩
theorem pX9_init : plainFor yX9_init = true := plainFor_of_name pX9
set_option maxRecDepth 100000 in
theorem oX9_init : am_okC2 mX9_init 2 1 := ⟨lw_T_in2 (lw_m1 (i := 158) rfl) rfl, lw_T_in2 (lw_m1 (i := 8) rfl) rfl, ⟨nX9.1, nX9.2, by decide +kernel⟩, Nat.le_of_ble_eq_true rfl, ⟨lw_T_in2 (lw_m1 (i := 157) rfl) rfl, rfl, rfl⟩⟩
theorem pX6_init : plainFor yX6_init = true := plainFor_of_name pX6
set_option maxRecDepth 100000 in
theorem oX6_init : am_okC2 mX6_init 2 1 := ⟨lw_T_in2 (lw_m1 (i := 224) rfl) rfl, lw_T_in2 (lw_m1 (i := 10) rfl) rfl, ⟨nX6.1, nX6.2, by decide +kernel⟩, Nat.le_of_ble_eq_true rfl, ⟨lw_T_in2 (lw_m1 (i := 223) rfl) rfl, rfl, rfl⟩⟩
theorem pX9_stand : plainFor yX9_stand = true := plainFor_of_name pX9
set_option maxRecDepth 100000 in
theorem oX9_stand : am_okC2 mX9_stand 0 3 := ⟨lw_T_in2 (lw_m4 (i := 38) rfl) rfl, lw_T_in2 (lw_m1 (i := 8) rfl) rfl, ⟨nX9.1, nX9.2, by decide +kernel⟩, Nat.le_of_ble_eq_true rfl, ⟨lw_T_in2 (lw_m4 (i := 36) rfl) rfl, lw_T_in2 (lw_m4 (i := 37) rfl) rfl⟩⟩
theorem pX9_start : plainFor yX9_start = true := plainFor_of_name pX9
set_option maxRecDepth 100000 in
theorem oX9_start : am_okC2 mX9_start 0 3 := ⟨lw_T_in2 (lw_m4 (i := 33) rfl) rfl, lw_T_in2 (lw_m1 (i := 8) rfl) rfl, ⟨nX9.1, nX9.2, by decide +kernel⟩, Nat.le_of_ble_eq_true rfl, ⟨lw_T_in2 (lw_m4 (i := 31) rfl) rfl, lw_T_in2 (lw_m4 (i := 32) rfl) rfl⟩⟩
theorem pX9_cameFrom : plainFor yX9_cameFrom = true := plainFor_of_name pX9
set_option maxRecDepth 100000 in
theorem oX9_cameFrom : am_okC2 mX9_cameFrom 0 0 := ⟨lw_T_in2 (lw_m4 (i := 142) rfl) rfl, lw_T_in2 (lw_m1 (i := 8) rfl) rfl, ⟨nX9.1, nX9.2, by decide +kernel⟩, Nat.le_of_ble_eq_true rfl, ⟨lw_T_in2 (lw_m4 (i := 140) rfl) rfl, lw_T_in2 (lw_m4 (i := 141) rfl) rfl⟩⟩
theorem pX9_place : plainFor yX9_place = true := plainFor_of_name pX9
set_option maxRecDepth 100000 in
theorem oX9_place : am_okC2 mX9_place 0 0 := ⟨lw_T_in2 (lw_m4 (i := 74) rfl) rfl, lw_T_in2 (lw_m1 (i := 8) rfl) rfl, ⟨nX9.1, nX9.2, by decide +kernel⟩, Nat.le_of_ble_eq_true rfl, ⟨lw_T_in2 (lw_m4 (i := 72) rfl) rfl, lw_T_in2 (lw_m4 (i := 73) rfl) rfl⟩⟩
theorem pX9_hasHand : plainFor yX9_hasHand = true := plainFor_of_name pX9
set_option maxRecDepth 100000 in
theorem oX9_hasHand : am_okC2 mX9_hasHand 0 0 := ⟨lw_T_in2 (lw_m4 (i := 147) rfl) rfl, lw_T_in2 (lw_m1 (i := 8) rfl) rfl, ⟨nX9.1, nX9.2, by decide +kernel⟩, Nat.le_of_ble_eq_true rfl, ⟨lw_T_in2 (lw_m4 (i := 145) rfl) rfl, lw_T_in2 (lw_m4 (i := 146) rfl) rfl⟩⟩
theorem pX6_note : plainFor yX6_note = true := plainFor_of_name pX6
set_option maxRecDepth 100000 in
theorem oX6_note : am_okC2 mX6_note 0 3 := ⟨lw_T_in2 (lw_m4 (i := 138) rfl) rfl, lw_T_in2 (lw_m1 (i := 10) rfl) rfl, ⟨nX6.1, nX6.2, by decide +kernel⟩, Nat.le_of_ble_eq_true rfl, ⟨lw_T_in2 (lw_m4 (i := 137) rfl) rfl, lw_T_in2 (lw_m0 (i := 28) rfl) rfl⟩⟩
theorem pX6_standAt : plainFor yX6_standAt = true := plainFor_of_name pX6
set_option maxRecDepth 100000 in
theorem oX6_standAt : am_okC2 mX6_standAt 0 1 := ⟨lw_T_in2 (lw_m4 (i := 153) rfl) rfl, lw_T_in2 (lw_m1 (i := 10) rfl) rfl, ⟨nX6.1, nX6.2, by decide +kernel⟩, Nat.le_of_ble_eq_true rfl, ⟨lw_T_in2 (lw_m4 (i := 152) rfl) rfl, lw_T_in2 (lw_m0 (i := 29) rfl) rfl⟩⟩
theorem pX9_goalOf : plainFor yX9_goalOf = true := plainFor_of_name pX9
set_option maxRecDepth 100000 in
theorem oX9_goalOf : am_okC2 mX9_goalOf 0 1 := ⟨lw_T_in2 (lw_m4 (i := 49) rfl) rfl, lw_T_in2 (lw_m1 (i := 8) rfl) rfl, ⟨nX9.1, nX9.2, by decide +kernel⟩, Nat.le_of_ble_eq_true rfl, ⟨lw_T_in2 (lw_m4 (i := 48) rfl) rfl, lw_T_in2 (lw_m0 (i := 23) rfl) rfl⟩⟩
theorem pX9_goBy : plainFor yX9_goBy = true := plainFor_of_name pX9
set_option maxRecDepth 100000 in
theorem oX9_goBy : am_okC2 mX9_goBy 0 1 := ⟨lw_T_in2 (lw_m4 (i := 44) rfl) rfl, lw_T_in2 (lw_m1 (i := 8) rfl) rfl, ⟨nX9.1, nX9.2, by decide +kernel⟩, Nat.le_of_ble_eq_true rfl, ⟨lw_T_in2 (lw_m4 (i := 42) rfl) rfl, lw_T_in2 (lw_m4 (i := 43) rfl) rfl⟩⟩
theorem pX6_spread : plainFor yX6_spread = true := plainFor_of_name pX6
set_option maxRecDepth 100000 in
theorem oX6_spread : am_okC2 mX6_spread 0 2 := ⟨lw_T_in2 (lw_m4 (i := 131) rfl) rfl, lw_T_in2 (lw_m1 (i := 10) rfl) rfl, ⟨nX6.1, nX6.2, by decide +kernel⟩, Nat.le_of_ble_eq_true rfl, ⟨lw_T_in2 (lw_m4 (i := 129) rfl) rfl, lw_T_in2 (lw_m4 (i := 130) rfl) rfl⟩⟩
theorem pX6_cornerAt : plainFor yX6_cornerAt = true := plainFor_of_name pX6
set_option maxRecDepth 100000 in
theorem oX6_cornerAt : am_okC2 mX6_cornerAt 0 1 := ⟨lw_T_in2 (lw_m4 (i := 165) rfl) rfl, lw_T_in2 (lw_m1 (i := 10) rfl) rfl, ⟨nX6.1, nX6.2, by decide +kernel⟩, Nat.le_of_ble_eq_true rfl, ⟨lw_T_in2 (lw_m4 (i := 163) rfl) rfl, lw_T_in2 (lw_m4 (i := 164) rfl) rfl⟩⟩
theorem pX6_firstAt : plainFor yX6_firstAt = true := plainFor_of_name pX6
set_option maxRecDepth 100000 in
theorem oX6_firstAt : am_okC2 mX6_firstAt 0 1 := ⟨lw_T_in2 (lw_m4 (i := 161) rfl) rfl, lw_T_in2 (lw_m1 (i := 10) rfl) rfl, ⟨nX6.1, nX6.2, by decide +kernel⟩, Nat.le_of_ble_eq_true rfl, ⟨lw_T_in2 (lw_m4 (i := 159) rfl) rfl, lw_T_in2 (lw_m4 (i := 160) rfl) rfl⟩⟩
theorem pX6_better : plainFor yX6_better = true := plainFor_of_name pX6
set_option maxRecDepth 100000 in
theorem oX6_better : am_okC2 mX6_better 0 2 := ⟨lw_T_in2 (lw_m4 (i := 188) rfl) rfl, lw_T_in2 (lw_m1 (i := 10) rfl) rfl, ⟨nX6.1, nX6.2, by decide +kernel⟩, Nat.le_of_ble_eq_true rfl, ⟨lw_T_in2 (lw_m4 (i := 187) rfl) rfl, lw_T_in2 (lw_m0 (i := 30) rfl) rfl⟩⟩
theorem pX6_firstAtWell : plainFor yX6_firstAtWell = true := plainFor_of_name pX6
set_option maxRecDepth 100000 in
theorem oX6_firstAtWell : am_okC2 mX6_firstAtWell 0 0 := ⟨lw_T_in2 (lw_m4 (i := 183) rfl) rfl, lw_T_in2 (lw_m1 (i := 10) rfl) rfl, ⟨nX6.1, nX6.2, by decide +kernel⟩, Nat.le_of_ble_eq_true rfl, ⟨lw_T_in2 (lw_m4 (i := 181) rfl) rfl, lw_T_in2 (lw_m4 (i := 182) rfl) rfl⟩⟩
theorem pX6_wordsTo : plainFor yX6_wordsTo = true := plainFor_of_name pX6
set_option maxRecDepth 100000 in
theorem oX6_wordsTo : am_okC2 mX6_wordsTo 0 1 := ⟨lw_T_in2 (lw_m4 (i := 170) rfl) rfl, lw_T_in2 (lw_m1 (i := 10) rfl) rfl, ⟨nX6.1, nX6.2, by decide +kernel⟩, Nat.le_of_ble_eq_true rfl, ⟨lw_T_in2 (lw_m4 (i := 168) rfl) rfl, lw_T_in2 (lw_m4 (i := 169) rfl) rfl⟩⟩
theorem pX6_wordOnTheWay : plainFor yX6_wordOnTheWay = true := plainFor_of_name pX6
set_option maxRecDepth 100000 in
theorem oX6_wordOnTheWay : am_okC2 mX6_wordOnTheWay 0 2 := ⟨lw_T_in2 (lw_m4 (i := 174) rfl) rfl, lw_T_in2 (lw_m1 (i := 10) rfl) rfl, ⟨nX6.1, nX6.2, by decide +kernel⟩, Nat.le_of_ble_eq_true rfl, ⟨lw_T_in2 (lw_m4 (i := 172) rfl) rfl, lw_T_in2 (lw_m4 (i := 173) rfl) rfl⟩⟩
theorem pX7_init : plainFor yX7_init = true := plainFor_of_name pX7
set_option maxRecDepth 100000 in
theorem oX7_init : am_okC2 mX7_init 2 0 := ⟨lw_T_in2 (lw_m1 (i := 51) rfl) rfl, lw_T_in2 (lw_m1 (i := 3) rfl) rfl, ⟨nX7.1, nX7.2, by decide +kernel⟩, Nat.le_of_ble_eq_true rfl, ⟨lw_T_in2 (lw_m1 (i := 50) rfl) rfl, rfl, rfl⟩⟩
theorem pX7_length : plainFor yX7_length = true := plainFor_of_name pX7
set_option maxRecDepth 100000 in
theorem oX7_length : am_okC2 mX7_length 0 0 := ⟨lw_T_in2 (lw_m2 (i := 201) rfl) rfl, lw_T_in2 (lw_m1 (i := 3) rfl) rfl, ⟨nX7.1, nX7.2, by decide +kernel⟩, Nat.le_of_ble_eq_true rfl, ⟨lw_T_in2 (lw_m2 (i := 199) rfl) rfl, lw_T_in2 (lw_m2 (i := 200) rfl) rfl⟩⟩
theorem pX7_hasRoomFor : plainFor yX7_hasRoomFor = true := plainFor_of_name pX7
set_option maxRecDepth 100000 in
theorem oX7_hasRoomFor : am_okC2 mX7_hasRoomFor 0 1 := ⟨lw_T_in2 (lw_m2 (i := 191) rfl) rfl, lw_T_in2 (lw_m1 (i := 3) rfl) rfl, ⟨nX7.1, nX7.2, by decide +kernel⟩, Nat.le_of_ble_eq_true rfl, ⟨lw_T_in2 (lw_m2 (i := 189) rfl) rfl, lw_T_in2 (lw_m2 (i := 190) rfl) rfl⟩⟩
theorem pX7_append : plainFor yX7_append = true := plainFor_of_name pX7
set_option maxRecDepth 100000 in
theorem oX7_append : am_okC2 mX7_append 0 2 := ⟨lw_T_in2 (lw_m2 (i := 196) rfl) rfl, lw_T_in2 (lw_m1 (i := 3) rfl) rfl, ⟨nX7.1, nX7.2, by decide +kernel⟩, Nat.le_of_ble_eq_true rfl, ⟨lw_T_in2 (lw_m2 (i := 194) rfl) rfl, lw_T_in2 (lw_m2 (i := 195) rfl) rfl⟩⟩
theorem pX7_empty : plainFor yX7_empty = true := plainFor_of_name pX7
set_option maxRecDepth 100000 in
theorem oX7_empty : am_okC2 mX7_empty 0 0 := ⟨lw_T_in2 (lw_m3 (i := 142) rfl) rfl, lw_T_in2 (lw_m1 (i := 3) rfl) rfl, ⟨nX7.1, nX7.2, by decide +kernel⟩, Nat.le_of_ble_eq_true rfl, ⟨lw_T_in2 (lw_m3 (i := 140) rfl) rfl, lw_T_in2 (lw_m3 (i := 141) rfl) rfl⟩⟩
theorem pX7_faultNumber : plainFor yX7_faultNumber = true := plainFor_of_name pX7
set_option maxRecDepth 100000 in
theorem oX7_faultNumber : am_okC2 mX7_faultNumber 0 0 := ⟨lw_T_in2 (lw_m3 (i := 214) rfl) rfl, lw_T_in2 (lw_m1 (i := 3) rfl) rfl, ⟨nX7.1, nX7.2, by decide +kernel⟩, Nat.le_of_ble_eq_true rfl, ⟨lw_T_in2 (lw_m3 (i := 212) rfl) rfl, lw_T_in2 (lw_m3 (i := 213) rfl) rfl⟩⟩
theorem pX7_faultPlace : plainFor yX7_faultPlace = true := plainFor_of_name pX7
set_option maxRecDepth 100000 in
theorem oX7_faultPlace : am_okC2 mX7_faultPlace 0 0 := ⟨lw_T_in2 (lw_m3 (i := 147) rfl) rfl, lw_T_in2 (lw_m1 (i := 3) rfl) rfl, ⟨nX7.1, nX7.2, by decide +kernel⟩, Nat.le_of_ble_eq_true rfl, ⟨lw_T_in2 (lw_m3 (i := 145) rfl) rfl, lw_T_in2 (lw_m3 (i := 146) rfl) rfl⟩⟩
theorem pX8_clear : plainFor yX8_clear = true := plainFor_of_name pX8
set_option maxRecDepth 100000 in
theorem oX8_clear : am_okC2 mX8_clear 0 0 := ⟨lw_T_in2 (lw_m2 (i := 213) rfl) rfl, lw_T_in2 (lw_m1 (i := 4) rfl) rfl, ⟨nX8.1, nX8.2, by decide +kernel⟩, Nat.le_of_ble_eq_true rfl, ⟨lw_T_in2 (lw_m2 (i := 211) rfl) rfl, lw_T_in2 (lw_m2 (i := 212) rfl) rfl⟩⟩
theorem pX7_sortOf : plainFor yX7_sortOf = true := plainFor_of_name pX7
set_option maxRecDepth 100000 in
theorem oX7_sortOf : am_okC2 mX7_sortOf 1 1 := ⟨lw_T_in2 (lw_m2 (i := 223) rfl) rfl, lw_T_in2 (lw_m1 (i := 3) rfl) rfl, ⟨nX7.1, nX7.2, by decide +kernel⟩, Nat.le_of_ble_eq_true rfl, lw_T_in2 (lw_m2 (i := 222) rfl) rfl⟩
theorem pX7_behindRun : plainFor yX7_behindRun = true := plainFor_of_name pX7
set_option maxRecDepth 100000 in
theorem oX7_behindRun : am_okC2 mX7_behindRun 0 2 := ⟨lw_T_in2 (lw_m2 (i := 227) rfl) rfl, lw_T_in2 (lw_m1 (i := 3) rfl) rfl, ⟨nX7.1, nX7.2, by decide +kernel⟩, Nat.le_of_ble_eq_true rfl, ⟨lw_T_in2 (lw_m2 (i := 226) rfl) rfl, lw_T_in2 (lw_m0 (i := 4) rfl) rfl⟩⟩
theorem pX7_spelling : plainFor yX7_spelling = true := plainFor_of_name pX7
set_option maxRecDepth 100000 in
theorem oX7_spelling : am_okC2 mX7_spelling 1 1 := ⟨lw_T_in2 (lw_m2 (i := 238) rfl) rfl, lw_T_in2 (lw_m1 (i := 3) rfl) rfl, ⟨nX7.1, nX7.2, by decide +kernel⟩, Nat.le_of_ble_eq_true rfl, lw_T_in2 (lw_m2 (i := 237) rfl) rfl⟩
theorem pJ0_coder_7d493 : plainFor yJ0_coder_7d493 = true := plainFor_of_name pJ0
set_option maxRecDepth 100000 in
theorem oJ0_coder_7d493 : am_okC2 mJ0_coder_7d493 0 0 := ⟨lw_T_in2 (lw_m3 (i := 22) rfl) rfl, lw_T_in2 (lw_m1 (i := 14) rfl) rfl, ⟨nJ0.1, nJ0.2, by decide +kernel⟩, Nat.le_of_ble_eq_true rfl, ⟨lw_T_in2 (lw_m3 (i := 20) rfl) rfl, lw_T_in2 (lw_m3 (i := 21) rfl) rfl⟩⟩
theorem pJ0_length_8abf5 : plainFor yJ0_length_8abf5 = true := plainFor_of_name pJ0
set_option maxRecDepth 100000 in
theorem oJ0_length_8abf5 : am_okC2 mJ0_length_8abf5 0 0 := ⟨lw_T_in2 (lw_m3 (i := 18) rfl) rfl, lw_T_in2 (lw_m1 (i := 14) rfl) rfl, ⟨nJ0.1, nJ0.2, by decide +kernel⟩, Nat.le_of_ble_eq_true rfl, ⟨lw_T_in2 (lw_m3 (i := 16) rfl) rfl, lw_T_in2 (lw_m3 (i := 17) rfl) rfl⟩⟩
theorem pJ0_isLatin1_aae02 : plainFor yJ0_isLatin1_aae02 = true := plainFor_of_name pJ0
set_option maxRecDepth 100000 in
theorem oJ0_isLatin1_aae02 : am_okC2 mJ0_isLatin1_aae02 0 0 := ⟨lw_T_in2 (lw_m3 (i := 32) rfl) rfl, lw_T_in2 (lw_m1 (i := 14) rfl) rfl, ⟨nJ0.1, nJ0.2, by decide +kernel⟩, Nat.le_of_ble_eq_true rfl, ⟨lw_T_in2 (lw_m3 (i := 30) rfl) rfl, lw_T_in2 (lw_m3 (i := 31) rfl) rfl⟩⟩
theorem pJ3_checkIndex_8e157 : plainFor yJ3_checkIndex_8e157 = true := plainFor_of_name pJ3
set_option maxRecDepth 100000 in
theorem oJ3_checkIndex_8e157 : am_okC2 mJ3_checkIndex_8e157 1 3 := ⟨lw_T_in2 (lw_m3 (i := 43) rfl) rfl, lw_T_in2 (lw_m1 (i := 16) rfl) rfl, ⟨nJ3.1, nJ3.2, by decide +kernel⟩, Nat.le_of_ble_eq_true rfl, lw_T_in2 (lw_m3 (i := 42) rfl) rfl⟩
theorem pJ0_checkIndex_df160 : plainFor yJ0_checkIndex_df160 = true := plainFor_of_name pJ0
set_option maxRecDepth 100000 in
theorem oJ0_checkIndex_df160 : am_okC2 mJ0_checkIndex_df160 1 2 := ⟨lw_T_in2 (lw_m3 (i := 38) rfl) rfl, lw_T_in2 (lw_m1 (i := 14) rfl) rfl, ⟨nJ0.1, nJ0.2, by decide +kernel⟩, Nat.le_of_ble_eq_true rfl, lw_T_in2 (lw_m3 (i := 37) rfl) rfl⟩
theorem pJ1_charAt_3b067 : plainFor yJ1_charAt_3b067 = true := plainFor_of_name pJ1
set_option maxRecDepth 100000 in
theorem oJ1_charAt_3b067 : am_okC2 mJ1_charAt_3b067 1 2 := ⟨lw_T_in2 (lw_m3 (i := 35) rfl) rfl, lw_T_in2 (lw_m1 (i := 15) rfl) rfl, ⟨nJ1.1, nJ1.2, by decide +kernel⟩, Nat.le_of_ble_eq_true rfl, lw_T_in2 (lw_m3 (i := 34) rfl) rfl⟩
theorem pJ0_charAt_5068e : plainFor yJ0_charAt_5068e = true := plainFor_of_name pJ0
set_option maxRecDepth 100000 in
theorem oJ0_charAt_5068e : am_okC2 mJ0_charAt_5068e 0 1 := ⟨lw_T_in2 (lw_m3 (i := 28) rfl) rfl, lw_T_in2 (lw_m1 (i := 14) rfl) rfl, ⟨nJ0.1, nJ0.2, by decide +kernel⟩, Nat.le_of_ble_eq_true rfl, ⟨lw_T_in2 (lw_m3 (i := 26) rfl) rfl, lw_T_in2 (lw_m3 (i := 27) rfl) rfl⟩⟩
theorem pX7_isSpelt : plainFor yX7_isSpelt = true := plainFor_of_name pX7
set_option maxRecDepth 100000 in
theorem oX7_isSpelt : am_okC2 mX7_isSpelt 0 3 := ⟨lw_T_in2 (lw_m3 (i := 14) rfl) rfl, lw_T_in2 (lw_m1 (i := 3) rfl) rfl, ⟨nX7.1, nX7.2, by decide +kernel⟩, Nat.le_of_ble_eq_true rfl, ⟨lw_T_in2 (lw_m3 (i := 13) rfl) rfl, lw_T_in2 (lw_m0 (i := 7) rfl) rfl⟩⟩
theorem pX7_nameOf : plainFor yX7_nameOf = true := plainFor_of_name pX7
set_option maxRecDepth 100000 in
theorem oX7_nameOf : am_okC2 mX7_nameOf 0 2 := ⟨lw_T_in2 (lw_m2 (i := 235) rfl) rfl, lw_T_in2 (lw_m1 (i := 3) rfl) rfl, ⟨nX7.1, nX7.2, by decide +kernel⟩, Nat.le_of_ble_eq_true rfl, ⟨lw_T_in2 (lw_m2 (i := 234) rfl) rfl, lw_T_in2 (lw_m0 (i := 6) rfl) rfl⟩⟩
theorem pX7_numberOf : plainFor yX7_numberOf = true := plainFor_of_name pX7
set_option maxRecDepth 100000 in
theorem oX7_numberOf : am_okC2 mX7_numberOf 0 2 := ⟨lw_T_in2 (lw_m3 (i := 66) rfl) rfl, lw_T_in2 (lw_m1 (i := 3) rfl) rfl, ⟨nX7.1, nX7.2, by decide +kernel⟩, Nat.le_of_ble_eq_true rfl, ⟨lw_T_in2 (lw_m3 (i := 65) rfl) rfl, lw_T_in2 (lw_m0 (i := 8) rfl) rfl⟩⟩
theorem pX7_note : plainFor yX7_note = true := plainFor_of_name pX7
set_option maxRecDepth 100000 in
theorem oX7_note : am_okC2 mX7_note 0 3 := ⟨lw_T_in2 (lw_m2 (i := 231) rfl) rfl, lw_T_in2 (lw_m1 (i := 3) rfl) rfl, ⟨nX7.1, nX7.2, by decide +kernel⟩, Nat.le_of_ble_eq_true rfl, ⟨lw_T_in2 (lw_m2 (i := 230) rfl) rfl, lw_T_in2 (lw_m0 (i := 5) rfl) rfl⟩⟩
theorem pX7_cut : plainFor yX7_cut = true := plainFor_of_name pX7
set_option maxRecDepth 100000 in
theorem oX7_cut : am_okC2 mX7_cut 0 0 := ⟨lw_T_in2 (lw_m2 (i := 219) rfl) rfl, lw_T_in2 (lw_m1 (i := 3) rfl) rfl, ⟨nX7.1, nX7.2, by decide +kernel⟩, Nat.le_of_ble_eq_true rfl, ⟨lw_T_in2 (lw_m2 (i := 218) rfl) rfl, lw_T_in2 (lw_m0 (i := 3) rfl) rfl⟩⟩
theorem pX7_sort : plainFor yX7_sort = true := plainFor_of_name pX7
set_option maxRecDepth 100000 in
theorem oX7_sort : am_okC2 mX7_sort 0 0 := ⟨lw_T_in2 (lw_m3 (i := 78) rfl) rfl, lw_T_in2 (lw_m1 (i := 3) rfl) rfl, ⟨nX7.1, nX7.2, by decide +kernel⟩, Nat.le_of_ble_eq_true rfl, ⟨lw_T_in2 (lw_m3 (i := 77) rfl) rfl, lw_T_in2 (lw_m0 (i := 11) rfl) rfl⟩⟩
theorem pX7_value : plainFor yX7_value = true := plainFor_of_name pX7
set_option maxRecDepth 100000 in
theorem oX7_value : am_okC2 mX7_value 0 0 := ⟨lw_T_in2 (lw_m3 (i := 82) rfl) rfl, lw_T_in2 (lw_m1 (i := 3) rfl) rfl, ⟨nX7.1, nX7.2, by decide +kernel⟩, Nat.le_of_ble_eq_true rfl, ⟨lw_T_in2 (lw_m3 (i := 81) rfl) rfl, lw_T_in2 (lw_m0 (i := 12) rfl) rfl⟩⟩
theorem pX7_isName : plainFor yX7_isName = true := plainFor_of_name pX7
set_option maxRecDepth 100000 in
theorem oX7_isName : am_okC2 mX7_isName 0 1 := ⟨lw_T_in2 (lw_m3 (i := 74) rfl) rfl, lw_T_in2 (lw_m1 (i := 3) rfl) rfl, ⟨nX7.1, nX7.2, by decide +kernel⟩, Nat.le_of_ble_eq_true rfl, ⟨lw_T_in2 (lw_m3 (i := 73) rfl) rfl, lw_T_in2 (lw_m0 (i := 10) rfl) rfl⟩⟩
theorem pX7_fail : plainFor yX7_fail = true := plainFor_of_name pX7
set_option maxRecDepth 100000 in
theorem oX7_fail : am_okC2 mX7_fail 0 1 := ⟨lw_T_in2 (lw_m3 (i := 86) rfl) rfl, lw_T_in2 (lw_m1 (i := 3) rfl) rfl, ⟨nX7.1, nX7.2, by decide +kernel⟩, Nat.le_of_ble_eq_true rfl, ⟨lw_T_in2 (lw_m3 (i := 85) rfl) rfl, lw_T_in2 (lw_m0 (i := 13) rfl) rfl⟩⟩
theorem pX7_readNumber : plainFor yX7_readNumber = true := plainFor_of_name pX7
set_option maxRecDepth 100000 in
theorem oX7_readNumber : am_okC2 mX7_readNumber 0 1 := ⟨lw_T_in2 (lw_m3 (i := 94) rfl) rfl, lw_T_in2 (lw_m1 (i := 3) rfl) rfl, ⟨nX7.1, nX7.2, by decide +kernel⟩, Nat.le_of_ble_eq_true rfl, ⟨lw_T_in2 (lw_m3 (i := 93) rfl) rfl, lw_T_in2 (lw_m0 (i := 15) rfl) rfl⟩⟩
theorem pX8_addCorner : plainFor yX8_addCorner = true := plainFor_of_name pX8
set_option maxRecDepth 100000 in
theorem oX8_addCorner : am_okC2 mX8_addCorner 0 3 := ⟨lw_T_in2 (lw_m3 (i := 98) rfl) rfl, lw_T_in2 (lw_m1 (i := 4) rfl) rfl, ⟨nX8.1, nX8.2, by decide +kernel⟩, Nat.le_of_ble_eq_true rfl, ⟨lw_T_in2 (lw_m3 (i := 96) rfl) rfl, lw_T_in2 (lw_m3 (i := 97) rfl) rfl⟩⟩
theorem pX7_readSign : plainFor yX7_readSign = true := plainFor_of_name pX7
set_option maxRecDepth 100000 in
theorem oX7_readSign : am_okC2 mX7_readSign 0 0 := ⟨lw_T_in2 (lw_m3 (i := 103) rfl) rfl, lw_T_in2 (lw_m1 (i := 3) rfl) rfl, ⟨nX7.1, nX7.2, by decide +kernel⟩, Nat.le_of_ble_eq_true rfl, ⟨lw_T_in2 (lw_m3 (i := 102) rfl) rfl, lw_T_in2 (lw_m0 (i := 16) rfl) rfl⟩⟩
theorem pX7_readCorner : plainFor yX7_readCorner = true := plainFor_of_name pX7
set_option maxRecDepth 100000 in
theorem oX7_readCorner : am_okC2 mX7_readCorner 0 1 := ⟨lw_T_in2 (lw_m3 (i := 90) rfl) rfl, lw_T_in2 (lw_m1 (i := 3) rfl) rfl, ⟨nX7.1, nX7.2, by decide +kernel⟩, Nat.le_of_ble_eq_true rfl, ⟨lw_T_in2 (lw_m3 (i := 89) rfl) rfl, lw_T_in2 (lw_m0 (i := 14) rfl) rfl⟩⟩
theorem pX7_readCorners : plainFor yX7_readCorners = true := plainFor_of_name pX7
set_option maxRecDepth 100000 in
theorem oX7_readCorners : am_okC2 mX7_readCorners 0 1 := ⟨lw_T_in2 (lw_m3 (i := 70) rfl) rfl, lw_T_in2 (lw_m1 (i := 3) rfl) rfl, ⟨nX7.1, nX7.2, by decide +kernel⟩, Nat.le_of_ble_eq_true rfl, ⟨lw_T_in2 (lw_m3 (i := 69) rfl) rfl, lw_T_in2 (lw_m0 (i := 9) rfl) rfl⟩⟩
theorem pX8_has : plainFor yX8_has = true := plainFor_of_name pX8
set_option maxRecDepth 100000 in
theorem oX8_has : am_okC2 mX8_has 0 1 := ⟨lw_T_in2 (lw_m3 (i := 120) rfl) rfl, lw_T_in2 (lw_m1 (i := 4) rfl) rfl, ⟨nX8.1, nX8.2, by decide +kernel⟩, Nat.le_of_ble_eq_true rfl, ⟨lw_T_in2 (lw_m3 (i := 118) rfl) rfl, lw_T_in2 (lw_m3 (i := 119) rfl) rfl⟩⟩
theorem pX7_readStreetEnd : plainFor yX7_readStreetEnd = true := plainFor_of_name pX7
set_option maxRecDepth 100000 in
theorem oX7_readStreetEnd : am_okC2 mX7_readStreetEnd 0 2 := ⟨lw_T_in2 (lw_m3 (i := 116) rfl) rfl, lw_T_in2 (lw_m1 (i := 3) rfl) rfl, ⟨nX7.1, nX7.2, by decide +kernel⟩, Nat.le_of_ble_eq_true rfl, ⟨lw_T_in2 (lw_m3 (i := 115) rfl) rfl, lw_T_in2 (lw_m0 (i := 19) rfl) rfl⟩⟩
theorem pX8_addStreetAt : plainFor yX8_addStreetAt = true := plainFor_of_name pX8
set_option maxRecDepth 100000 in
theorem oX8_addStreetAt : am_okC2 mX8_addStreetAt 0 2 := ⟨lw_T_in2 (lw_m3 (i := 138) rfl) rfl, lw_T_in2 (lw_m1 (i := 4) rfl) rfl, ⟨nX8.1, nX8.2, by decide +kernel⟩, Nat.le_of_ble_eq_true rfl, ⟨lw_T_in2 (lw_m3 (i := 137) rfl) rfl, lw_T_in2 (lw_m0 (i := 20) rfl) rfl⟩⟩
theorem pX8_addStreet : plainFor yX8_addStreet = true := plainFor_of_name pX8
set_option maxRecDepth 100000 in
theorem oX8_addStreet : am_okC2 mX8_addStreet 0 2 := ⟨lw_T_in2 (lw_m3 (i := 134) rfl) rfl, lw_T_in2 (lw_m1 (i := 4) rfl) rfl, ⟨nX8.1, nX8.2, by decide +kernel⟩, Nat.le_of_ble_eq_true rfl, ⟨lw_T_in2 (lw_m3 (i := 132) rfl) rfl, lw_T_in2 (lw_m3 (i := 133) rfl) rfl⟩⟩
theorem pX7_readStreet : plainFor yX7_readStreet = true := plainFor_of_name pX7
set_option maxRecDepth 100000 in
theorem oX7_readStreet : am_okC2 mX7_readStreet 0 1 := ⟨lw_T_in2 (lw_m3 (i := 111) rfl) rfl, lw_T_in2 (lw_m1 (i := 3) rfl) rfl, ⟨nX7.1, nX7.2, by decide +kernel⟩, Nat.le_of_ble_eq_true rfl, ⟨lw_T_in2 (lw_m3 (i := 110) rfl) rfl, lw_T_in2 (lw_m0 (i := 18) rfl) rfl⟩⟩
theorem pX7_readStreets : plainFor yX7_readStreets = true := plainFor_of_name pX7
set_option maxRecDepth 100000 in
theorem oX7_readStreets : am_okC2 mX7_readStreets 0 1 := ⟨lw_T_in2 (lw_m3 (i := 107) rfl) rfl, lw_T_in2 (lw_m1 (i := 3) rfl) rfl, ⟨nX7.1, nX7.2, by decide +kernel⟩, Nat.le_of_ble_eq_true rfl, ⟨lw_T_in2 (lw_m3 (i := 106) rfl) rfl, lw_T_in2 (lw_m0 (i := 17) rfl) rfl⟩⟩
theorem pX7_readTown : plainFor yX7_readTown = true := plainFor_of_name pX7
set_option maxRecDepth 100000 in
theorem oX7_readTown : am_okC2 mX7_readTown 0 1 := ⟨lw_T_in2 (lw_m2 (i := 209) rfl) rfl, lw_T_in2 (lw_m1 (i := 3) rfl) rfl, ⟨nX7.1, nX7.2, by decide +kernel⟩, Nat.le_of_ble_eq_true rfl, ⟨lw_T_in2 (lw_m2 (i := 207) rfl) rfl, lw_T_in2 (lw_m2 (i := 208) rfl) rfl⟩⟩
theorem pX7_isWord : plainFor yX7_isWord = true := plainFor_of_name pX7
set_option maxRecDepth 100000 in
theorem oX7_isWord : am_okC2 mX7_isWord 0 0 := ⟨lw_T_in2 (lw_m3 (i := 179) rfl) rfl, lw_T_in2 (lw_m1 (i := 3) rfl) rfl, ⟨nX7.1, nX7.2, by decide +kernel⟩, Nat.le_of_ble_eq_true rfl, ⟨lw_T_in2 (lw_m3 (i := 178) rfl) rfl, lw_T_in2 (lw_m0 (i := 21) rfl) rfl⟩⟩
theorem pX7_readWord : plainFor yX7_readWord = true := plainFor_of_name pX7
set_option maxRecDepth 100000 in
theorem oX7_readWord : am_okC2 mX7_readWord 0 1 := ⟨lw_T_in2 (lw_m3 (i := 184) rfl) rfl, lw_T_in2 (lw_m1 (i := 3) rfl) rfl, ⟨nX7.1, nX7.2, by decide +kernel⟩, Nat.le_of_ble_eq_true rfl, ⟨lw_T_in2 (lw_m3 (i := 183) rfl) rfl, lw_T_in2 (lw_m0 (i := 22) rfl) rfl⟩⟩
theorem pX7_readSaying : plainFor yX7_readSaying = true := plainFor_of_name pX7
set_option maxRecDepth 100000 in
theorem oX7_readSaying : am_okC2 mX7_readSaying 0 1 := ⟨lw_T_in2 (lw_m3 (i := 171) rfl) rfl, lw_T_in2 (lw_m1 (i := 3) rfl) rfl, ⟨nX7.1, nX7.2, by decide +kernel⟩, Nat.le_of_ble_eq_true rfl, ⟨lw_T_in2 (lw_m3 (i := 169) rfl) rfl, lw_T_in2 (lw_m3 (i := 170) rfl) rfl⟩⟩
theorem pX8_streets : plainFor yX8_streets = true := plainFor_of_name pX8
set_option maxRecDepth 100000 in
theorem oX8_streets : am_okC2 mX8_streets 0 0 := ⟨lw_T_in2 (lw_m5 (i := 176) rfl) rfl, lw_T_in2 (lw_m1 (i := 4) rfl) rfl, ⟨nX8.1, nX8.2, by decide +kernel⟩, Nat.le_of_ble_eq_true rfl, ⟨lw_T_in2 (lw_m5 (i := 174) rfl) rfl, lw_T_in2 (lw_m5 (i := 175) rfl) rfl⟩⟩
theorem pX8_wells : plainFor yX8_wells = true := plainFor_of_name pX8
set_option maxRecDepth 100000 in
theorem oX8_wells : am_okC2 mX8_wells 0 0 := ⟨lw_T_in2 (lw_m5 (i := 180) rfl) rfl, lw_T_in2 (lw_m1 (i := 4) rfl) rfl, ⟨nX8.1, nX8.2, by decide +kernel⟩, Nat.le_of_ble_eq_true rfl, ⟨lw_T_in2 (lw_m5 (i := 178) rfl) rfl, lw_T_in2 (lw_m5 (i := 179) rfl) rfl⟩⟩
theorem pX8_setMark : plainFor yX8_setMark = true := plainFor_of_name pX8
set_option maxRecDepth 100000 in
theorem oX8_setMark : am_okC2 mX8_setMark 0 2 := ⟨lw_T_in2 (lw_m4 (i := 4) rfl) rfl, lw_T_in2 (lw_m1 (i := 4) rfl) rfl, ⟨nX8.1, nX8.2, by decide +kernel⟩, Nat.le_of_ble_eq_true rfl, ⟨lw_T_in2 (lw_m4 (i := 2) rfl) rfl, lw_T_in2 (lw_m4 (i := 3) rfl) rfl⟩⟩
theorem pX10_init : plainFor yX10_init = true := plainFor_of_name pX10
set_option maxRecDepth 100000 in
theorem oX10_init : am_okC2 mX10_init 2 2 := ⟨lw_T_in2 (lw_m1 (i := 152) rfl) rfl, lw_T_in2 (lw_m1 (i := 7) rfl) rfl, ⟨nX10.1, nX10.2, by decide +kernel⟩, Nat.le_of_ble_eq_true rfl, ⟨lw_T_in2 (lw_m1 (i := 151) rfl) rfl, rfl, rfl⟩⟩
theorem pX10_lead : plainFor yX10_lead = true := plainFor_of_name pX10
set_option maxRecDepth 100000 in
theorem oX10_lead : am_okC2 mX10_lead 0 4 := ⟨lw_T_in2 (lw_m4 (i := 29) rfl) rfl, lw_T_in2 (lw_m1 (i := 7) rfl) rfl, ⟨nX10.1, nX10.2, by decide +kernel⟩, Nat.le_of_ble_eq_true rfl, ⟨lw_T_in2 (lw_m4 (i := 27) rfl) rfl, lw_T_in2 (lw_m4 (i := 28) rfl) rfl⟩⟩
theorem pX10_end : plainFor yX10_end = true := plainFor_of_name pX10
set_option maxRecDepth 100000 in
theorem oX10_end : am_okC2 mX10_end 0 0 := ⟨lw_T_in2 (lw_m4 (i := 70) rfl) rfl, lw_T_in2 (lw_m1 (i := 7) rfl) rfl, ⟨nX10.1, nX10.2, by decide +kernel⟩, Nat.le_of_ble_eq_true rfl, ⟨lw_T_in2 (lw_m4 (i := 68) rfl) rfl, lw_T_in2 (lw_m4 (i := 69) rfl) rfl⟩⟩
theorem pX10_partingOf : plainFor yX10_partingOf = true := plainFor_of_name pX10
set_option maxRecDepth 100000 in
theorem oX10_partingOf : am_okC2 mX10_partingOf 0 2 := ⟨lw_T_in2 (lw_m4 (i := 82) rfl) rfl, lw_T_in2 (lw_m1 (i := 7) rfl) rfl, ⟨nX10.1, nX10.2, by decide +kernel⟩, Nat.le_of_ble_eq_true rfl, ⟨lw_T_in2 (lw_m4 (i := 80) rfl) rfl, lw_T_in2 (lw_m4 (i := 81) rfl) rfl⟩⟩
theorem pX10_endsWithOneLost : plainFor yX10_endsWithOneLost = true := plainFor_of_name pX10
set_option maxRecDepth 100000 in
theorem oX10_endsWithOneLost : am_okC2 mX10_endsWithOneLost 0 1 := ⟨lw_T_in2 (lw_m5 (i := 15) rfl) rfl, lw_T_in2 (lw_m1 (i := 7) rfl) rfl, ⟨nX10.1, nX10.2, by decide +kernel⟩, Nat.le_of_ble_eq_true rfl, ⟨lw_T_in2 (lw_m5 (i := 13) rfl) rfl, lw_T_in2 (lw_m5 (i := 14) rfl) rfl⟩⟩
theorem pX10_meeting : plainFor yX10_meeting = true := plainFor_of_name pX10
set_option maxRecDepth 100000 in
theorem oX10_meeting : am_okC2 mX10_meeting 0 2 := ⟨lw_T_in2 (lw_m5 (i := 24) rfl) rfl, lw_T_in2 (lw_m1 (i := 7) rfl) rfl, ⟨nX10.1, nX10.2, by decide +kernel⟩, Nat.le_of_ble_eq_true rfl, ⟨lw_T_in2 (lw_m5 (i := 22) rfl) rfl, lw_T_in2 (lw_m5 (i := 23) rfl) rfl⟩⟩
theorem pX11_init : plainFor yX11_init = true := plainFor_of_name pX11
set_option maxRecDepth 100000 in
theorem oX11_init : am_okC2 mX11_init 2 0 := ⟨lw_T_in2 (lw_m1 (i := 23) rfl) rfl, lw_T_in2 (lw_m1 (i := 1) rfl) rfl, ⟨nX11.1, nX11.2, by decide +kernel⟩, Nat.le_of_ble_eq_true rfl, ⟨lw_T_in2 (lw_m1 (i := 22) rfl) rfl, rfl, rfl⟩⟩
theorem pX11_found : plainFor yX11_found = true := plainFor_of_name pX11
set_option maxRecDepth 100000 in
theorem oX11_found : am_okC2 mX11_found 0 1 := ⟨lw_T_in2 (lw_m2 (i := 119) rfl) rfl, lw_T_in2 (lw_m1 (i := 1) rfl) rfl, ⟨nX11.1, nX11.2, by decide +kernel⟩, Nat.le_of_ble_eq_true rfl, ⟨lw_T_in2 (lw_m2 (i := 118) rfl) rfl, lw_T_in2 (lw_m0 (i := 0) rfl) rfl⟩⟩
theorem pX11_fine : plainFor yX11_fine = true := plainFor_of_name pX11
set_option maxRecDepth 100000 in
theorem oX11_fine : am_okC2 mX11_fine 0 1 := ⟨lw_T_in2 (lw_m2 (i := 131) rfl) rfl, lw_T_in2 (lw_m1 (i := 1) rfl) rfl, ⟨nX11.1, nX11.2, by decide +kernel⟩, Nat.le_of_ble_eq_true rfl, ⟨lw_T_in2 (lw_m2 (i := 130) rfl) rfl, lw_T_in2 (lw_m0 (i := 1) rfl) rfl⟩⟩
theorem pX11_row : plainFor yX11_row = true := plainFor_of_name pX11
set_option maxRecDepth 100000 in
theorem oX11_row : am_okC2 mX11_row 0 3 := ⟨lw_T_in2 (lw_m2 (i := 106) rfl) rfl, lw_T_in2 (lw_m1 (i := 1) rfl) rfl, ⟨nX11.1, nX11.2, by decide +kernel⟩, Nat.le_of_ble_eq_true rfl, ⟨lw_T_in2 (lw_m2 (i := 104) rfl) rfl, lw_T_in2 (lw_m2 (i := 105) rfl) rfl⟩⟩
theorem pX11_set : plainFor yX11_set = true := plainFor_of_name pX11
set_option maxRecDepth 100000 in
theorem oX11_set : am_okC2 mX11_set 0 3 := ⟨lw_T_in2 (lw_m2 (i := 135) rfl) rfl, lw_T_in2 (lw_m1 (i := 1) rfl) rfl, ⟨nX11.1, nX11.2, by decide +kernel⟩, Nat.le_of_ble_eq_true rfl, ⟨lw_T_in2 (lw_m2 (i := 133) rfl) rfl, lw_T_in2 (lw_m2 (i := 134) rfl) rfl⟩⟩
theorem pX11_copy : plainFor yX11_copy = true := plainFor_of_name pX11
set_option maxRecDepth 100000 in
theorem oX11_copy : am_okC2 mX11_copy 0 5 := ⟨lw_T_in2 (lw_m2 (i := 162) rfl) rfl, lw_T_in2 (lw_m1 (i := 1) rfl) rfl, ⟨nX11.1, nX11.2, by decide +kernel⟩, Nat.le_of_ble_eq_true rfl, ⟨lw_T_in2 (lw_m2 (i := 160) rfl) rfl, lw_T_in2 (lw_m2 (i := 161) rfl) rfl⟩⟩
theorem pX11_drop : plainFor yX11_drop = true := plainFor_of_name pX11
set_option maxRecDepth 100000 in
theorem oX11_drop : am_okC2 mX11_drop 0 1 := ⟨lw_T_in2 (lw_m2 (i := 178) rfl) rfl, lw_T_in2 (lw_m1 (i := 1) rfl) rfl, ⟨nX11.1, nX11.2, by decide +kernel⟩, Nat.le_of_ble_eq_true rfl, ⟨lw_T_in2 (lw_m2 (i := 176) rfl) rfl, lw_T_in2 (lw_m2 (i := 177) rfl) rfl⟩⟩
theorem pX11_feed : plainFor yX11_feed = true := plainFor_of_name pX11
set_option maxRecDepth 100000 in
theorem oX11_feed : am_okC2 mX11_feed 0 2 := ⟨lw_T_in2 (lw_m2 (i := 187) rfl) rfl, lw_T_in2 (lw_m1 (i := 1) rfl) rfl, ⟨nX11.1, nX11.2, by decide +kernel⟩, Nat.le_of_ble_eq_true rfl, ⟨lw_T_in2 (lw_m2 (i := 185) rfl) rfl, lw_T_in2 (lw_m2 (i := 186) rfl) rfl⟩⟩
theorem pX11_town : plainFor yX11_town = true := plainFor_of_name pX11
set_option maxRecDepth 100000 in
theorem oX11_town : am_okC2 mX11_town 0 0 := ⟨lw_T_in2 (lw_m2 (i := 205) rfl) rfl, lw_T_in2 (lw_m1 (i := 1) rfl) rfl, ⟨nX11.1, nX11.2, by decide +kernel⟩, Nat.le_of_ble_eq_true rfl, ⟨lw_T_in2 (lw_m2 (i := 203) rfl) rfl, lw_T_in2 (lw_m2 (i := 204) rfl) rfl⟩⟩
theorem pX11_say : plainFor yX11_say = true := plainFor_of_name pX11
set_option maxRecDepth 100000 in
theorem oX11_say : am_okC2 mX11_say 0 0 := ⟨lw_T_in2 (lw_m3 (i := 167) rfl) rfl, lw_T_in2 (lw_m1 (i := 1) rfl) rfl, ⟨nX11.1, nX11.2, by decide +kernel⟩, Nat.le_of_ble_eq_true rfl, ⟨lw_T_in2 (lw_m3 (i := 165) rfl) rfl, lw_T_in2 (lw_m3 (i := 166) rfl) rfl⟩⟩
theorem pX11_words : plainFor yX11_words = true := plainFor_of_name pX11
set_option maxRecDepth 100000 in
theorem oX11_words : am_okC2 mX11_words 0 3 := ⟨lw_T_in2 (lw_m3 (i := 203) rfl) rfl, lw_T_in2 (lw_m1 (i := 1) rfl) rfl, ⟨nX11.1, nX11.2, by decide +kernel⟩, Nat.le_of_ble_eq_true rfl, ⟨lw_T_in2 (lw_m3 (i := 201) rfl) rfl, lw_T_in2 (lw_m3 (i := 202) rfl) rfl⟩⟩
theorem pX11_fault : plainFor yX11_fault = true := plainFor_of_name pX11
set_option maxRecDepth 100000 in
theorem oX11_fault : am_okC2 mX11_fault 0 0 := ⟨lw_T_in2 (lw_m3 (i := 210) rfl) rfl, lw_T_in2 (lw_m1 (i := 1) rfl) rfl, ⟨nX11.1, nX11.2, by decide +kernel⟩, Nat.le_of_ble_eq_true rfl, ⟨lw_T_in2 (lw_m3 (i := 208) rfl) rfl, lw_T_in2 (lw_m3 (i := 209) rfl) rfl⟩⟩
theorem pX11_corner : plainFor yX11_corner = true := plainFor_of_name pX11
set_option maxRecDepth 100000 in
theorem oX11_corner : am_okC2 mX11_corner 0 2 := ⟨lw_T_in2 (lw_m3 (i := 218) rfl) rfl, lw_T_in2 (lw_m1 (i := 1) rfl) rfl, ⟨nX11.1, nX11.2, by decide +kernel⟩, Nat.le_of_ble_eq_true rfl, ⟨lw_T_in2 (lw_m3 (i := 216) rfl) rfl, lw_T_in2 (lw_m3 (i := 217) rfl) rfl⟩⟩
theorem pX11_mark : plainFor yX11_mark = true := plainFor_of_name pX11
set_option maxRecDepth 100000 in
theorem oX11_mark : am_okC2 mX11_mark 0 2 := ⟨lw_T_in2 (lw_m4 (i := 0) rfl) rfl, lw_T_in2 (lw_m1 (i := 1) rfl) rfl, ⟨nX11.1, nX11.2, by decide +kernel⟩, Nat.le_of_ble_eq_true rfl, ⟨lw_T_in2 (lw_m3 (i := 238) rfl) rfl, lw_T_in2 (lw_m3 (i := 239) rfl) rfl⟩⟩
theorem pX11_word : plainFor yX11_word = true := plainFor_of_name pX11
set_option maxRecDepth 100000 in
theorem oX11_word : am_okC2 mX11_word 0 1 := ⟨lw_T_in2 (lw_m4 (i := 8) rfl) rfl, lw_T_in2 (lw_m1 (i := 1) rfl) rfl, ⟨nX11.1, nX11.2, by decide +kernel⟩, Nat.le_of_ble_eq_true rfl, ⟨lw_T_in2 (lw_m4 (i := 6) rfl) rfl, lw_T_in2 (lw_m4 (i := 7) rfl) rfl⟩⟩
theorem pX11_bit : plainFor yX11_bit = true := plainFor_of_name pX11
set_option maxRecDepth 100000 in
theorem oX11_bit : am_okC2 mX11_bit 1 1 := ⟨lw_T_in2 (lw_m4 (i := 25) rfl) rfl, lw_T_in2 (lw_m1 (i := 1) rfl) rfl, ⟨nX11.1, nX11.2, by decide +kernel⟩, Nat.le_of_ble_eq_true rfl, lw_T_in2 (lw_m4 (i := 24) rfl) rfl⟩
theorem pX11_walk : plainFor yX11_walk = true := plainFor_of_name pX11
set_option maxRecDepth 100000 in
theorem oX11_walk : am_okC2 mX11_walk 0 4 := ⟨lw_T_in2 (lw_m4 (i := 22) rfl) rfl, lw_T_in2 (lw_m1 (i := 1) rfl) rfl, ⟨nX11.1, nX11.2, by decide +kernel⟩, Nat.le_of_ble_eq_true rfl, ⟨lw_T_in2 (lw_m4 (i := 20) rfl) rfl, lw_T_in2 (lw_m4 (i := 21) rfl) rfl⟩⟩
theorem pX11_parts : plainFor yX11_parts = true := plainFor_of_name pX11
set_option maxRecDepth 100000 in
theorem oX11_parts : am_okC2 mX11_parts 0 2 := ⟨lw_T_in2 (lw_m4 (i := 78) rfl) rfl, lw_T_in2 (lw_m1 (i := 1) rfl) rfl, ⟨nX11.1, nX11.2, by decide +kernel⟩, Nat.le_of_ble_eq_true rfl, ⟨lw_T_in2 (lw_m4 (i := 76) rfl) rfl, lw_T_in2 (lw_m4 (i := 77) rfl) rfl⟩⟩
theorem pX11_apart : plainFor yX11_apart = true := plainFor_of_name pX11
set_option maxRecDepth 100000 in
theorem oX11_apart : am_okC2 mX11_apart 0 2 := ⟨lw_T_in2 (lw_m4 (i := 86) rfl) rfl, lw_T_in2 (lw_m1 (i := 1) rfl) rfl, ⟨nX11.1, nX11.2, by decide +kernel⟩, Nat.le_of_ble_eq_true rfl, ⟨lw_T_in2 (lw_m4 (i := 84) rfl) rfl, lw_T_in2 (lw_m4 (i := 85) rfl) rfl⟩⟩
theorem pX11_shortest : plainFor yX11_shortest = true := plainFor_of_name pX11
set_option maxRecDepth 100000 in
theorem oX11_shortest : am_okC2 mX11_shortest 0 4 := ⟨lw_T_in2 (lw_m4 (i := 127) rfl) rfl, lw_T_in2 (lw_m1 (i := 1) rfl) rfl, ⟨nX11.1, nX11.2, by decide +kernel⟩, Nat.le_of_ble_eq_true rfl, ⟨lw_T_in2 (lw_m4 (i := 125) rfl) rfl, lw_T_in2 (lw_m4 (i := 126) rfl) rfl⟩⟩
theorem pX11_soonest : plainFor yX11_soonest = true := plainFor_of_name pX11
set_option maxRecDepth 100000 in
theorem oX11_soonest : am_okC2 mX11_soonest 0 2 := ⟨lw_T_in2 (lw_m4 (i := 179) rfl) rfl, lw_T_in2 (lw_m1 (i := 1) rfl) rfl, ⟨nX11.1, nX11.2, by decide +kernel⟩, Nat.le_of_ble_eq_true rfl, ⟨lw_T_in2 (lw_m4 (i := 177) rfl) rfl, lw_T_in2 (lw_m4 (i := 178) rfl) rfl⟩⟩
theorem pX11_laid : plainFor yX11_laid = true := plainFor_of_name pX11
set_option maxRecDepth 100000 in
theorem oX11_laid : am_okC2 mX11_laid 0 3 := ⟨lw_T_in2 (lw_m4 (i := 193) rfl) rfl, lw_T_in2 (lw_m1 (i := 1) rfl) rfl, ⟨nX11.1, nX11.2, by decide +kernel⟩, Nat.le_of_ble_eq_true rfl, ⟨lw_T_in2 (lw_m4 (i := 191) rfl) rfl, lw_T_in2 (lw_m4 (i := 192) rfl) rfl⟩⟩
theorem pX11_ends : plainFor yX11_ends = true := plainFor_of_name pX11
set_option maxRecDepth 100000 in
theorem oX11_ends : am_okC2 mX11_ends 0 0 := ⟨lw_T_in2 (lw_m5 (i := 2) rfl) rfl, lw_T_in2 (lw_m1 (i := 1) rfl) rfl, ⟨nX11.1, nX11.2, by decide +kernel⟩, Nat.le_of_ble_eq_true rfl, ⟨lw_T_in2 (lw_m5 (i := 0) rfl) rfl, lw_T_in2 (lw_m5 (i := 1) rfl) rfl⟩⟩
theorem pX11_lost : plainFor yX11_lost = true := plainFor_of_name pX11
set_option maxRecDepth 100000 in
theorem oX11_lost : am_okC2 mX11_lost 0 1 := ⟨lw_T_in2 (lw_m5 (i := 11) rfl) rfl, lw_T_in2 (lw_m1 (i := 1) rfl) rfl, ⟨nX11.1, nX11.2, by decide +kernel⟩, Nat.le_of_ble_eq_true rfl, ⟨lw_T_in2 (lw_m5 (i := 9) rfl) rfl, lw_T_in2 (lw_m5 (i := 10) rfl) rfl⟩⟩
theorem pX11_meet : plainFor yX11_meet = true := plainFor_of_name pX11
set_option maxRecDepth 100000 in
theorem oX11_meet : am_okC2 mX11_meet 0 3 := ⟨lw_T_in2 (lw_m5 (i := 20) rfl) rfl, lw_T_in2 (lw_m1 (i := 1) rfl) rfl, ⟨nX11.1, nX11.2, by decide +kernel⟩, Nat.le_of_ble_eq_true rfl, ⟨lw_T_in2 (lw_m5 (i := 18) rfl) rfl, lw_T_in2 (lw_m5 (i := 19) rfl) rfl⟩⟩
theorem pX11_commonMeasure : plainFor yX11_commonMeasure = true := plainFor_of_name pX11
set_option maxRecDepth 100000 in
theorem oX11_commonMeasure : am_okC2 mX11_commonMeasure 1 2 := ⟨lw_T_in2 (lw_m5 (i := 47) rfl) rfl, lw_T_in2 (lw_m1 (i := 1) rfl) rfl, ⟨nX11.1, nX11.2, by decide +kernel⟩, Nat.le_of_ble_eq_true rfl, lw_T_in2 (lw_m5 (i := 46) rfl) rfl⟩
theorem pX11_gloves : plainFor yX11_gloves = true := plainFor_of_name pX11
set_option maxRecDepth 100000 in
theorem oX11_gloves : am_okC2 mX11_gloves 0 3 := ⟨lw_T_in2 (lw_m5 (i := 41) rfl) rfl, lw_T_in2 (lw_m1 (i := 1) rfl) rfl, ⟨nX11.1, nX11.2, by decide +kernel⟩, Nat.le_of_ble_eq_true rfl, ⟨lw_T_in2 (lw_m5 (i := 39) rfl) rfl, lw_T_in2 (lw_m5 (i := 40) rfl) rfl⟩⟩
theorem pX11_keptBy : plainFor yX11_keptBy = true := plainFor_of_name pX11
set_option maxRecDepth 100000 in
theorem oX11_keptBy : am_okC2 mX11_keptBy 0 1 := ⟨lw_T_in2 (lw_m5 (i := 58) rfl) rfl, lw_T_in2 (lw_m1 (i := 1) rfl) rfl, ⟨nX11.1, nX11.2, by decide +kernel⟩, Nat.le_of_ble_eq_true rfl, ⟨lw_T_in2 (lw_m5 (i := 57) rfl) rfl, lw_T_in2 (lw_m0 (i := 38) rfl) rfl⟩⟩
theorem pX11_image : plainFor yX11_image = true := plainFor_of_name pX11
set_option maxRecDepth 100000 in
theorem oX11_image : am_okC2 mX11_image 0 1 := ⟨lw_T_in2 (lw_m5 (i := 54) rfl) rfl, lw_T_in2 (lw_m1 (i := 1) rfl) rfl, ⟨nX11.1, nX11.2, by decide +kernel⟩, Nat.le_of_ble_eq_true rfl, ⟨lw_T_in2 (lw_m5 (i := 52) rfl) rfl, lw_T_in2 (lw_m5 (i := 53) rfl) rfl⟩⟩
theorem pX11_restore : plainFor yX11_restore = true := plainFor_of_name pX11
set_option maxRecDepth 100000 in
theorem oX11_restore : am_okC2 mX11_restore 0 1 := ⟨lw_T_in2 (lw_m5 (i := 68) rfl) rfl, lw_T_in2 (lw_m1 (i := 1) rfl) rfl, ⟨nX11.1, nX11.2, by decide +kernel⟩, Nat.le_of_ble_eq_true rfl, ⟨lw_T_in2 (lw_m5 (i := 66) rfl) rfl, lw_T_in2 (lw_m5 (i := 67) rfl) rfl⟩⟩
theorem pX11_kind : plainFor yX11_kind = true := plainFor_of_name pX11
set_option maxRecDepth 100000 in
theorem oX11_kind : am_okC2 mX11_kind 0 1 := ⟨lw_T_in2 (lw_m5 (i := 80) rfl) rfl, lw_T_in2 (lw_m1 (i := 1) rfl) rfl, ⟨nX11.1, nX11.2, by decide +kernel⟩, Nat.le_of_ble_eq_true rfl, ⟨lw_T_in2 (lw_m5 (i := 78) rfl) rfl, lw_T_in2 (lw_m5 (i := 79) rfl) rfl⟩⟩
theorem pX11_as : plainFor yX11_as = true := plainFor_of_name pX11
set_option maxRecDepth 100000 in
theorem oX11_as : am_okC2 mX11_as 0 2 := ⟨lw_T_in2 (lw_m5 (i := 90) rfl) rfl, lw_T_in2 (lw_m1 (i := 1) rfl) rfl, ⟨nX11.1, nX11.2, by decide +kernel⟩, Nat.le_of_ble_eq_true rfl, ⟨lw_T_in2 (lw_m5 (i := 88) rfl) rfl, lw_T_in2 (lw_m5 (i := 89) rfl) rfl⟩⟩
theorem pX11_ask : plainFor yX11_ask = true := plainFor_of_name pX11
set_option maxRecDepth 100000 in
theorem oX11_ask : am_okC2 mX11_ask 0 2 := ⟨lw_T_in2 (lw_m5 (i := 99) rfl) rfl, lw_T_in2 (lw_m1 (i := 1) rfl) rfl, ⟨nX11.1, nX11.2, by decide +kernel⟩, Nat.le_of_ble_eq_true rfl, ⟨lw_T_in2 (lw_m5 (i := 97) rfl) rfl, lw_T_in2 (lw_m5 (i := 98) rfl) rfl⟩⟩
theorem pX11_trace : plainFor yX11_trace = true := plainFor_of_name pX11
set_option maxRecDepth 100000 in
theorem oX11_trace : am_okC2 mX11_trace 0 1 := ⟨lw_T_in2 (lw_m5 (i := 157) rfl) rfl, lw_T_in2 (lw_m1 (i := 1) rfl) rfl, ⟨nX11.1, nX11.2, by decide +kernel⟩, Nat.le_of_ble_eq_true rfl, ⟨lw_T_in2 (lw_m5 (i := 155) rfl) rfl, lw_T_in2 (lw_m5 (i := 156) rfl) rfl⟩⟩
theorem pX11_count : plainFor yX11_count = true := plainFor_of_name pX11
set_option maxRecDepth 100000 in
theorem oX11_count : am_okC2 mX11_count 0 1 := ⟨lw_T_in2 (lw_m5 (i := 168) rfl) rfl, lw_T_in2 (lw_m1 (i := 1) rfl) rfl, ⟨nX11.1, nX11.2, by decide +kernel⟩, Nat.le_of_ble_eq_true rfl, ⟨lw_T_in2 (lw_m5 (i := 166) rfl) rfl, lw_T_in2 (lw_m5 (i := 167) rfl) rfl⟩⟩
theorem pX11_status : plainFor yX11_status = true := plainFor_of_name pX11
set_option maxRecDepth 100000 in
theorem oX11_status : am_okC2 mX11_status 0 0 := ⟨lw_T_in2 (lw_m5 (i := 185) rfl) rfl, lw_T_in2 (lw_m1 (i := 1) rfl) rfl, ⟨nX11.1, nX11.2, by decide +kernel⟩, Nat.le_of_ble_eq_true rfl, ⟨lw_T_in2 (lw_m5 (i := 183) rfl) rfl, lw_T_in2 (lw_m5 (i := 184) rfl) rfl⟩⟩
theorem pX12_init : plainFor yX12_init = true := plainFor_of_name pX12
set_option maxRecDepth 100000 in
theorem oX12_init : am_okC2 mX12_init 2 0 := ⟨lw_T_in2 (lw_m5 (i := 190) rfl) rfl, lw_T_in2 (lw_m1 (i := 13) rfl) rfl, ⟨nX12.1, nX12.2, by decide +kernel⟩, Nat.le_of_ble_eq_true rfl, ⟨lw_T_in2 (lw_m5 (i := 189) rfl) rfl, rfl, rfl⟩⟩
theorem pX12_in : plainFor yX12_in = true := plainFor_of_name pX12
set_option maxRecDepth 100000 in
theorem oX12_in : am_okC2 mX12_in 1 3 := ⟨lw_T_in2 (lw_m6 (i := 87) rfl) rfl, lw_T_in2 (lw_m1 (i := 13) rfl) rfl, ⟨nX12.1, nX12.2, by decide +kernel⟩, Nat.le_of_ble_eq_true rfl, lw_T_in2 (lw_m6 (i := 86) rfl) rfl⟩
theorem pX12_finding : plainFor yX12_finding = true := plainFor_of_name pX12
set_option maxRecDepth 100000 in
theorem oX12_finding : am_okC2 mX12_finding 0 1 := ⟨lw_T_in2 (lw_m6 (i := 93) rfl) rfl, lw_T_in2 (lw_m1 (i := 13) rfl) rfl, ⟨nX12.1, nX12.2, by decide +kernel⟩, Nat.le_of_ble_eq_true rfl, ⟨lw_T_in2 (lw_m6 (i := 92) rfl) rfl, lw_T_in2 (lw_m0 (i := 49) rfl) rfl⟩⟩
theorem pX12_isRow : plainFor yX12_isRow = true := plainFor_of_name pX12
set_option maxRecDepth 100000 in
theorem oX12_isRow : am_okC2 mX12_isRow 1 1 := ⟨lw_T_in2 (lw_m6 (i := 83) rfl) rfl, lw_T_in2 (lw_m1 (i := 13) rfl) rfl, ⟨nX12.1, nX12.2, by decide +kernel⟩, Nat.le_of_ble_eq_true rfl, lw_T_in2 (lw_m6 (i := 82) rfl) rfl⟩
theorem pX12_row : plainFor yX12_row = true := plainFor_of_name pX12
set_option maxRecDepth 100000 in
theorem oX12_row : am_okC2 mX12_row 0 3 := ⟨lw_T_in2 (lw_m6 (i := 80) rfl) rfl, lw_T_in2 (lw_m1 (i := 13) rfl) rfl, ⟨nX12.1, nX12.2, by decide +kernel⟩, Nat.le_of_ble_eq_true rfl, ⟨lw_T_in2 (lw_m6 (i := 78) rfl) rfl, lw_T_in2 (lw_m6 (i := 79) rfl) rfl⟩⟩
theorem pX12_set : plainFor yX12_set = true := plainFor_of_name pX12
set_option maxRecDepth 100000 in
theorem oX12_set : am_okC2 mX12_set 0 3 := ⟨lw_T_in2 (lw_m6 (i := 98) rfl) rfl, lw_T_in2 (lw_m1 (i := 13) rfl) rfl, ⟨nX12.1, nX12.2, by decide +kernel⟩, Nat.le_of_ble_eq_true rfl, ⟨lw_T_in2 (lw_m6 (i := 96) rfl) rfl, lw_T_in2 (lw_m6 (i := 97) rfl) rfl⟩⟩
theorem pX12_copy : plainFor yX12_copy = true := plainFor_of_name pX12
set_option maxRecDepth 100000 in
theorem oX12_copy : am_okC2 mX12_copy 0 5 := ⟨lw_T_in2 (lw_m6 (i := 102) rfl) rfl, lw_T_in2 (lw_m1 (i := 13) rfl) rfl, ⟨nX12.1, nX12.2, by decide +kernel⟩, Nat.le_of_ble_eq_true rfl, ⟨lw_T_in2 (lw_m6 (i := 100) rfl) rfl, lw_T_in2 (lw_m6 (i := 101) rfl) rfl⟩⟩
theorem pX12_drop : plainFor yX12_drop = true := plainFor_of_name pX12
set_option maxRecDepth 100000 in
theorem oX12_drop : am_okC2 mX12_drop 0 1 := ⟨lw_T_in2 (lw_m6 (i := 106) rfl) rfl, lw_T_in2 (lw_m1 (i := 13) rfl) rfl, ⟨nX12.1, nX12.2, by decide +kernel⟩, Nat.le_of_ble_eq_true rfl, ⟨lw_T_in2 (lw_m6 (i := 104) rfl) rfl, lw_T_in2 (lw_m6 (i := 105) rfl) rfl⟩⟩
theorem pX12_feed : plainFor yX12_feed = true := plainFor_of_name pX12
set_option maxRecDepth 100000 in
theorem oX12_feed : am_okC2 mX12_feed 0 2 := ⟨lw_T_in2 (lw_m6 (i := 110) rfl) rfl, lw_T_in2 (lw_m1 (i := 13) rfl) rfl, ⟨nX12.1, nX12.2, by decide +kernel⟩, Nat.le_of_ble_eq_true rfl, ⟨lw_T_in2 (lw_m6 (i := 108) rfl) rfl, lw_T_in2 (lw_m6 (i := 109) rfl) rfl⟩⟩
theorem pX12_byteAt : plainFor yX12_byteAt = true := plainFor_of_name pX12
set_option maxRecDepth 100000 in
theorem oX12_byteAt : am_okC2 mX12_byteAt 0 1 := ⟨lw_T_in2 (lw_m6 (i := 129) rfl) rfl, lw_T_in2 (lw_m1 (i := 13) rfl) rfl, ⟨nX12.1, nX12.2, by decide +kernel⟩, Nat.le_of_ble_eq_true rfl, ⟨lw_T_in2 (lw_m6 (i := 128) rfl) rfl, lw_T_in2 (lw_m0 (i := 52) rfl) rfl⟩⟩
theorem pX12_isLetter : plainFor yX12_isLetter = true := plainFor_of_name pX12
set_option maxRecDepth 100000 in
theorem oX12_isLetter : am_okC2 mX12_isLetter 1 1 := ⟨lw_T_in2 (lw_m6 (i := 133) rfl) rfl, lw_T_in2 (lw_m1 (i := 13) rfl) rfl, ⟨nX12.1, nX12.2, by decide +kernel⟩, Nat.le_of_ble_eq_true rfl, lw_T_in2 (lw_m6 (i := 132) rfl) rfl⟩
theorem pX12_isFigure : plainFor yX12_isFigure = true := plainFor_of_name pX12
set_option maxRecDepth 100000 in
theorem oX12_isFigure : am_okC2 mX12_isFigure 1 1 := ⟨lw_T_in2 (lw_m6 (i := 136) rfl) rfl, lw_T_in2 (lw_m1 (i := 13) rfl) rfl, ⟨nX12.1, nX12.2, by decide +kernel⟩, Nat.le_of_ble_eq_true rfl, lw_T_in2 (lw_m6 (i := 135) rfl) rfl⟩
theorem pX12_next : plainFor yX12_next = true := plainFor_of_name pX12
set_option maxRecDepth 100000 in
theorem oX12_next : am_okC2 mX12_next 0 0 := ⟨lw_T_in2 (lw_m6 (i := 125) rfl) rfl, lw_T_in2 (lw_m1 (i := 13) rfl) rfl, ⟨nX12.1, nX12.2, by decide +kernel⟩, Nat.le_of_ble_eq_true rfl, ⟨lw_T_in2 (lw_m6 (i := 124) rfl) rfl, lw_T_in2 (lw_m0 (i := 51) rfl) rfl⟩⟩
theorem pX12_begin : plainFor yX12_begin = true := plainFor_of_name pX12
set_option maxRecDepth 100000 in
theorem oX12_begin : am_okC2 mX12_begin 0 0 := ⟨lw_T_in2 (lw_m6 (i := 121) rfl) rfl, lw_T_in2 (lw_m1 (i := 13) rfl) rfl, ⟨nX12.1, nX12.2, by decide +kernel⟩, Nat.le_of_ble_eq_true rfl, ⟨lw_T_in2 (lw_m6 (i := 120) rfl) rfl, lw_T_in2 (lw_m0 (i := 50) rfl) rfl⟩⟩
theorem pX12_bad : plainFor yX12_bad = true := plainFor_of_name pX12
set_option maxRecDepth 100000 in
theorem oX12_bad : am_okC2 mX12_bad 0 1 := ⟨lw_T_in2 (lw_m6 (i := 145) rfl) rfl, lw_T_in2 (lw_m1 (i := 13) rfl) rfl, ⟨nX12.1, nX12.2, by decide +kernel⟩, Nat.le_of_ble_eq_true rfl, ⟨lw_T_in2 (lw_m6 (i := 144) rfl) rfl, lw_T_in2 (lw_m0 (i := 54) rfl) rfl⟩⟩
theorem pX12_must : plainFor yX12_must = true := plainFor_of_name pX12
set_option maxRecDepth 100000 in
theorem oX12_must : am_okC2 mX12_must 0 1 := ⟨lw_T_in2 (lw_m6 (i := 157) rfl) rfl, lw_T_in2 (lw_m1 (i := 13) rfl) rfl, ⟨nX12.1, nX12.2, by decide +kernel⟩, Nat.le_of_ble_eq_true rfl, ⟨lw_T_in2 (lw_m6 (i := 156) rfl) rfl, lw_T_in2 (lw_m0 (i := 57) rfl) rfl⟩⟩
theorem pX12_name : plainFor yX12_name = true := plainFor_of_name pX12
set_option maxRecDepth 100000 in
theorem oX12_name : am_okC2 mX12_name 0 0 := ⟨lw_T_in2 (lw_m6 (i := 140) rfl) rfl, lw_T_in2 (lw_m1 (i := 13) rfl) rfl, ⟨nX12.1, nX12.2, by decide +kernel⟩, Nat.le_of_ble_eq_true rfl, ⟨lw_T_in2 (lw_m6 (i := 139) rfl) rfl, lw_T_in2 (lw_m0 (i := 53) rfl) rfl⟩⟩
theorem pX12_figures : plainFor yX12_figures = true := plainFor_of_name pX12
set_option maxRecDepth 100000 in
theorem oX12_figures : am_okC2 mX12_figures 0 0 := ⟨lw_T_in2 (lw_m6 (i := 165) rfl) rfl, lw_T_in2 (lw_m1 (i := 13) rfl) rfl, ⟨nX12.1, nX12.2, by decide +kernel⟩, Nat.le_of_ble_eq_true rfl, ⟨lw_T_in2 (lw_m6 (i := 164) rfl) rfl, lw_T_in2 (lw_m0 (i := 59) rfl) rfl⟩⟩
theorem pX12_number : plainFor yX12_number = true := plainFor_of_name pX12
set_option maxRecDepth 100000 in
theorem oX12_number : am_okC2 mX12_number 0 2 := ⟨lw_T_in2 (lw_m6 (i := 161) rfl) rfl, lw_T_in2 (lw_m1 (i := 13) rfl) rfl, ⟨nX12.1, nX12.2, by decide +kernel⟩, Nat.le_of_ble_eq_true rfl, ⟨lw_T_in2 (lw_m6 (i := 160) rfl) rfl, lw_T_in2 (lw_m0 (i := 58) rfl) rfl⟩⟩
theorem pX12_wordOf : plainFor yX12_wordOf = true := plainFor_of_name pX12
set_option maxRecDepth 100000 in
theorem oX12_wordOf : am_okC2 mX12_wordOf 1 1 := ⟨lw_T_in2 (lw_m6 (i := 195) rfl) rfl, lw_T_in2 (lw_m1 (i := 13) rfl) rfl, ⟨nX12.1, nX12.2, by decide +kernel⟩, Nat.le_of_ble_eq_true rfl, lw_T_in2 (lw_m6 (i := 194) rfl) rfl⟩
theorem pX12_begins : plainFor yX12_begins = true := plainFor_of_name pX12
set_option maxRecDepth 100000 in
theorem oX12_begins : am_okC2 mX12_begins 0 2 := ⟨lw_T_in2 (lw_m6 (i := 153) rfl) rfl, lw_T_in2 (lw_m1 (i := 13) rfl) rfl, ⟨nX12.1, nX12.2, by decide +kernel⟩, Nat.le_of_ble_eq_true rfl, ⟨lw_T_in2 (lw_m6 (i := 152) rfl) rfl, lw_T_in2 (lw_m0 (i := 56) rfl) rfl⟩⟩
theorem pX12_mustEnd : plainFor yX12_mustEnd = true := plainFor_of_name pX12
set_option maxRecDepth 100000 in
theorem oX12_mustEnd : am_okC2 mX12_mustEnd 0 0 := ⟨lw_T_in2 (lw_m6 (i := 170) rfl) rfl, lw_T_in2 (lw_m1 (i := 13) rfl) rfl, ⟨nX12.1, nX12.2, by decide +kernel⟩, Nat.le_of_ble_eq_true rfl, ⟨lw_T_in2 (lw_m6 (i := 169) rfl) rfl, lw_T_in2 (lw_m0 (i := 60) rfl) rfl⟩⟩
theorem pX12_readCorner : plainFor yX12_readCorner = true := plainFor_of_name pX12
set_option maxRecDepth 100000 in
theorem oX12_readCorner : am_okC2 mX12_readCorner 0 0 := ⟨lw_T_in2 (lw_m6 (i := 149) rfl) rfl, lw_T_in2 (lw_m1 (i := 13) rfl) rfl, ⟨nX12.1, nX12.2, by decide +kernel⟩, Nat.le_of_ble_eq_true rfl, ⟨lw_T_in2 (lw_m6 (i := 148) rfl) rfl, lw_T_in2 (lw_m0 (i := 55) rfl) rfl⟩⟩
theorem pX12_isJoined : plainFor yX12_isJoined = true := plainFor_of_name pX12
set_option maxRecDepth 100000 in
theorem oX12_isJoined : am_okC2 mX12_isJoined 0 2 := ⟨lw_T_in2 (lw_m6 (i := 183) rfl) rfl, lw_T_in2 (lw_m1 (i := 13) rfl) rfl, ⟨nX12.1, nX12.2, by decide +kernel⟩, Nat.le_of_ble_eq_true rfl, ⟨lw_T_in2 (lw_m6 (i := 182) rfl) rfl, lw_T_in2 (lw_m0 (i := 63) rfl) rfl⟩⟩
theorem pX12_end : plainFor yX12_end = true := plainFor_of_name pX12
set_option maxRecDepth 100000 in
theorem oX12_end : am_okC2 mX12_end 0 1 := ⟨lw_T_in2 (lw_m6 (i := 179) rfl) rfl, lw_T_in2 (lw_m1 (i := 13) rfl) rfl, ⟨nX12.1, nX12.2, by decide +kernel⟩, Nat.le_of_ble_eq_true rfl, ⟨lw_T_in2 (lw_m6 (i := 178) rfl) rfl, lw_T_in2 (lw_m0 (i := 62) rfl) rfl⟩⟩
theorem pX12_readStreet : plainFor yX12_readStreet = true := plainFor_of_name pX12
set_option maxRecDepth 100000 in
theorem oX12_readStreet : am_okC2 mX12_readStreet 0 0 := ⟨lw_T_in2 (lw_m6 (i := 175) rfl) rfl, lw_T_in2 (lw_m1 (i := 13) rfl) rfl, ⟨nX12.1, nX12.2, by decide +kernel⟩, Nat.le_of_ble_eq_true rfl, ⟨lw_T_in2 (lw_m6 (i := 174) rfl) rfl, lw_T_in2 (lw_m0 (i := 61) rfl) rfl⟩⟩
theorem pX12_ends : plainFor yX12_ends = true := plainFor_of_name pX12
set_option maxRecDepth 100000 in
theorem oX12_ends : am_okC2 mX12_ends 0 1 := ⟨lw_T_in2 (lw_m6 (i := 187) rfl) rfl, lw_T_in2 (lw_m1 (i := 13) rfl) rfl, ⟨nX12.1, nX12.2, by decide +kernel⟩, Nat.le_of_ble_eq_true rfl, ⟨lw_T_in2 (lw_m6 (i := 186) rfl) rfl, lw_T_in2 (lw_m0 (i := 64) rfl) rfl⟩⟩
theorem pX12_town : plainFor yX12_town = true := plainFor_of_name pX12
set_option maxRecDepth 100000 in
theorem oX12_town : am_okC2 mX12_town 0 0 := ⟨lw_T_in2 (lw_m6 (i := 117) rfl) rfl, lw_T_in2 (lw_m1 (i := 13) rfl) rfl, ⟨nX12.1, nX12.2, by decide +kernel⟩, Nat.le_of_ble_eq_true rfl, ⟨lw_T_in2 (lw_m6 (i := 115) rfl) rfl, lw_T_in2 (lw_m6 (i := 116) rfl) rfl⟩⟩
theorem pX12_say : plainFor yX12_say = true := plainFor_of_name pX12
set_option maxRecDepth 100000 in
theorem oX12_say : am_okC2 mX12_say 0 0 := ⟨lw_T_in2 (lw_m6 (i := 192) rfl) rfl, lw_T_in2 (lw_m1 (i := 13) rfl) rfl, ⟨nX12.1, nX12.2, by decide +kernel⟩, Nat.le_of_ble_eq_true rfl, ⟨lw_T_in2 (lw_m6 (i := 190) rfl) rfl, lw_T_in2 (lw_m6 (i := 191) rfl) rfl⟩⟩
theorem pX12_isWordNumber : plainFor yX12_isWordNumber = true := plainFor_of_name pX12
set_option maxRecDepth 100000 in
theorem oX12_isWordNumber : am_okC2 mX12_isWordNumber 1 1 := ⟨lw_T_in2 (lw_m6 (i := 211) rfl) rfl, lw_T_in2 (lw_m1 (i := 13) rfl) rfl, ⟨nX12.1, nX12.2, by decide +kernel⟩, Nat.le_of_ble_eq_true rfl, lw_T_in2 (lw_m6 (i := 210) rfl) rfl⟩
theorem pX12_words : plainFor yX12_words = true := plainFor_of_name pX12
set_option maxRecDepth 100000 in
theorem oX12_words : am_okC2 mX12_words 0 3 := ⟨lw_T_in2 (lw_m6 (i := 207) rfl) rfl, lw_T_in2 (lw_m1 (i := 13) rfl) rfl, ⟨nX12.1, nX12.2, by decide +kernel⟩, Nat.le_of_ble_eq_true rfl, ⟨lw_T_in2 (lw_m6 (i := 205) rfl) rfl, lw_T_in2 (lw_m6 (i := 206) rfl) rfl⟩⟩
theorem pX12_fault : plainFor yX12_fault = true := plainFor_of_name pX12
set_option maxRecDepth 100000 in
theorem oX12_fault : am_okC2 mX12_fault 0 0 := ⟨lw_T_in2 (lw_m6 (i := 217) rfl) rfl, lw_T_in2 (lw_m1 (i := 13) rfl) rfl, ⟨nX12.1, nX12.2, by decide +kernel⟩, Nat.le_of_ble_eq_true rfl, ⟨lw_T_in2 (lw_m6 (i := 215) rfl) rfl, lw_T_in2 (lw_m6 (i := 216) rfl) rfl⟩⟩
theorem pX12_isCorner : plainFor yX12_isCorner = true := plainFor_of_name pX12
set_option maxRecDepth 100000 in
theorem oX12_isCorner : am_okC2 mX12_isCorner 0 1 := ⟨lw_T_in2 (lw_m6 (i := 225) rfl) rfl, lw_T_in2 (lw_m1 (i := 13) rfl) rfl, ⟨nX12.1, nX12.2, by decide +kernel⟩, Nat.le_of_ble_eq_true rfl, ⟨lw_T_in2 (lw_m6 (i := 224) rfl) rfl, lw_T_in2 (lw_m0 (i := 65) rfl) rfl⟩⟩
theorem pX12_corner : plainFor yX12_corner = true := plainFor_of_name pX12
set_option maxRecDepth 100000 in
theorem oX12_corner : am_okC2 mX12_corner 0 2 := ⟨lw_T_in2 (lw_m6 (i := 221) rfl) rfl, lw_T_in2 (lw_m1 (i := 13) rfl) rfl, ⟨nX12.1, nX12.2, by decide +kernel⟩, Nat.le_of_ble_eq_true rfl, ⟨lw_T_in2 (lw_m6 (i := 219) rfl) rfl, lw_T_in2 (lw_m6 (i := 220) rfl) rfl⟩⟩
theorem pX12_mark : plainFor yX12_mark = true := plainFor_of_name pX12
set_option maxRecDepth 100000 in
theorem oX12_mark : am_okC2 mX12_mark 0 2 := ⟨lw_T_in2 (lw_m6 (i := 232) rfl) rfl, lw_T_in2 (lw_m1 (i := 13) rfl) rfl, ⟨nX12.1, nX12.2, by decide +kernel⟩, Nat.le_of_ble_eq_true rfl, ⟨lw_T_in2 (lw_m6 (i := 230) rfl) rfl, lw_T_in2 (lw_m6 (i := 231) rfl) rfl⟩⟩
theorem pX12_word : plainFor yX12_word = true := plainFor_of_name pX12
set_option maxRecDepth 100000 in
theorem oX12_word : am_okC2 mX12_word 0 1 := ⟨lw_T_in2 (lw_m6 (i := 237) rfl) rfl, lw_T_in2 (lw_m1 (i := 13) rfl) rfl, ⟨nX12.1, nX12.2, by decide +kernel⟩, Nat.le_of_ble_eq_true rfl, ⟨lw_T_in2 (lw_m6 (i := 235) rfl) rfl, lw_T_in2 (lw_m6 (i := 236) rfl) rfl⟩⟩
theorem pX12_starts : plainFor yX12_starts = true := plainFor_of_name pX12
set_option maxRecDepth 100000 in
theorem oX12_starts : am_okC2 mX12_starts 0 1 := ⟨lw_T_in2 (lw_m7 (i := 9) rfl) rfl, lw_T_in2 (lw_m1 (i := 13) rfl) rfl, ⟨nX12.1, nX12.2, by decide +kernel⟩, Nat.le_of_ble_eq_true rfl, ⟨lw_T_in2 (lw_m7 (i := 8) rfl) rfl, lw_T_in2 (lw_m0 (i := 67) rfl) rfl⟩⟩
theorem pX12_slope : plainFor yX12_slope = true := plainFor_of_name pX12
set_option maxRecDepth 100000 in
theorem oX12_slope : am_okC2 mX12_slope 0 2 := ⟨lw_T_in2 (lw_m7 (i := 25) rfl) rfl, lw_T_in2 (lw_m1 (i := 13) rfl) rfl, ⟨nX12.1, nX12.2, by decide +kernel⟩, Nat.le_of_ble_eq_true rfl, ⟨lw_T_in2 (lw_m7 (i := 24) rfl) rfl, lw_T_in2 (lw_m0 (i := 71) rfl) rfl⟩⟩
theorem pX12_marked : plainFor yX12_marked = true := plainFor_of_name pX12
set_option maxRecDepth 100000 in
theorem oX12_marked : am_okC2 mX12_marked 0 2 := ⟨lw_T_in2 (lw_m7 (i := 21) rfl) rfl, lw_T_in2 (lw_m1 (i := 13) rfl) rfl, ⟨nX12.1, nX12.2, by decide +kernel⟩, Nat.le_of_ble_eq_true rfl, ⟨lw_T_in2 (lw_m7 (i := 20) rfl) rfl, lw_T_in2 (lw_m0 (i := 70) rfl) rfl⟩⟩
theorem pX12_besides : plainFor yX12_besides = true := plainFor_of_name pX12
set_option maxRecDepth 100000 in
theorem oX12_besides : am_okC2 mX12_besides 0 1 := ⟨lw_T_in2 (lw_m7 (i := 29) rfl) rfl, lw_T_in2 (lw_m1 (i := 13) rfl) rfl, ⟨nX12.1, nX12.2, by decide +kernel⟩, Nat.le_of_ble_eq_true rfl, ⟨lw_T_in2 (lw_m7 (i := 28) rfl) rfl, lw_T_in2 (lw_m0 (i := 72) rfl) rfl⟩⟩
theorem pX12_streetBy : plainFor yX12_streetBy = true := plainFor_of_name pX12
set_option maxRecDepth 100000 in
theorem oX12_streetBy : am_okC2 mX12_streetBy 0 3 := ⟨lw_T_in2 (lw_m7 (i := 17) rfl) rfl, lw_T_in2 (lw_m1 (i := 13) rfl) rfl, ⟨nX12.1, nX12.2, by decide +kernel⟩, Nat.le_of_ble_eq_true rfl, ⟨lw_T_in2 (lw_m7 (i := 16) rfl) rfl, lw_T_in2 (lw_m0 (i := 69) rfl) rfl⟩⟩
theorem pX12_goes : plainFor yX12_goes = true := plainFor_of_name pX12
set_option maxRecDepth 100000 in
theorem oX12_goes : am_okC2 mX12_goes 0 3 := ⟨lw_T_in2 (lw_m7 (i := 13) rfl) rfl, lw_T_in2 (lw_m1 (i := 13) rfl) rfl, ⟨nX12.1, nX12.2, by decide +kernel⟩, Nat.le_of_ble_eq_true rfl, ⟨lw_T_in2 (lw_m7 (i := 12) rfl) rfl, lw_T_in2 (lw_m0 (i := 68) rfl) rfl⟩⟩
theorem pX12_walks : plainFor yX12_walks = true := plainFor_of_name pX12
set_option maxRecDepth 100000 in
theorem oX12_walks : am_okC2 mX12_walks 0 4 := ⟨lw_T_in2 (lw_m7 (i := 5) rfl) rfl, lw_T_in2 (lw_m1 (i := 13) rfl) rfl, ⟨nX12.1, nX12.2, by decide +kernel⟩, Nat.le_of_ble_eq_true rfl, ⟨lw_T_in2 (lw_m7 (i := 4) rfl) rfl, lw_T_in2 (lw_m0 (i := 66) rfl) rfl⟩⟩
theorem pX12_walk : plainFor yX12_walk = true := plainFor_of_name pX12
set_option maxRecDepth 100000 in
theorem oX12_walk : am_okC2 mX12_walk 0 4 := ⟨lw_T_in2 (lw_m7 (i := 1) rfl) rfl, lw_T_in2 (lw_m1 (i := 13) rfl) rfl, ⟨nX12.1, nX12.2, by decide +kernel⟩, Nat.le_of_ble_eq_true rfl, ⟨lw_T_in2 (lw_m6 (i := 239) rfl) rfl, lw_T_in2 (lw_m7 (i := 0) rfl) rfl⟩⟩
theorem pX12_change : plainFor yX12_change = true := plainFor_of_name pX12
set_option maxRecDepth 100000 in
theorem oX12_change : am_okC2 mX12_change 0 0 := ⟨lw_T_in2 (lw_m7 (i := 41) rfl) rfl, lw_T_in2 (lw_m1 (i := 13) rfl) rfl, ⟨nX12.1, nX12.2, by decide +kernel⟩, Nat.le_of_ble_eq_true rfl, ⟨lw_T_in2 (lw_m7 (i := 40) rfl) rfl, lw_T_in2 (lw_m0 (i := 74) rfl) rfl⟩⟩
theorem pX12_startTwo : plainFor yX12_startTwo = true := plainFor_of_name pX12
set_option maxRecDepth 100000 in
theorem oX12_startTwo : am_okC2 mX12_startTwo 0 2 := ⟨lw_T_in2 (lw_m7 (i := 37) rfl) rfl, lw_T_in2 (lw_m1 (i := 13) rfl) rfl, ⟨nX12.1, nX12.2, by decide +kernel⟩, Nat.le_of_ble_eq_true rfl, ⟨lw_T_in2 (lw_m7 (i := 36) rfl) rfl, lw_T_in2 (lw_m0 (i := 73) rfl) rfl⟩⟩
theorem pX12_parts : plainFor yX12_parts = true := plainFor_of_name pX12
set_option maxRecDepth 100000 in
theorem oX12_parts : am_okC2 mX12_parts 0 2 := ⟨lw_T_in2 (lw_m7 (i := 33) rfl) rfl, lw_T_in2 (lw_m1 (i := 13) rfl) rfl, ⟨nX12.1, nX12.2, by decide +kernel⟩, Nat.le_of_ble_eq_true rfl, ⟨lw_T_in2 (lw_m7 (i := 31) rfl) rfl, lw_T_in2 (lw_m7 (i := 32) rfl) rfl⟩⟩
theorem pX12_plainWord : plainFor yX12_plainWord = true := plainFor_of_name pX12
set_option maxRecDepth 100000 in
theorem oX12_plainWord : am_okC2 mX12_plainWord 1 1 := ⟨lw_T_in2 (lw_m7 (i := 56) rfl) rfl, lw_T_in2 (lw_m1 (i := 13) rfl) rfl, ⟨nX12.1, nX12.2, by decide +kernel⟩, Nat.le_of_ble_eq_true rfl, lw_T_in2 (lw_m7 (i := 55) rfl) rfl⟩
theorem pX12_classBy : plainFor yX12_classBy = true := plainFor_of_name pX12
set_option maxRecDepth 100000 in
theorem oX12_classBy : am_okC2 mX12_classBy 0 2 := ⟨lw_T_in2 (lw_m7 (i := 60) rfl) rfl, lw_T_in2 (lw_m1 (i := 13) rfl) rfl, ⟨nX12.1, nX12.2, by decide +kernel⟩, Nat.le_of_ble_eq_true rfl, ⟨lw_T_in2 (lw_m7 (i := 59) rfl) rfl, lw_T_in2 (lw_m0 (i := 77) rfl) rfl⟩⟩
theorem pX12_areAlike : plainFor yX12_areAlike = true := plainFor_of_name pX12
set_option maxRecDepth 100000 in
theorem oX12_areAlike : am_okC2 mX12_areAlike 0 2 := ⟨lw_T_in2 (lw_m7 (i := 53) rfl) rfl, lw_T_in2 (lw_m1 (i := 13) rfl) rfl, ⟨nX12.1, nX12.2, by decide +kernel⟩, Nat.le_of_ble_eq_true rfl, ⟨lw_T_in2 (lw_m7 (i := 52) rfl) rfl, lw_T_in2 (lw_m0 (i := 76) rfl) rfl⟩⟩
theorem pX12_splits : plainFor yX12_splits = true := plainFor_of_name pX12
set_option maxRecDepth 100000 in
theorem oX12_splits : am_okC2 mX12_splits 0 0 := ⟨lw_T_in2 (lw_m7 (i := 49) rfl) rfl, lw_T_in2 (lw_m1 (i := 13) rfl) rfl, ⟨nX12.1, nX12.2, by decide +kernel⟩, Nat.le_of_ble_eq_true rfl, ⟨lw_T_in2 (lw_m7 (i := 48) rfl) rfl, lw_T_in2 (lw_m0 (i := 75) rfl) rfl⟩⟩
theorem pX12_apart : plainFor yX12_apart = true := plainFor_of_name pX12
set_option maxRecDepth 100000 in
theorem oX12_apart : am_okC2 mX12_apart 0 2 := ⟨lw_T_in2 (lw_m7 (i := 45) rfl) rfl, lw_T_in2 (lw_m1 (i := 13) rfl) rfl, ⟨nX12.1, nX12.2, by decide +kernel⟩, Nat.le_of_ble_eq_true rfl, ⟨lw_T_in2 (lw_m7 (i := 43) rfl) rfl, lw_T_in2 (lw_m7 (i := 44) rfl) rfl⟩⟩
theorem pX12_sought : plainFor yX12_sought = true := plainFor_of_name pX12
set_option maxRecDepth 100000 in
theorem oX12_sought : am_okC2 mX12_sought 1 1 := ⟨lw_T_in2 (lw_m7 (i := 83) rfl) rfl, lw_T_in2 (lw_m1 (i := 13) rfl) rfl, ⟨nX12.1, nX12.2, by decide +kernel⟩, Nat.le_of_ble_eq_true rfl, lw_T_in2 (lw_m7 (i := 82) rfl) rfl⟩
theorem pX12_stateNow : plainFor yX12_stateNow = true := plainFor_of_name pX12
set_option maxRecDepth 100000 in
theorem oX12_stateNow : am_okC2 mX12_stateNow 0 0 := ⟨lw_T_in2 (lw_m7 (i := 76) rfl) rfl, lw_T_in2 (lw_m1 (i := 13) rfl) rfl, ⟨nX12.1, nX12.2, by decide +kernel⟩, Nat.le_of_ble_eq_true rfl, ⟨lw_T_in2 (lw_m7 (i := 75) rfl) rfl, lw_T_in2 (lw_m0 (i := 80) rfl) rfl⟩⟩
theorem pX12_beAt : plainFor yX12_beAt = true := plainFor_of_name pX12
set_option maxRecDepth 100000 in
theorem oX12_beAt : am_okC2 mX12_beAt 0 1 := ⟨lw_T_in2 (lw_m7 (i := 80) rfl) rfl, lw_T_in2 (lw_m1 (i := 13) rfl) rfl, ⟨nX12.1, nX12.2, by decide +kernel⟩, Nat.le_of_ble_eq_true rfl, ⟨lw_T_in2 (lw_m7 (i := 79) rfl) rfl, lw_T_in2 (lw_m0 (i := 81) rfl) rfl⟩⟩
theorem pX12_reach : plainFor yX12_reach = true := plainFor_of_name pX12
set_option maxRecDepth 100000 in
theorem oX12_reach : am_okC2 mX12_reach 0 2 := ⟨lw_T_in2 (lw_m7 (i := 72) rfl) rfl, lw_T_in2 (lw_m1 (i := 13) rfl) rfl, ⟨nX12.1, nX12.2, by decide +kernel⟩, Nat.le_of_ble_eq_true rfl, ⟨lw_T_in2 (lw_m7 (i := 71) rfl) rfl, lw_T_in2 (lw_m0 (i := 79) rfl) rfl⟩⟩
theorem pX12_seek : plainFor yX12_seek = true := plainFor_of_name pX12
set_option maxRecDepth 100000 in
theorem oX12_seek : am_okC2 mX12_seek 0 2 := ⟨lw_T_in2 (lw_m7 (i := 68) rfl) rfl, lw_T_in2 (lw_m1 (i := 13) rfl) rfl, ⟨nX12.1, nX12.2, by decide +kernel⟩, Nat.le_of_ble_eq_true rfl, ⟨lw_T_in2 (lw_m7 (i := 67) rfl) rfl, lw_T_in2 (lw_m0 (i := 78) rfl) rfl⟩⟩
theorem pX12_firstAt : plainFor yX12_firstAt = true := plainFor_of_name pX12
set_option maxRecDepth 100000 in
theorem oX12_firstAt : am_okC2 mX12_firstAt 0 1 := ⟨lw_T_in2 (lw_m7 (i := 87) rfl) rfl, lw_T_in2 (lw_m1 (i := 13) rfl) rfl, ⟨nX12.1, nX12.2, by decide +kernel⟩, Nat.le_of_ble_eq_true rfl, ⟨lw_T_in2 (lw_m7 (i := 86) rfl) rfl, lw_T_in2 (lw_m0 (i := 82) rfl) rfl⟩⟩
theorem pX12_shortest : plainFor yX12_shortest = true := plainFor_of_name pX12
set_option maxRecDepth 100000 in
theorem oX12_shortest : am_okC2 mX12_shortest 0 4 := ⟨lw_T_in2 (lw_m7 (i := 64) rfl) rfl, lw_T_in2 (lw_m1 (i := 13) rfl) rfl, ⟨nX12.1, nX12.2, by decide +kernel⟩, Nat.le_of_ble_eq_true rfl, ⟨lw_T_in2 (lw_m7 (i := 62) rfl) rfl, lw_T_in2 (lw_m7 (i := 63) rfl) rfl⟩⟩
theorem pX12_soonest : plainFor yX12_soonest = true := plainFor_of_name pX12
set_option maxRecDepth 100000 in
theorem oX12_soonest : am_okC2 mX12_soonest 0 2 := ⟨lw_T_in2 (lw_m7 (i := 91) rfl) rfl, lw_T_in2 (lw_m1 (i := 13) rfl) rfl, ⟨nX12.1, nX12.2, by decide +kernel⟩, Nat.le_of_ble_eq_true rfl, ⟨lw_T_in2 (lw_m7 (i := 89) rfl) rfl, lw_T_in2 (lw_m7 (i := 90) rfl) rfl⟩⟩
theorem pX12_isNear : plainFor yX12_isNear = true := plainFor_of_name pX12
set_option maxRecDepth 100000 in
theorem oX12_isNear : am_okC2 mX12_isNear 0 2 := ⟨lw_T_in2 (lw_m7 (i := 107) rfl) rfl, lw_T_in2 (lw_m1 (i := 13) rfl) rfl, ⟨nX12.1, nX12.2, by decide +kernel⟩, Nat.le_of_ble_eq_true rfl, ⟨lw_T_in2 (lw_m7 (i := 106) rfl) rfl, lw_T_in2 (lw_m0 (i := 85) rfl) rfl⟩⟩
theorem pX12_fits : plainFor yX12_fits = true := plainFor_of_name pX12
set_option maxRecDepth 100000 in
theorem oX12_fits : am_okC2 mX12_fits 0 2 := ⟨lw_T_in2 (lw_m7 (i := 103) rfl) rfl, lw_T_in2 (lw_m1 (i := 13) rfl) rfl, ⟨nX12.1, nX12.2, by decide +kernel⟩, Nat.le_of_ble_eq_true rfl, ⟨lw_T_in2 (lw_m7 (i := 102) rfl) rfl, lw_T_in2 (lw_m0 (i := 84) rfl) rfl⟩⟩
theorem pX12_turnsAbout : plainFor yX12_turnsAbout = true := plainFor_of_name pX12
set_option maxRecDepth 100000 in
theorem oX12_turnsAbout : am_okC2 mX12_turnsAbout 0 2 := ⟨lw_T_in2 (lw_m7 (i := 115) rfl) rfl, lw_T_in2 (lw_m1 (i := 13) rfl) rfl, ⟨nX12.1, nX12.2, by decide +kernel⟩, Nat.le_of_ble_eq_true rfl, ⟨lw_T_in2 (lw_m7 (i := 114) rfl) rfl, lw_T_in2 (lw_m0 (i := 87) rfl) rfl⟩⟩
theorem pX12_isWay : plainFor yX12_isWay = true := plainFor_of_name pX12
set_option maxRecDepth 100000 in
theorem oX12_isWay : am_okC2 mX12_isWay 0 1 := ⟨lw_T_in2 (lw_m7 (i := 111) rfl) rfl, lw_T_in2 (lw_m1 (i := 13) rfl) rfl, ⟨nX12.1, nX12.2, by decide +kernel⟩, Nat.le_of_ble_eq_true rfl, ⟨lw_T_in2 (lw_m7 (i := 110) rfl) rfl, lw_T_in2 (lw_m0 (i := 86) rfl) rfl⟩⟩
theorem pX12_fixedNow : plainFor yX12_fixedNow = true := plainFor_of_name pX12
set_option maxRecDepth 100000 in
theorem oX12_fixedNow : am_okC2 mX12_fixedNow 0 0 := ⟨lw_T_in2 (lw_m7 (i := 119) rfl) rfl, lw_T_in2 (lw_m1 (i := 13) rfl) rfl, ⟨nX12.1, nX12.2, by decide +kernel⟩, Nat.le_of_ble_eq_true rfl, ⟨lw_T_in2 (lw_m7 (i := 118) rfl) rfl, lw_T_in2 (lw_m0 (i := 88) rfl) rfl⟩⟩
theorem pX12_layWay : plainFor yX12_layWay = true := plainFor_of_name pX12
set_option maxRecDepth 100000 in
theorem oX12_layWay : am_okC2 mX12_layWay 0 2 := ⟨lw_T_in2 (lw_m7 (i := 99) rfl) rfl, lw_T_in2 (lw_m1 (i := 13) rfl) rfl, ⟨nX12.1, nX12.2, by decide +kernel⟩, Nat.le_of_ble_eq_true rfl, ⟨lw_T_in2 (lw_m7 (i := 98) rfl) rfl, lw_T_in2 (lw_m0 (i := 83) rfl) rfl⟩⟩
theorem pX12_laid : plainFor yX12_laid = true := plainFor_of_name pX12
set_option maxRecDepth 100000 in
theorem oX12_laid : am_okC2 mX12_laid 0 3 := ⟨lw_T_in2 (lw_m7 (i := 95) rfl) rfl, lw_T_in2 (lw_m1 (i := 13) rfl) rfl, ⟨nX12.1, nX12.2, by decide +kernel⟩, Nat.le_of_ble_eq_true rfl, ⟨lw_T_in2 (lw_m7 (i := 93) rfl) rfl, lw_T_in2 (lw_m7 (i := 94) rfl) rfl⟩⟩
theorem pX12_ends_ : plainFor yX12_ends_ = true := plainFor_of_name pX12
set_option maxRecDepth 100000 in
theorem oX12_ends_ : am_okC2 mX12_ends_ 0 0 := ⟨lw_T_in2 (lw_m7 (i := 123) rfl) rfl, lw_T_in2 (lw_m1 (i := 13) rfl) rfl, ⟨nX12.1, nX12.2, by decide +kernel⟩, Nat.le_of_ble_eq_true rfl, ⟨lw_T_in2 (lw_m7 (i := 121) rfl) rfl, lw_T_in2 (lw_m7 (i := 122) rfl) rfl⟩⟩
theorem pX12_lost : plainFor yX12_lost = true := plainFor_of_name pX12
set_option maxRecDepth 100000 in
theorem oX12_lost : am_okC2 mX12_lost 0 1 := ⟨lw_T_in2 (lw_m7 (i := 128) rfl) rfl, lw_T_in2 (lw_m1 (i := 13) rfl) rfl, ⟨nX12.1, nX12.2, by decide +kernel⟩, Nat.le_of_ble_eq_true rfl, ⟨lw_T_in2 (lw_m7 (i := 126) rfl) rfl, lw_T_in2 (lw_m7 (i := 127) rfl) rfl⟩⟩
theorem pX12_meets : plainFor yX12_meets = true := plainFor_of_name pX12
set_option maxRecDepth 100000 in
theorem oX12_meets : am_okC2 mX12_meets 0 2 := ⟨lw_T_in2 (lw_m7 (i := 136) rfl) rfl, lw_T_in2 (lw_m1 (i := 13) rfl) rfl, ⟨nX12.1, nX12.2, by decide +kernel⟩, Nat.le_of_ble_eq_true rfl, ⟨lw_T_in2 (lw_m7 (i := 135) rfl) rfl, lw_T_in2 (lw_m0 (i := 89) rfl) rfl⟩⟩
theorem pX12_plainTo : plainFor yX12_plainTo = true := plainFor_of_name pX12
set_option maxRecDepth 100000 in
theorem oX12_plainTo : am_okC2 mX12_plainTo 0 2 := ⟨lw_T_in2 (lw_m7 (i := 144) rfl) rfl, lw_T_in2 (lw_m1 (i := 13) rfl) rfl, ⟨nX12.1, nX12.2, by decide +kernel⟩, Nat.le_of_ble_eq_true rfl, ⟨lw_T_in2 (lw_m7 (i := 143) rfl) rfl, lw_T_in2 (lw_m0 (i := 91) rfl) rfl⟩⟩
theorem pX12_soon : plainFor yX12_soon = true := plainFor_of_name pX12
set_option maxRecDepth 100000 in
theorem oX12_soon : am_okC2 mX12_soon 0 2 := ⟨lw_T_in2 (lw_m7 (i := 140) rfl) rfl, lw_T_in2 (lw_m1 (i := 13) rfl) rfl, ⟨nX12.1, nX12.2, by decide +kernel⟩, Nat.le_of_ble_eq_true rfl, ⟨lw_T_in2 (lw_m7 (i := 139) rfl) rfl, lw_T_in2 (lw_m0 (i := 90) rfl) rfl⟩⟩
theorem pX12_meet : plainFor yX12_meet = true := plainFor_of_name pX12
set_option maxRecDepth 100000 in
theorem oX12_meet : am_okC2 mX12_meet 0 3 := ⟨lw_T_in2 (lw_m7 (i := 132) rfl) rfl, lw_T_in2 (lw_m1 (i := 13) rfl) rfl, ⟨nX12.1, nX12.2, by decide +kernel⟩, Nat.le_of_ble_eq_true rfl, ⟨lw_T_in2 (lw_m7 (i := 130) rfl) rfl, lw_T_in2 (lw_m7 (i := 131) rfl) rfl⟩⟩
theorem pX12_gloves : plainFor yX12_gloves = true := plainFor_of_name pX12
set_option maxRecDepth 100000 in
theorem oX12_gloves : am_okC2 mX12_gloves 0 3 := ⟨lw_T_in2 (lw_m7 (i := 148) rfl) rfl, lw_T_in2 (lw_m1 (i := 13) rfl) rfl, ⟨nX12.1, nX12.2, by decide +kernel⟩, Nat.le_of_ble_eq_true rfl, ⟨lw_T_in2 (lw_m7 (i := 146) rfl) rfl, lw_T_in2 (lw_m7 (i := 147) rfl) rfl⟩⟩
theorem pX12_image : plainFor yX12_image = true := plainFor_of_name pX12
set_option maxRecDepth 100000 in
theorem oX12_image : am_okC2 mX12_image 0 1 := ⟨lw_T_in2 (lw_m7 (i := 152) rfl) rfl, lw_T_in2 (lw_m1 (i := 13) rfl) rfl, ⟨nX12.1, nX12.2, by decide +kernel⟩, Nat.le_of_ble_eq_true rfl, ⟨lw_T_in2 (lw_m7 (i := 150) rfl) rfl, lw_T_in2 (lw_m7 (i := 151) rfl) rfl⟩⟩
theorem pX12_restore : plainFor yX12_restore = true := plainFor_of_name pX12
set_option maxRecDepth 100000 in
theorem oX12_restore : am_okC2 mX12_restore 0 1 := ⟨lw_T_in2 (lw_m7 (i := 156) rfl) rfl, lw_T_in2 (lw_m1 (i := 13) rfl) rfl, ⟨nX12.1, nX12.2, by decide +kernel⟩, Nat.le_of_ble_eq_true rfl, ⟨lw_T_in2 (lw_m7 (i := 154) rfl) rfl, lw_T_in2 (lw_m7 (i := 155) rfl) rfl⟩⟩
theorem pX12_isWord : plainFor yX12_isWord = true := plainFor_of_name pX12
set_option maxRecDepth 100000 in
theorem oX12_isWord : am_okC2 mX12_isWord 0 1 := ⟨lw_T_in2 (lw_m7 (i := 164) rfl) rfl, lw_T_in2 (lw_m1 (i := 13) rfl) rfl, ⟨nX12.1, nX12.2, by decide +kernel⟩, Nat.le_of_ble_eq_true rfl, ⟨lw_T_in2 (lw_m7 (i := 163) rfl) rfl, lw_T_in2 (lw_m0 (i := 92) rfl) rfl⟩⟩
theorem pX12_wordAt : plainFor yX12_wordAt = true := plainFor_of_name pX12
set_option maxRecDepth 100000 in
theorem oX12_wordAt : am_okC2 mX12_wordAt 0 1 := ⟨lw_T_in2 (lw_m7 (i := 172) rfl) rfl, lw_T_in2 (lw_m1 (i := 13) rfl) rfl, ⟨nX12.1, nX12.2, by decide +kernel⟩, Nat.le_of_ble_eq_true rfl, ⟨lw_T_in2 (lw_m7 (i := 171) rfl) rfl, lw_T_in2 (lw_m0 (i := 94) rfl) rfl⟩⟩
theorem pX12_kindOf : plainFor yX12_kindOf = true := plainFor_of_name pX12
set_option maxRecDepth 100000 in
theorem oX12_kindOf : am_okC2 mX12_kindOf 0 1 := ⟨lw_T_in2 (lw_m7 (i := 168) rfl) rfl, lw_T_in2 (lw_m1 (i := 13) rfl) rfl, ⟨nX12.1, nX12.2, by decide +kernel⟩, Nat.le_of_ble_eq_true rfl, ⟨lw_T_in2 (lw_m7 (i := 167) rfl) rfl, lw_T_in2 (lw_m0 (i := 93) rfl) rfl⟩⟩
theorem pX12_isOf : plainFor yX12_isOf = true := plainFor_of_name pX12
set_option maxRecDepth 100000 in
theorem oX12_isOf : am_okC2 mX12_isOf 1 2 := ⟨lw_T_in2 (lw_m7 (i := 180) rfl) rfl, lw_T_in2 (lw_m1 (i := 13) rfl) rfl, ⟨nX12.1, nX12.2, by decide +kernel⟩, Nat.le_of_ble_eq_true rfl, lw_T_in2 (lw_m7 (i := 179) rfl) rfl⟩
theorem pX12_kind : plainFor yX12_kind = true := plainFor_of_name pX12
set_option maxRecDepth 100000 in
theorem oX12_kind : am_okC2 mX12_kind 0 1 := ⟨lw_T_in2 (lw_m7 (i := 160) rfl) rfl, lw_T_in2 (lw_m1 (i := 13) rfl) rfl, ⟨nX12.1, nX12.2, by decide +kernel⟩, Nat.le_of_ble_eq_true rfl, ⟨lw_T_in2 (lw_m7 (i := 158) rfl) rfl, lw_T_in2 (lw_m7 (i := 159) rfl) rfl⟩⟩
theorem pX12_as : plainFor yX12_as = true := plainFor_of_name pX12
set_option maxRecDepth 100000 in
theorem oX12_as : am_okC2 mX12_as 0 2 := ⟨lw_T_in2 (lw_m7 (i := 176) rfl) rfl, lw_T_in2 (lw_m1 (i := 13) rfl) rfl, ⟨nX12.1, nX12.2, by decide +kernel⟩, Nat.le_of_ble_eq_true rfl, ⟨lw_T_in2 (lw_m7 (i := 174) rfl) rfl, lw_T_in2 (lw_m7 (i := 175) rfl) rfl⟩⟩
theorem pX12_began : plainFor yX12_began = true := plainFor_of_name pX12
set_option maxRecDepth 100000 in
theorem oX12_began : am_okC2 mX12_began 0 1 := ⟨lw_T_in2 (lw_m7 (i := 192) rfl) rfl, lw_T_in2 (lw_m1 (i := 13) rfl) rfl, ⟨nX12.1, nX12.2, by decide +kernel⟩, Nat.le_of_ble_eq_true rfl, ⟨lw_T_in2 (lw_m7 (i := 191) rfl) rfl, lw_T_in2 (lw_m0 (i := 96) rfl) rfl⟩⟩
theorem pX12_plainSize : plainFor yX12_plainSize = true := plainFor_of_name pX12
set_option maxRecDepth 100000 in
theorem oX12_plainSize : am_okC2 mX12_plainSize 0 1 := ⟨lw_T_in2 (lw_m7 (i := 196) rfl) rfl, lw_T_in2 (lw_m1 (i := 13) rfl) rfl, ⟨nX12.1, nX12.2, by decide +kernel⟩, Nat.le_of_ble_eq_true rfl, ⟨lw_T_in2 (lw_m7 (i := 195) rfl) rfl, lw_T_in2 (lw_m0 (i := 97) rfl) rfl⟩⟩
theorem pX12_takenSize : plainFor yX12_takenSize = true := plainFor_of_name pX12
set_option maxRecDepth 100000 in
theorem oX12_takenSize : am_okC2 mX12_takenSize 0 1 := ⟨lw_T_in2 (lw_m7 (i := 204) rfl) rfl, lw_T_in2 (lw_m1 (i := 13) rfl) rfl, ⟨nX12.1, nX12.2, by decide +kernel⟩, Nat.le_of_ble_eq_true rfl, ⟨lw_T_in2 (lw_m7 (i := 203) rfl) rfl, lw_T_in2 (lw_m0 (i := 99) rfl) rfl⟩⟩
theorem pX12_markOf : plainFor yX12_markOf = true := plainFor_of_name pX12
set_option maxRecDepth 100000 in
theorem oX12_markOf : am_okC2 mX12_markOf 0 1 := ⟨lw_T_in2 (lw_m7 (i := 200) rfl) rfl, lw_T_in2 (lw_m1 (i := 13) rfl) rfl, ⟨nX12.1, nX12.2, by decide +kernel⟩, Nat.le_of_ble_eq_true rfl, ⟨lw_T_in2 (lw_m7 (i := 199) rfl) rfl, lw_T_in2 (lw_m0 (i := 98) rfl) rfl⟩⟩
theorem pX12_turnedSize : plainFor yX12_turnedSize = true := plainFor_of_name pX12
set_option maxRecDepth 100000 in
theorem oX12_turnedSize : am_okC2 mX12_turnedSize 0 1 := ⟨lw_T_in2 (lw_m7 (i := 208) rfl) rfl, lw_T_in2 (lw_m1 (i := 13) rfl) rfl, ⟨nX12.1, nX12.2, by decide +kernel⟩, Nat.le_of_ble_eq_true rfl, ⟨lw_T_in2 (lw_m7 (i := 207) rfl) rfl, lw_T_in2 (lw_m0 (i := 100) rfl) rfl⟩⟩
theorem pX12_sizeOf : plainFor yX12_sizeOf = true := plainFor_of_name pX12
set_option maxRecDepth 100000 in
theorem oX12_sizeOf : am_okC2 mX12_sizeOf 0 1 := ⟨lw_T_in2 (lw_m7 (i := 188) rfl) rfl, lw_T_in2 (lw_m1 (i := 13) rfl) rfl, ⟨nX12.1, nX12.2, by decide +kernel⟩, Nat.le_of_ble_eq_true rfl, ⟨lw_T_in2 (lw_m7 (i := 187) rfl) rfl, lw_T_in2 (lw_m0 (i := 95) rfl) rfl⟩⟩
theorem pX12_ask : plainFor yX12_ask = true := plainFor_of_name pX12
set_option maxRecDepth 100000 in
theorem oX12_ask : am_okC2 mX12_ask 0 2 := ⟨lw_T_in2 (lw_m7 (i := 184) rfl) rfl, lw_T_in2 (lw_m1 (i := 13) rfl) rfl, ⟨nX12.1, nX12.2, by decide +kernel⟩, Nat.le_of_ble_eq_true rfl, ⟨lw_T_in2 (lw_m7 (i := 182) rfl) rfl, lw_T_in2 (lw_m7 (i := 183) rfl) rfl⟩⟩
theorem pX12_trace : plainFor yX12_trace = true := plainFor_of_name pX12
set_option maxRecDepth 100000 in
theorem oX12_trace : am_okC2 mX12_trace 0 1 := ⟨lw_T_in2 (lw_m7 (i := 212) rfl) rfl, lw_T_in2 (lw_m1 (i := 13) rfl) rfl, ⟨nX12.1, nX12.2, by decide +kernel⟩, Nat.le_of_ble_eq_true rfl, ⟨lw_T_in2 (lw_m7 (i := 210) rfl) rfl, lw_T_in2 (lw_m7 (i := 211) rfl) rfl⟩⟩
theorem pX12_count : plainFor yX12_count = true := plainFor_of_name pX12
set_option maxRecDepth 100000 in
theorem oX12_count : am_okC2 mX12_count 0 1 := ⟨lw_T_in2 (lw_m7 (i := 216) rfl) rfl, lw_T_in2 (lw_m1 (i := 13) rfl) rfl, ⟨nX12.1, nX12.2, by decide +kernel⟩, Nat.le_of_ble_eq_true rfl, ⟨lw_T_in2 (lw_m7 (i := 214) rfl) rfl, lw_T_in2 (lw_m7 (i := 215) rfl) rfl⟩⟩
theorem pX12_status : plainFor yX12_status = true := plainFor_of_name pX12
set_option maxRecDepth 100000 in
theorem oX12_status : am_okC2 mX12_status 0 0 := ⟨lw_T_in2 (lw_m7 (i := 220) rfl) rfl, lw_T_in2 (lw_m1 (i := 13) rfl) rfl, ⟨nX12.1, nX12.2, by decide +kernel⟩, Nat.le_of_ble_eq_true rfl, ⟨lw_T_in2 (lw_m7 (i := 218) rfl) rfl, lw_T_in2 (lw_m7 (i := 219) rfl) rfl⟩⟩
theorem pJ9_max_7cf53 : plainFor yJ9_max_7cf53 = true := by decide +kernel
set_option maxRecDepth 100000 in
theorem oJ9_max_7cf53 : am_okC2 mJ9_max_7cf53 1 2 := ⟨lw_T_in2 (lw_m5 (i := 44) rfl) rfl, lw_T_in2 (lw_m1 (i := 18) rfl) rfl, ⟨nJ9.1, nJ9.2, by decide +kernel⟩, Nat.le_of_ble_eq_true rfl, lw_T_in2 (lw_m5 (i := 43) rfl) rfl⟩
theorem pJ9_min_7cf53 : plainFor yJ9_min_7cf53 = true := by decide +kernel
set_option maxRecDepth 100000 in
theorem oJ9_min_7cf53 : am_okC2 mJ9_min_7cf53 1 2 := ⟨lw_T_in2 (lw_m5 (i := 50) rfl) rfl, lw_T_in2 (lw_m1 (i := 18) rfl) rfl, ⟨nJ9.1, nJ9.2, by decide +kernel⟩, Nat.le_of_ble_eq_true rfl, lw_T_in2 (lw_m5 (i := 49) rfl) rfl⟩
