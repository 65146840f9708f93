def mX7_isHouse : MI := (yX7_isHouse, cX7_isHouse, 2, (some .boolean), 0, 0)
def mX7_listenerAt : MI := (yX7_listenerAt, cX7_listenerAt, 2, (some .int), 1, 21)
def mX10_aimOf : MI := (yX10_aimOf, cX10_aimOf, 2, (some .int), 0, 0)
def mX10_shift : MI := (yX10_shift, cX10_shift, 3, (some .int), 0, 0)
def mJ9_floorMod_7cf53 : MI := (yJ9_floorMod_7cf53, cJ9_floorMod_7cf53, 3, (some .int), 0, 0)
def mX9_around : MI := (yX9_around, cX9_around, 2, (some .int), 1, 22)
def mX10_landingWith : MI := (yX10_landingWith, cX10_landingWith, 7, (some .int), 2, 43)
def mX10_landingAimed : MI := (yX10_landingAimed, cX10_landingAimed, 4, (some .int), 3, 69)
def mX10_listener : MI := (yX10_listener, cX10_listener, 3, (some .int), 4, 92)
def mX0_collect : MI := (yX0_collect, cX0_collect, 6, none, 5, 114)
def mJM_min : MI := ((⟨"java/lang/Math", "min", "(II)I"⟩ : MethodName), prog_21_method_69_code, 2, (some .int), 0, 0)
def mX0_indexOf : MI := (yX0_indexOf, cX0_indexOf, 4, (some .int), 0, 0)
def mX9_distance : MI := (yX9_distance, cX9_distance, 4, (some .int), 2, 43)
def mX0_fewestOn : MI := (yX0_fewestOn, cX0_fewestOn, 10, (some .int), 3, 66)
def mX0_init : MI := (yX0_init, cX0_init, 4, none, 1, 24)
def mX0_workOut : MI := (yX0_workOut, cX0_workOut, 6, none, 4, 95)
def mX0_plan : MI := (yX0_plan, cX0_plan, 5, none, 6, 139)
def mX0_stepsFrom : MI := (yX0_stepsFrom, cX0_stepsFrom, 6, (some .int), 3, 66)
def mX10_heardBits : MI := (yX10_heardBits, cX10_heardBits, 5, (some .int), 5, 114)
def mX6_init : MI := (yX6_init, cX6_init, 1, none, 1, 24)
def mX7_init : MI := (yX7_init, cX7_init, 1, none, 1, 24)
def mX10_init : MI := (yX10_init, cX10_init, 2, none, 2, 44)
def mX10_isRight : MI := (yX10_isRight, cX10_isRight, 3, (some .boolean), 5, 114)
def mX10_isRightWith : MI := (yX10_isRightWith, cX10_isRightWith, 5, (some .boolean), 3, 69)
def mX10_landing : MI := (yX10_landing, cX10_landing, 3, (some .int), 4, 92)
def mX10_listenerAimed : MI := (yX10_listenerAimed, cX10_listenerAimed, 4, (some .int), 4, 92)
def mX10_listenerFurtherOn : MI := (yX10_listenerFurtherOn, cX10_listenerFurtherOn, 3, (some .int), 4, 92)
def mX10_mirrorCount : MI := (yX10_mirrorCount, cX10_mirrorCount, 3, (some .int), 0, 0)
def mX7_lay : MI := (yX7_lay, cX7_lay, 7, none, 1, 21)
def mX10_putPerson : MI := (yX10_putPerson, cX10_putPerson, 3, none, 2, 47)
def mX10_rightBits : MI := (yX10_rightBits, cX10_rightBits, 4, (some .int), 5, 114)
def mJ6_bitCount_0f7a4 : MI := (yJ6_bitCount_0f7a4, cJ6_bitCount_0f7a4, 1, (some .int), 0, 0)
def mX10_rightCount : MI := (yX10_rightCount, cX10_rightCount, 2, (some .int), 6, 137)
def mX10_rightNightsWith : MI := (yX10_rightNightsWith, cX10_rightNightsWith, 5, (some .int), 4, 93)
def mX11_copyRow : MI := (yX11_copyRow, cX11_copyRow, 2, none, 1, 64)
def mX6_copy : MI := (yX6_copy, cX6_copy, 2, none, 2, 85)
def mX10_settle : MI := (yX10_settle, cX10_settle, 2, none, 3, 106)
def mX11_isNoNight : MI := (yX11_isNoNight, cX11_isNoNight, 1, (some .boolean), 0, 0)
def mX11_isNoDead : MI := (yX11_isNoDead, cX11_isNoDead, 2, (some .boolean), 0, 0)
def mX11_isNoPerson : MI := (yX11_isNoPerson, cX11_isNoPerson, 2, (some .boolean), 0, 0)
def mX11_refused : MI := (yX11_refused, cX11_refused, 3, (some .boolean), 0, 0)
def mX11_aimFor : MI := (yX11_aimFor, cX11_aimFor, 5, (some .int), 5, 115)
def mX11_aims : MI := (yX11_aims, cX11_aims, 6, (some .int), 5, 115)
def mX11_isNoTown : MI := (yX11_isNoTown, cX11_isNoTown, 1, (some .boolean), 0, 0)
def mJM_max : MI := ((⟨"java/lang/Math", "max", "(II)I"⟩ : MethodName), prog_21_method_65_code, 2, (some .int), 0, 0)
def mX1_leftAtMost : MI := (yX1_leftAtMost, cX1_leftAtMost, 4, (some .int), 1, 21)
def mX1_whomToAsk : MI := (yX1_whomToAsk, cX1_whomToAsk, 6, (some .int), 2, 44)
def mX11_ask : MI := (yX11_ask, cX11_ask, 1, (some .int), 3, 69)
def mX11_askLeaves : MI := (yX11_askLeaves, cX11_askLeaves, 2, (some .int), 3, 69)
def mX11_back : MI := (yX11_back, cX11_back, 2, (some .boolean), 4, 127)
def mX11_bestNight : MI := (yX11_bestNight, cX11_bestNight, 5, (some .int), 7, 158)
def mX11_bishopTalks : MI := (yX11_bishopTalks, cX11_bishopTalks, 1, (some .boolean), 0, 0)
def mX11_isNoHouse : MI := (yX11_isNoHouse, cX11_isNoHouse, 2, (some .boolean), 0, 0)
def mX11_bring : MI := (yX11_bring, cX11_bring, 3, (some .int), 7, 163)
def mX11_bringFrom : MI := (yX11_bringFrom, cX11_bringFrom, 6, (some .int), 7, 163)
def mX3_forgetOldest : MI := (yX3_forgetOldest, cX3_forgetOldest, 2, none, 0, 0)
def mX3_keep : MI := (yX3_keep, cX3_keep, 4, none, 1, 21)
def mX11_changeMirror : MI := (yX11_changeMirror, cX11_changeMirror, 4, (some .boolean), 2, 44)
def mX11_gain : MI := (yX11_gain, cX11_gain, 3, (some .int), 0, 0)
def mX11_isNoSoot : MI := (yX11_isNoSoot, cX11_isNoSoot, 1, (some .boolean), 0, 0)
def mX11_chat : MI := (yX11_chat, cX11_chat, 5, (some .int), 1, 22)
def mX11_comesOut : MI := (yX11_comesOut, cX11_comesOut, 3, (some .int), 5, 114)
def mX11_commonDivisor : MI := (yX11_commonDivisor, cX11_commonDivisor, 11, (some .long), 0, 0)
def mX1_inSome : MI := (yX1_inSome, cX1_inSome, 3, (some .int), 0, 0)
def mX11_could : MI := (yX11_could, cX11_could, 1, (some .int), 1, 22)
def mX11_dead : MI := (yX11_dead, cX11_dead, 3, (some .int), 1, 22)
def mX11_fault : MI := (yX11_fault, cX11_fault, 1, (some .int), 0, 0)
def mX11_putNumber : MI := (yX11_putNumber, cX11_putNumber, 3, none, 0, 0)
def mX11_feed : MI := (yX11_feed, cX11_feed, 6, (some .int), 1, 22)
def mX11_fitAt : MI := (yX11_fitAt, cX11_fitAt, 2, (some .int), 1, 22)
def mX11_fits : MI := (yX11_fits, cX11_fits, 1, (some .int), 1, 22)
def mX11_hang : MI := (yX11_hang, cX11_hang, 3, (some .boolean), 3, 67)
def mX11_isNoSeed : MI := (yX11_isNoSeed, cX11_isNoSeed, 1, (some .boolean), 0, 0)
def mX2_draw : MI := (yX2_draw, cX2_draw, 1, (some .int), 0, 0)
def mX2_drawnListener : MI := (yX2_drawnListener, cX2_drawnListener, 4, (some .int), 5, 114)
def mX2_skip : MI := (yX2_skip, cX2_skip, 3, none, 1, 20)
def mX11_heardBy : MI := (yX11_heardBy, cX11_heardBy, 4, (some .int), 6, 137)
def mX11_hears : MI := (yX11_hears, cX11_hears, 3, (some .int), 5, 114)
def mX7_occupantOf : MI := (yX7_occupantOf, cX7_occupantOf, 2, (some .int), 1, 21)
def mX11_house : MI := (yX11_house, cX11_house, 2, (some .int), 2, 42)
def mX11_refuse : MI := (yX11_refuse, cX11_refuse, 2, (some .int), 0, 0)
def mX11_image : MI := (yX11_image, cX11_image, 1, (some .int), 3, 106)
def mX11_inLowestTerms : MI := (yX11_inLowestTerms, cX11_inLowestTerms, 7, (some .long), 1, 30)
def mX1_init : MI := (yX1_init, cX1_init, 1, none, 1, 24)
def mX2_init : MI := (yX2_init, cX2_init, 1, none, 1, 24)
def mX3_init : MI := (yX3_init, cX3_init, 1, none, 1, 24)
def mX8_init : MI := (yX8_init, cX8_init, 1, none, 1, 24)
def mX9_init : MI := (yX9_init, cX9_init, 1, none, 2, 44)
def mX4_init : MI := (yX4_init, cX4_init, 1, none, 3, 64)
def mX5_init : MI := (yX5_init, cX5_init, 1, none, 1, 24)
def mX11_init : MI := (yX11_init, cX11_init, 2, none, 4, 84)
def mX11_sweepTalks : MI := (yX11_sweepTalks, cX11_sweepTalks, 1, (some .boolean), 0, 0)
def mX11_isRest : MI := (yX11_isRest, cX11_isRest, 4, (some .boolean), 1, 22)
def mX11_judge : MI := (yX11_judge, cX11_judge, 1, (some .int), 1, 22)
def mX5_worthOf : MI := (yX5_worthOf, cX5_worthOf, 3, (some .int), 0, 0)
def mX5_isLiked : MI := (yX5_isLiked, cX5_isLiked, 3, (some .boolean), 1, 22)
def mX5_weigh : MI := (yX5_weigh, cX5_weigh, 5, none, 5, 115)
def mX11_likes : MI := (yX11_likes, cX11_likes, 4, (some .int), 6, 139)
def mX2_hundredths : MI := (yX2_hundredths, cX2_hundredths, 6, (some .int), 5, 114)
def mX11_mean : MI := (yX11_mean, cX11_mean, 7, (some .long), 6, 139)
def mX11_medium : MI := (yX11_medium, cX11_medium, 6, (some .int), 6, 138)
def mX11_mirrorBest : MI := (yX11_mirrorBest, cX11_mirrorBest, 6, (some .int), 5, 117)
def mX11_mirrorFor : MI := (yX11_mirrorFor, cX11_mirrorFor, 4, (some .int), 4, 93)
def mX2_countWays : MI := (yX2_countWays, cX2_countWays, 6, none, 6, 139)
def mX2_waysFrom : MI := (yX2_waysFrom, cX2_waysFrom, 5, (some .long), 0, 0)
def mX11_most : MI := (yX11_most, cX11_most, 4, (some .long), 7, 164)
def mX11_move : MI := (yX11_move, cX11_move, 4, (some .int), 3, 69)
def mX11_moveFor : MI := (yX11_moveFor, cX11_moveFor, 7, (some .int), 7, 158)
def mX9_firstDeadFor : MI := (yX9_firstDeadFor, cX9_firstDeadFor, 3, (some .int), 0, 0)
def mX11_nextInRing : MI := (yX11_nextInRing, cX11_nextInRing, 4, (some .int), 5, 114)
def mX11_night : MI := (yX11_night, cX11_night, 2, (some .int), 6, 137)
def mX11_nightsOf : MI := (yX11_nightsOf, cX11_nightsOf, 5, (some .int), 5, 114)
def mX11_odds : MI := (yX11_odds, cX11_odds, 4, (some .long), 6, 139)
def mX11_off : MI := (yX11_off, cX11_off, 4, (some .int), 5, 114)
def mX11_outIf : MI := (yX11_outIf, cX11_outIf, 4, (some .int), 4, 92)
def mX11_perfect : MI := (yX11_perfect, cX11_perfect, 3, (some .int), 7, 158)
def mX9_deadFor : MI := (yX9_deadFor, cX9_deadFor, 4, (some .int), 0, 0)
def mX11_person : MI := (yX11_person, cX11_person, 3, (some .int), 6, 138)
def mX11_rest : MI := (yX11_rest, cX11_rest, 3, (some .int), 2, 45)
def mX11_restless : MI := (yX11_restless, cX11_restless, 5, (some .int), 6, 139)
def mX11_rests : MI := (yX11_rests, cX11_rests, 4, (some .int), 2, 45)
def mX11_right : MI := (yX11_right, cX11_right, 2, (some .int), 6, 137)
def mX11_rightFrom : MI := (yX11_rightFrom, cX11_rightFrom, 4, (some .int), 6, 136)
def mX11_rights : MI := (yX11_rights, cX11_rights, 6, (some .int), 6, 137)
def mX11_ringLength : MI := (yX11_ringLength, cX11_ringLength, 5, (some .int), 6, 137)
def mX11_ring : MI := (yX11_ring, cX11_ring, 3, (some .int), 7, 161)
def mX11_ringAt : MI := (yX11_ringAt, cX11_ringAt, 6, (some .int), 7, 161)
def mX9_nightsToGoRound : MI := (yX9_nightsToGoRound, cX9_nightsToGoRound, 3, (some .int), 2, 43)
def mX11_round : MI := (yX11_round, cX11_round, 3, (some .int), 3, 65)
def mX5_mostRight : MI := (yX5_mostRight, cX5_mostRight, 6, (some .int), 1, 22)
def mX11_seat : MI := (yX11_seat, cX11_seat, 2, (some .int), 6, 139)
def mX5_firstBestPlace : MI := (yX5_firstBestPlace, cX5_firstBestPlace, 8, (some .int), 1, 22)
def mX5_placeOf : MI := (yX5_placeOf, cX5_placeOf, 6, (some .int), 2, 49)
def mX11_seatAt : MI := (yX11_seatAt, cX11_seatAt, 3, (some .int), 6, 139)
def mX11_silent : MI := (yX11_silent, cX11_silent, 4, (some .int), 6, 138)
def mX11_size : MI := (yX11_size, cX11_size, 2, (some .int), 1, 22)
def mX11_slipFor : MI := (yX11_slipFor, cX11_slipFor, 4, (some .int), 4, 93)
def mX11_steps : MI := (yX11_steps, cX11_steps, 3, (some .int), 3, 66)
def mX1_inAll : MI := (yX1_inAll, cX1_inAll, 3, (some .int), 0, 0)
def mX11_surely : MI := (yX11_surely, cX11_surely, 1, (some .int), 1, 22)
def mX11_take : MI := (yX11_take, cX11_take, 2, (some .boolean), 3, 67)
def mX11_teach : MI := (yX11_teach, cX11_teach, 4, (some .boolean), 2, 44)
def mX11_together : MI := (yX11_together, cX11_together, 4, (some .int), 5, 114)
def mX1_notSoBy : MI := (yX1_notSoBy, cX1_notSoBy, 3, (some .int), 5, 114)
def mX1_suppose : MI := (yX1_suppose, cX1_suppose, 4, none, 4, 127)
def mX1_list : MI := (yX1_list, cX1_list, 5, none, 6, 150)
def mX4_fail : MI := (yX4_fail, cX4_fail, 3, none, 0, 0)
def mJ3_checkIndex_8e157 : MI := (yJ3_checkIndex_8e157, cJ3_checkIndex_8e157, 3, (some .int), 0, 0)
def mJ0_checkIndex_df160 : MI := (yJ0_checkIndex_df160, cJ0_checkIndex_df160, 2, none, 1, 22)
def mJ1_charAt_3b067 : MI := (yJ1_charAt_3b067, cJ1_charAt_3b067, 2, (some .char), 2, 43)
def mJ0_isLatin1_aae02 : MI := (yJ0_isLatin1_aae02, cJ0_isLatin1_aae02, 1, (some .boolean), 0, 0)
def mJ0_charAt_5068e : MI := (yJ0_charAt_5068e, cJ0_charAt_5068e, 2, (some .char), 3, 64)
def mJ0_coder_7d493 : MI := (yJ0_coder_7d493, cJ0_coder_7d493, 1, (some .byte), 0, 0)
def mJ0_length_8abf5 : MI := (yJ0_length_8abf5, cJ0_length_8abf5, 1, (some .int), 1, 20)
def mX8_isWord : MI := (yX8_isWord, cX8_isWord, 5, (some .boolean), 4, 85)
def mX4_lineSort : MI := (yX4_lineSort, cX4_lineSort, 1, (some .int), 5, 109)
def mX8_sortAt : MI := (yX8_sortAt, cX8_sortAt, 3, (some .int), 0, 0)
def mX8_step : MI := (yX8_step, cX8_step, 1, none, 1, 22)
def mX4_takeToken : MI := (yX4_takeToken, cX4_takeToken, 2, none, 2, 42)
def mX4_beginLine : MI := (yX4_beginLine, cX4_beginLine, 2, none, 3, 63)
def mX4_lawOfToken : MI := (yX4_lawOfToken, cX4_lawOfToken, 1, (some .int), 5, 109)
def mX4_takeLaw : MI := (yX4_takeLaw, cX4_takeLaw, 2, (some .int), 6, 129)
def mX4_find : MI := (yX4_find, cX4_find, 5, (some .int), 0, 0)
def mX4_takeNewName : MI := (yX4_takeNewName, cX4_takeNewName, 4, (some .long), 6, 129)
def mX4_takeTold : MI := (yX4_takeTold, cX4_takeTold, 4, (some .int), 6, 129)
def mX4_takeWhole : MI := (yX4_takeWhole, cX4_takeWhole, 4, (some .int), 3, 63)
def mX4_takeWord : MI := (yX4_takeWord, cX4_takeWord, 2, none, 5, 109)
def mX4_readDead : MI := (yX4_readDead, cX4_readDead, 6, none, 7, 152)
def mX9_isHeard : MI := (yX9_isHeard, cX9_isHeard, 4, (some .boolean), 0, 0)
def mX4_readHeard : MI := (yX4_readHeard, cX4_readHeard, 4, none, 7, 152)
def mX4_readMirror : MI := (yX4_readMirror, cX4_readMirror, 3, none, 7, 152)
def mX9_isTaken : MI := (yX9_isTaken, cX9_isTaken, 3, (some .boolean), 0, 0)
def mX4_readPerson : MI := (yX4_readPerson, cX4_readPerson, 4, none, 7, 152)
def mX4_readTown : MI := (yX4_readTown, cX4_readTown, 3, none, 6, 130)
def mX9_isUnsure : MI := (yX9_isUnsure, cX9_isUnsure, 3, (some .boolean), 0, 0)
def mX4_readUnsure : MI := (yX4_readUnsure, cX4_readUnsure, 3, none, 7, 152)
def mX4_readLine : MI := (yX4_readLine, cX4_readLine, 1, none, 8, 177)
def mX8_begin : MI := (yX8_begin, cX8_begin, 3, none, 2, 42)
def mX9_clear : MI := (yX9_clear, cX9_clear, 1, none, 0, 0)
def mX4_read : MI := (yX4_read, cX4_read, 4, (some .boolean), 9, 197)
def mX9_copy : MI := (yX9_copy, cX9_copy, 2, none, 3, 106)
def mX11_town : MI := (yX11_town, cX11_town, 3, (some .int), 10, 220)
def mX11_trouble : MI := (yX11_trouble, cX11_trouble, 1, (some .int), 0, 0)
def mX3_revertLatest : MI := (yX3_revertLatest, cX3_revertLatest, 4, none, 3, 69)
def mX11_undo : MI := (yX11_undo, cX11_undo, 1, (some .boolean), 4, 92)
def mX11_where : MI := (yX11_where, cX11_where, 1, (some .int), 0, 0)
def mX12_find : MI := (yX12_find, cX12_find, 4, (some .int), 0, 0)
def mX12_init : MI := (yX12_init, cX12_init, 1, none, 1, 24)
def mX12_isHeard : MI := (yX12_isHeard, cX12_isHeard, 4, (some .boolean), 0, 0)
def mX12_isTaken : MI := (yX12_isTaken, cX12_isTaken, 3, (some .boolean), 0, 0)
def mX12_isUnsure : MI := (yX12_isUnsure, cX12_isUnsure, 3, (some .boolean), 0, 0)
def mX13_good : MI := (yX13_good, cX13_good, 2, (some .int), 0, 0)
def mX13_around : MI := (yX13_around, cX13_around, 3, (some .int), 0, 0)
def mX13_whoIn : MI := (yX13_whoIn, cX13_whoIn, 3, (some .int), 0, 0)
def mX13_heardFrom : MI := (yX13_heardFrom, cX13_heardFrom, 3, (some .int), 1, 22)
def mX13_isDead : MI := (yX13_isDead, cX13_isDead, 2, (some .boolean), 0, 0)
def mX13_isPerson : MI := (yX13_isPerson, cX13_isPerson, 2, (some .boolean), 0, 0)
def mX13_outOf : MI := (yX13_outOf, cX13_outOf, 9, (some .int), 1, 22)
def mX13_refused : MI := (yX13_refused, cX13_refused, 2, (some .int), 0, 0)
def mX13_in : MI := (yX13_in, cX13_in, 3, (some .boolean), 0, 0)
def mX13_refusesNight : MI := (yX13_refusesNight, cX13_refusesNight, 3, (some .int), 1, 22)
def mX13_works : MI := (yX13_works, cX13_works, 2, none, 0, 0)
def mX13_aimFor : MI := (yX13_aimFor, cX13_aimFor, 6, (some .int), 2, 50)
def mX13_aimOf : MI := (yX13_aimOf, cX13_aimOf, 2, (some .int), 0, 0)
def mX13_aims : MI := (yX13_aims, cX13_aims, 7, (some .int), 2, 50)
def mX13_apart : MI := (yX13_apart, cX13_apart, 4, (some .int), 1, 22)
def mX13_areTwo : MI := (yX13_areTwo, cX13_areTwo, 3, (some .boolean), 1, 21)
def mX13_bit : MI := (yX13_bit, cX13_bit, 2, (some .boolean), 0, 0)
def mX13_asTold : MI := (yX13_asTold, cX13_asTold, 3, none, 1, 21)
def mX13_whoHears : MI := (yX13_whoHears, cX13_whoHears, 3, (some .int), 2, 50)
def mX13_wrongHeard : MI := (yX13_wrongHeard, cX13_wrongHeard, 3, (some .int), 3, 72)
def mX13_fitting : MI := (yX13_fitting, cX13_fitting, 5, (some .int), 4, 94)
def mX13_asks : MI := (yX13_asks, cX13_asks, 4, (some .int), 5, 118)
def mX13_ask : MI := (yX13_ask, cX13_ask, 1, (some .int), 6, 141)
def mX13_askLeaves : MI := (yX13_askLeaves, cX13_askLeaves, 1, (some .int), 6, 141)
def mX13_denied : MI := (yX13_denied, cX13_denied, 2, (some .boolean), 1, 21)
def mX13_granted : MI := (yX13_granted, cX13_granted, 1, (some .boolean), 1, 21)
def mX13_back : MI := (yX13_back, cX13_back, 3, (some .boolean), 2, 42)
def mX13_behind : MI := (yX13_behind, cX13_behind, 7, (some .int), 0, 0)
def mX13_bits : MI := (yX13_bits, cX13_bits, 3, (some .int), 0, 0)
def mX13_isRight : MI := (yX13_isRight, cX13_isRight, 3, (some .boolean), 3, 72)
def mX13_rightOn : MI := (yX13_rightOn, cX13_rightOn, 4, (some .int), 4, 94)
def mX13_bestNight : MI := (yX13_bestNight, cX13_bestNight, 5, (some .int), 5, 117)
def mX13_spreads : MI := (yX13_spreads, cX13_spreads, 7, none, 2, 45)
def mX13_brings : MI := (yX13_brings, cX13_brings, 9, (some .int), 3, 72)
def mX13_isHouse : MI := (yX13_isHouse, cX13_isHouse, 2, (some .boolean), 0, 0)
def mX13_bring : MI := (yX13_bring, cX13_bring, 4, (some .int), 4, 100)
def mX13_bringFrom : MI := (yX13_bringFrom, cX13_bringFrom, 7, (some .int), 4, 100)
def mX13_byteAt : MI := (yX13_byteAt, cX13_byteAt, 2, (some .int), 0, 0)
def mX13_hearerBy : MI := (yX13_hearerBy, cX13_hearerBy, 4, (some .int), 2, 50)
def mX13_chance : MI := (yX13_chance, cX13_chance, 4, (some .int), 3, 73)
def mX13_chatted : MI := (yX13_chatted, cX13_chatted, 3, (some .int), 0, 0)
def mX13_lost : MI := (yX13_lost, cX13_lost, 2, (some .int), 1, 21)
def mX13_refusesSoot : MI := (yX13_refusesSoot, cX13_refusesSoot, 2, (some .int), 1, 22)
def mX13_chat : MI := (yX13_chat, cX13_chat, 6, (some .int), 2, 43)
def mX13_comesOut : MI := (yX13_comesOut, cX13_comesOut, 4, (some .int), 2, 50)
def mX13_comesRound : MI := (yX13_comesRound, cX13_comesRound, 4, (some .boolean), 2, 50)
def mX13_common : MI := (yX13_common, cX13_common, 10, (some .long), 0, 0)
def mX13_could : MI := (yX13_could, cX13_could, 1, (some .int), 5, 118)
def mX13_dead : MI := (yX13_dead, cX13_dead, 3, (some .int), 1, 22)
def mX13_isDigit : MI := (yX13_isDigit, cX13_isDigit, 1, (some .boolean), 0, 0)
def mX13_isLetter : MI := (yX13_isLetter, cX13_isLetter, 1, (some .boolean), 0, 0)
def mX13_goesOn : MI := (yX13_goesOn, cX13_goesOn, 3, none, 1, 21)
def mX13_eatsSemicolon : MI := (yX13_eatsSemicolon, cX13_eatsSemicolon, 2, (some .boolean), 2, 43)
def mX13_fault : MI := (yX13_fault, cX13_fault, 1, (some .int), 0, 0)
def mX13_feed : MI := (yX13_feed, cX13_feed, 8, (some .int), 0, 0)
def mX13_firstDead : MI := (yX13_firstDead, cX13_firstDead, 3, (some .int), 0, 0)
def mX13_fitAt : MI := (yX13_fitAt, cX13_fitAt, 3, (some .int), 5, 118)
def mX13_fits : MI := (yX13_fits, cX13_fits, 1, (some .int), 5, 118)
def mX13_flaw : MI := (yX13_flaw, cX13_flaw, 2, none, 0, 0)
def mX13_fraction : MI := (yX13_fraction, cX13_fraction, 6, (some .long), 1, 29)
def mX13_frees : MI := (yX13_frees, cX13_frees, 3, none, 0, 0)
def mX13_further : MI := (yX13_further, cX13_further, 1, (some .int), 0, 0)
def mX13_remembers : MI := (yX13_remembers, cX13_remembers, 2, none, 0, 0)
def mX13_hangs : MI := (yX13_hangs, cX13_hangs, 3, (some .boolean), 2, 42)
def mX13_hang : MI := (yX13_hang, cX13_hang, 3, (some .boolean), 3, 64)
def mX13_heardBy : MI := (yX13_heardBy, cX13_heardBy, 6, (some .int), 3, 73)
def mX13_heardOf : MI := (yX13_heardOf, cX13_heardOf, 5, (some .int), 3, 72)
def mX13_hears : MI := (yX13_hears, cX13_hears, 4, (some .int), 3, 72)
def mX13_house : MI := (yX13_house, cX13_house, 2, (some .int), 1, 22)
def mX13_image : MI := (yX13_image, cX13_image, 2, (some .int), 1, 21)
def mX13_init : MI := (yX13_init, cX13_init, 1, none, 1, 24)
def mX13_rightFor : MI := (yX13_rightFor, cX13_rightFor, 6, (some .int), 4, 94)
def mX13_isLiked : MI := (yX13_isLiked, cX13_isLiked, 5, (some .boolean), 5, 119)
def mX13_packed : MI := (yX13_packed, cX13_packed, 4, (some .long), 4, 85)
def mX13_isWord : MI := (yX13_isWord, cX13_isWord, 2, (some .boolean), 5, 108)
def mX13_isName : MI := (yX13_isName, cX13_isName, 1, (some .boolean), 6, 129)
def mX13_isRest : MI := (yX13_isRest, cX13_isRest, 4, (some .boolean), 1, 22)
def mX13_judge : MI := (yX13_judge, cX13_judge, 1, (some .int), 4, 94)
def mX13_knownOne : MI := (yX13_knownOne, cX13_knownOne, 3, (some .int), 7, 149)
def mX13_led : MI := (yX13_led, cX13_led, 4, (some .int), 4, 94)
def mX13_likes : MI := (yX13_likes, cX13_likes, 5, (some .int), 6, 143)
def mX13_lineBegins : MI := (yX13_lineBegins, cX13_lineBegins, 3, none, 2, 43)
def mX13_mean : MI := (yX13_mean, cX13_mean, 8, (some .long), 4, 96)
def mX13_medium : MI := (yX13_medium, cX13_medium, 5, (some .int), 4, 96)
def mX13_mirrorBest : MI := (yX13_mirrorBest, cX13_mirrorBest, 7, (some .int), 4, 94)
def mX13_mirrorFor : MI := (yX13_mirrorFor, cX13_mirrorFor, 5, (some .int), 4, 94)
def mX13_mirrorsNow : MI := (yX13_mirrorsNow, cX13_mirrorsNow, 3, (some .int), 0, 0)
def mX13_most : MI := (yX13_most, cX13_most, 9, (some .long), 4, 96)
def mX13_move : MI := (yX13_move, cX13_move, 3, (some .int), 1, 22)
def mX13_moveFor : MI := (yX13_moveFor, cX13_moveFor, 8, (some .int), 5, 117)
def mX13_names : MI := (yX13_names, cX13_names, 5, none, 0, 0)
def mX13_needs : MI := (yX13_needs, cX13_needs, 2, none, 6, 129)
def mX13_nextOf : MI := (yX13_nextOf, cX13_nextOf, 4, (some .int), 3, 72)
def mX13_night : MI := (yX13_night, cX13_night, 1, (some .int), 5, 117)
def mX13_nightsOf : MI := (yX13_nightsOf, cX13_nightsOf, 5, (some .int), 3, 72)
def mX13_odds : MI := (yX13_odds, cX13_odds, 5, (some .long), 4, 96)
def mX13_off : MI := (yX13_off, cX13_off, 4, (some .int), 3, 72)
def mX13_outIf : MI := (yX13_outIf, cX13_outIf, 5, (some .int), 2, 50)
def mX13_perfect : MI := (yX13_perfect, cX13_perfect, 3, (some .int), 5, 117)
def mX13_person : MI := (yX13_person, cX13_person, 5, (some .int), 4, 96)
def mX13_readFresh : MI := (yX13_readFresh, cX13_readFresh, 3, (some .long), 7, 149)
def mX13_readKnown : MI := (yX13_readKnown, cX13_readKnown, 3, (some .int), 8, 171)
def mX13_wholeAt : MI := (yX13_wholeAt, cX13_wholeAt, 3, (some .int), 1, 22)
def mX13_readWhole : MI := (yX13_readWhole, cX13_readWhole, 4, (some .int), 2, 44)
def mX13_readPart : MI := (yX13_readPart, cX13_readPart, 4, (some .int), 7, 150)
def mX13_readDead : MI := (yX13_readDead, cX13_readDead, 6, none, 9, 193)
def mX13_readHeard : MI := (yX13_readHeard, cX13_readHeard, 4, none, 9, 193)
def mX13_readMirror : MI := (yX13_readMirror, cX13_readMirror, 3, none, 8, 171)
def mX13_readPerson : MI := (yX13_readPerson, cX13_readPerson, 4, none, 8, 171)
def mX13_readTown : MI := (yX13_readTown, cX13_readTown, 3, none, 8, 173)
def mX13_readUnsure : MI := (yX13_readUnsure, cX13_readUnsure, 3, none, 8, 171)
def mX13_readLine : MI := (yX13_readLine, cX13_readLine, 1, none, 10, 218)
def mX13_readAll : MI := (yX13_readAll, cX13_readAll, 2, none, 11, 238)
def mX13_rest : MI := (yX13_rest, cX13_rest, 4, (some .int), 2, 45)
def mX13_restless : MI := (yX13_restless, cX13_restless, 6, (some .int), 6, 143)
def mX13_rests : MI := (yX13_rests, cX13_rests, 5, (some .int), 2, 45)
def mX13_right : MI := (yX13_right, cX13_right, 3, (some .int), 5, 117)
def mX13_rightFrom : MI := (yX13_rightFrom, cX13_rightFrom, 5, (some .int), 4, 94)
def mX13_rights : MI := (yX13_rights, cX13_rights, 6, (some .int), 3, 73)
def mX13_ringOf : MI := (yX13_ringOf, cX13_ringOf, 5, (some .int), 4, 95)
def mX13_ring : MI := (yX13_ring, cX13_ring, 4, (some .int), 5, 119)
def mX13_ringAt : MI := (yX13_ringAt, cX13_ringAt, 7, (some .int), 5, 119)
def mX13_round : MI := (yX13_round, cX13_round, 3, (some .int), 3, 73)
def mX13_seats : MI := (yX13_seats, cX13_seats, 8, none, 1, 21)
def mX13_seating : MI := (yX13_seating, cX13_seating, 6, none, 5, 117)
def mX13_seat : MI := (yX13_seat, cX13_seat, 3, (some .int), 6, 142)
def mX13_seatAt : MI := (yX13_seatAt, cX13_seatAt, 4, (some .int), 6, 142)
def mX13_silent : MI := (yX13_silent, cX13_silent, 5, (some .int), 4, 96)
def mX13_size : MI := (yX13_size, cX13_size, 2, (some .int), 1, 22)
def mX13_slipFor : MI := (yX13_slipFor, cX13_slipFor, 5, (some .int), 4, 94)
def mX13_steps : MI := (yX13_steps, cX13_steps, 3, (some .int), 2, 45)
def mX13_surely : MI := (yX13_surely, cX13_surely, 1, (some .int), 5, 118)
def mX13_take : MI := (yX13_take, cX13_take, 2, (some .boolean), 3, 64)
def mX13_teach : MI := (yX13_teach, cX13_teach, 3, (some .boolean), 2, 42)
def mX13_thrown : MI := (yX13_thrown, cX13_thrown, 1, (some .int), 0, 0)
def mX13_together : MI := (yX13_together, cX13_together, 4, (some .int), 3, 72)
def mX13_town : MI := (yX13_town, cX13_town, 3, (some .int), 12, 259)
def mX13_trouble : MI := (yX13_trouble, cX13_trouble, 1, (some .int), 0, 0)
def mX13_undo : MI := (yX13_undo, cX13_undo, 2, (some .boolean), 2, 42)
def mX13_where : MI := (yX13_where, cX13_where, 1, (some .int), 0, 0)
def LW0 : List (Nat × Cond) := [(0, Cond.selects RX11 yX11_putNumber yX11_putNumber), (0, Cond.selects RX11 yX11_refused yX11_refused), (0, Cond.selects RX8 yX8_sortAt yX8_sortAt), (0, Cond.selects RX4 yX4_readLine yX4_readLine), (0, Cond.selects RX4 yX4_lineSort yX4_lineSort), (0, Cond.selects RX4 yX4_readTown yX4_readTown), (0, Cond.selects RX4 yX4_fail yX4_fail), (0, Cond.selects RX4 yX4_takeToken yX4_takeToken), (0, Cond.selects RX4 yX4_takeWord yX4_takeWord), (0, Cond.selects RX4 yX4_takeWhole yX4_takeWhole), (0, Cond.selects RX4 yX4_readPerson yX4_readPerson), (0, Cond.selects RX4 yX4_beginLine yX4_beginLine), (0, Cond.selects RX4 yX4_takeNewName yX4_takeNewName), (0, Cond.selects RX4 yX4_readDead yX4_readDead), (0, Cond.selects RX4 yX4_takeLaw yX4_takeLaw), (0, Cond.selects RX4 yX4_lawOfToken yX4_lawOfToken), (0, Cond.selects RX4 yX4_takeTold yX4_takeTold), (0, Cond.selects RX4 yX4_readMirror yX4_readMirror), (0, Cond.selects RX4 yX4_readUnsure yX4_readUnsure), (0, Cond.selects RX4 yX4_readHeard yX4_readHeard), (0, Cond.selects RX11 yX11_refuse yX11_refuse), (0, Cond.selects RX7 yX7_isHouse yX7_isHouse), (0, Cond.selects RX10 yX10_aimOf yX10_aimOf), (0, Cond.selects RX10 yX10_landingWith yX10_landingWith), (0, Cond.selects RX11 yX11_isNoPerson yX11_isNoPerson), (0, Cond.selects RX11 yX11_isNoDead yX11_isNoDead), (0, Cond.selects RX11 yX11_isNoHouse yX11_isNoHouse), (0, Cond.selects RX11 yX11_isNoTown yX11_isNoTown), (0, Cond.selects RX5 yX5_worthOf yX5_worthOf), (0, Cond.selects RX5 yX5_firstBestPlace yX5_firstBestPlace), (0, Cond.selects RX0 yX0_collect yX0_collect), (0, Cond.selects RX0 yX0_workOut yX0_workOut)]
theorem LW0_w : walkI LW0 lw_tbl = true := by decide +kernel
theorem LW0_g : LW0.all (fun q => goodWord q.2) = true := by decide +kernel
theorem se_X11_putNumber : Cond.selects RX11 yX11_putNumber yX11_putNumber ∈ TW := walk_tw LW0_w LW0_g (i := 0) rfl
theorem se_X11_refused : Cond.selects RX11 yX11_refused yX11_refused ∈ TW := walk_tw LW0_w LW0_g (i := 1) rfl
theorem se_X8_sortAt : Cond.selects RX8 yX8_sortAt yX8_sortAt ∈ TW := walk_tw LW0_w LW0_g (i := 2) rfl
theorem se_X4_readLine : Cond.selects RX4 yX4_readLine yX4_readLine ∈ TW := walk_tw LW0_w LW0_g (i := 3) rfl
theorem se_X4_lineSort : Cond.selects RX4 yX4_lineSort yX4_lineSort ∈ TW := walk_tw LW0_w LW0_g (i := 4) rfl
theorem se_X4_readTown : Cond.selects RX4 yX4_readTown yX4_readTown ∈ TW := walk_tw LW0_w LW0_g (i := 5) rfl
theorem se_X4_fail : Cond.selects RX4 yX4_fail yX4_fail ∈ TW := walk_tw LW0_w LW0_g (i := 6) rfl
theorem se_X4_takeToken : Cond.selects RX4 yX4_takeToken yX4_takeToken ∈ TW := walk_tw LW0_w LW0_g (i := 7) rfl
theorem se_X4_takeWord : Cond.selects RX4 yX4_takeWord yX4_takeWord ∈ TW := walk_tw LW0_w LW0_g (i := 8) rfl
theorem se_X4_takeWhole : Cond.selects RX4 yX4_takeWhole yX4_takeWhole ∈ TW := walk_tw LW0_w LW0_g (i := 9) rfl
theorem se_X4_readPerson : Cond.selects RX4 yX4_readPerson yX4_readPerson ∈ TW := walk_tw LW0_w LW0_g (i := 10) rfl
theorem se_X4_beginLine : Cond.selects RX4 yX4_beginLine yX4_beginLine ∈ TW := walk_tw LW0_w LW0_g (i := 11) rfl
theorem se_X4_takeNewName : Cond.selects RX4 yX4_takeNewName yX4_takeNewName ∈ TW := walk_tw LW0_w LW0_g (i := 12) rfl
theorem se_X4_readDead : Cond.selects RX4 yX4_readDead yX4_readDead ∈ TW := walk_tw LW0_w LW0_g (i := 13) rfl
theorem se_X4_takeLaw : Cond.selects RX4 yX4_takeLaw yX4_takeLaw ∈ TW := walk_tw LW0_w LW0_g (i := 14) rfl
theorem se_X4_lawOfToken : Cond.selects RX4 yX4_lawOfToken yX4_lawOfToken ∈ TW := walk_tw LW0_w LW0_g (i := 15) rfl
theorem se_X4_takeTold : Cond.selects RX4 yX4_takeTold yX4_takeTold ∈ TW := walk_tw LW0_w LW0_g (i := 16) rfl
theorem se_X4_readMirror : Cond.selects RX4 yX4_readMirror yX4_readMirror ∈ TW := walk_tw LW0_w LW0_g (i := 17) rfl
theorem se_X4_readUnsure : Cond.selects RX4 yX4_readUnsure yX4_readUnsure ∈ TW := walk_tw LW0_w LW0_g (i := 18) rfl
theorem se_X4_readHeard : Cond.selects RX4 yX4_readHeard yX4_readHeard ∈ TW := walk_tw LW0_w LW0_g (i := 19) rfl
theorem se_X11_refuse : Cond.selects RX11 yX11_refuse yX11_refuse ∈ TW := walk_tw LW0_w LW0_g (i := 20) rfl
theorem se_X7_isHouse : Cond.selects RX7 yX7_isHouse yX7_isHouse ∈ TW := walk_tw LW0_w LW0_g (i := 21) rfl
theorem se_X10_aimOf : Cond.selects RX10 yX10_aimOf yX10_aimOf ∈ TW := walk_tw LW0_w LW0_g (i := 22) rfl
theorem se_X10_landingWith : Cond.selects RX10 yX10_landingWith yX10_landingWith ∈ TW := walk_tw LW0_w LW0_g (i := 23) rfl
theorem se_X11_isNoPerson : Cond.selects RX11 yX11_isNoPerson yX11_isNoPerson ∈ TW := walk_tw LW0_w LW0_g (i := 24) rfl
theorem se_X11_isNoDead : Cond.selects RX11 yX11_isNoDead yX11_isNoDead ∈ TW := walk_tw LW0_w LW0_g (i := 25) rfl
theorem se_X11_isNoHouse : Cond.selects RX11 yX11_isNoHouse yX11_isNoHouse ∈ TW := walk_tw LW0_w LW0_g (i := 26) rfl
theorem se_X11_isNoTown : Cond.selects RX11 yX11_isNoTown yX11_isNoTown ∈ TW := walk_tw LW0_w LW0_g (i := 27) rfl
theorem se_X5_worthOf : Cond.selects RX5 yX5_worthOf yX5_worthOf ∈ TW := walk_tw LW0_w LW0_g (i := 28) rfl
theorem se_X5_firstBestPlace : Cond.selects RX5 yX5_firstBestPlace yX5_firstBestPlace ∈ TW := walk_tw LW0_w LW0_g (i := 29) rfl
theorem se_X0_collect : Cond.selects RX0 yX0_collect yX0_collect ∈ TW := walk_tw LW0_w LW0_g (i := 30) rfl
theorem se_X0_workOut : Cond.selects RX0 yX0_workOut yX0_workOut ∈ TW := walk_tw LW0_w LW0_g (i := 31) rfl
def LW1 : List (Nat × Cond) := [(32, Cond.selects RX0 yX0_indexOf yX0_indexOf), (0, Cond.selects RX0 yX0_fewestOn yX0_fewestOn), (0, Cond.selects RX11 yX11_ringLength yX11_ringLength), (0, Cond.selects RX11 yX11_nextInRing yX11_nextInRing), (0, Cond.selects RX2 yX2_draw yX2_draw), (0, Cond.selects RX3 yX3_forgetOldest yX3_forgetOldest), (0, Cond.selects RX11 yX11_changeMirror yX11_changeMirror), (1, Cond.selects RX13 yX13_refused yX13_refused), (0, Cond.selects RX13 yX13_goesOn yX13_goesOn), (0, Cond.selects RX13 yX13_byteAt yX13_byteAt), (0, Cond.selects RX13 yX13_readAll yX13_readAll), (0, Cond.selects RX13 yX13_readLine yX13_readLine), (0, Cond.selects RX13 yX13_isWord yX13_isWord), (0, Cond.selects RX13 yX13_readTown yX13_readTown), (0, Cond.selects RX13 yX13_flaw yX13_flaw), (0, Cond.selects RX13 yX13_readPart yX13_readPart), (0, Cond.selects RX13 yX13_needs yX13_needs), (0, Cond.selects RX13 yX13_readWhole yX13_readWhole), (0, Cond.selects RX13 yX13_wholeAt yX13_wholeAt), (0, Cond.selects RX13 yX13_readPerson yX13_readPerson), (0, Cond.selects RX13 yX13_lineBegins yX13_lineBegins), (0, Cond.selects RX13 yX13_readFresh yX13_readFresh), (0, Cond.selects RX13 yX13_isName yX13_isName), (0, Cond.selects RX13 yX13_names yX13_names), (0, Cond.selects RX13 yX13_readDead yX13_readDead), (0, Cond.selects RX13 yX13_readKnown yX13_readKnown), (0, Cond.selects RX13 yX13_knownOne yX13_knownOne), (0, Cond.selects RX13 yX13_readMirror yX13_readMirror), (0, Cond.selects RX13 yX13_readUnsure yX13_readUnsure), (0, Cond.selects RX13 yX13_readHeard yX13_readHeard), (0, Cond.selects RX13 yX13_eatsSemicolon yX13_eatsSemicolon), (0, Cond.selects RX13 yX13_asTold yX13_asTold)]
theorem LW1_w : walkI LW1 lw_tbl = true := by decide +kernel
theorem LW1_g : LW1.all (fun q => goodWord q.2) = true := by decide +kernel
theorem se_X0_indexOf : Cond.selects RX0 yX0_indexOf yX0_indexOf ∈ TW := walk_tw LW1_w LW1_g (i := 0) rfl
theorem se_X0_fewestOn : Cond.selects RX0 yX0_fewestOn yX0_fewestOn ∈ TW := walk_tw LW1_w LW1_g (i := 1) rfl
theorem se_X11_ringLength : Cond.selects RX11 yX11_ringLength yX11_ringLength ∈ TW := walk_tw LW1_w LW1_g (i := 2) rfl
theorem se_X11_nextInRing : Cond.selects RX11 yX11_nextInRing yX11_nextInRing ∈ TW := walk_tw LW1_w LW1_g (i := 3) rfl
theorem se_X2_draw : Cond.selects RX2 yX2_draw yX2_draw ∈ TW := walk_tw LW1_w LW1_g (i := 4) rfl
theorem se_X3_forgetOldest : Cond.selects RX3 yX3_forgetOldest yX3_forgetOldest ∈ TW := walk_tw LW1_w LW1_g (i := 5) rfl
theorem se_X11_changeMirror : Cond.selects RX11 yX11_changeMirror yX11_changeMirror ∈ TW := walk_tw LW1_w LW1_g (i := 6) rfl
theorem se_X13_refused : Cond.selects RX13 yX13_refused yX13_refused ∈ TW := walk_tw LW1_w LW1_g (i := 7) rfl
theorem se_X13_goesOn : Cond.selects RX13 yX13_goesOn yX13_goesOn ∈ TW := walk_tw LW1_w LW1_g (i := 8) rfl
theorem se_X13_byteAt : Cond.selects RX13 yX13_byteAt yX13_byteAt ∈ TW := walk_tw LW1_w LW1_g (i := 9) rfl
theorem se_X13_readAll : Cond.selects RX13 yX13_readAll yX13_readAll ∈ TW := walk_tw LW1_w LW1_g (i := 10) rfl
theorem se_X13_readLine : Cond.selects RX13 yX13_readLine yX13_readLine ∈ TW := walk_tw LW1_w LW1_g (i := 11) rfl
theorem se_X13_isWord : Cond.selects RX13 yX13_isWord yX13_isWord ∈ TW := walk_tw LW1_w LW1_g (i := 12) rfl
theorem se_X13_readTown : Cond.selects RX13 yX13_readTown yX13_readTown ∈ TW := walk_tw LW1_w LW1_g (i := 13) rfl
theorem se_X13_flaw : Cond.selects RX13 yX13_flaw yX13_flaw ∈ TW := walk_tw LW1_w LW1_g (i := 14) rfl
theorem se_X13_readPart : Cond.selects RX13 yX13_readPart yX13_readPart ∈ TW := walk_tw LW1_w LW1_g (i := 15) rfl
theorem se_X13_needs : Cond.selects RX13 yX13_needs yX13_needs ∈ TW := walk_tw LW1_w LW1_g (i := 16) rfl
theorem se_X13_readWhole : Cond.selects RX13 yX13_readWhole yX13_readWhole ∈ TW := walk_tw LW1_w LW1_g (i := 17) rfl
theorem se_X13_wholeAt : Cond.selects RX13 yX13_wholeAt yX13_wholeAt ∈ TW := walk_tw LW1_w LW1_g (i := 18) rfl
theorem se_X13_readPerson : Cond.selects RX13 yX13_readPerson yX13_readPerson ∈ TW := walk_tw LW1_w LW1_g (i := 19) rfl
theorem se_X13_lineBegins : Cond.selects RX13 yX13_lineBegins yX13_lineBegins ∈ TW := walk_tw LW1_w LW1_g (i := 20) rfl
theorem se_X13_readFresh : Cond.selects RX13 yX13_readFresh yX13_readFresh ∈ TW := walk_tw LW1_w LW1_g (i := 21) rfl
theorem se_X13_isName : Cond.selects RX13 yX13_isName yX13_isName ∈ TW := walk_tw LW1_w LW1_g (i := 22) rfl
theorem se_X13_names : Cond.selects RX13 yX13_names yX13_names ∈ TW := walk_tw LW1_w LW1_g (i := 23) rfl
theorem se_X13_readDead : Cond.selects RX13 yX13_readDead yX13_readDead ∈ TW := walk_tw LW1_w LW1_g (i := 24) rfl
theorem se_X13_readKnown : Cond.selects RX13 yX13_readKnown yX13_readKnown ∈ TW := walk_tw LW1_w LW1_g (i := 25) rfl
theorem se_X13_knownOne : Cond.selects RX13 yX13_knownOne yX13_knownOne ∈ TW := walk_tw LW1_w LW1_g (i := 26) rfl
theorem se_X13_readMirror : Cond.selects RX13 yX13_readMirror yX13_readMirror ∈ TW := walk_tw LW1_w LW1_g (i := 27) rfl
theorem se_X13_readUnsure : Cond.selects RX13 yX13_readUnsure yX13_readUnsure ∈ TW := walk_tw LW1_w LW1_g (i := 28) rfl
theorem se_X13_readHeard : Cond.selects RX13 yX13_readHeard yX13_readHeard ∈ TW := walk_tw LW1_w LW1_g (i := 29) rfl
theorem se_X13_eatsSemicolon : Cond.selects RX13 yX13_eatsSemicolon yX13_eatsSemicolon ∈ TW := walk_tw LW1_w LW1_g (i := 30) rfl
theorem se_X13_asTold : Cond.selects RX13 yX13_asTold yX13_asTold ∈ TW := walk_tw LW1_w LW1_g (i := 31) rfl
def LW2 : List (Nat × Cond) := [(65, Cond.selects RX13 yX13_good yX13_good), (0, Cond.selects RX13 yX13_isPerson yX13_isPerson), (0, Cond.selects RX13 yX13_works yX13_works), (0, Cond.selects RX13 yX13_heardOf yX13_heardOf), (0, Cond.selects RX13 yX13_whoHears yX13_whoHears), (0, Cond.selects RX13 yX13_aimOf yX13_aimOf), (0, Cond.selects RX13 yX13_outOf yX13_outOf), (0, Cond.selects RX13 yX13_around yX13_around), (0, Cond.selects RX13 yX13_heardFrom yX13_heardFrom), (0, Cond.selects RX13 yX13_whoIn yX13_whoIn), (0, Cond.selects RX13 yX13_isDead yX13_isDead), (0, Cond.selects RX13 yX13_isHouse yX13_isHouse), (0, Cond.selects RX13 yX13_refusesNight yX13_refusesNight), (0, Cond.selects RX13 yX13_rightOn yX13_rightOn), (0, Cond.selects RX13 yX13_isRight yX13_isRight), (0, Cond.selects RX13 yX13_comesRound yX13_comesRound), (0, Cond.selects RX13 yX13_seating yX13_seating), (0, Cond.selects RX13 yX13_frees yX13_frees), (0, Cond.selects RX13 yX13_seats yX13_seats), (0, Cond.selects RX13 yX13_areTwo yX13_areTwo), (0, Cond.selects RX13 yX13_isLiked yX13_isLiked), (0, Cond.selects RX13 yX13_rightFor yX13_rightFor), (0, Cond.selects RX13 yX13_brings yX13_brings), (0, Cond.selects RX13 yX13_spreads yX13_spreads), (0, Cond.selects RX13 yX13_behind yX13_behind), (0, Cond.selects RX13 yX13_apart yX13_apart), (0, Cond.selects RX13 yX13_ringOf yX13_ringOf), (0, Cond.selects RX13 yX13_nextOf yX13_nextOf), (0, Cond.selects RX13 yX13_firstDead yX13_firstDead), (0, Cond.selects RX13 yX13_fitting yX13_fitting), (0, Cond.selects RX13 yX13_wrongHeard yX13_wrongHeard), (0, Cond.selects RX13 yX13_asks yX13_asks)]
theorem LW2_w : walkI LW2 lw_tbl = true := by decide +kernel
theorem LW2_g : LW2.all (fun q => goodWord q.2) = true := by decide +kernel
theorem se_X13_good : Cond.selects RX13 yX13_good yX13_good ∈ TW := walk_tw LW2_w LW2_g (i := 0) rfl
theorem se_X13_isPerson : Cond.selects RX13 yX13_isPerson yX13_isPerson ∈ TW := walk_tw LW2_w LW2_g (i := 1) rfl
theorem se_X13_works : Cond.selects RX13 yX13_works yX13_works ∈ TW := walk_tw LW2_w LW2_g (i := 2) rfl
theorem se_X13_heardOf : Cond.selects RX13 yX13_heardOf yX13_heardOf ∈ TW := walk_tw LW2_w LW2_g (i := 3) rfl
theorem se_X13_whoHears : Cond.selects RX13 yX13_whoHears yX13_whoHears ∈ TW := walk_tw LW2_w LW2_g (i := 4) rfl
theorem se_X13_aimOf : Cond.selects RX13 yX13_aimOf yX13_aimOf ∈ TW := walk_tw LW2_w LW2_g (i := 5) rfl
theorem se_X13_outOf : Cond.selects RX13 yX13_outOf yX13_outOf ∈ TW := walk_tw LW2_w LW2_g (i := 6) rfl
theorem se_X13_around : Cond.selects RX13 yX13_around yX13_around ∈ TW := walk_tw LW2_w LW2_g (i := 7) rfl
theorem se_X13_heardFrom : Cond.selects RX13 yX13_heardFrom yX13_heardFrom ∈ TW := walk_tw LW2_w LW2_g (i := 8) rfl
theorem se_X13_whoIn : Cond.selects RX13 yX13_whoIn yX13_whoIn ∈ TW := walk_tw LW2_w LW2_g (i := 9) rfl
theorem se_X13_isDead : Cond.selects RX13 yX13_isDead yX13_isDead ∈ TW := walk_tw LW2_w LW2_g (i := 10) rfl
theorem se_X13_isHouse : Cond.selects RX13 yX13_isHouse yX13_isHouse ∈ TW := walk_tw LW2_w LW2_g (i := 11) rfl
theorem se_X13_refusesNight : Cond.selects RX13 yX13_refusesNight yX13_refusesNight ∈ TW := walk_tw LW2_w LW2_g (i := 12) rfl
theorem se_X13_rightOn : Cond.selects RX13 yX13_rightOn yX13_rightOn ∈ TW := walk_tw LW2_w LW2_g (i := 13) rfl
theorem se_X13_isRight : Cond.selects RX13 yX13_isRight yX13_isRight ∈ TW := walk_tw LW2_w LW2_g (i := 14) rfl
theorem se_X13_comesRound : Cond.selects RX13 yX13_comesRound yX13_comesRound ∈ TW := walk_tw LW2_w LW2_g (i := 15) rfl
theorem se_X13_seating : Cond.selects RX13 yX13_seating yX13_seating ∈ TW := walk_tw LW2_w LW2_g (i := 16) rfl
theorem se_X13_frees : Cond.selects RX13 yX13_frees yX13_frees ∈ TW := walk_tw LW2_w LW2_g (i := 17) rfl
theorem se_X13_seats : Cond.selects RX13 yX13_seats yX13_seats ∈ TW := walk_tw LW2_w LW2_g (i := 18) rfl
theorem se_X13_areTwo : Cond.selects RX13 yX13_areTwo yX13_areTwo ∈ TW := walk_tw LW2_w LW2_g (i := 19) rfl
theorem se_X13_isLiked : Cond.selects RX13 yX13_isLiked yX13_isLiked ∈ TW := walk_tw LW2_w LW2_g (i := 20) rfl
theorem se_X13_rightFor : Cond.selects RX13 yX13_rightFor yX13_rightFor ∈ TW := walk_tw LW2_w LW2_g (i := 21) rfl
theorem se_X13_brings : Cond.selects RX13 yX13_brings yX13_brings ∈ TW := walk_tw LW2_w LW2_g (i := 22) rfl
theorem se_X13_spreads : Cond.selects RX13 yX13_spreads yX13_spreads ∈ TW := walk_tw LW2_w LW2_g (i := 23) rfl
theorem se_X13_behind : Cond.selects RX13 yX13_behind yX13_behind ∈ TW := walk_tw LW2_w LW2_g (i := 24) rfl
theorem se_X13_apart : Cond.selects RX13 yX13_apart yX13_apart ∈ TW := walk_tw LW2_w LW2_g (i := 25) rfl
theorem se_X13_ringOf : Cond.selects RX13 yX13_ringOf yX13_ringOf ∈ TW := walk_tw LW2_w LW2_g (i := 26) rfl
theorem se_X13_nextOf : Cond.selects RX13 yX13_nextOf yX13_nextOf ∈ TW := walk_tw LW2_w LW2_g (i := 27) rfl
theorem se_X13_firstDead : Cond.selects RX13 yX13_firstDead yX13_firstDead ∈ TW := walk_tw LW2_w LW2_g (i := 28) rfl
theorem se_X13_fitting : Cond.selects RX13 yX13_fitting yX13_fitting ∈ TW := walk_tw LW2_w LW2_g (i := 29) rfl
theorem se_X13_wrongHeard : Cond.selects RX13 yX13_wrongHeard yX13_wrongHeard ∈ TW := walk_tw LW2_w LW2_g (i := 30) rfl
theorem se_X13_asks : Cond.selects RX13 yX13_asks yX13_asks ∈ TW := walk_tw LW2_w LW2_g (i := 31) rfl
def LW3 : List (Nat × Cond) := [(97, Cond.selects RX13 yX13_refusesSoot yX13_refusesSoot), (0, Cond.selects RX13 yX13_lost yX13_lost), (0, Cond.selects RX13 yX13_chance yX13_chance), (0, Cond.selects RX13 yX13_hearerBy yX13_hearerBy), (0, Cond.selects RX13 yX13_fraction yX13_fraction), (0, Cond.selects RX13 yX13_further yX13_further), (0, Cond.selects RX13 yX13_remembers yX13_remembers), (0, Cond.selects RX13 yX13_hangs yX13_hangs), (0, Cond.selects RX13 yX13_denied yX13_denied), (0, Cond.selects RX13 yX13_granted yX13_granted), (0, Cond.selects RX13 yX13_mirrorsNow yX13_mirrorsNow), (1, Cond.initialized RX11), (0, Cond.initialized RX4), (0, Cond.initialized RX9), (0, Cond.initialized RX6), (0, Cond.initialized RX8), (0, Cond.initialized RX10), (0, Cond.initialized RX7), (0, Cond.initialized RX5), (0, Cond.initialized RX0), (0, Cond.initialized RX1), (0, Cond.initialized RX2), (0, Cond.initialized RX3), (0, Cond.initialized RX13), (0, Cond.initialized RJ9), (0, Cond.initialized RJ0), (0, Cond.initialized RJ1), (0, Cond.initialized RJ3), (2, Cond.initialized RX12), (0, Cond.initialized RJ6), (9, Cond.methodLink RX11 1 objectInit), (0, Cond.instanceMethod objectInit)]
theorem LW3_w : walkI LW3 lw_tbl = true := by decide +kernel
theorem LW3_g : LW3.all (fun q => goodWord q.2) = true := by decide +kernel
theorem se_X13_refusesSoot : Cond.selects RX13 yX13_refusesSoot yX13_refusesSoot ∈ TW := walk_tw LW3_w LW3_g (i := 0) rfl
theorem se_X13_lost : Cond.selects RX13 yX13_lost yX13_lost ∈ TW := walk_tw LW3_w LW3_g (i := 1) rfl
theorem se_X13_chance : Cond.selects RX13 yX13_chance yX13_chance ∈ TW := walk_tw LW3_w LW3_g (i := 2) rfl
theorem se_X13_hearerBy : Cond.selects RX13 yX13_hearerBy yX13_hearerBy ∈ TW := walk_tw LW3_w LW3_g (i := 3) rfl
theorem se_X13_fraction : Cond.selects RX13 yX13_fraction yX13_fraction ∈ TW := walk_tw LW3_w LW3_g (i := 4) rfl
theorem se_X13_further : Cond.selects RX13 yX13_further yX13_further ∈ TW := walk_tw LW3_w LW3_g (i := 5) rfl
theorem se_X13_remembers : Cond.selects RX13 yX13_remembers yX13_remembers ∈ TW := walk_tw LW3_w LW3_g (i := 6) rfl
theorem se_X13_hangs : Cond.selects RX13 yX13_hangs yX13_hangs ∈ TW := walk_tw LW3_w LW3_g (i := 7) rfl
theorem se_X13_denied : Cond.selects RX13 yX13_denied yX13_denied ∈ TW := walk_tw LW3_w LW3_g (i := 8) rfl
theorem se_X13_granted : Cond.selects RX13 yX13_granted yX13_granted ∈ TW := walk_tw LW3_w LW3_g (i := 9) rfl
theorem se_X13_mirrorsNow : Cond.selects RX13 yX13_mirrorsNow yX13_mirrorsNow ∈ TW := walk_tw LW3_w LW3_g (i := 10) rfl
theorem iz_X11 : Cond.initialized RX11 ∈ TW := walk_tw LW3_w LW3_g (i := 11) rfl
theorem iz_X4 : Cond.initialized RX4 ∈ TW := walk_tw LW3_w LW3_g (i := 12) rfl
theorem iz_X9 : Cond.initialized RX9 ∈ TW := walk_tw LW3_w LW3_g (i := 13) rfl
theorem iz_X6 : Cond.initialized RX6 ∈ TW := walk_tw LW3_w LW3_g (i := 14) rfl
theorem iz_X8 : Cond.initialized RX8 ∈ TW := walk_tw LW3_w LW3_g (i := 15) rfl
theorem iz_X10 : Cond.initialized RX10 ∈ TW := walk_tw LW3_w LW3_g (i := 16) rfl
theorem iz_X7 : Cond.initialized RX7 ∈ TW := walk_tw LW3_w LW3_g (i := 17) rfl
theorem iz_X5 : Cond.initialized RX5 ∈ TW := walk_tw LW3_w LW3_g (i := 18) rfl
theorem iz_X0 : Cond.initialized RX0 ∈ TW := walk_tw LW3_w LW3_g (i := 19) rfl
theorem iz_X1 : Cond.initialized RX1 ∈ TW := walk_tw LW3_w LW3_g (i := 20) rfl
theorem iz_X2 : Cond.initialized RX2 ∈ TW := walk_tw LW3_w LW3_g (i := 21) rfl
theorem iz_X3 : Cond.initialized RX3 ∈ TW := walk_tw LW3_w LW3_g (i := 22) rfl
theorem iz_X13 : Cond.initialized RX13 ∈ TW := walk_tw LW3_w LW3_g (i := 23) rfl
theorem iz_J9 : Cond.initialized RJ9 ∈ TW := walk_tw LW3_w LW3_g (i := 24) rfl
theorem iz_J0 : Cond.initialized RJ0 ∈ TW := walk_tw LW3_w LW3_g (i := 25) rfl
theorem iz_J1 : Cond.initialized RJ1 ∈ TW := walk_tw LW3_w LW3_g (i := 26) rfl
theorem iz_J3 : Cond.initialized RJ3 ∈ TW := walk_tw LW3_w LW3_g (i := 27) rfl
theorem iz_X12 : Cond.initialized RX12 ∈ TW := walk_tw LW3_w LW3_g (i := 28) rfl
theorem iz_J6 : Cond.initialized RJ6 ∈ TW := walk_tw LW3_w LW3_g (i := 29) rfl
theorem ml_X11_1 : Cond.methodLink RX11 1 objectInit ∈ TW := walk_tw LW3_w LW3_g (i := 30) rfl
theorem oi_inst : Cond.instanceMethod objectInit ∈ TW := walk_tw LW3_w LW3_g (i := 31) rfl
def LW4 : List (Nat × Cond) := [(141, Cond.code objectInit ⟨#[0xb1]⟩ 1 none), (0, Cond.classLink RX11 17 RX4), (0, Cond.instantiable RX4 7), (1, Cond.instanceMethod yX4_init), (0, Cond.code yX4_init cX4_init 1 none), (0, Cond.methodLink RX4 3 objectInit), (0, Cond.classLink RX4 9 RX9), (0, Cond.instantiable RX9 14), (1, Cond.instanceMethod yX9_init), (0, Cond.code yX9_init cX9_init 1 none), (0, Cond.methodLink RX9 3 objectInit), (0, Cond.classLink RX9 9 RX6), (0, Cond.instantiable RX6 4), (1, Cond.instanceMethod yX6_init), (0, Cond.code yX6_init cX6_init 1 none), (0, Cond.methodLink RX6 3 objectInit), (0, flw RX6 21 6 0), (0, flw RX3 32 6 0), (0, flw RX11 153 6 0), (0, flw RX6 9 6 1), (0, flw RX10 39 6 1), (0, flw RX5 38 6 1), (0, flw RX0 70 6 1), (0, flw RX11 146 6 1), (0, flw RX4 124 6 1), (0, flw RX9 80 6 1), (0, flw RX6 15 6 2), (0, flw RX1 48 6 2), (0, flw RX3 44 6 2), (0, flw RX10 61 6 2), (0, flw RX11 166 6 2), (0, flw RX4 150 6 2)]
theorem LW4_w : walkI LW4 lw_tbl = true := by decide +kernel
theorem LW4_g : LW4.all (fun q => goodWord q.2) = true := by decide +kernel
theorem oi_code : Cond.code objectInit ⟨#[0xb1]⟩ 1 none ∈ TW := walk_tw LW4_w LW4_g (i := 0) rfl
theorem cl_X11_17 : Cond.classLink RX11 17 RX4 ∈ TW := walk_tw LW4_w LW4_g (i := 1) rfl
theorem in_X4 : Cond.instantiable RX4 7 ∈ TW := walk_tw LW4_w LW4_g (i := 2) rfl
theorem im_X4_init : Cond.instanceMethod yX4_init ∈ TW := walk_tw LW4_w LW4_g (i := 3) rfl
theorem cd_X4_init : Cond.code yX4_init cX4_init 1 none ∈ TW := walk_tw LW4_w LW4_g (i := 4) rfl
theorem ml_X4_3 : Cond.methodLink RX4 3 objectInit ∈ TW := walk_tw LW4_w LW4_g (i := 5) rfl
theorem cl_X4_9 : Cond.classLink RX4 9 RX9 ∈ TW := walk_tw LW4_w LW4_g (i := 6) rfl
theorem in_X9 : Cond.instantiable RX9 14 ∈ TW := walk_tw LW4_w LW4_g (i := 7) rfl
theorem im_X9_init : Cond.instanceMethod yX9_init ∈ TW := walk_tw LW4_w LW4_g (i := 8) rfl
theorem cd_X9_init : Cond.code yX9_init cX9_init 1 none ∈ TW := walk_tw LW4_w LW4_g (i := 9) rfl
theorem ml_X9_3 : Cond.methodLink RX9 3 objectInit ∈ TW := walk_tw LW4_w LW4_g (i := 10) rfl
theorem cl_X9_9 : Cond.classLink RX9 9 RX6 ∈ TW := walk_tw LW4_w LW4_g (i := 11) rfl
theorem in_X6 : Cond.instantiable RX6 4 ∈ TW := walk_tw LW4_w LW4_g (i := 12) rfl
theorem im_X6_init : Cond.instanceMethod yX6_init ∈ TW := walk_tw LW4_w LW4_g (i := 13) rfl
theorem cd_X6_init : Cond.code yX6_init cX6_init 1 none ∈ TW := walk_tw LW4_w LW4_g (i := 14) rfl
theorem ml_X6_3 : Cond.methodLink RX6 3 objectInit ∈ TW := walk_tw LW4_w LW4_g (i := 15) rfl
theorem fl_X6_21 : flw RX6 21 6 0 ∈ TW := walk_tw LW4_w LW4_g (i := 16) rfl
theorem fl_X3_32 : flw RX3 32 6 0 ∈ TW := walk_tw LW4_w LW4_g (i := 17) rfl
theorem fl_X11_153 : flw RX11 153 6 0 ∈ TW := walk_tw LW4_w LW4_g (i := 18) rfl
theorem fl_X6_9 : flw RX6 9 6 1 ∈ TW := walk_tw LW4_w LW4_g (i := 19) rfl
theorem fl_X10_39 : flw RX10 39 6 1 ∈ TW := walk_tw LW4_w LW4_g (i := 20) rfl
theorem fl_X5_38 : flw RX5 38 6 1 ∈ TW := walk_tw LW4_w LW4_g (i := 21) rfl
theorem fl_X0_70 : flw RX0 70 6 1 ∈ TW := walk_tw LW4_w LW4_g (i := 22) rfl
theorem fl_X11_146 : flw RX11 146 6 1 ∈ TW := walk_tw LW4_w LW4_g (i := 23) rfl
theorem fl_X4_124 : flw RX4 124 6 1 ∈ TW := walk_tw LW4_w LW4_g (i := 24) rfl
theorem fl_X9_80 : flw RX9 80 6 1 ∈ TW := walk_tw LW4_w LW4_g (i := 25) rfl
theorem fl_X6_15 : flw RX6 15 6 2 ∈ TW := walk_tw LW4_w LW4_g (i := 26) rfl
theorem fl_X1_48 : flw RX1 48 6 2 ∈ TW := walk_tw LW4_w LW4_g (i := 27) rfl
theorem fl_X3_44 : flw RX3 44 6 2 ∈ TW := walk_tw LW4_w LW4_g (i := 28) rfl
theorem fl_X10_61 : flw RX10 61 6 2 ∈ TW := walk_tw LW4_w LW4_g (i := 29) rfl
theorem fl_X11_166 : flw RX11 166 6 2 ∈ TW := walk_tw LW4_w LW4_g (i := 30) rfl
theorem fl_X4_150 : flw RX4 150 6 2 ∈ TW := walk_tw LW4_w LW4_g (i := 31) rfl
def LW5 : List (Nat × Cond) := [(176, flw RX6 18 6 3), (0, flw RX3 41 6 3), (0, flw RX10 64 6 3), (0, flw RX11 172 6 3), (0, flw RX4 152 6 3), (9, Cond.arrayClass .byte), (0, Cond.arrayClass .int), (0, flw RX9 40 9 0), (0, flw RX10 33 9 0), (0, flw RX4 88 9 0), (0, flw RX11 228 9 0), (0, flw RX2 21 9 1), (0, flw RX9 44 9 1), (0, flw RX4 102 9 1), (0, flw RX11 367 9 1), (0, flw RX5 24 9 2), (0, flw RX9 47 9 2), (0, flw RX10 43 9 2), (0, flw RX4 56 9 2), (0, flw RX11 133 9 2), (0, flw RX0 54 9 2), (0, flw RX9 50 9 3), (0, flw RX5 31 9 3), (0, flw RX2 34 9 3), (0, flw RX0 42 9 3), (0, flw RX4 130 9 3), (0, flw RX10 91 9 3), (0, flw RX11 225 9 3), (0, flw RX1 22 9 4), (0, flw RX9 53 9 4), (0, flw RX4 155 9 4), (0, flw RX11 287 9 4)]
theorem LW5_w : walkI LW5 lw_tbl = true := by decide +kernel
theorem LW5_g : LW5.all (fun q => goodWord q.2) = true := by decide +kernel
theorem fl_X6_18 : flw RX6 18 6 3 ∈ TW := walk_tw LW5_w LW5_g (i := 0) rfl
theorem fl_X3_41 : flw RX3 41 6 3 ∈ TW := walk_tw LW5_w LW5_g (i := 1) rfl
theorem fl_X10_64 : flw RX10 64 6 3 ∈ TW := walk_tw LW5_w LW5_g (i := 2) rfl
theorem fl_X11_172 : flw RX11 172 6 3 ∈ TW := walk_tw LW5_w LW5_g (i := 3) rfl
theorem fl_X4_152 : flw RX4 152 6 3 ∈ TW := walk_tw LW5_w LW5_g (i := 4) rfl
theorem ac_byte : Cond.arrayClass .byte ∈ TW := walk_tw LW5_w LW5_g (i := 5) rfl
theorem ac_int : Cond.arrayClass .int ∈ TW := walk_tw LW5_w LW5_g (i := 6) rfl
theorem fl_X9_40 : flw RX9 40 9 0 ∈ TW := walk_tw LW5_w LW5_g (i := 7) rfl
theorem fl_X10_33 : flw RX10 33 9 0 ∈ TW := walk_tw LW5_w LW5_g (i := 8) rfl
theorem fl_X4_88 : flw RX4 88 9 0 ∈ TW := walk_tw LW5_w LW5_g (i := 9) rfl
theorem fl_X11_228 : flw RX11 228 9 0 ∈ TW := walk_tw LW5_w LW5_g (i := 10) rfl
theorem fl_X2_21 : flw RX2 21 9 1 ∈ TW := walk_tw LW5_w LW5_g (i := 11) rfl
theorem fl_X9_44 : flw RX9 44 9 1 ∈ TW := walk_tw LW5_w LW5_g (i := 12) rfl
theorem fl_X4_102 : flw RX4 102 9 1 ∈ TW := walk_tw LW5_w LW5_g (i := 13) rfl
theorem fl_X11_367 : flw RX11 367 9 1 ∈ TW := walk_tw LW5_w LW5_g (i := 14) rfl
theorem fl_X5_24 : flw RX5 24 9 2 ∈ TW := walk_tw LW5_w LW5_g (i := 15) rfl
theorem fl_X9_47 : flw RX9 47 9 2 ∈ TW := walk_tw LW5_w LW5_g (i := 16) rfl
theorem fl_X10_43 : flw RX10 43 9 2 ∈ TW := walk_tw LW5_w LW5_g (i := 17) rfl
theorem fl_X4_56 : flw RX4 56 9 2 ∈ TW := walk_tw LW5_w LW5_g (i := 18) rfl
theorem fl_X11_133 : flw RX11 133 9 2 ∈ TW := walk_tw LW5_w LW5_g (i := 19) rfl
theorem fl_X0_54 : flw RX0 54 9 2 ∈ TW := walk_tw LW5_w LW5_g (i := 20) rfl
theorem fl_X9_50 : flw RX9 50 9 3 ∈ TW := walk_tw LW5_w LW5_g (i := 21) rfl
theorem fl_X5_31 : flw RX5 31 9 3 ∈ TW := walk_tw LW5_w LW5_g (i := 22) rfl
theorem fl_X2_34 : flw RX2 34 9 3 ∈ TW := walk_tw LW5_w LW5_g (i := 23) rfl
theorem fl_X0_42 : flw RX0 42 9 3 ∈ TW := walk_tw LW5_w LW5_g (i := 24) rfl
theorem fl_X4_130 : flw RX4 130 9 3 ∈ TW := walk_tw LW5_w LW5_g (i := 25) rfl
theorem fl_X10_91 : flw RX10 91 9 3 ∈ TW := walk_tw LW5_w LW5_g (i := 26) rfl
theorem fl_X11_225 : flw RX11 225 9 3 ∈ TW := walk_tw LW5_w LW5_g (i := 27) rfl
theorem fl_X1_22 : flw RX1 22 9 4 ∈ TW := walk_tw LW5_w LW5_g (i := 28) rfl
theorem fl_X9_53 : flw RX9 53 9 4 ∈ TW := walk_tw LW5_w LW5_g (i := 29) rfl
theorem fl_X4_155 : flw RX4 155 9 4 ∈ TW := walk_tw LW5_w LW5_g (i := 30) rfl
theorem fl_X11_287 : flw RX11 287 9 4 ∈ TW := walk_tw LW5_w LW5_g (i := 31) rfl
def LW6 : List (Nat × Cond) := [(217, flw RX9 56 9 5), (0, flw RX1 59 9 5), (0, flw RX4 167 9 5), (0, flw RX11 372 9 5), (0, flw RX9 12 9 6), (0, flw RX1 35 9 6), (0, flw RX11 115 9 6), (0, flw RX4 120 9 6), (0, flw RX9 18 9 7), (0, flw RX10 50 9 7), (0, flw RX11 163 9 7), (0, flw RX4 144 9 7), (0, flw RX9 22 9 8), (0, flw RX5 47 9 8), (0, flw RX2 37 9 8), (0, flw RX0 51 9 8), (0, flw RX10 71 9 8), (0, flw RX11 169 9 8), (0, flw RX4 147 9 8), (0, flw RX9 25 9 9), (0, flw RX1 53 9 9), (0, flw RX4 161 9 9), (0, flw RX9 28 9 10), (0, flw RX1 56 9 10), (0, flw RX4 164 9 10), (0, flw RX9 31 9 11), (0, flw RX1 72 9 11), (0, flw RX4 176 9 11), (0, flw RX9 34 9 12), (0, flw RX1 62 9 12), (0, flw RX4 179 9 12), (0, flw RX9 37 9 13)]
theorem LW6_w : walkI LW6 lw_tbl = true := by decide +kernel
theorem LW6_g : LW6.all (fun q => goodWord q.2) = true := by decide +kernel
theorem fl_X9_56 : flw RX9 56 9 5 ∈ TW := walk_tw LW6_w LW6_g (i := 0) rfl
theorem fl_X1_59 : flw RX1 59 9 5 ∈ TW := walk_tw LW6_w LW6_g (i := 1) rfl
theorem fl_X4_167 : flw RX4 167 9 5 ∈ TW := walk_tw LW6_w LW6_g (i := 2) rfl
theorem fl_X11_372 : flw RX11 372 9 5 ∈ TW := walk_tw LW6_w LW6_g (i := 3) rfl
theorem fl_X9_12 : flw RX9 12 9 6 ∈ TW := walk_tw LW6_w LW6_g (i := 4) rfl
theorem fl_X1_35 : flw RX1 35 9 6 ∈ TW := walk_tw LW6_w LW6_g (i := 5) rfl
theorem fl_X11_115 : flw RX11 115 9 6 ∈ TW := walk_tw LW6_w LW6_g (i := 6) rfl
theorem fl_X4_120 : flw RX4 120 9 6 ∈ TW := walk_tw LW6_w LW6_g (i := 7) rfl
theorem fl_X9_18 : flw RX9 18 9 7 ∈ TW := walk_tw LW6_w LW6_g (i := 8) rfl
theorem fl_X10_50 : flw RX10 50 9 7 ∈ TW := walk_tw LW6_w LW6_g (i := 9) rfl
theorem fl_X11_163 : flw RX11 163 9 7 ∈ TW := walk_tw LW6_w LW6_g (i := 10) rfl
theorem fl_X4_144 : flw RX4 144 9 7 ∈ TW := walk_tw LW6_w LW6_g (i := 11) rfl
theorem fl_X9_22 : flw RX9 22 9 8 ∈ TW := walk_tw LW6_w LW6_g (i := 12) rfl
theorem fl_X5_47 : flw RX5 47 9 8 ∈ TW := walk_tw LW6_w LW6_g (i := 13) rfl
theorem fl_X2_37 : flw RX2 37 9 8 ∈ TW := walk_tw LW6_w LW6_g (i := 14) rfl
theorem fl_X0_51 : flw RX0 51 9 8 ∈ TW := walk_tw LW6_w LW6_g (i := 15) rfl
theorem fl_X10_71 : flw RX10 71 9 8 ∈ TW := walk_tw LW6_w LW6_g (i := 16) rfl
theorem fl_X11_169 : flw RX11 169 9 8 ∈ TW := walk_tw LW6_w LW6_g (i := 17) rfl
theorem fl_X4_147 : flw RX4 147 9 8 ∈ TW := walk_tw LW6_w LW6_g (i := 18) rfl
theorem fl_X9_25 : flw RX9 25 9 9 ∈ TW := walk_tw LW6_w LW6_g (i := 19) rfl
theorem fl_X1_53 : flw RX1 53 9 9 ∈ TW := walk_tw LW6_w LW6_g (i := 20) rfl
theorem fl_X4_161 : flw RX4 161 9 9 ∈ TW := walk_tw LW6_w LW6_g (i := 21) rfl
theorem fl_X9_28 : flw RX9 28 9 10 ∈ TW := walk_tw LW6_w LW6_g (i := 22) rfl
theorem fl_X1_56 : flw RX1 56 9 10 ∈ TW := walk_tw LW6_w LW6_g (i := 23) rfl
theorem fl_X4_164 : flw RX4 164 9 10 ∈ TW := walk_tw LW6_w LW6_g (i := 24) rfl
theorem fl_X9_31 : flw RX9 31 9 11 ∈ TW := walk_tw LW6_w LW6_g (i := 25) rfl
theorem fl_X1_72 : flw RX1 72 9 11 ∈ TW := walk_tw LW6_w LW6_g (i := 26) rfl
theorem fl_X4_176 : flw RX4 176 9 11 ∈ TW := walk_tw LW6_w LW6_g (i := 27) rfl
theorem fl_X9_34 : flw RX9 34 9 12 ∈ TW := walk_tw LW6_w LW6_g (i := 28) rfl
theorem fl_X1_62 : flw RX1 62 9 12 ∈ TW := walk_tw LW6_w LW6_g (i := 29) rfl
theorem fl_X4_179 : flw RX4 179 9 12 ∈ TW := walk_tw LW6_w LW6_g (i := 30) rfl
theorem fl_X9_37 : flw RX9 37 9 13 ∈ TW := walk_tw LW6_w LW6_g (i := 31) rfl
def LW7 : List (Nat × Cond) := [(249, flw RX1 65 9 13), (0, flw RX4 182 9 13), (29, Cond.classLink RX4 22 RX8), (0, Cond.instantiable RX8 6), (1, Cond.instanceMethod yX8_init), (0, Cond.code yX8_init cX8_init 1 none), (0, Cond.methodLink RX8 1 objectInit), (0, flw RX4 49 8 0), (0, flw RX8 36 8 0), (0, flw RX4 59 8 1), (0, flw RX8 33 8 1), (0, flw RX8 39 8 2), (0, flw RX4 192 8 2), (0, flw RX8 7 8 3), (0, flw RX8 19 8 4), (0, flw RX8 23 8 5), (13, flw RX4 12 4 0), (0, flw RX11 109 4 0), (0, flw RX4 36 4 1), (0, flw RX11 100 4 1), (0, flw RX4 18 4 2), (0, flw RX11 104 4 2), (0, flw RX4 25 4 3), (0, flw RX4 29 4 4), (0, flw RX4 33 4 5), (0, flw RX4 117 4 6), (15, Cond.arrayClass .long), (0, Cond.classLink RX11 24 RX9), (1, Cond.classLink RX11 31 RX10), (0, Cond.instantiable RX10 3), (0, Cond.methodLink RX11 33 yX10_init), (0, Cond.instanceMethod yX10_init)]
theorem LW7_w : walkI LW7 lw_tbl = true := by decide +kernel
theorem LW7_g : LW7.all (fun q => goodWord q.2) = true := by decide +kernel
theorem fl_X1_65 : flw RX1 65 9 13 ∈ TW := walk_tw LW7_w LW7_g (i := 0) rfl
theorem fl_X4_182 : flw RX4 182 9 13 ∈ TW := walk_tw LW7_w LW7_g (i := 1) rfl
theorem cl_X4_22 : Cond.classLink RX4 22 RX8 ∈ TW := walk_tw LW7_w LW7_g (i := 2) rfl
theorem in_X8 : Cond.instantiable RX8 6 ∈ TW := walk_tw LW7_w LW7_g (i := 3) rfl
theorem im_X8_init : Cond.instanceMethod yX8_init ∈ TW := walk_tw LW7_w LW7_g (i := 4) rfl
theorem cd_X8_init : Cond.code yX8_init cX8_init 1 none ∈ TW := walk_tw LW7_w LW7_g (i := 5) rfl
theorem ml_X8_1 : Cond.methodLink RX8 1 objectInit ∈ TW := walk_tw LW7_w LW7_g (i := 6) rfl
theorem fl_X4_49 : flw RX4 49 8 0 ∈ TW := walk_tw LW7_w LW7_g (i := 7) rfl
theorem fl_X8_36 : flw RX8 36 8 0 ∈ TW := walk_tw LW7_w LW7_g (i := 8) rfl
theorem fl_X4_59 : flw RX4 59 8 1 ∈ TW := walk_tw LW7_w LW7_g (i := 9) rfl
theorem fl_X8_33 : flw RX8 33 8 1 ∈ TW := walk_tw LW7_w LW7_g (i := 10) rfl
theorem fl_X8_39 : flw RX8 39 8 2 ∈ TW := walk_tw LW7_w LW7_g (i := 11) rfl
theorem fl_X4_192 : flw RX4 192 8 2 ∈ TW := walk_tw LW7_w LW7_g (i := 12) rfl
theorem fl_X8_7 : flw RX8 7 8 3 ∈ TW := walk_tw LW7_w LW7_g (i := 13) rfl
theorem fl_X8_19 : flw RX8 19 8 4 ∈ TW := walk_tw LW7_w LW7_g (i := 14) rfl
theorem fl_X8_23 : flw RX8 23 8 5 ∈ TW := walk_tw LW7_w LW7_g (i := 15) rfl
theorem fl_X4_12 : flw RX4 12 4 0 ∈ TW := walk_tw LW7_w LW7_g (i := 16) rfl
theorem fl_X11_109 : flw RX11 109 4 0 ∈ TW := walk_tw LW7_w LW7_g (i := 17) rfl
theorem fl_X4_36 : flw RX4 36 4 1 ∈ TW := walk_tw LW7_w LW7_g (i := 18) rfl
theorem fl_X11_100 : flw RX11 100 4 1 ∈ TW := walk_tw LW7_w LW7_g (i := 19) rfl
theorem fl_X4_18 : flw RX4 18 4 2 ∈ TW := walk_tw LW7_w LW7_g (i := 20) rfl
theorem fl_X11_104 : flw RX11 104 4 2 ∈ TW := walk_tw LW7_w LW7_g (i := 21) rfl
theorem fl_X4_25 : flw RX4 25 4 3 ∈ TW := walk_tw LW7_w LW7_g (i := 22) rfl
theorem fl_X4_29 : flw RX4 29 4 4 ∈ TW := walk_tw LW7_w LW7_g (i := 23) rfl
theorem fl_X4_33 : flw RX4 33 4 5 ∈ TW := walk_tw LW7_w LW7_g (i := 24) rfl
theorem fl_X4_117 : flw RX4 117 4 6 ∈ TW := walk_tw LW7_w LW7_g (i := 25) rfl
theorem ac_long : Cond.arrayClass .long ∈ TW := walk_tw LW7_w LW7_g (i := 26) rfl
theorem cl_X11_24 : Cond.classLink RX11 24 RX9 ∈ TW := walk_tw LW7_w LW7_g (i := 27) rfl
theorem cl_X11_31 : Cond.classLink RX11 31 RX10 ∈ TW := walk_tw LW7_w LW7_g (i := 28) rfl
theorem in_X10 : Cond.instantiable RX10 3 ∈ TW := walk_tw LW7_w LW7_g (i := 29) rfl
theorem ml_X11_33 : Cond.methodLink RX11 33 yX10_init ∈ TW := walk_tw LW7_w LW7_g (i := 30) rfl
theorem im_X10_init : Cond.instanceMethod yX10_init ∈ TW := walk_tw LW7_w LW7_g (i := 31) rfl
def LW8 : List (Nat × Cond) := [(340, Cond.code yX10_init cX10_init 2 none), (0, Cond.methodLink RX10 3 objectInit), (0, Cond.classLink RX10 9 RX6), (1, Cond.classLink RX10 18 RX7), (0, Cond.instantiable RX7 3), (1, Cond.instanceMethod yX7_init), (0, Cond.code yX7_init cX7_init 1 none), (0, Cond.methodLink RX7 3 objectInit), (0, flw RX7 9 7 0), (0, flw RX7 15 7 1), (0, flw RX7 24 7 2), (7, flw RX10 25 10 0), (0, flw RX2 15 10 0), (0, flw RX5 18 10 0), (0, flw RX0 36 10 0), (0, flw RX10 12 10 1), (0, flw RX5 34 10 1), (0, flw RX1 45 10 1), (0, flw RX3 26 10 1), (0, flw RX0 66 10 1), (0, flw RX11 143 10 1), (0, flw RX10 21 10 2), (0, flw RX11 178 10 2), (7, Cond.classLink RX11 43 RX5), (0, Cond.instantiable RX5 3), (1, Cond.instanceMethod yX5_init), (0, Cond.code yX5_init cX5_init 1 none), (0, Cond.methodLink RX5 3 objectInit), (0, flw RX5 9 5 0), (0, flw RX5 15 5 1), (0, flw RX5 30 5 2), (7, Cond.classLink RX11 50 RX0)]
theorem LW8_w : walkI LW8 lw_tbl = true := by decide +kernel
theorem LW8_g : LW8.all (fun q => goodWord q.2) = true := by decide +kernel
theorem cd_X10_init : Cond.code yX10_init cX10_init 2 none ∈ TW := walk_tw LW8_w LW8_g (i := 0) rfl
theorem ml_X10_3 : Cond.methodLink RX10 3 objectInit ∈ TW := walk_tw LW8_w LW8_g (i := 1) rfl
theorem cl_X10_9 : Cond.classLink RX10 9 RX6 ∈ TW := walk_tw LW8_w LW8_g (i := 2) rfl
theorem cl_X10_18 : Cond.classLink RX10 18 RX7 ∈ TW := walk_tw LW8_w LW8_g (i := 3) rfl
theorem in_X7 : Cond.instantiable RX7 3 ∈ TW := walk_tw LW8_w LW8_g (i := 4) rfl
theorem im_X7_init : Cond.instanceMethod yX7_init ∈ TW := walk_tw LW8_w LW8_g (i := 5) rfl
theorem cd_X7_init : Cond.code yX7_init cX7_init 1 none ∈ TW := walk_tw LW8_w LW8_g (i := 6) rfl
theorem ml_X7_3 : Cond.methodLink RX7 3 objectInit ∈ TW := walk_tw LW8_w LW8_g (i := 7) rfl
theorem fl_X7_9 : flw RX7 9 7 0 ∈ TW := walk_tw LW8_w LW8_g (i := 8) rfl
theorem fl_X7_15 : flw RX7 15 7 1 ∈ TW := walk_tw LW8_w LW8_g (i := 9) rfl
theorem fl_X7_24 : flw RX7 24 7 2 ∈ TW := walk_tw LW8_w LW8_g (i := 10) rfl
theorem fl_X10_25 : flw RX10 25 10 0 ∈ TW := walk_tw LW8_w LW8_g (i := 11) rfl
theorem fl_X2_15 : flw RX2 15 10 0 ∈ TW := walk_tw LW8_w LW8_g (i := 12) rfl
theorem fl_X5_18 : flw RX5 18 10 0 ∈ TW := walk_tw LW8_w LW8_g (i := 13) rfl
theorem fl_X0_36 : flw RX0 36 10 0 ∈ TW := walk_tw LW8_w LW8_g (i := 14) rfl
theorem fl_X10_12 : flw RX10 12 10 1 ∈ TW := walk_tw LW8_w LW8_g (i := 15) rfl
theorem fl_X5_34 : flw RX5 34 10 1 ∈ TW := walk_tw LW8_w LW8_g (i := 16) rfl
theorem fl_X1_45 : flw RX1 45 10 1 ∈ TW := walk_tw LW8_w LW8_g (i := 17) rfl
theorem fl_X3_26 : flw RX3 26 10 1 ∈ TW := walk_tw LW8_w LW8_g (i := 18) rfl
theorem fl_X0_66 : flw RX0 66 10 1 ∈ TW := walk_tw LW8_w LW8_g (i := 19) rfl
theorem fl_X11_143 : flw RX11 143 10 1 ∈ TW := walk_tw LW8_w LW8_g (i := 20) rfl
theorem fl_X10_21 : flw RX10 21 10 2 ∈ TW := walk_tw LW8_w LW8_g (i := 21) rfl
theorem fl_X11_178 : flw RX11 178 10 2 ∈ TW := walk_tw LW8_w LW8_g (i := 22) rfl
theorem cl_X11_43 : Cond.classLink RX11 43 RX5 ∈ TW := walk_tw LW8_w LW8_g (i := 23) rfl
theorem in_X5 : Cond.instantiable RX5 3 ∈ TW := walk_tw LW8_w LW8_g (i := 24) rfl
theorem im_X5_init : Cond.instanceMethod yX5_init ∈ TW := walk_tw LW8_w LW8_g (i := 25) rfl
theorem cd_X5_init : Cond.code yX5_init cX5_init 1 none ∈ TW := walk_tw LW8_w LW8_g (i := 26) rfl
theorem ml_X5_3 : Cond.methodLink RX5 3 objectInit ∈ TW := walk_tw LW8_w LW8_g (i := 27) rfl
theorem fl_X5_9 : flw RX5 9 5 0 ∈ TW := walk_tw LW8_w LW8_g (i := 28) rfl
theorem fl_X5_15 : flw RX5 15 5 1 ∈ TW := walk_tw LW8_w LW8_g (i := 29) rfl
theorem fl_X5_30 : flw RX5 30 5 2 ∈ TW := walk_tw LW8_w LW8_g (i := 30) rfl
theorem cl_X11_50 : Cond.classLink RX11 50 RX0 ∈ TW := walk_tw LW8_w LW8_g (i := 31) rfl
def LW9 : List (Nat × Cond) := [(396, Cond.instantiable RX0 5), (0, Cond.methodLink RX11 52 yX0_init), (0, Cond.instanceMethod yX0_init), (0, Cond.code yX0_init cX0_init 4 none), (0, Cond.methodLink RX0 3 objectInit), (0, flw RX0 9 0 0), (0, flw RX0 21 0 1), (0, flw RX0 15 0 2), (0, flw RX0 18 0 3), (0, flw RX0 28 0 4), (11, Cond.classLink RX11 57 RX1), (0, Cond.instantiable RX1 3), (1, Cond.instanceMethod yX1_init), (0, Cond.code yX1_init cX1_init 1 none), (0, Cond.methodLink RX1 3 objectInit), (0, flw RX1 9 1 0), (0, flw RX11 278 1 0), (0, flw RX1 19 1 1), (0, flw RX11 277 1 1), (0, flw RX1 15 1 2), (0, flw RX11 296 1 2), (7, Cond.classLink RX11 64 RX2), (0, Cond.instantiable RX2 2), (1, Cond.instanceMethod yX2_init), (0, Cond.code yX2_init cX2_init 1 none), (0, Cond.methodLink RX2 3 objectInit), (0, flw RX2 9 2 0), (0, flw RX2 45 2 1), (0, flw RX11 337 2 1), (5, Cond.classLink RX11 71 RX3), (0, Cond.instantiable RX3 4), (1, Cond.instanceMethod yX3_init)]
theorem LW9_w : walkI LW9 lw_tbl = true := by decide +kernel
theorem LW9_g : LW9.all (fun q => goodWord q.2) = true := by decide +kernel
theorem in_X0 : Cond.instantiable RX0 5 ∈ TW := walk_tw LW9_w LW9_g (i := 0) rfl
theorem ml_X11_52 : Cond.methodLink RX11 52 yX0_init ∈ TW := walk_tw LW9_w LW9_g (i := 1) rfl
theorem im_X0_init : Cond.instanceMethod yX0_init ∈ TW := walk_tw LW9_w LW9_g (i := 2) rfl
theorem cd_X0_init : Cond.code yX0_init cX0_init 4 none ∈ TW := walk_tw LW9_w LW9_g (i := 3) rfl
theorem ml_X0_3 : Cond.methodLink RX0 3 objectInit ∈ TW := walk_tw LW9_w LW9_g (i := 4) rfl
theorem fl_X0_9 : flw RX0 9 0 0 ∈ TW := walk_tw LW9_w LW9_g (i := 5) rfl
theorem fl_X0_21 : flw RX0 21 0 1 ∈ TW := walk_tw LW9_w LW9_g (i := 6) rfl
theorem fl_X0_15 : flw RX0 15 0 2 ∈ TW := walk_tw LW9_w LW9_g (i := 7) rfl
theorem fl_X0_18 : flw RX0 18 0 3 ∈ TW := walk_tw LW9_w LW9_g (i := 8) rfl
theorem fl_X0_28 : flw RX0 28 0 4 ∈ TW := walk_tw LW9_w LW9_g (i := 9) rfl
theorem cl_X11_57 : Cond.classLink RX11 57 RX1 ∈ TW := walk_tw LW9_w LW9_g (i := 10) rfl
theorem in_X1 : Cond.instantiable RX1 3 ∈ TW := walk_tw LW9_w LW9_g (i := 11) rfl
theorem im_X1_init : Cond.instanceMethod yX1_init ∈ TW := walk_tw LW9_w LW9_g (i := 12) rfl
theorem cd_X1_init : Cond.code yX1_init cX1_init 1 none ∈ TW := walk_tw LW9_w LW9_g (i := 13) rfl
theorem ml_X1_3 : Cond.methodLink RX1 3 objectInit ∈ TW := walk_tw LW9_w LW9_g (i := 14) rfl
theorem fl_X1_9 : flw RX1 9 1 0 ∈ TW := walk_tw LW9_w LW9_g (i := 15) rfl
theorem fl_X11_278 : flw RX11 278 1 0 ∈ TW := walk_tw LW9_w LW9_g (i := 16) rfl
theorem fl_X1_19 : flw RX1 19 1 1 ∈ TW := walk_tw LW9_w LW9_g (i := 17) rfl
theorem fl_X11_277 : flw RX11 277 1 1 ∈ TW := walk_tw LW9_w LW9_g (i := 18) rfl
theorem fl_X1_15 : flw RX1 15 1 2 ∈ TW := walk_tw LW9_w LW9_g (i := 19) rfl
theorem fl_X11_296 : flw RX11 296 1 2 ∈ TW := walk_tw LW9_w LW9_g (i := 20) rfl
theorem cl_X11_64 : Cond.classLink RX11 64 RX2 ∈ TW := walk_tw LW9_w LW9_g (i := 21) rfl
theorem in_X2 : Cond.instantiable RX2 2 ∈ TW := walk_tw LW9_w LW9_g (i := 22) rfl
theorem im_X2_init : Cond.instanceMethod yX2_init ∈ TW := walk_tw LW9_w LW9_g (i := 23) rfl
theorem cd_X2_init : Cond.code yX2_init cX2_init 1 none ∈ TW := walk_tw LW9_w LW9_g (i := 24) rfl
theorem ml_X2_3 : Cond.methodLink RX2 3 objectInit ∈ TW := walk_tw LW9_w LW9_g (i := 25) rfl
theorem fl_X2_9 : flw RX2 9 2 0 ∈ TW := walk_tw LW9_w LW9_g (i := 26) rfl
theorem fl_X2_45 : flw RX2 45 2 1 ∈ TW := walk_tw LW9_w LW9_g (i := 27) rfl
theorem fl_X11_337 : flw RX11 337 2 1 ∈ TW := walk_tw LW9_w LW9_g (i := 28) rfl
theorem cl_X11_71 : Cond.classLink RX11 71 RX3 ∈ TW := walk_tw LW9_w LW9_g (i := 29) rfl
theorem in_X3 : Cond.instantiable RX3 4 ∈ TW := walk_tw LW9_w LW9_g (i := 30) rfl
theorem im_X3_init : Cond.instanceMethod yX3_init ∈ TW := walk_tw LW9_w LW9_g (i := 31) rfl
def LW10 : List (Nat × Cond) := [(454, Cond.code yX3_init cX3_init 1 none), (0, Cond.methodLink RX3 1 objectInit), (0, flw RX3 19 3 0), (0, flw RX11 127 3 0), (0, flw RX3 9 3 1), (0, flw RX3 13 3 2), (0, flw RX3 16 3 3), (9, Cond.classLink RX11 78 RX6), (2, flw RX11 9 11 0), (0, flw RX11 85 11 1), (0, flw RX11 136 11 2), (0, flw RX11 103 11 3), (0, flw RX11 13 11 4), (0, flw RX11 20 11 5), (0, flw RX11 27 11 6), (0, flw RX11 36 11 7), (0, flw RX11 40 11 8), (0, flw RX11 46 11 9), (0, flw RX11 53 11 10), (0, flw RX11 60 11 11), (0, flw RX11 67 11 12), (0, flw RX11 74 11 13), (0, flw RX11 80 11 14), (0, flw RX11 130 11 15), (37, Cond.methodLink RX11 88 yX11_putNumber), (1, Cond.instanceMethod yX11_putNumber), (0, Cond.code yX11_putNumber cX11_putNumber 3 none), (4, Cond.methodLink RX11 92 yX11_refused), (1, Cond.instanceMethod yX11_refused), (0, Cond.code yX11_refused cX11_refused 3 (some .boolean)), (0, Cond.methodLink RX11 96 yX4_read), (0, Cond.instanceMethod yX4_read)]
theorem LW10_w : walkI LW10 lw_tbl = true := by decide +kernel
theorem LW10_g : LW10.all (fun q => goodWord q.2) = true := by decide +kernel
theorem cd_X3_init : Cond.code yX3_init cX3_init 1 none ∈ TW := walk_tw LW10_w LW10_g (i := 0) rfl
theorem ml_X3_1 : Cond.methodLink RX3 1 objectInit ∈ TW := walk_tw LW10_w LW10_g (i := 1) rfl
theorem fl_X3_19 : flw RX3 19 3 0 ∈ TW := walk_tw LW10_w LW10_g (i := 2) rfl
theorem fl_X11_127 : flw RX11 127 3 0 ∈ TW := walk_tw LW10_w LW10_g (i := 3) rfl
theorem fl_X3_9 : flw RX3 9 3 1 ∈ TW := walk_tw LW10_w LW10_g (i := 4) rfl
theorem fl_X3_13 : flw RX3 13 3 2 ∈ TW := walk_tw LW10_w LW10_g (i := 5) rfl
theorem fl_X3_16 : flw RX3 16 3 3 ∈ TW := walk_tw LW10_w LW10_g (i := 6) rfl
theorem cl_X11_78 : Cond.classLink RX11 78 RX6 ∈ TW := walk_tw LW10_w LW10_g (i := 7) rfl
theorem fl_X11_9 : flw RX11 9 11 0 ∈ TW := walk_tw LW10_w LW10_g (i := 8) rfl
theorem fl_X11_85 : flw RX11 85 11 1 ∈ TW := walk_tw LW10_w LW10_g (i := 9) rfl
theorem fl_X11_136 : flw RX11 136 11 2 ∈ TW := walk_tw LW10_w LW10_g (i := 10) rfl
theorem fl_X11_103 : flw RX11 103 11 3 ∈ TW := walk_tw LW10_w LW10_g (i := 11) rfl
theorem fl_X11_13 : flw RX11 13 11 4 ∈ TW := walk_tw LW10_w LW10_g (i := 12) rfl
theorem fl_X11_20 : flw RX11 20 11 5 ∈ TW := walk_tw LW10_w LW10_g (i := 13) rfl
theorem fl_X11_27 : flw RX11 27 11 6 ∈ TW := walk_tw LW10_w LW10_g (i := 14) rfl
theorem fl_X11_36 : flw RX11 36 11 7 ∈ TW := walk_tw LW10_w LW10_g (i := 15) rfl
theorem fl_X11_40 : flw RX11 40 11 8 ∈ TW := walk_tw LW10_w LW10_g (i := 16) rfl
theorem fl_X11_46 : flw RX11 46 11 9 ∈ TW := walk_tw LW10_w LW10_g (i := 17) rfl
theorem fl_X11_53 : flw RX11 53 11 10 ∈ TW := walk_tw LW10_w LW10_g (i := 18) rfl
theorem fl_X11_60 : flw RX11 60 11 11 ∈ TW := walk_tw LW10_w LW10_g (i := 19) rfl
theorem fl_X11_67 : flw RX11 67 11 12 ∈ TW := walk_tw LW10_w LW10_g (i := 20) rfl
theorem fl_X11_74 : flw RX11 74 11 13 ∈ TW := walk_tw LW10_w LW10_g (i := 21) rfl
theorem fl_X11_80 : flw RX11 80 11 14 ∈ TW := walk_tw LW10_w LW10_g (i := 22) rfl
theorem fl_X11_130 : flw RX11 130 11 15 ∈ TW := walk_tw LW10_w LW10_g (i := 23) rfl
theorem ml_X11_88 : Cond.methodLink RX11 88 yX11_putNumber ∈ TW := walk_tw LW10_w LW10_g (i := 24) rfl
theorem im_X11_putNumber : Cond.instanceMethod yX11_putNumber ∈ TW := walk_tw LW10_w LW10_g (i := 25) rfl
theorem cd_X11_putNumber : Cond.code yX11_putNumber cX11_putNumber 3 none ∈ TW := walk_tw LW10_w LW10_g (i := 26) rfl
theorem ml_X11_92 : Cond.methodLink RX11 92 yX11_refused ∈ TW := walk_tw LW10_w LW10_g (i := 27) rfl
theorem im_X11_refused : Cond.instanceMethod yX11_refused ∈ TW := walk_tw LW10_w LW10_g (i := 28) rfl
theorem cd_X11_refused : Cond.code yX11_refused cX11_refused 3 (some .boolean) ∈ TW := walk_tw LW10_w LW10_g (i := 29) rfl
theorem ml_X11_96 : Cond.methodLink RX11 96 yX4_read ∈ TW := walk_tw LW10_w LW10_g (i := 30) rfl
theorem im_X4_read : Cond.instanceMethod yX4_read ∈ TW := walk_tw LW10_w LW10_g (i := 31) rfl
def LW11 : List (Nat × Cond) := [(540, Cond.selects RX4 yX4_read yX4_read), (0, Cond.code yX4_read cX4_read 4 (some .boolean)), (0, Cond.methodLink RX4 39 yX9_clear), (0, Cond.instanceMethod yX9_clear), (0, Cond.selects RX9 yX9_clear yX9_clear), (0, Cond.code yX9_clear cX9_clear 1 none), (0, Cond.methodLink RX4 42 yX8_begin), (0, Cond.instanceMethod yX8_begin), (0, Cond.selects RX8 yX8_begin yX8_begin), (0, Cond.code yX8_begin cX8_begin 3 none), (0, Cond.methodLink RX8 13 (⟨"java/lang/Math", "min", "(II)I"⟩ : MethodName)), (0, Cond.static (⟨"java/lang/Math", "min", "(II)I"⟩ : MethodName)), (0, Cond.code (⟨"java/lang/Math", "min", "(II)I"⟩ : MethodName) prog_21_method_69_code 2 (some .int)), (0, Cond.methodLink RX8 26 yX8_step), (0, Cond.instanceMethod yX8_step), (0, Cond.selects RX8 yX8_step yX8_step), (0, Cond.code yX8_step cX8_step 1 none), (0, Cond.methodLink RX8 29 yX8_sortAt), (1, Cond.instanceMethod yX8_sortAt), (0, Cond.code yX8_sortAt cX8_sortAt 3 (some .int)), (0, Cond.constantLong RX8 43 27), (0, Cond.constantLong RX8 45 97), (0, Cond.constantLong RX8 47 10), (0, Cond.constantLong RX8 49 48), (0, Cond.methodLink RX4 46 yX4_readLine), (1, Cond.instanceMethod yX4_readLine), (0, Cond.code yX4_readLine cX4_readLine 1 none), (0, Cond.methodLink RX4 66 yX4_lineSort), (1, Cond.instanceMethod yX4_lineSort), (0, Cond.code yX4_lineSort cX4_lineSort 1 (some .int)), (1, Cond.methodLink RX4 188 yX8_isWord), (0, Cond.instanceMethod yX8_isWord)]
theorem LW11_w : walkI LW11 lw_tbl = true := by decide +kernel
theorem LW11_g : LW11.all (fun q => goodWord q.2) = true := by decide +kernel
theorem se_X4_read : Cond.selects RX4 yX4_read yX4_read ∈ TW := walk_tw LW11_w LW11_g (i := 0) rfl
theorem cd_X4_read : Cond.code yX4_read cX4_read 4 (some .boolean) ∈ TW := walk_tw LW11_w LW11_g (i := 1) rfl
theorem ml_X4_39 : Cond.methodLink RX4 39 yX9_clear ∈ TW := walk_tw LW11_w LW11_g (i := 2) rfl
theorem im_X9_clear : Cond.instanceMethod yX9_clear ∈ TW := walk_tw LW11_w LW11_g (i := 3) rfl
theorem se_X9_clear : Cond.selects RX9 yX9_clear yX9_clear ∈ TW := walk_tw LW11_w LW11_g (i := 4) rfl
theorem cd_X9_clear : Cond.code yX9_clear cX9_clear 1 none ∈ TW := walk_tw LW11_w LW11_g (i := 5) rfl
theorem ml_X4_42 : Cond.methodLink RX4 42 yX8_begin ∈ TW := walk_tw LW11_w LW11_g (i := 6) rfl
theorem im_X8_begin : Cond.instanceMethod yX8_begin ∈ TW := walk_tw LW11_w LW11_g (i := 7) rfl
theorem se_X8_begin : Cond.selects RX8 yX8_begin yX8_begin ∈ TW := walk_tw LW11_w LW11_g (i := 8) rfl
theorem cd_X8_begin : Cond.code yX8_begin cX8_begin 3 none ∈ TW := walk_tw LW11_w LW11_g (i := 9) rfl
theorem ml_X8_13 : Cond.methodLink RX8 13 (⟨"java/lang/Math", "min", "(II)I"⟩ : MethodName) ∈ TW := walk_tw LW11_w LW11_g (i := 10) rfl
theorem sm_JM_min : Cond.static (⟨"java/lang/Math", "min", "(II)I"⟩ : MethodName) ∈ TW := walk_tw LW11_w LW11_g (i := 11) rfl
theorem cd_JM_min : Cond.code (⟨"java/lang/Math", "min", "(II)I"⟩ : MethodName) prog_21_method_69_code 2 (some .int) ∈ TW := walk_tw LW11_w LW11_g (i := 12) rfl
theorem ml_X8_26 : Cond.methodLink RX8 26 yX8_step ∈ TW := walk_tw LW11_w LW11_g (i := 13) rfl
theorem im_X8_step : Cond.instanceMethod yX8_step ∈ TW := walk_tw LW11_w LW11_g (i := 14) rfl
theorem se_X8_step : Cond.selects RX8 yX8_step yX8_step ∈ TW := walk_tw LW11_w LW11_g (i := 15) rfl
theorem cd_X8_step : Cond.code yX8_step cX8_step 1 none ∈ TW := walk_tw LW11_w LW11_g (i := 16) rfl
theorem ml_X8_29 : Cond.methodLink RX8 29 yX8_sortAt ∈ TW := walk_tw LW11_w LW11_g (i := 17) rfl
theorem im_X8_sortAt : Cond.instanceMethod yX8_sortAt ∈ TW := walk_tw LW11_w LW11_g (i := 18) rfl
theorem cd_X8_sortAt : Cond.code yX8_sortAt cX8_sortAt 3 (some .int) ∈ TW := walk_tw LW11_w LW11_g (i := 19) rfl
theorem cw_X8_43 : Cond.constantLong RX8 43 27 ∈ TW := walk_tw LW11_w LW11_g (i := 20) rfl
theorem cw_X8_45 : Cond.constantLong RX8 45 97 ∈ TW := walk_tw LW11_w LW11_g (i := 21) rfl
theorem cw_X8_47 : Cond.constantLong RX8 47 10 ∈ TW := walk_tw LW11_w LW11_g (i := 22) rfl
theorem cw_X8_49 : Cond.constantLong RX8 49 48 ∈ TW := walk_tw LW11_w LW11_g (i := 23) rfl
theorem ml_X4_46 : Cond.methodLink RX4 46 yX4_readLine ∈ TW := walk_tw LW11_w LW11_g (i := 24) rfl
theorem im_X4_readLine : Cond.instanceMethod yX4_readLine ∈ TW := walk_tw LW11_w LW11_g (i := 25) rfl
theorem cd_X4_readLine : Cond.code yX4_readLine cX4_readLine 1 none ∈ TW := walk_tw LW11_w LW11_g (i := 26) rfl
theorem ml_X4_66 : Cond.methodLink RX4 66 yX4_lineSort ∈ TW := walk_tw LW11_w LW11_g (i := 27) rfl
theorem im_X4_lineSort : Cond.instanceMethod yX4_lineSort ∈ TW := walk_tw LW11_w LW11_g (i := 28) rfl
theorem cd_X4_lineSort : Cond.code yX4_lineSort cX4_lineSort 1 (some .int) ∈ TW := walk_tw LW11_w LW11_g (i := 29) rfl
theorem ml_X4_188 : Cond.methodLink RX4 188 yX8_isWord ∈ TW := walk_tw LW11_w LW11_g (i := 30) rfl
theorem im_X8_isWord : Cond.instanceMethod yX8_isWord ∈ TW := walk_tw LW11_w LW11_g (i := 31) rfl
def LW12 : List (Nat × Cond) := [(576, Cond.selects RX8 yX8_isWord yX8_isWord), (0, Cond.code yX8_isWord cX8_isWord 5 (some .boolean)), (0, Cond.methodLink RX8 51 yJ0_length_8abf5), (0, Cond.instanceMethod yJ0_length_8abf5), (0, Cond.selects RJ0 yJ0_length_8abf5 yJ0_length_8abf5), (0, Cond.code yJ0_length_8abf5 cJ0_length_8abf5 1 (some .int)), (0, Cond.methodLink RJ0 335 yJ0_coder_7d493), (0, Cond.instanceMethod yJ0_coder_7d493), (0, Cond.selects RJ0 yJ0_coder_7d493 yJ0_coder_7d493), (0, Cond.code yJ0_coder_7d493 cJ0_coder_7d493 1 (some .byte)), (0, Cond.fieldLink RJ0 38 "java/lang/String" "COMPACT_STRINGS" "Z"), (1, Cond.methodLink RX8 56 yJ0_charAt_5068e), (0, Cond.instanceMethod yJ0_charAt_5068e), (0, Cond.selects RJ0 yJ0_charAt_5068e yJ0_charAt_5068e), (0, Cond.code yJ0_charAt_5068e cJ0_charAt_5068e 2 (some .char)), (0, Cond.methodLink RJ0 492 yJ0_isLatin1_aae02), (0, Cond.instanceMethod yJ0_isLatin1_aae02), (0, Cond.selects RJ0 yJ0_isLatin1_aae02 yJ0_isLatin1_aae02), (0, Cond.code yJ0_isLatin1_aae02 cJ0_isLatin1_aae02 1 (some .boolean)), (0, Cond.methodLink RJ0 495 yJ1_charAt_3b067), (0, Cond.static yJ1_charAt_3b067), (0, Cond.code yJ1_charAt_3b067 cJ1_charAt_3b067 2 (some .char)), (0, Cond.methodLink RJ1 9 yJ0_checkIndex_df160), (0, Cond.static yJ0_checkIndex_df160), (0, Cond.code yJ0_checkIndex_df160 cJ0_checkIndex_df160 2 none), (0, Cond.fieldLink RJ0 1053 "jdk/internal/util/Preconditions" "SIOOBE_FORMATTER" "Ljava/util/function/BiFunction;"), (1, Cond.methodLink RJ0 1059 yJ3_checkIndex_8e157), (0, Cond.static yJ3_checkIndex_8e157), (0, Cond.code yJ3_checkIndex_8e157 cJ3_checkIndex_8e157 3 (some .int)), (24, Cond.methodLink RX4 70 yX4_readTown), (1, Cond.instanceMethod yX4_readTown), (0, Cond.code yX4_readTown cX4_readTown 3 none)]
theorem LW12_w : walkI LW12 lw_tbl = true := by decide +kernel
theorem LW12_g : LW12.all (fun q => goodWord q.2) = true := by decide +kernel
theorem se_X8_isWord : Cond.selects RX8 yX8_isWord yX8_isWord ∈ TW := walk_tw LW12_w LW12_g (i := 0) rfl
theorem cd_X8_isWord : Cond.code yX8_isWord cX8_isWord 5 (some .boolean) ∈ TW := walk_tw LW12_w LW12_g (i := 1) rfl
theorem ml_X8_51 : Cond.methodLink RX8 51 yJ0_length_8abf5 ∈ TW := walk_tw LW12_w LW12_g (i := 2) rfl
theorem im_J0_length_8abf5 : Cond.instanceMethod yJ0_length_8abf5 ∈ TW := walk_tw LW12_w LW12_g (i := 3) rfl
theorem se_J0_length_8abf5 : Cond.selects RJ0 yJ0_length_8abf5 yJ0_length_8abf5 ∈ TW := walk_tw LW12_w LW12_g (i := 4) rfl
theorem cd_J0_length_8abf5 : Cond.code yJ0_length_8abf5 cJ0_length_8abf5 1 (some .int) ∈ TW := walk_tw LW12_w LW12_g (i := 5) rfl
theorem ml_J0_335 : Cond.methodLink RJ0 335 yJ0_coder_7d493 ∈ TW := walk_tw LW12_w LW12_g (i := 6) rfl
theorem im_J0_coder_7d493 : Cond.instanceMethod yJ0_coder_7d493 ∈ TW := walk_tw LW12_w LW12_g (i := 7) rfl
theorem se_J0_coder_7d493 : Cond.selects RJ0 yJ0_coder_7d493 yJ0_coder_7d493 ∈ TW := walk_tw LW12_w LW12_g (i := 8) rfl
theorem cd_J0_coder_7d493 : Cond.code yJ0_coder_7d493 cJ0_coder_7d493 1 (some .byte) ∈ TW := walk_tw LW12_w LW12_g (i := 9) rfl
theorem fl_J0_38 : Cond.fieldLink RJ0 38 "java/lang/String" "COMPACT_STRINGS" "Z" ∈ TW := walk_tw LW12_w LW12_g (i := 10) rfl
theorem ml_X8_56 : Cond.methodLink RX8 56 yJ0_charAt_5068e ∈ TW := walk_tw LW12_w LW12_g (i := 11) rfl
theorem im_J0_charAt_5068e : Cond.instanceMethod yJ0_charAt_5068e ∈ TW := walk_tw LW12_w LW12_g (i := 12) rfl
theorem se_J0_charAt_5068e : Cond.selects RJ0 yJ0_charAt_5068e yJ0_charAt_5068e ∈ TW := walk_tw LW12_w LW12_g (i := 13) rfl
theorem cd_J0_charAt_5068e : Cond.code yJ0_charAt_5068e cJ0_charAt_5068e 2 (some .char) ∈ TW := walk_tw LW12_w LW12_g (i := 14) rfl
theorem ml_J0_492 : Cond.methodLink RJ0 492 yJ0_isLatin1_aae02 ∈ TW := walk_tw LW12_w LW12_g (i := 15) rfl
theorem im_J0_isLatin1_aae02 : Cond.instanceMethod yJ0_isLatin1_aae02 ∈ TW := walk_tw LW12_w LW12_g (i := 16) rfl
theorem se_J0_isLatin1_aae02 : Cond.selects RJ0 yJ0_isLatin1_aae02 yJ0_isLatin1_aae02 ∈ TW := walk_tw LW12_w LW12_g (i := 17) rfl
theorem cd_J0_isLatin1_aae02 : Cond.code yJ0_isLatin1_aae02 cJ0_isLatin1_aae02 1 (some .boolean) ∈ TW := walk_tw LW12_w LW12_g (i := 18) rfl
theorem ml_J0_495 : Cond.methodLink RJ0 495 yJ1_charAt_3b067 ∈ TW := walk_tw LW12_w LW12_g (i := 19) rfl
theorem sm_J1_charAt_3b067 : Cond.static yJ1_charAt_3b067 ∈ TW := walk_tw LW12_w LW12_g (i := 20) rfl
theorem cd_J1_charAt_3b067 : Cond.code yJ1_charAt_3b067 cJ1_charAt_3b067 2 (some .char) ∈ TW := walk_tw LW12_w LW12_g (i := 21) rfl
theorem ml_J1_9 : Cond.methodLink RJ1 9 yJ0_checkIndex_df160 ∈ TW := walk_tw LW12_w LW12_g (i := 22) rfl
theorem sm_J0_checkIndex_df160 : Cond.static yJ0_checkIndex_df160 ∈ TW := walk_tw LW12_w LW12_g (i := 23) rfl
theorem cd_J0_checkIndex_df160 : Cond.code yJ0_checkIndex_df160 cJ0_checkIndex_df160 2 none ∈ TW := walk_tw LW12_w LW12_g (i := 24) rfl
theorem fl_J0_1053 : Cond.fieldLink RJ0 1053 "jdk/internal/util/Preconditions" "SIOOBE_FORMATTER" "Ljava/util/function/BiFunction;" ∈ TW := walk_tw LW12_w LW12_g (i := 25) rfl
theorem ml_J0_1059 : Cond.methodLink RJ0 1059 yJ3_checkIndex_8e157 ∈ TW := walk_tw LW12_w LW12_g (i := 26) rfl
theorem sm_J3_checkIndex_8e157 : Cond.static yJ3_checkIndex_8e157 ∈ TW := walk_tw LW12_w LW12_g (i := 27) rfl
theorem cd_J3_checkIndex_8e157 : Cond.code yJ3_checkIndex_8e157 cJ3_checkIndex_8e157 3 (some .int) ∈ TW := walk_tw LW12_w LW12_g (i := 28) rfl
theorem ml_X4_70 : Cond.methodLink RX4 70 yX4_readTown ∈ TW := walk_tw LW12_w LW12_g (i := 29) rfl
theorem im_X4_readTown : Cond.instanceMethod yX4_readTown ∈ TW := walk_tw LW12_w LW12_g (i := 30) rfl
theorem cd_X4_readTown : Cond.code yX4_readTown cX4_readTown 3 none ∈ TW := walk_tw LW12_w LW12_g (i := 31) rfl
def LW13 : List (Nat × Cond) := [(635, Cond.methodLink RX4 62 yX4_fail), (1, Cond.instanceMethod yX4_fail), (0, Cond.code yX4_fail cX4_fail 3 none), (0, Cond.methodLink RX4 52 yX4_takeToken), (1, Cond.instanceMethod yX4_takeToken), (0, Cond.code yX4_takeToken cX4_takeToken 2 none), (0, Cond.methodLink RX4 185 yX8_step), (1, Cond.methodLink RX4 92 yX4_takeWord), (1, Cond.instanceMethod yX4_takeWord), (0, Cond.code yX4_takeWord cX4_takeWord 2 none), (0, Cond.methodLink RX4 96 yX4_takeWhole), (1, Cond.instanceMethod yX4_takeWhole), (0, Cond.code yX4_takeWhole cX4_takeWhole 4 (some .int)), (1, Cond.methodLink RX4 73 yX4_readPerson), (1, Cond.instanceMethod yX4_readPerson), (0, Cond.code yX4_readPerson cX4_readPerson 4 none), (0, Cond.methodLink RX4 104 yX4_beginLine), (1, Cond.instanceMethod yX4_beginLine), (0, Cond.code yX4_beginLine cX4_beginLine 2 none), (0, Cond.methodLink RX4 107 yX4_takeNewName), (1, Cond.instanceMethod yX4_takeNewName), (0, Cond.code yX4_takeNewName cX4_takeNewName 4 (some .long)), (0, Cond.methodLink RX4 215 yX4_find), (0, Cond.static yX4_find), (0, Cond.code yX4_find cX4_find 5 (some .int)), (1, Cond.methodLink RX4 113 yX9_isTaken), (0, Cond.instanceMethod yX9_isTaken), (0, Cond.selects RX9 yX9_isTaken yX9_isTaken), (0, Cond.code yX9_isTaken cX9_isTaken 3 (some .boolean)), (0, Cond.methodLink RX4 76 yX4_readDead), (1, Cond.instanceMethod yX4_readDead), (0, Cond.code yX4_readDead cX4_readDead 6 none)]
theorem LW13_w : walkI LW13 lw_tbl = true := by decide +kernel
theorem LW13_g : LW13.all (fun q => goodWord q.2) = true := by decide +kernel
theorem ml_X4_62 : Cond.methodLink RX4 62 yX4_fail ∈ TW := walk_tw LW13_w LW13_g (i := 0) rfl
theorem im_X4_fail : Cond.instanceMethod yX4_fail ∈ TW := walk_tw LW13_w LW13_g (i := 1) rfl
theorem cd_X4_fail : Cond.code yX4_fail cX4_fail 3 none ∈ TW := walk_tw LW13_w LW13_g (i := 2) rfl
theorem ml_X4_52 : Cond.methodLink RX4 52 yX4_takeToken ∈ TW := walk_tw LW13_w LW13_g (i := 3) rfl
theorem im_X4_takeToken : Cond.instanceMethod yX4_takeToken ∈ TW := walk_tw LW13_w LW13_g (i := 4) rfl
theorem cd_X4_takeToken : Cond.code yX4_takeToken cX4_takeToken 2 none ∈ TW := walk_tw LW13_w LW13_g (i := 5) rfl
theorem ml_X4_185 : Cond.methodLink RX4 185 yX8_step ∈ TW := walk_tw LW13_w LW13_g (i := 6) rfl
theorem ml_X4_92 : Cond.methodLink RX4 92 yX4_takeWord ∈ TW := walk_tw LW13_w LW13_g (i := 7) rfl
theorem im_X4_takeWord : Cond.instanceMethod yX4_takeWord ∈ TW := walk_tw LW13_w LW13_g (i := 8) rfl
theorem cd_X4_takeWord : Cond.code yX4_takeWord cX4_takeWord 2 none ∈ TW := walk_tw LW13_w LW13_g (i := 9) rfl
theorem ml_X4_96 : Cond.methodLink RX4 96 yX4_takeWhole ∈ TW := walk_tw LW13_w LW13_g (i := 10) rfl
theorem im_X4_takeWhole : Cond.instanceMethod yX4_takeWhole ∈ TW := walk_tw LW13_w LW13_g (i := 11) rfl
theorem cd_X4_takeWhole : Cond.code yX4_takeWhole cX4_takeWhole 4 (some .int) ∈ TW := walk_tw LW13_w LW13_g (i := 12) rfl
theorem ml_X4_73 : Cond.methodLink RX4 73 yX4_readPerson ∈ TW := walk_tw LW13_w LW13_g (i := 13) rfl
theorem im_X4_readPerson : Cond.instanceMethod yX4_readPerson ∈ TW := walk_tw LW13_w LW13_g (i := 14) rfl
theorem cd_X4_readPerson : Cond.code yX4_readPerson cX4_readPerson 4 none ∈ TW := walk_tw LW13_w LW13_g (i := 15) rfl
theorem ml_X4_104 : Cond.methodLink RX4 104 yX4_beginLine ∈ TW := walk_tw LW13_w LW13_g (i := 16) rfl
theorem im_X4_beginLine : Cond.instanceMethod yX4_beginLine ∈ TW := walk_tw LW13_w LW13_g (i := 17) rfl
theorem cd_X4_beginLine : Cond.code yX4_beginLine cX4_beginLine 2 none ∈ TW := walk_tw LW13_w LW13_g (i := 18) rfl
theorem ml_X4_107 : Cond.methodLink RX4 107 yX4_takeNewName ∈ TW := walk_tw LW13_w LW13_g (i := 19) rfl
theorem im_X4_takeNewName : Cond.instanceMethod yX4_takeNewName ∈ TW := walk_tw LW13_w LW13_g (i := 20) rfl
theorem cd_X4_takeNewName : Cond.code yX4_takeNewName cX4_takeNewName 4 (some .long) ∈ TW := walk_tw LW13_w LW13_g (i := 21) rfl
theorem ml_X4_215 : Cond.methodLink RX4 215 yX4_find ∈ TW := walk_tw LW13_w LW13_g (i := 22) rfl
theorem sm_X4_find : Cond.static yX4_find ∈ TW := walk_tw LW13_w LW13_g (i := 23) rfl
theorem cd_X4_find : Cond.code yX4_find cX4_find 5 (some .int) ∈ TW := walk_tw LW13_w LW13_g (i := 24) rfl
theorem ml_X4_113 : Cond.methodLink RX4 113 yX9_isTaken ∈ TW := walk_tw LW13_w LW13_g (i := 25) rfl
theorem im_X9_isTaken : Cond.instanceMethod yX9_isTaken ∈ TW := walk_tw LW13_w LW13_g (i := 26) rfl
theorem se_X9_isTaken : Cond.selects RX9 yX9_isTaken yX9_isTaken ∈ TW := walk_tw LW13_w LW13_g (i := 27) rfl
theorem cd_X9_isTaken : Cond.code yX9_isTaken cX9_isTaken 3 (some .boolean) ∈ TW := walk_tw LW13_w LW13_g (i := 28) rfl
theorem ml_X4_76 : Cond.methodLink RX4 76 yX4_readDead ∈ TW := walk_tw LW13_w LW13_g (i := 29) rfl
theorem im_X4_readDead : Cond.instanceMethod yX4_readDead ∈ TW := walk_tw LW13_w LW13_g (i := 30) rfl
theorem cd_X4_readDead : Cond.code yX4_readDead cX4_readDead 6 none ∈ TW := walk_tw LW13_w LW13_g (i := 31) rfl
def LW14 : List (Nat × Cond) := [(678, Cond.methodLink RX4 133 yX4_takeLaw), (1, Cond.instanceMethod yX4_takeLaw), (0, Cond.code yX4_takeLaw cX4_takeLaw 2 (some .int)), (0, Cond.methodLink RX4 196 yX4_lawOfToken), (1, Cond.instanceMethod yX4_lawOfToken), (0, Cond.code yX4_lawOfToken cX4_lawOfToken 1 (some .int)), (6, Cond.methodLink RX4 140 yX4_takeTold), (1, Cond.instanceMethod yX4_takeTold), (0, Cond.code yX4_takeTold cX4_takeTold 4 (some .int)), (0, Cond.methodLink RX4 79 yX4_readMirror), (1, Cond.instanceMethod yX4_readMirror), (0, Cond.code yX4_readMirror cX4_readMirror 3 none), (0, Cond.methodLink RX4 82 yX4_readUnsure), (1, Cond.instanceMethod yX4_readUnsure), (0, Cond.code yX4_readUnsure cX4_readUnsure 3 none), (0, Cond.methodLink RX4 158 yX9_isUnsure), (0, Cond.instanceMethod yX9_isUnsure), (0, Cond.selects RX9 yX9_isUnsure yX9_isUnsure), (0, Cond.code yX9_isUnsure cX9_isUnsure 3 (some .boolean)), (0, Cond.methodLink RX4 85 yX4_readHeard), (1, Cond.instanceMethod yX4_readHeard), (0, Cond.code yX4_readHeard cX4_readHeard 4 none), (1, Cond.methodLink RX4 172 yX9_isHeard), (0, Cond.instanceMethod yX9_isHeard), (0, Cond.selects RX9 yX9_isHeard yX9_isHeard), (0, Cond.code yX9_isHeard cX9_isHeard 4 (some .boolean)), (0, Cond.methodLink RX11 105 yX11_refuse), (1, Cond.instanceMethod yX11_refuse), (0, Cond.code yX11_refuse cX11_refuse 2 (some .int)), (0, Cond.methodLink RX11 112 yX9_copy), (0, Cond.instanceMethod yX9_copy), (0, Cond.selects RX9 yX9_copy yX9_copy)]
theorem LW14_w : walkI LW14 lw_tbl = true := by decide +kernel
theorem LW14_g : LW14.all (fun q => goodWord q.2) = true := by decide +kernel
theorem ml_X4_133 : Cond.methodLink RX4 133 yX4_takeLaw ∈ TW := walk_tw LW14_w LW14_g (i := 0) rfl
theorem im_X4_takeLaw : Cond.instanceMethod yX4_takeLaw ∈ TW := walk_tw LW14_w LW14_g (i := 1) rfl
theorem cd_X4_takeLaw : Cond.code yX4_takeLaw cX4_takeLaw 2 (some .int) ∈ TW := walk_tw LW14_w LW14_g (i := 2) rfl
theorem ml_X4_196 : Cond.methodLink RX4 196 yX4_lawOfToken ∈ TW := walk_tw LW14_w LW14_g (i := 3) rfl
theorem im_X4_lawOfToken : Cond.instanceMethod yX4_lawOfToken ∈ TW := walk_tw LW14_w LW14_g (i := 4) rfl
theorem cd_X4_lawOfToken : Cond.code yX4_lawOfToken cX4_lawOfToken 1 (some .int) ∈ TW := walk_tw LW14_w LW14_g (i := 5) rfl
theorem ml_X4_140 : Cond.methodLink RX4 140 yX4_takeTold ∈ TW := walk_tw LW14_w LW14_g (i := 6) rfl
theorem im_X4_takeTold : Cond.instanceMethod yX4_takeTold ∈ TW := walk_tw LW14_w LW14_g (i := 7) rfl
theorem cd_X4_takeTold : Cond.code yX4_takeTold cX4_takeTold 4 (some .int) ∈ TW := walk_tw LW14_w LW14_g (i := 8) rfl
theorem ml_X4_79 : Cond.methodLink RX4 79 yX4_readMirror ∈ TW := walk_tw LW14_w LW14_g (i := 9) rfl
theorem im_X4_readMirror : Cond.instanceMethod yX4_readMirror ∈ TW := walk_tw LW14_w LW14_g (i := 10) rfl
theorem cd_X4_readMirror : Cond.code yX4_readMirror cX4_readMirror 3 none ∈ TW := walk_tw LW14_w LW14_g (i := 11) rfl
theorem ml_X4_82 : Cond.methodLink RX4 82 yX4_readUnsure ∈ TW := walk_tw LW14_w LW14_g (i := 12) rfl
theorem im_X4_readUnsure : Cond.instanceMethod yX4_readUnsure ∈ TW := walk_tw LW14_w LW14_g (i := 13) rfl
theorem cd_X4_readUnsure : Cond.code yX4_readUnsure cX4_readUnsure 3 none ∈ TW := walk_tw LW14_w LW14_g (i := 14) rfl
theorem ml_X4_158 : Cond.methodLink RX4 158 yX9_isUnsure ∈ TW := walk_tw LW14_w LW14_g (i := 15) rfl
theorem im_X9_isUnsure : Cond.instanceMethod yX9_isUnsure ∈ TW := walk_tw LW14_w LW14_g (i := 16) rfl
theorem se_X9_isUnsure : Cond.selects RX9 yX9_isUnsure yX9_isUnsure ∈ TW := walk_tw LW14_w LW14_g (i := 17) rfl
theorem cd_X9_isUnsure : Cond.code yX9_isUnsure cX9_isUnsure 3 (some .boolean) ∈ TW := walk_tw LW14_w LW14_g (i := 18) rfl
theorem ml_X4_85 : Cond.methodLink RX4 85 yX4_readHeard ∈ TW := walk_tw LW14_w LW14_g (i := 19) rfl
theorem im_X4_readHeard : Cond.instanceMethod yX4_readHeard ∈ TW := walk_tw LW14_w LW14_g (i := 20) rfl
theorem cd_X4_readHeard : Cond.code yX4_readHeard cX4_readHeard 4 none ∈ TW := walk_tw LW14_w LW14_g (i := 21) rfl
theorem ml_X4_172 : Cond.methodLink RX4 172 yX9_isHeard ∈ TW := walk_tw LW14_w LW14_g (i := 22) rfl
theorem im_X9_isHeard : Cond.instanceMethod yX9_isHeard ∈ TW := walk_tw LW14_w LW14_g (i := 23) rfl
theorem se_X9_isHeard : Cond.selects RX9 yX9_isHeard yX9_isHeard ∈ TW := walk_tw LW14_w LW14_g (i := 24) rfl
theorem cd_X9_isHeard : Cond.code yX9_isHeard cX9_isHeard 4 (some .boolean) ∈ TW := walk_tw LW14_w LW14_g (i := 25) rfl
theorem ml_X11_105 : Cond.methodLink RX11 105 yX11_refuse ∈ TW := walk_tw LW14_w LW14_g (i := 26) rfl
theorem im_X11_refuse : Cond.instanceMethod yX11_refuse ∈ TW := walk_tw LW14_w LW14_g (i := 27) rfl
theorem cd_X11_refuse : Cond.code yX11_refuse cX11_refuse 2 (some .int) ∈ TW := walk_tw LW14_w LW14_g (i := 28) rfl
theorem ml_X11_112 : Cond.methodLink RX11 112 yX9_copy ∈ TW := walk_tw LW14_w LW14_g (i := 29) rfl
theorem im_X9_copy : Cond.instanceMethod yX9_copy ∈ TW := walk_tw LW14_w LW14_g (i := 30) rfl
theorem se_X9_copy : Cond.selects RX9 yX9_copy yX9_copy ∈ TW := walk_tw LW14_w LW14_g (i := 31) rfl
def LW15 : List (Nat × Cond) := [(724, Cond.code yX9_copy cX9_copy 2 none), (0, Cond.methodLink RX9 59 yX6_copy), (0, Cond.instanceMethod yX6_copy), (0, Cond.selects RX6 yX6_copy yX6_copy), (0, Cond.code yX6_copy cX6_copy 2 none), (1, Cond.static yX11_copyRow), (0, Cond.code yX11_copyRow cX11_copyRow 2 none), (0, Cond.methodLink RX11 383 (⟨"java/lang/Math", "min", "(II)I"⟩ : MethodName)), (0, Cond.methodLink RX11 388 arraycopyName), (3, Cond.methodLink RX11 119 yX10_settle), (0, Cond.instanceMethod yX10_settle), (0, Cond.selects RX10 yX10_settle yX10_settle), (0, Cond.code yX10_settle cX10_settle 2 none), (0, Cond.methodLink RX10 29 yX6_copy), (0, Cond.methodLink RX10 46 yX7_lay), (0, Cond.instanceMethod yX7_lay), (0, Cond.selects RX7 yX7_lay yX7_lay), (0, Cond.code yX7_lay cX7_lay 7 none), (0, Cond.methodLink RX7 18 (⟨"java/lang/Math", "min", "(II)I"⟩ : MethodName)), (0, Cond.methodLink RX7 28 yX7_isHouse), (1, Cond.instanceMethod yX7_isHouse), (0, Cond.code yX7_isHouse cX7_isHouse 2 (some .boolean)), (0, Cond.methodLink RX11 123 yX1_list), (0, Cond.instanceMethod yX1_list), (0, Cond.selects RX1 yX1_list yX1_list), (0, Cond.code yX1_list cX1_list 5 none), (0, Cond.methodLink RX1 27 yX1_suppose), (0, Cond.static yX1_suppose), (0, Cond.code yX1_suppose cX1_suppose 4 none), (0, Cond.methodLink RX1 39 yX10_settle), (0, Cond.methodLink RX1 31 yX1_notSoBy), (0, Cond.static yX1_notSoBy)]
theorem LW15_w : walkI LW15 lw_tbl = true := by decide +kernel
theorem LW15_g : LW15.all (fun q => goodWord q.2) = true := by decide +kernel
theorem cd_X9_copy : Cond.code yX9_copy cX9_copy 2 none ∈ TW := walk_tw LW15_w LW15_g (i := 0) rfl
theorem ml_X9_59 : Cond.methodLink RX9 59 yX6_copy ∈ TW := walk_tw LW15_w LW15_g (i := 1) rfl
theorem im_X6_copy : Cond.instanceMethod yX6_copy ∈ TW := walk_tw LW15_w LW15_g (i := 2) rfl
theorem se_X6_copy : Cond.selects RX6 yX6_copy yX6_copy ∈ TW := walk_tw LW15_w LW15_g (i := 3) rfl
theorem cd_X6_copy : Cond.code yX6_copy cX6_copy 2 none ∈ TW := walk_tw LW15_w LW15_g (i := 4) rfl
theorem sm_X11_copyRow : Cond.static yX11_copyRow ∈ TW := walk_tw LW15_w LW15_g (i := 5) rfl
theorem cd_X11_copyRow : Cond.code yX11_copyRow cX11_copyRow 2 none ∈ TW := walk_tw LW15_w LW15_g (i := 6) rfl
theorem ml_X11_383 : Cond.methodLink RX11 383 (⟨"java/lang/Math", "min", "(II)I"⟩ : MethodName) ∈ TW := walk_tw LW15_w LW15_g (i := 7) rfl
theorem ml_X11_388 : Cond.methodLink RX11 388 arraycopyName ∈ TW := walk_tw LW15_w LW15_g (i := 8) rfl
theorem ml_X11_119 : Cond.methodLink RX11 119 yX10_settle ∈ TW := walk_tw LW15_w LW15_g (i := 9) rfl
theorem im_X10_settle : Cond.instanceMethod yX10_settle ∈ TW := walk_tw LW15_w LW15_g (i := 10) rfl
theorem se_X10_settle : Cond.selects RX10 yX10_settle yX10_settle ∈ TW := walk_tw LW15_w LW15_g (i := 11) rfl
theorem cd_X10_settle : Cond.code yX10_settle cX10_settle 2 none ∈ TW := walk_tw LW15_w LW15_g (i := 12) rfl
theorem ml_X10_29 : Cond.methodLink RX10 29 yX6_copy ∈ TW := walk_tw LW15_w LW15_g (i := 13) rfl
theorem ml_X10_46 : Cond.methodLink RX10 46 yX7_lay ∈ TW := walk_tw LW15_w LW15_g (i := 14) rfl
theorem im_X7_lay : Cond.instanceMethod yX7_lay ∈ TW := walk_tw LW15_w LW15_g (i := 15) rfl
theorem se_X7_lay : Cond.selects RX7 yX7_lay yX7_lay ∈ TW := walk_tw LW15_w LW15_g (i := 16) rfl
theorem cd_X7_lay : Cond.code yX7_lay cX7_lay 7 none ∈ TW := walk_tw LW15_w LW15_g (i := 17) rfl
theorem ml_X7_18 : Cond.methodLink RX7 18 (⟨"java/lang/Math", "min", "(II)I"⟩ : MethodName) ∈ TW := walk_tw LW15_w LW15_g (i := 18) rfl
theorem ml_X7_28 : Cond.methodLink RX7 28 yX7_isHouse ∈ TW := walk_tw LW15_w LW15_g (i := 19) rfl
theorem im_X7_isHouse : Cond.instanceMethod yX7_isHouse ∈ TW := walk_tw LW15_w LW15_g (i := 20) rfl
theorem cd_X7_isHouse : Cond.code yX7_isHouse cX7_isHouse 2 (some .boolean) ∈ TW := walk_tw LW15_w LW15_g (i := 21) rfl
theorem ml_X11_123 : Cond.methodLink RX11 123 yX1_list ∈ TW := walk_tw LW15_w LW15_g (i := 22) rfl
theorem im_X1_list : Cond.instanceMethod yX1_list ∈ TW := walk_tw LW15_w LW15_g (i := 23) rfl
theorem se_X1_list : Cond.selects RX1 yX1_list yX1_list ∈ TW := walk_tw LW15_w LW15_g (i := 24) rfl
theorem cd_X1_list : Cond.code yX1_list cX1_list 5 none ∈ TW := walk_tw LW15_w LW15_g (i := 25) rfl
theorem ml_X1_27 : Cond.methodLink RX1 27 yX1_suppose ∈ TW := walk_tw LW15_w LW15_g (i := 26) rfl
theorem sm_X1_suppose : Cond.static yX1_suppose ∈ TW := walk_tw LW15_w LW15_g (i := 27) rfl
theorem cd_X1_suppose : Cond.code yX1_suppose cX1_suppose 4 none ∈ TW := walk_tw LW15_w LW15_g (i := 28) rfl
theorem ml_X1_39 : Cond.methodLink RX1 39 yX10_settle ∈ TW := walk_tw LW15_w LW15_g (i := 29) rfl
theorem ml_X1_31 : Cond.methodLink RX1 31 yX1_notSoBy ∈ TW := walk_tw LW15_w LW15_g (i := 30) rfl
theorem sm_X1_notSoBy : Cond.static yX1_notSoBy ∈ TW := walk_tw LW15_w LW15_g (i := 31) rfl
def LW16 : List (Nat × Cond) := [(761, Cond.code yX1_notSoBy cX1_notSoBy 3 (some .int)), (0, Cond.methodLink RX1 68 yX10_listener), (0, Cond.instanceMethod yX10_listener), (0, Cond.selects RX10 yX10_listener yX10_listener), (0, Cond.code yX10_listener cX10_listener 3 (some .int)), (0, Cond.methodLink RX10 74 yX10_aimOf), (1, Cond.instanceMethod yX10_aimOf), (0, Cond.code yX10_aimOf cX10_aimOf 2 (some .int)), (0, Cond.methodLink RX10 77 yX10_landingAimed), (0, Cond.instanceMethod yX10_landingAimed), (0, Cond.selects RX10 yX10_landingAimed yX10_landingAimed), (0, Cond.code yX10_landingAimed cX10_landingAimed 4 (some .int)), (0, Cond.methodLink RX10 67 yX10_landingWith), (1, Cond.instanceMethod yX10_landingWith), (0, Cond.code yX10_landingWith cX10_landingWith 7 (some .int)), (0, Cond.methodLink RX10 53 yX10_shift), (0, Cond.static yX10_shift), (0, Cond.code yX10_shift cX10_shift 3 (some .int)), (0, Cond.methodLink RX10 57 yX9_around), (0, Cond.instanceMethod yX9_around), (0, Cond.selects RX9 yX9_around yX9_around), (0, Cond.code yX9_around cX9_around 2 (some .int)), (0, Cond.methodLink RX9 67 yJ9_floorMod_7cf53), (0, Cond.static yJ9_floorMod_7cf53), (0, Cond.code yJ9_floorMod_7cf53 cJ9_floorMod_7cf53 3 (some .int)), (0, Cond.methodLink RX10 80 yX7_listenerAt), (0, Cond.instanceMethod yX7_listenerAt), (0, Cond.selects RX7 yX7_listenerAt yX7_listenerAt), (0, Cond.code yX7_listenerAt cX7_listenerAt 2 (some .int)), (12, Cond.methodLink RX11 139 yX11_isNoPerson), (1, Cond.instanceMethod yX11_isNoPerson), (0, Cond.code yX11_isNoPerson cX11_isNoPerson 2 (some .boolean))]
theorem LW16_w : walkI LW16 lw_tbl = true := by decide +kernel
theorem LW16_g : LW16.all (fun q => goodWord q.2) = true := by decide +kernel
theorem cd_X1_notSoBy : Cond.code yX1_notSoBy cX1_notSoBy 3 (some .int) ∈ TW := walk_tw LW16_w LW16_g (i := 0) rfl
theorem ml_X1_68 : Cond.methodLink RX1 68 yX10_listener ∈ TW := walk_tw LW16_w LW16_g (i := 1) rfl
theorem im_X10_listener : Cond.instanceMethod yX10_listener ∈ TW := walk_tw LW16_w LW16_g (i := 2) rfl
theorem se_X10_listener : Cond.selects RX10 yX10_listener yX10_listener ∈ TW := walk_tw LW16_w LW16_g (i := 3) rfl
theorem cd_X10_listener : Cond.code yX10_listener cX10_listener 3 (some .int) ∈ TW := walk_tw LW16_w LW16_g (i := 4) rfl
theorem ml_X10_74 : Cond.methodLink RX10 74 yX10_aimOf ∈ TW := walk_tw LW16_w LW16_g (i := 5) rfl
theorem im_X10_aimOf : Cond.instanceMethod yX10_aimOf ∈ TW := walk_tw LW16_w LW16_g (i := 6) rfl
theorem cd_X10_aimOf : Cond.code yX10_aimOf cX10_aimOf 2 (some .int) ∈ TW := walk_tw LW16_w LW16_g (i := 7) rfl
theorem ml_X10_77 : Cond.methodLink RX10 77 yX10_landingAimed ∈ TW := walk_tw LW16_w LW16_g (i := 8) rfl
theorem im_X10_landingAimed : Cond.instanceMethod yX10_landingAimed ∈ TW := walk_tw LW16_w LW16_g (i := 9) rfl
theorem se_X10_landingAimed : Cond.selects RX10 yX10_landingAimed yX10_landingAimed ∈ TW := walk_tw LW16_w LW16_g (i := 10) rfl
theorem cd_X10_landingAimed : Cond.code yX10_landingAimed cX10_landingAimed 4 (some .int) ∈ TW := walk_tw LW16_w LW16_g (i := 11) rfl
theorem ml_X10_67 : Cond.methodLink RX10 67 yX10_landingWith ∈ TW := walk_tw LW16_w LW16_g (i := 12) rfl
theorem im_X10_landingWith : Cond.instanceMethod yX10_landingWith ∈ TW := walk_tw LW16_w LW16_g (i := 13) rfl
theorem cd_X10_landingWith : Cond.code yX10_landingWith cX10_landingWith 7 (some .int) ∈ TW := walk_tw LW16_w LW16_g (i := 14) rfl
theorem ml_X10_53 : Cond.methodLink RX10 53 yX10_shift ∈ TW := walk_tw LW16_w LW16_g (i := 15) rfl
theorem sm_X10_shift : Cond.static yX10_shift ∈ TW := walk_tw LW16_w LW16_g (i := 16) rfl
theorem cd_X10_shift : Cond.code yX10_shift cX10_shift 3 (some .int) ∈ TW := walk_tw LW16_w LW16_g (i := 17) rfl
theorem ml_X10_57 : Cond.methodLink RX10 57 yX9_around ∈ TW := walk_tw LW16_w LW16_g (i := 18) rfl
theorem im_X9_around : Cond.instanceMethod yX9_around ∈ TW := walk_tw LW16_w LW16_g (i := 19) rfl
theorem se_X9_around : Cond.selects RX9 yX9_around yX9_around ∈ TW := walk_tw LW16_w LW16_g (i := 20) rfl
theorem cd_X9_around : Cond.code yX9_around cX9_around 2 (some .int) ∈ TW := walk_tw LW16_w LW16_g (i := 21) rfl
theorem ml_X9_67 : Cond.methodLink RX9 67 yJ9_floorMod_7cf53 ∈ TW := walk_tw LW16_w LW16_g (i := 22) rfl
theorem sm_J9_floorMod_7cf53 : Cond.static yJ9_floorMod_7cf53 ∈ TW := walk_tw LW16_w LW16_g (i := 23) rfl
theorem cd_J9_floorMod_7cf53 : Cond.code yJ9_floorMod_7cf53 cJ9_floorMod_7cf53 3 (some .int) ∈ TW := walk_tw LW16_w LW16_g (i := 24) rfl
theorem ml_X10_80 : Cond.methodLink RX10 80 yX7_listenerAt ∈ TW := walk_tw LW16_w LW16_g (i := 25) rfl
theorem im_X7_listenerAt : Cond.instanceMethod yX7_listenerAt ∈ TW := walk_tw LW16_w LW16_g (i := 26) rfl
theorem se_X7_listenerAt : Cond.selects RX7 yX7_listenerAt yX7_listenerAt ∈ TW := walk_tw LW16_w LW16_g (i := 27) rfl
theorem cd_X7_listenerAt : Cond.code yX7_listenerAt cX7_listenerAt 2 (some .int) ∈ TW := walk_tw LW16_w LW16_g (i := 28) rfl
theorem ml_X11_139 : Cond.methodLink RX11 139 yX11_isNoPerson ∈ TW := walk_tw LW16_w LW16_g (i := 29) rfl
theorem im_X11_isNoPerson : Cond.instanceMethod yX11_isNoPerson ∈ TW := walk_tw LW16_w LW16_g (i := 30) rfl
theorem cd_X11_isNoPerson : Cond.code yX11_isNoPerson cX11_isNoPerson 2 (some .boolean) ∈ TW := walk_tw LW16_w LW16_g (i := 31) rfl
def LW17 : List (Nat × Cond) := [(808, Cond.methodLink RX11 150 yX9_deadFor), (0, Cond.instanceMethod yX9_deadFor), (0, Cond.selects RX9 yX9_deadFor yX9_deadFor), (0, Cond.code yX9_deadFor cX9_deadFor 4 (some .int)), (0, Cond.methodLink RX11 156 yX10_heardBits), (0, Cond.instanceMethod yX10_heardBits), (0, Cond.selects RX10 yX10_heardBits yX10_heardBits), (0, Cond.code yX10_heardBits cX10_heardBits 5 (some .int)), (0, Cond.methodLink RX10 83 yX10_listener), (4, Cond.methodLink RX11 160 yX11_isNoDead), (1, Cond.instanceMethod yX11_isNoDead), (0, Cond.code yX11_isNoDead cX11_isNoDead 2 (some .boolean)), (4, Cond.methodLink RX11 175 yX11_isNoHouse), (1, Cond.instanceMethod yX11_isNoHouse), (0, Cond.code yX11_isNoHouse cX11_isNoHouse 2 (some .boolean)), (0, Cond.methodLink RX11 182 yX7_occupantOf), (0, Cond.instanceMethod yX7_occupantOf), (0, Cond.selects RX7 yX7_occupantOf yX7_occupantOf), (0, Cond.code yX7_occupantOf cX7_occupantOf 2 (some .int)), (4, Cond.methodLink RX11 187 yX11_isNoNight), (0, Cond.static yX11_isNoNight), (0, Cond.code yX11_isNoNight cX11_isNoNight 1 (some .boolean)), (0, Cond.methodLink RX11 190 yX10_landing), (0, Cond.instanceMethod yX10_landing), (0, Cond.selects RX10 yX10_landing yX10_landing), (0, Cond.code yX10_landing cX10_landing 3 (some .int)), (4, Cond.methodLink RX11 193 yX10_landingAimed), (4, Cond.methodLink RX11 197 yX10_listener), (4, Cond.methodLink RX11 200 yX9_around), (4, Cond.methodLink RX11 203 yX11_isNoTown), (1, Cond.instanceMethod yX11_isNoTown), (0, Cond.code yX11_isNoTown cX11_isNoTown 1 (some .boolean))]
theorem LW17_w : walkI LW17 lw_tbl = true := by decide +kernel
theorem LW17_g : LW17.all (fun q => goodWord q.2) = true := by decide +kernel
theorem ml_X11_150 : Cond.methodLink RX11 150 yX9_deadFor ∈ TW := walk_tw LW17_w LW17_g (i := 0) rfl
theorem im_X9_deadFor : Cond.instanceMethod yX9_deadFor ∈ TW := walk_tw LW17_w LW17_g (i := 1) rfl
theorem se_X9_deadFor : Cond.selects RX9 yX9_deadFor yX9_deadFor ∈ TW := walk_tw LW17_w LW17_g (i := 2) rfl
theorem cd_X9_deadFor : Cond.code yX9_deadFor cX9_deadFor 4 (some .int) ∈ TW := walk_tw LW17_w LW17_g (i := 3) rfl
theorem ml_X11_156 : Cond.methodLink RX11 156 yX10_heardBits ∈ TW := walk_tw LW17_w LW17_g (i := 4) rfl
theorem im_X10_heardBits : Cond.instanceMethod yX10_heardBits ∈ TW := walk_tw LW17_w LW17_g (i := 5) rfl
theorem se_X10_heardBits : Cond.selects RX10 yX10_heardBits yX10_heardBits ∈ TW := walk_tw LW17_w LW17_g (i := 6) rfl
theorem cd_X10_heardBits : Cond.code yX10_heardBits cX10_heardBits 5 (some .int) ∈ TW := walk_tw LW17_w LW17_g (i := 7) rfl
theorem ml_X10_83 : Cond.methodLink RX10 83 yX10_listener ∈ TW := walk_tw LW17_w LW17_g (i := 8) rfl
theorem ml_X11_160 : Cond.methodLink RX11 160 yX11_isNoDead ∈ TW := walk_tw LW17_w LW17_g (i := 9) rfl
theorem im_X11_isNoDead : Cond.instanceMethod yX11_isNoDead ∈ TW := walk_tw LW17_w LW17_g (i := 10) rfl
theorem cd_X11_isNoDead : Cond.code yX11_isNoDead cX11_isNoDead 2 (some .boolean) ∈ TW := walk_tw LW17_w LW17_g (i := 11) rfl
theorem ml_X11_175 : Cond.methodLink RX11 175 yX11_isNoHouse ∈ TW := walk_tw LW17_w LW17_g (i := 12) rfl
theorem im_X11_isNoHouse : Cond.instanceMethod yX11_isNoHouse ∈ TW := walk_tw LW17_w LW17_g (i := 13) rfl
theorem cd_X11_isNoHouse : Cond.code yX11_isNoHouse cX11_isNoHouse 2 (some .boolean) ∈ TW := walk_tw LW17_w LW17_g (i := 14) rfl
theorem ml_X11_182 : Cond.methodLink RX11 182 yX7_occupantOf ∈ TW := walk_tw LW17_w LW17_g (i := 15) rfl
theorem im_X7_occupantOf : Cond.instanceMethod yX7_occupantOf ∈ TW := walk_tw LW17_w LW17_g (i := 16) rfl
theorem se_X7_occupantOf : Cond.selects RX7 yX7_occupantOf yX7_occupantOf ∈ TW := walk_tw LW17_w LW17_g (i := 17) rfl
theorem cd_X7_occupantOf : Cond.code yX7_occupantOf cX7_occupantOf 2 (some .int) ∈ TW := walk_tw LW17_w LW17_g (i := 18) rfl
theorem ml_X11_187 : Cond.methodLink RX11 187 yX11_isNoNight ∈ TW := walk_tw LW17_w LW17_g (i := 19) rfl
theorem sm_X11_isNoNight : Cond.static yX11_isNoNight ∈ TW := walk_tw LW17_w LW17_g (i := 20) rfl
theorem cd_X11_isNoNight : Cond.code yX11_isNoNight cX11_isNoNight 1 (some .boolean) ∈ TW := walk_tw LW17_w LW17_g (i := 21) rfl
theorem ml_X11_190 : Cond.methodLink RX11 190 yX10_landing ∈ TW := walk_tw LW17_w LW17_g (i := 22) rfl
theorem im_X10_landing : Cond.instanceMethod yX10_landing ∈ TW := walk_tw LW17_w LW17_g (i := 23) rfl
theorem se_X10_landing : Cond.selects RX10 yX10_landing yX10_landing ∈ TW := walk_tw LW17_w LW17_g (i := 24) rfl
theorem cd_X10_landing : Cond.code yX10_landing cX10_landing 3 (some .int) ∈ TW := walk_tw LW17_w LW17_g (i := 25) rfl
theorem ml_X11_193 : Cond.methodLink RX11 193 yX10_landingAimed ∈ TW := walk_tw LW17_w LW17_g (i := 26) rfl
theorem ml_X11_197 : Cond.methodLink RX11 197 yX10_listener ∈ TW := walk_tw LW17_w LW17_g (i := 27) rfl
theorem ml_X11_200 : Cond.methodLink RX11 200 yX9_around ∈ TW := walk_tw LW17_w LW17_g (i := 28) rfl
theorem ml_X11_203 : Cond.methodLink RX11 203 yX11_isNoTown ∈ TW := walk_tw LW17_w LW17_g (i := 29) rfl
theorem im_X11_isNoTown : Cond.instanceMethod yX11_isNoTown ∈ TW := walk_tw LW17_w LW17_g (i := 30) rfl
theorem cd_X11_isNoTown : Cond.code yX11_isNoTown cX11_isNoTown 1 (some .boolean) ∈ TW := walk_tw LW17_w LW17_g (i := 31) rfl
def LW18 : List (Nat × Cond) := [(871, Cond.methodLink RX11 207 yX10_rightBits), (0, Cond.instanceMethod yX10_rightBits), (0, Cond.selects RX10 yX10_rightBits yX10_rightBits), (0, Cond.code yX10_rightBits cX10_rightBits 4 (some .int)), (4, Cond.methodLink RX11 210 yJ6_bitCount_0f7a4), (0, Cond.static yJ6_bitCount_0f7a4), (0, Cond.code yJ6_bitCount_0f7a4 cJ6_bitCount_0f7a4 1 (some .int)), (0, Cond.constant RJ6 265 1431655765), (0, Cond.constant RJ6 266 858993459), (0, Cond.constant RJ6 267 252645135), (8, Cond.methodLink RX11 215 yX10_isRight), (0, Cond.instanceMethod yX10_isRight), (0, Cond.selects RX10 yX10_isRight yX10_isRight), (0, Cond.code yX10_isRight cX10_isRight 3 (some .boolean)), (8, Cond.methodLink RX11 219 yX9_nightsToGoRound), (0, Cond.instanceMethod yX9_nightsToGoRound), (0, Cond.selects RX9 yX9_nightsToGoRound yX9_nightsToGoRound), (0, Cond.code yX9_nightsToGoRound cX9_nightsToGoRound 3 (some .int)), (0, Cond.methodLink RX9 73 yX9_around), (4, Cond.methodLink RX11 222 yX10_rightCount), (0, Cond.instanceMethod yX10_rightCount), (0, Cond.selects RX10 yX10_rightCount yX10_rightCount), (0, Cond.code yX10_rightCount cX10_rightCount 2 (some .int)), (0, Cond.methodLink RX10 94 yX10_rightBits), (0, Cond.methodLink RX10 97 yJ6_bitCount_0f7a4), (12, Cond.methodLink RX11 231 yX10_listenerAimed), (0, Cond.instanceMethod yX10_listenerAimed), (0, Cond.selects RX10 yX10_listenerAimed yX10_listenerAimed), (0, Cond.code yX10_listenerAimed cX10_listenerAimed 4 (some .int)), (8, Cond.methodLink RX11 234 yX10_isRightWith), (0, Cond.instanceMethod yX10_isRightWith), (0, Cond.selects RX10 yX10_isRightWith yX10_isRightWith)]
theorem LW18_w : walkI LW18 lw_tbl = true := by decide +kernel
theorem LW18_g : LW18.all (fun q => goodWord q.2) = true := by decide +kernel
theorem ml_X11_207 : Cond.methodLink RX11 207 yX10_rightBits ∈ TW := walk_tw LW18_w LW18_g (i := 0) rfl
theorem im_X10_rightBits : Cond.instanceMethod yX10_rightBits ∈ TW := walk_tw LW18_w LW18_g (i := 1) rfl
theorem se_X10_rightBits : Cond.selects RX10 yX10_rightBits yX10_rightBits ∈ TW := walk_tw LW18_w LW18_g (i := 2) rfl
theorem cd_X10_rightBits : Cond.code yX10_rightBits cX10_rightBits 4 (some .int) ∈ TW := walk_tw LW18_w LW18_g (i := 3) rfl
theorem ml_X11_210 : Cond.methodLink RX11 210 yJ6_bitCount_0f7a4 ∈ TW := walk_tw LW18_w LW18_g (i := 4) rfl
theorem sm_J6_bitCount_0f7a4 : Cond.static yJ6_bitCount_0f7a4 ∈ TW := walk_tw LW18_w LW18_g (i := 5) rfl
theorem cd_J6_bitCount_0f7a4 : Cond.code yJ6_bitCount_0f7a4 cJ6_bitCount_0f7a4 1 (some .int) ∈ TW := walk_tw LW18_w LW18_g (i := 6) rfl
theorem cw_J6_265 : Cond.constant RJ6 265 1431655765 ∈ TW := walk_tw LW18_w LW18_g (i := 7) rfl
theorem cw_J6_266 : Cond.constant RJ6 266 858993459 ∈ TW := walk_tw LW18_w LW18_g (i := 8) rfl
theorem cw_J6_267 : Cond.constant RJ6 267 252645135 ∈ TW := walk_tw LW18_w LW18_g (i := 9) rfl
theorem ml_X11_215 : Cond.methodLink RX11 215 yX10_isRight ∈ TW := walk_tw LW18_w LW18_g (i := 10) rfl
theorem im_X10_isRight : Cond.instanceMethod yX10_isRight ∈ TW := walk_tw LW18_w LW18_g (i := 11) rfl
theorem se_X10_isRight : Cond.selects RX10 yX10_isRight yX10_isRight ∈ TW := walk_tw LW18_w LW18_g (i := 12) rfl
theorem cd_X10_isRight : Cond.code yX10_isRight cX10_isRight 3 (some .boolean) ∈ TW := walk_tw LW18_w LW18_g (i := 13) rfl
theorem ml_X11_219 : Cond.methodLink RX11 219 yX9_nightsToGoRound ∈ TW := walk_tw LW18_w LW18_g (i := 14) rfl
theorem im_X9_nightsToGoRound : Cond.instanceMethod yX9_nightsToGoRound ∈ TW := walk_tw LW18_w LW18_g (i := 15) rfl
theorem se_X9_nightsToGoRound : Cond.selects RX9 yX9_nightsToGoRound yX9_nightsToGoRound ∈ TW := walk_tw LW18_w LW18_g (i := 16) rfl
theorem cd_X9_nightsToGoRound : Cond.code yX9_nightsToGoRound cX9_nightsToGoRound 3 (some .int) ∈ TW := walk_tw LW18_w LW18_g (i := 17) rfl
theorem ml_X9_73 : Cond.methodLink RX9 73 yX9_around ∈ TW := walk_tw LW18_w LW18_g (i := 18) rfl
theorem ml_X11_222 : Cond.methodLink RX11 222 yX10_rightCount ∈ TW := walk_tw LW18_w LW18_g (i := 19) rfl
theorem im_X10_rightCount : Cond.instanceMethod yX10_rightCount ∈ TW := walk_tw LW18_w LW18_g (i := 20) rfl
theorem se_X10_rightCount : Cond.selects RX10 yX10_rightCount yX10_rightCount ∈ TW := walk_tw LW18_w LW18_g (i := 21) rfl
theorem cd_X10_rightCount : Cond.code yX10_rightCount cX10_rightCount 2 (some .int) ∈ TW := walk_tw LW18_w LW18_g (i := 22) rfl
theorem ml_X10_94 : Cond.methodLink RX10 94 yX10_rightBits ∈ TW := walk_tw LW18_w LW18_g (i := 23) rfl
theorem ml_X10_97 : Cond.methodLink RX10 97 yJ6_bitCount_0f7a4 ∈ TW := walk_tw LW18_w LW18_g (i := 24) rfl
theorem ml_X11_231 : Cond.methodLink RX11 231 yX10_listenerAimed ∈ TW := walk_tw LW18_w LW18_g (i := 25) rfl
theorem im_X10_listenerAimed : Cond.instanceMethod yX10_listenerAimed ∈ TW := walk_tw LW18_w LW18_g (i := 26) rfl
theorem se_X10_listenerAimed : Cond.selects RX10 yX10_listenerAimed yX10_listenerAimed ∈ TW := walk_tw LW18_w LW18_g (i := 27) rfl
theorem cd_X10_listenerAimed : Cond.code yX10_listenerAimed cX10_listenerAimed 4 (some .int) ∈ TW := walk_tw LW18_w LW18_g (i := 28) rfl
theorem ml_X11_234 : Cond.methodLink RX11 234 yX10_isRightWith ∈ TW := walk_tw LW18_w LW18_g (i := 29) rfl
theorem im_X10_isRightWith : Cond.instanceMethod yX10_isRightWith ∈ TW := walk_tw LW18_w LW18_g (i := 30) rfl
theorem se_X10_isRightWith : Cond.selects RX10 yX10_isRightWith yX10_isRightWith ∈ TW := walk_tw LW18_w LW18_g (i := 31) rfl
def LW19 : List (Nat × Cond) := [(947, Cond.code yX10_isRightWith cX10_isRightWith 5 (some .boolean)), (4, Cond.methodLink RX11 238 yX10_rightNightsWith), (0, Cond.instanceMethod yX10_rightNightsWith), (0, Cond.selects RX10 yX10_rightNightsWith yX10_rightNightsWith), (0, Cond.code yX10_rightNightsWith cX10_rightNightsWith 5 (some .int)), (0, Cond.methodLink RX10 87 yX10_isRightWith), (8, Cond.methodLink RX11 241 yX5_weigh), (0, Cond.instanceMethod yX5_weigh), (0, Cond.selects RX5 yX5_weigh yX5_weigh), (0, Cond.code yX5_weigh cX5_weigh 5 none), (0, Cond.methodLink RX5 43 yX10_listenerAimed), (0, Cond.methodLink RX11 245 yX5_mostRight), (0, Cond.instanceMethod yX5_mostRight), (0, Cond.selects RX5 yX5_mostRight yX5_mostRight), (0, Cond.code yX5_mostRight cX5_mostRight 6 (some .int)), (0, Cond.methodLink RX5 54 yJ6_bitCount_0f7a4), (0, Cond.methodLink RX5 50 yX5_worthOf), (1, Cond.instanceMethod yX5_worthOf), (0, Cond.code yX5_worthOf cX5_worthOf 3 (some .int)), (0, Cond.methodLink RX5 60 (⟨"java/lang/Math", "max", "(II)I"⟩ : MethodName)), (0, Cond.static (⟨"java/lang/Math", "max", "(II)I"⟩ : MethodName)), (0, Cond.code (⟨"java/lang/Math", "max", "(II)I"⟩ : MethodName) prog_21_method_65_code 2 (some .int)), (4, Cond.methodLink RX11 249 yX5_placeOf), (0, Cond.instanceMethod yX5_placeOf), (0, Cond.selects RX5 yX5_placeOf yX5_placeOf), (0, Cond.code yX5_placeOf cX5_placeOf 6 (some .int)), (0, Cond.methodLink RX5 65 yX5_mostRight), (0, Cond.methodLink RX5 69 yX5_firstBestPlace), (1, Cond.instanceMethod yX5_firstBestPlace), (0, Cond.code yX5_firstBestPlace cX5_firstBestPlace 8 (some .int)), (4, Cond.methodLink RX11 253 yX5_isLiked), (0, Cond.instanceMethod yX5_isLiked)]
theorem LW19_w : walkI LW19 lw_tbl = true := by decide +kernel
theorem LW19_g : LW19.all (fun q => goodWord q.2) = true := by decide +kernel
theorem cd_X10_isRightWith : Cond.code yX10_isRightWith cX10_isRightWith 5 (some .boolean) ∈ TW := walk_tw LW19_w LW19_g (i := 0) rfl
theorem ml_X11_238 : Cond.methodLink RX11 238 yX10_rightNightsWith ∈ TW := walk_tw LW19_w LW19_g (i := 1) rfl
theorem im_X10_rightNightsWith : Cond.instanceMethod yX10_rightNightsWith ∈ TW := walk_tw LW19_w LW19_g (i := 2) rfl
theorem se_X10_rightNightsWith : Cond.selects RX10 yX10_rightNightsWith yX10_rightNightsWith ∈ TW := walk_tw LW19_w LW19_g (i := 3) rfl
theorem cd_X10_rightNightsWith : Cond.code yX10_rightNightsWith cX10_rightNightsWith 5 (some .int) ∈ TW := walk_tw LW19_w LW19_g (i := 4) rfl
theorem ml_X10_87 : Cond.methodLink RX10 87 yX10_isRightWith ∈ TW := walk_tw LW19_w LW19_g (i := 5) rfl
theorem ml_X11_241 : Cond.methodLink RX11 241 yX5_weigh ∈ TW := walk_tw LW19_w LW19_g (i := 6) rfl
theorem im_X5_weigh : Cond.instanceMethod yX5_weigh ∈ TW := walk_tw LW19_w LW19_g (i := 7) rfl
theorem se_X5_weigh : Cond.selects RX5 yX5_weigh yX5_weigh ∈ TW := walk_tw LW19_w LW19_g (i := 8) rfl
theorem cd_X5_weigh : Cond.code yX5_weigh cX5_weigh 5 none ∈ TW := walk_tw LW19_w LW19_g (i := 9) rfl
theorem ml_X5_43 : Cond.methodLink RX5 43 yX10_listenerAimed ∈ TW := walk_tw LW19_w LW19_g (i := 10) rfl
theorem ml_X11_245 : Cond.methodLink RX11 245 yX5_mostRight ∈ TW := walk_tw LW19_w LW19_g (i := 11) rfl
theorem im_X5_mostRight : Cond.instanceMethod yX5_mostRight ∈ TW := walk_tw LW19_w LW19_g (i := 12) rfl
theorem se_X5_mostRight : Cond.selects RX5 yX5_mostRight yX5_mostRight ∈ TW := walk_tw LW19_w LW19_g (i := 13) rfl
theorem cd_X5_mostRight : Cond.code yX5_mostRight cX5_mostRight 6 (some .int) ∈ TW := walk_tw LW19_w LW19_g (i := 14) rfl
theorem ml_X5_54 : Cond.methodLink RX5 54 yJ6_bitCount_0f7a4 ∈ TW := walk_tw LW19_w LW19_g (i := 15) rfl
theorem ml_X5_50 : Cond.methodLink RX5 50 yX5_worthOf ∈ TW := walk_tw LW19_w LW19_g (i := 16) rfl
theorem im_X5_worthOf : Cond.instanceMethod yX5_worthOf ∈ TW := walk_tw LW19_w LW19_g (i := 17) rfl
theorem cd_X5_worthOf : Cond.code yX5_worthOf cX5_worthOf 3 (some .int) ∈ TW := walk_tw LW19_w LW19_g (i := 18) rfl
theorem ml_X5_60 : Cond.methodLink RX5 60 (⟨"java/lang/Math", "max", "(II)I"⟩ : MethodName) ∈ TW := walk_tw LW19_w LW19_g (i := 19) rfl
theorem sm_JM_max : Cond.static (⟨"java/lang/Math", "max", "(II)I"⟩ : MethodName) ∈ TW := walk_tw LW19_w LW19_g (i := 20) rfl
theorem cd_JM_max : Cond.code (⟨"java/lang/Math", "max", "(II)I"⟩ : MethodName) prog_21_method_65_code 2 (some .int) ∈ TW := walk_tw LW19_w LW19_g (i := 21) rfl
theorem ml_X11_249 : Cond.methodLink RX11 249 yX5_placeOf ∈ TW := walk_tw LW19_w LW19_g (i := 22) rfl
theorem im_X5_placeOf : Cond.instanceMethod yX5_placeOf ∈ TW := walk_tw LW19_w LW19_g (i := 23) rfl
theorem se_X5_placeOf : Cond.selects RX5 yX5_placeOf yX5_placeOf ∈ TW := walk_tw LW19_w LW19_g (i := 24) rfl
theorem cd_X5_placeOf : Cond.code yX5_placeOf cX5_placeOf 6 (some .int) ∈ TW := walk_tw LW19_w LW19_g (i := 25) rfl
theorem ml_X5_65 : Cond.methodLink RX5 65 yX5_mostRight ∈ TW := walk_tw LW19_w LW19_g (i := 26) rfl
theorem ml_X5_69 : Cond.methodLink RX5 69 yX5_firstBestPlace ∈ TW := walk_tw LW19_w LW19_g (i := 27) rfl
theorem im_X5_firstBestPlace : Cond.instanceMethod yX5_firstBestPlace ∈ TW := walk_tw LW19_w LW19_g (i := 28) rfl
theorem cd_X5_firstBestPlace : Cond.code yX5_firstBestPlace cX5_firstBestPlace 8 (some .int) ∈ TW := walk_tw LW19_w LW19_g (i := 29) rfl
theorem ml_X11_253 : Cond.methodLink RX11 253 yX5_isLiked ∈ TW := walk_tw LW19_w LW19_g (i := 30) rfl
theorem im_X5_isLiked : Cond.instanceMethod yX5_isLiked ∈ TW := walk_tw LW19_w LW19_g (i := 31) rfl
def LW20 : List (Nat × Cond) := [(1001, Cond.selects RX5 yX5_isLiked yX5_isLiked), (0, Cond.code yX5_isLiked cX5_isLiked 3 (some .boolean)), (8, Cond.methodLink RX11 256 yX10_putPerson), (0, Cond.instanceMethod yX10_putPerson), (0, Cond.selects RX10 yX10_putPerson yX10_putPerson), (0, Cond.code yX10_putPerson cX10_putPerson 3 none), (4, Cond.methodLink RX11 260 yX0_plan), (0, Cond.instanceMethod yX0_plan), (0, Cond.selects RX0 yX0_plan yX0_plan), (0, Cond.code yX0_plan cX0_plan 5 none), (0, Cond.methodLink RX0 24 yX0_collect), (1, Cond.instanceMethod yX0_collect), (0, Cond.code yX0_collect cX0_collect 6 none), (0, Cond.methodLink RX0 47 yX10_listener), (0, Cond.methodLink RX0 32 yX0_workOut), (1, Cond.instanceMethod yX0_workOut), (0, Cond.code yX0_workOut cX0_workOut 6 none), (0, Cond.methodLink RX0 57 yX0_indexOf), (1, Cond.instanceMethod yX0_indexOf), (0, Cond.code yX0_indexOf cX0_indexOf 4 (some .int)), (0, Cond.methodLink RX0 61 yX0_fewestOn), (1, Cond.instanceMethod yX0_fewestOn), (0, Cond.code yX0_fewestOn cX0_fewestOn 10 (some .int)), (0, Cond.constant RX0 65 1000000), (0, Cond.methodLink RX0 75 yX9_distance), (0, Cond.instanceMethod yX9_distance), (0, Cond.selects RX9 yX9_distance yX9_distance), (0, Cond.code yX9_distance cX9_distance 4 (some .int)), (0, Cond.methodLink RX9 77 (⟨"java/lang/Math", "min", "(II)I"⟩ : MethodName)), (0, Cond.methodLink RX0 78 (⟨"java/lang/Math", "min", "(II)I"⟩ : MethodName)), (0, Cond.methodLink RX11 263 yX0_stepsFrom), (0, Cond.instanceMethod yX0_stepsFrom)]
theorem LW20_w : walkI LW20 lw_tbl = true := by decide +kernel
theorem LW20_g : LW20.all (fun q => goodWord q.2) = true := by decide +kernel
theorem se_X5_isLiked : Cond.selects RX5 yX5_isLiked yX5_isLiked ∈ TW := walk_tw LW20_w LW20_g (i := 0) rfl
theorem cd_X5_isLiked : Cond.code yX5_isLiked cX5_isLiked 3 (some .boolean) ∈ TW := walk_tw LW20_w LW20_g (i := 1) rfl
theorem ml_X11_256 : Cond.methodLink RX11 256 yX10_putPerson ∈ TW := walk_tw LW20_w LW20_g (i := 2) rfl
theorem im_X10_putPerson : Cond.instanceMethod yX10_putPerson ∈ TW := walk_tw LW20_w LW20_g (i := 3) rfl
theorem se_X10_putPerson : Cond.selects RX10 yX10_putPerson yX10_putPerson ∈ TW := walk_tw LW20_w LW20_g (i := 4) rfl
theorem cd_X10_putPerson : Cond.code yX10_putPerson cX10_putPerson 3 none ∈ TW := walk_tw LW20_w LW20_g (i := 5) rfl
theorem ml_X11_260 : Cond.methodLink RX11 260 yX0_plan ∈ TW := walk_tw LW20_w LW20_g (i := 6) rfl
theorem im_X0_plan : Cond.instanceMethod yX0_plan ∈ TW := walk_tw LW20_w LW20_g (i := 7) rfl
theorem se_X0_plan : Cond.selects RX0 yX0_plan yX0_plan ∈ TW := walk_tw LW20_w LW20_g (i := 8) rfl
theorem cd_X0_plan : Cond.code yX0_plan cX0_plan 5 none ∈ TW := walk_tw LW20_w LW20_g (i := 9) rfl
theorem ml_X0_24 : Cond.methodLink RX0 24 yX0_collect ∈ TW := walk_tw LW20_w LW20_g (i := 10) rfl
theorem im_X0_collect : Cond.instanceMethod yX0_collect ∈ TW := walk_tw LW20_w LW20_g (i := 11) rfl
theorem cd_X0_collect : Cond.code yX0_collect cX0_collect 6 none ∈ TW := walk_tw LW20_w LW20_g (i := 12) rfl
theorem ml_X0_47 : Cond.methodLink RX0 47 yX10_listener ∈ TW := walk_tw LW20_w LW20_g (i := 13) rfl
theorem ml_X0_32 : Cond.methodLink RX0 32 yX0_workOut ∈ TW := walk_tw LW20_w LW20_g (i := 14) rfl
theorem im_X0_workOut : Cond.instanceMethod yX0_workOut ∈ TW := walk_tw LW20_w LW20_g (i := 15) rfl
theorem cd_X0_workOut : Cond.code yX0_workOut cX0_workOut 6 none ∈ TW := walk_tw LW20_w LW20_g (i := 16) rfl
theorem ml_X0_57 : Cond.methodLink RX0 57 yX0_indexOf ∈ TW := walk_tw LW20_w LW20_g (i := 17) rfl
theorem im_X0_indexOf : Cond.instanceMethod yX0_indexOf ∈ TW := walk_tw LW20_w LW20_g (i := 18) rfl
theorem cd_X0_indexOf : Cond.code yX0_indexOf cX0_indexOf 4 (some .int) ∈ TW := walk_tw LW20_w LW20_g (i := 19) rfl
theorem ml_X0_61 : Cond.methodLink RX0 61 yX0_fewestOn ∈ TW := walk_tw LW20_w LW20_g (i := 20) rfl
theorem im_X0_fewestOn : Cond.instanceMethod yX0_fewestOn ∈ TW := walk_tw LW20_w LW20_g (i := 21) rfl
theorem cd_X0_fewestOn : Cond.code yX0_fewestOn cX0_fewestOn 10 (some .int) ∈ TW := walk_tw LW20_w LW20_g (i := 22) rfl
theorem cw_X0_65 : Cond.constant RX0 65 1000000 ∈ TW := walk_tw LW20_w LW20_g (i := 23) rfl
theorem ml_X0_75 : Cond.methodLink RX0 75 yX9_distance ∈ TW := walk_tw LW20_w LW20_g (i := 24) rfl
theorem im_X9_distance : Cond.instanceMethod yX9_distance ∈ TW := walk_tw LW20_w LW20_g (i := 25) rfl
theorem se_X9_distance : Cond.selects RX9 yX9_distance yX9_distance ∈ TW := walk_tw LW20_w LW20_g (i := 26) rfl
theorem cd_X9_distance : Cond.code yX9_distance cX9_distance 4 (some .int) ∈ TW := walk_tw LW20_w LW20_g (i := 27) rfl
theorem ml_X9_77 : Cond.methodLink RX9 77 (⟨"java/lang/Math", "min", "(II)I"⟩ : MethodName) ∈ TW := walk_tw LW20_w LW20_g (i := 28) rfl
theorem ml_X0_78 : Cond.methodLink RX0 78 (⟨"java/lang/Math", "min", "(II)I"⟩ : MethodName) ∈ TW := walk_tw LW20_w LW20_g (i := 29) rfl
theorem ml_X11_263 : Cond.methodLink RX11 263 yX0_stepsFrom ∈ TW := walk_tw LW20_w LW20_g (i := 30) rfl
theorem im_X0_stepsFrom : Cond.instanceMethod yX0_stepsFrom ∈ TW := walk_tw LW20_w LW20_g (i := 31) rfl
def LW21 : List (Nat × Cond) := [(1049, Cond.selects RX0 yX0_stepsFrom yX0_stepsFrom), (0, Cond.code yX0_stepsFrom cX0_stepsFrom 6 (some .int)), (4, Cond.constant RX11 267 1000000), (4, Cond.methodLink RX11 268 yX9_distance), (4, Cond.methodLink RX11 271 yX11_ringLength), (1, Cond.instanceMethod yX11_ringLength), (0, Cond.code yX11_ringLength cX11_ringLength 5 (some .int)), (0, Cond.methodLink RX11 274 yX11_nextInRing), (1, Cond.instanceMethod yX11_nextInRing), (0, Cond.code yX11_nextInRing cX11_nextInRing 4 (some .int)), (0, Cond.methodLink RX11 376 yX9_firstDeadFor), (0, Cond.instanceMethod yX9_firstDeadFor), (0, Cond.selects RX9 yX9_firstDeadFor yX9_firstDeadFor), (0, Cond.code yX9_firstDeadFor cX9_firstDeadFor 3 (some .int)), (16, Cond.methodLink RX11 281 yX1_inSome), (0, Cond.instanceMethod yX1_inSome), (0, Cond.selects RX1 yX1_inSome yX1_inSome), (0, Cond.code yX1_inSome cX1_inSome 3 (some .int)), (4, Cond.methodLink RX11 284 yX1_inAll), (0, Cond.instanceMethod yX1_inAll), (0, Cond.selects RX1 yX1_inAll yX1_inAll), (0, Cond.code yX1_inAll cX1_inAll 3 (some .int)), (4, Cond.methodLink RX11 290 yX1_whomToAsk), (0, Cond.instanceMethod yX1_whomToAsk), (0, Cond.selects RX1 yX1_whomToAsk yX1_whomToAsk), (0, Cond.code yX1_whomToAsk cX1_whomToAsk 6 (some .int)), (0, Cond.constant RX1 80 1000000), (0, Cond.methodLink RX1 81 yX1_leftAtMost), (0, Cond.instanceMethod yX1_leftAtMost), (0, Cond.selects RX1 yX1_leftAtMost yX1_leftAtMost), (0, Cond.code yX1_leftAtMost cX1_leftAtMost 4 (some .int)), (0, Cond.methodLink RX1 75 (⟨"java/lang/Math", "max", "(II)I"⟩ : MethodName))]
theorem LW21_w : walkI LW21 lw_tbl = true := by decide +kernel
theorem LW21_g : LW21.all (fun q => goodWord q.2) = true := by decide +kernel
theorem se_X0_stepsFrom : Cond.selects RX0 yX0_stepsFrom yX0_stepsFrom ∈ TW := walk_tw LW21_w LW21_g (i := 0) rfl
theorem cd_X0_stepsFrom : Cond.code yX0_stepsFrom cX0_stepsFrom 6 (some .int) ∈ TW := walk_tw LW21_w LW21_g (i := 1) rfl
theorem cw_X11_267 : Cond.constant RX11 267 1000000 ∈ TW := walk_tw LW21_w LW21_g (i := 2) rfl
theorem ml_X11_268 : Cond.methodLink RX11 268 yX9_distance ∈ TW := walk_tw LW21_w LW21_g (i := 3) rfl
theorem ml_X11_271 : Cond.methodLink RX11 271 yX11_ringLength ∈ TW := walk_tw LW21_w LW21_g (i := 4) rfl
theorem im_X11_ringLength : Cond.instanceMethod yX11_ringLength ∈ TW := walk_tw LW21_w LW21_g (i := 5) rfl
theorem cd_X11_ringLength : Cond.code yX11_ringLength cX11_ringLength 5 (some .int) ∈ TW := walk_tw LW21_w LW21_g (i := 6) rfl
theorem ml_X11_274 : Cond.methodLink RX11 274 yX11_nextInRing ∈ TW := walk_tw LW21_w LW21_g (i := 7) rfl
theorem im_X11_nextInRing : Cond.instanceMethod yX11_nextInRing ∈ TW := walk_tw LW21_w LW21_g (i := 8) rfl
theorem cd_X11_nextInRing : Cond.code yX11_nextInRing cX11_nextInRing 4 (some .int) ∈ TW := walk_tw LW21_w LW21_g (i := 9) rfl
theorem ml_X11_376 : Cond.methodLink RX11 376 yX9_firstDeadFor ∈ TW := walk_tw LW21_w LW21_g (i := 10) rfl
theorem im_X9_firstDeadFor : Cond.instanceMethod yX9_firstDeadFor ∈ TW := walk_tw LW21_w LW21_g (i := 11) rfl
theorem se_X9_firstDeadFor : Cond.selects RX9 yX9_firstDeadFor yX9_firstDeadFor ∈ TW := walk_tw LW21_w LW21_g (i := 12) rfl
theorem cd_X9_firstDeadFor : Cond.code yX9_firstDeadFor cX9_firstDeadFor 3 (some .int) ∈ TW := walk_tw LW21_w LW21_g (i := 13) rfl
theorem ml_X11_281 : Cond.methodLink RX11 281 yX1_inSome ∈ TW := walk_tw LW21_w LW21_g (i := 14) rfl
theorem im_X1_inSome : Cond.instanceMethod yX1_inSome ∈ TW := walk_tw LW21_w LW21_g (i := 15) rfl
theorem se_X1_inSome : Cond.selects RX1 yX1_inSome yX1_inSome ∈ TW := walk_tw LW21_w LW21_g (i := 16) rfl
theorem cd_X1_inSome : Cond.code yX1_inSome cX1_inSome 3 (some .int) ∈ TW := walk_tw LW21_w LW21_g (i := 17) rfl
theorem ml_X11_284 : Cond.methodLink RX11 284 yX1_inAll ∈ TW := walk_tw LW21_w LW21_g (i := 18) rfl
theorem im_X1_inAll : Cond.instanceMethod yX1_inAll ∈ TW := walk_tw LW21_w LW21_g (i := 19) rfl
theorem se_X1_inAll : Cond.selects RX1 yX1_inAll yX1_inAll ∈ TW := walk_tw LW21_w LW21_g (i := 20) rfl
theorem cd_X1_inAll : Cond.code yX1_inAll cX1_inAll 3 (some .int) ∈ TW := walk_tw LW21_w LW21_g (i := 21) rfl
theorem ml_X11_290 : Cond.methodLink RX11 290 yX1_whomToAsk ∈ TW := walk_tw LW21_w LW21_g (i := 22) rfl
theorem im_X1_whomToAsk : Cond.instanceMethod yX1_whomToAsk ∈ TW := walk_tw LW21_w LW21_g (i := 23) rfl
theorem se_X1_whomToAsk : Cond.selects RX1 yX1_whomToAsk yX1_whomToAsk ∈ TW := walk_tw LW21_w LW21_g (i := 24) rfl
theorem cd_X1_whomToAsk : Cond.code yX1_whomToAsk cX1_whomToAsk 6 (some .int) ∈ TW := walk_tw LW21_w LW21_g (i := 25) rfl
theorem cw_X1_80 : Cond.constant RX1 80 1000000 ∈ TW := walk_tw LW21_w LW21_g (i := 26) rfl
theorem ml_X1_81 : Cond.methodLink RX1 81 yX1_leftAtMost ∈ TW := walk_tw LW21_w LW21_g (i := 27) rfl
theorem im_X1_leftAtMost : Cond.instanceMethod yX1_leftAtMost ∈ TW := walk_tw LW21_w LW21_g (i := 28) rfl
theorem se_X1_leftAtMost : Cond.selects RX1 yX1_leftAtMost yX1_leftAtMost ∈ TW := walk_tw LW21_w LW21_g (i := 29) rfl
theorem cd_X1_leftAtMost : Cond.code yX1_leftAtMost cX1_leftAtMost 4 (some .int) ∈ TW := walk_tw LW21_w LW21_g (i := 30) rfl
theorem ml_X1_75 : Cond.methodLink RX1 75 (⟨"java/lang/Math", "max", "(II)I"⟩ : MethodName) ∈ TW := walk_tw LW21_w LW21_g (i := 31) rfl
def LW22 : List (Nat × Cond) := [(1123, Cond.methodLink RX11 293 yX1_leftAtMost), (8, Cond.methodLink RX11 299 yX11_isNoSoot), (0, Cond.static yX11_isNoSoot), (0, Cond.code yX11_isNoSoot cX11_isNoSoot 1 (some .boolean)), (0, Cond.methodLink RX11 302 yX11_gain), (0, Cond.static yX11_gain), (0, Cond.code yX11_gain cX11_gain 3 (some .int)), (4, Cond.methodLink RX11 306 yX11_isRest), (0, Cond.static yX11_isRest), (0, Cond.code yX11_isRest cX11_isRest 4 (some .boolean)), (0, Cond.methodLink RX11 309 yX11_bishopTalks), (0, Cond.static yX11_bishopTalks), (0, Cond.code yX11_bishopTalks cX11_bishopTalks 1 (some .boolean)), (0, Cond.methodLink RX11 312 yX11_sweepTalks), (0, Cond.static yX11_sweepTalks), (0, Cond.code yX11_sweepTalks cX11_sweepTalks 1 (some .boolean)), (8, Cond.constantLong RX11 315 (-1)), (0, Cond.methodLink RX11 317 yX2_hundredths), (0, Cond.instanceMethod yX2_hundredths), (0, Cond.selects RX2 yX2_hundredths yX2_hundredths), (0, Cond.code yX2_hundredths cX2_hundredths 6 (some .int)), (0, Cond.methodLink RX2 27 yX10_listener), (0, Cond.methodLink RX2 31 yX10_listenerFurtherOn), (0, Cond.instanceMethod yX10_listenerFurtherOn), (0, Cond.selects RX10 yX10_listenerFurtherOn yX10_listenerFurtherOn), (0, Cond.code yX10_listenerFurtherOn cX10_listenerFurtherOn 3 (some .int)), (0, Cond.constantLong RX11 321 100), (0, Cond.methodLink RX11 323 yX11_inLowestTerms), (0, Cond.static yX11_inLowestTerms), (0, Cond.code yX11_inLowestTerms cX11_inLowestTerms 7 (some .long)), (0, Cond.methodLink RX11 379 yX11_commonDivisor), (0, Cond.static yX11_commonDivisor)]
theorem LW22_w : walkI LW22 lw_tbl = true := by decide +kernel
theorem LW22_g : LW22.all (fun q => goodWord q.2) = true := by decide +kernel
theorem ml_X11_293 : Cond.methodLink RX11 293 yX1_leftAtMost ∈ TW := walk_tw LW22_w LW22_g (i := 0) rfl
theorem ml_X11_299 : Cond.methodLink RX11 299 yX11_isNoSoot ∈ TW := walk_tw LW22_w LW22_g (i := 1) rfl
theorem sm_X11_isNoSoot : Cond.static yX11_isNoSoot ∈ TW := walk_tw LW22_w LW22_g (i := 2) rfl
theorem cd_X11_isNoSoot : Cond.code yX11_isNoSoot cX11_isNoSoot 1 (some .boolean) ∈ TW := walk_tw LW22_w LW22_g (i := 3) rfl
theorem ml_X11_302 : Cond.methodLink RX11 302 yX11_gain ∈ TW := walk_tw LW22_w LW22_g (i := 4) rfl
theorem sm_X11_gain : Cond.static yX11_gain ∈ TW := walk_tw LW22_w LW22_g (i := 5) rfl
theorem cd_X11_gain : Cond.code yX11_gain cX11_gain 3 (some .int) ∈ TW := walk_tw LW22_w LW22_g (i := 6) rfl
theorem ml_X11_306 : Cond.methodLink RX11 306 yX11_isRest ∈ TW := walk_tw LW22_w LW22_g (i := 7) rfl
theorem sm_X11_isRest : Cond.static yX11_isRest ∈ TW := walk_tw LW22_w LW22_g (i := 8) rfl
theorem cd_X11_isRest : Cond.code yX11_isRest cX11_isRest 4 (some .boolean) ∈ TW := walk_tw LW22_w LW22_g (i := 9) rfl
theorem ml_X11_309 : Cond.methodLink RX11 309 yX11_bishopTalks ∈ TW := walk_tw LW22_w LW22_g (i := 10) rfl
theorem sm_X11_bishopTalks : Cond.static yX11_bishopTalks ∈ TW := walk_tw LW22_w LW22_g (i := 11) rfl
theorem cd_X11_bishopTalks : Cond.code yX11_bishopTalks cX11_bishopTalks 1 (some .boolean) ∈ TW := walk_tw LW22_w LW22_g (i := 12) rfl
theorem ml_X11_312 : Cond.methodLink RX11 312 yX11_sweepTalks ∈ TW := walk_tw LW22_w LW22_g (i := 13) rfl
theorem sm_X11_sweepTalks : Cond.static yX11_sweepTalks ∈ TW := walk_tw LW22_w LW22_g (i := 14) rfl
theorem cd_X11_sweepTalks : Cond.code yX11_sweepTalks cX11_sweepTalks 1 (some .boolean) ∈ TW := walk_tw LW22_w LW22_g (i := 15) rfl
theorem cw_X11_315 : Cond.constantLong RX11 315 (-1) ∈ TW := walk_tw LW22_w LW22_g (i := 16) rfl
theorem ml_X11_317 : Cond.methodLink RX11 317 yX2_hundredths ∈ TW := walk_tw LW22_w LW22_g (i := 17) rfl
theorem im_X2_hundredths : Cond.instanceMethod yX2_hundredths ∈ TW := walk_tw LW22_w LW22_g (i := 18) rfl
theorem se_X2_hundredths : Cond.selects RX2 yX2_hundredths yX2_hundredths ∈ TW := walk_tw LW22_w LW22_g (i := 19) rfl
theorem cd_X2_hundredths : Cond.code yX2_hundredths cX2_hundredths 6 (some .int) ∈ TW := walk_tw LW22_w LW22_g (i := 20) rfl
theorem ml_X2_27 : Cond.methodLink RX2 27 yX10_listener ∈ TW := walk_tw LW22_w LW22_g (i := 21) rfl
theorem ml_X2_31 : Cond.methodLink RX2 31 yX10_listenerFurtherOn ∈ TW := walk_tw LW22_w LW22_g (i := 22) rfl
theorem im_X10_listenerFurtherOn : Cond.instanceMethod yX10_listenerFurtherOn ∈ TW := walk_tw LW22_w LW22_g (i := 23) rfl
theorem se_X10_listenerFurtherOn : Cond.selects RX10 yX10_listenerFurtherOn yX10_listenerFurtherOn ∈ TW := walk_tw LW22_w LW22_g (i := 24) rfl
theorem cd_X10_listenerFurtherOn : Cond.code yX10_listenerFurtherOn cX10_listenerFurtherOn 3 (some .int) ∈ TW := walk_tw LW22_w LW22_g (i := 25) rfl
theorem cw_X11_321 : Cond.constantLong RX11 321 100 ∈ TW := walk_tw LW22_w LW22_g (i := 26) rfl
theorem ml_X11_323 : Cond.methodLink RX11 323 yX11_inLowestTerms ∈ TW := walk_tw LW22_w LW22_g (i := 27) rfl
theorem sm_X11_inLowestTerms : Cond.static yX11_inLowestTerms ∈ TW := walk_tw LW22_w LW22_g (i := 28) rfl
theorem cd_X11_inLowestTerms : Cond.code yX11_inLowestTerms cX11_inLowestTerms 7 (some .long) ∈ TW := walk_tw LW22_w LW22_g (i := 29) rfl
theorem ml_X11_379 : Cond.methodLink RX11 379 yX11_commonDivisor ∈ TW := walk_tw LW22_w LW22_g (i := 30) rfl
theorem sm_X11_commonDivisor : Cond.static yX11_commonDivisor ∈ TW := walk_tw LW22_w LW22_g (i := 31) rfl
def LW23 : List (Nat × Cond) := [(1175, Cond.code yX11_commonDivisor cX11_commonDivisor 11 (some .long)), (4, Cond.methodLink RX11 327 yX2_countWays), (0, Cond.instanceMethod yX2_countWays), (0, Cond.selects RX2 yX2_countWays yX2_countWays), (0, Cond.code yX2_countWays cX2_countWays 6 none), (0, Cond.methodLink RX2 41 yX2_hundredths), (0, Cond.methodLink RX11 330 yX2_waysFrom), (0, Cond.instanceMethod yX2_waysFrom), (0, Cond.selects RX2 yX2_waysFrom yX2_waysFrom), (0, Cond.code yX2_waysFrom cX2_waysFrom 5 (some .long)), (8, Cond.methodLink RX11 334 yX11_isNoSeed), (0, Cond.static yX11_isNoSeed), (0, Cond.code yX11_isNoSeed cX11_isNoSeed 1 (some .boolean)), (0, Cond.constant RX11 375 65536), (0, Cond.methodLink RX11 340 yX2_skip), (0, Cond.instanceMethod yX2_skip), (0, Cond.selects RX2 yX2_skip yX2_skip), (0, Cond.code yX2_skip cX2_skip 3 none), (0, Cond.methodLink RX2 49 yX2_draw), (1, Cond.instanceMethod yX2_draw), (0, Cond.code yX2_draw cX2_draw 1 (some .int)), (0, Cond.constant RX2 48 65537), (0, Cond.methodLink RX11 343 yX2_drawnListener), (0, Cond.instanceMethod yX2_drawnListener), (0, Cond.selects RX2 yX2_drawnListener yX2_drawnListener), (0, Cond.code yX2_drawnListener cX2_drawnListener 4 (some .int)), (8, Cond.methodLink RX11 347 yX3_keep), (0, Cond.instanceMethod yX3_keep), (0, Cond.selects RX3 yX3_keep yX3_keep), (0, Cond.code yX3_keep cX3_keep 4 none), (0, Cond.methodLink RX3 23 yX3_forgetOldest), (1, Cond.instanceMethod yX3_forgetOldest)]
theorem LW23_w : walkI LW23 lw_tbl = true := by decide +kernel
theorem LW23_g : LW23.all (fun q => goodWord q.2) = true := by decide +kernel
theorem cd_X11_commonDivisor : Cond.code yX11_commonDivisor cX11_commonDivisor 11 (some .long) ∈ TW := walk_tw LW23_w LW23_g (i := 0) rfl
theorem ml_X11_327 : Cond.methodLink RX11 327 yX2_countWays ∈ TW := walk_tw LW23_w LW23_g (i := 1) rfl
theorem im_X2_countWays : Cond.instanceMethod yX2_countWays ∈ TW := walk_tw LW23_w LW23_g (i := 2) rfl
theorem se_X2_countWays : Cond.selects RX2 yX2_countWays yX2_countWays ∈ TW := walk_tw LW23_w LW23_g (i := 3) rfl
theorem cd_X2_countWays : Cond.code yX2_countWays cX2_countWays 6 none ∈ TW := walk_tw LW23_w LW23_g (i := 4) rfl
theorem ml_X2_41 : Cond.methodLink RX2 41 yX2_hundredths ∈ TW := walk_tw LW23_w LW23_g (i := 5) rfl
theorem ml_X11_330 : Cond.methodLink RX11 330 yX2_waysFrom ∈ TW := walk_tw LW23_w LW23_g (i := 6) rfl
theorem im_X2_waysFrom : Cond.instanceMethod yX2_waysFrom ∈ TW := walk_tw LW23_w LW23_g (i := 7) rfl
theorem se_X2_waysFrom : Cond.selects RX2 yX2_waysFrom yX2_waysFrom ∈ TW := walk_tw LW23_w LW23_g (i := 8) rfl
theorem cd_X2_waysFrom : Cond.code yX2_waysFrom cX2_waysFrom 5 (some .long) ∈ TW := walk_tw LW23_w LW23_g (i := 9) rfl
theorem ml_X11_334 : Cond.methodLink RX11 334 yX11_isNoSeed ∈ TW := walk_tw LW23_w LW23_g (i := 10) rfl
theorem sm_X11_isNoSeed : Cond.static yX11_isNoSeed ∈ TW := walk_tw LW23_w LW23_g (i := 11) rfl
theorem cd_X11_isNoSeed : Cond.code yX11_isNoSeed cX11_isNoSeed 1 (some .boolean) ∈ TW := walk_tw LW23_w LW23_g (i := 12) rfl
theorem cw_X11_375 : Cond.constant RX11 375 65536 ∈ TW := walk_tw LW23_w LW23_g (i := 13) rfl
theorem ml_X11_340 : Cond.methodLink RX11 340 yX2_skip ∈ TW := walk_tw LW23_w LW23_g (i := 14) rfl
theorem im_X2_skip : Cond.instanceMethod yX2_skip ∈ TW := walk_tw LW23_w LW23_g (i := 15) rfl
theorem se_X2_skip : Cond.selects RX2 yX2_skip yX2_skip ∈ TW := walk_tw LW23_w LW23_g (i := 16) rfl
theorem cd_X2_skip : Cond.code yX2_skip cX2_skip 3 none ∈ TW := walk_tw LW23_w LW23_g (i := 17) rfl
theorem ml_X2_49 : Cond.methodLink RX2 49 yX2_draw ∈ TW := walk_tw LW23_w LW23_g (i := 18) rfl
theorem im_X2_draw : Cond.instanceMethod yX2_draw ∈ TW := walk_tw LW23_w LW23_g (i := 19) rfl
theorem cd_X2_draw : Cond.code yX2_draw cX2_draw 1 (some .int) ∈ TW := walk_tw LW23_w LW23_g (i := 20) rfl
theorem cw_X2_48 : Cond.constant RX2 48 65537 ∈ TW := walk_tw LW23_w LW23_g (i := 21) rfl
theorem ml_X11_343 : Cond.methodLink RX11 343 yX2_drawnListener ∈ TW := walk_tw LW23_w LW23_g (i := 22) rfl
theorem im_X2_drawnListener : Cond.instanceMethod yX2_drawnListener ∈ TW := walk_tw LW23_w LW23_g (i := 23) rfl
theorem se_X2_drawnListener : Cond.selects RX2 yX2_drawnListener yX2_drawnListener ∈ TW := walk_tw LW23_w LW23_g (i := 24) rfl
theorem cd_X2_drawnListener : Cond.code yX2_drawnListener cX2_drawnListener 4 (some .int) ∈ TW := walk_tw LW23_w LW23_g (i := 25) rfl
theorem ml_X11_347 : Cond.methodLink RX11 347 yX3_keep ∈ TW := walk_tw LW23_w LW23_g (i := 26) rfl
theorem im_X3_keep : Cond.instanceMethod yX3_keep ∈ TW := walk_tw LW23_w LW23_g (i := 27) rfl
theorem se_X3_keep : Cond.selects RX3 yX3_keep yX3_keep ∈ TW := walk_tw LW23_w LW23_g (i := 28) rfl
theorem cd_X3_keep : Cond.code yX3_keep cX3_keep 4 none ∈ TW := walk_tw LW23_w LW23_g (i := 29) rfl
theorem ml_X3_23 : Cond.methodLink RX3 23 yX3_forgetOldest ∈ TW := walk_tw LW23_w LW23_g (i := 30) rfl
theorem im_X3_forgetOldest : Cond.instanceMethod yX3_forgetOldest ∈ TW := walk_tw LW23_w LW23_g (i := 31) rfl
def LW24 : List (Nat × Cond) := [(1229, Cond.code yX3_forgetOldest cX3_forgetOldest 2 none), (8, Cond.methodLink RX11 351 yX11_changeMirror), (1, Cond.instanceMethod yX11_changeMirror), (0, Cond.code yX11_changeMirror cX11_changeMirror 4 (some .boolean)), (12, Cond.methodLink RX11 354 yX3_revertLatest), (0, Cond.instanceMethod yX3_revertLatest), (0, Cond.selects RX3 yX3_revertLatest yX3_revertLatest), (0, Cond.code yX3_revertLatest cX3_revertLatest 4 none), (0, Cond.methodLink RX3 37 yX10_putPerson), (4, Cond.methodLink RX11 358 yX6_copy), (8, Cond.methodLink RX11 369 yX10_mirrorCount), (0, Cond.instanceMethod yX10_mirrorCount), (0, Cond.selects RX10 yX10_mirrorCount yX10_mirrorCount), (0, Cond.code yX10_mirrorCount cX10_mirrorCount 3 (some .int)), (82, Cond.methodLink RX13 3 objectInit), (0, flw RX13 49 13 0), (0, flw RX13 52 13 1), (0, flw RX13 9 13 2), (0, flw RX13 303 13 3), (0, flw RX13 155 13 4), (0, flw RX13 13 13 5), (0, flw RX13 296 13 6), (0, flw RX13 66 13 7), (0, flw RX13 84 13 8), (0, flw RX13 81 13 9), (0, flw RX13 90 13 10), (0, flw RX13 104 13 11), (0, flw RX13 107 13 12), (0, flw RX13 110 13 13), (0, flw RX13 97 13 14), (0, flw RX13 17 13 15), (0, flw RX13 21 13 16)]
theorem LW24_w : walkI LW24 lw_tbl = true := by decide +kernel
theorem LW24_g : LW24.all (fun q => goodWord q.2) = true := by decide +kernel
theorem cd_X3_forgetOldest : Cond.code yX3_forgetOldest cX3_forgetOldest 2 none ∈ TW := walk_tw LW24_w LW24_g (i := 0) rfl
theorem ml_X11_351 : Cond.methodLink RX11 351 yX11_changeMirror ∈ TW := walk_tw LW24_w LW24_g (i := 1) rfl
theorem im_X11_changeMirror : Cond.instanceMethod yX11_changeMirror ∈ TW := walk_tw LW24_w LW24_g (i := 2) rfl
theorem cd_X11_changeMirror : Cond.code yX11_changeMirror cX11_changeMirror 4 (some .boolean) ∈ TW := walk_tw LW24_w LW24_g (i := 3) rfl
theorem ml_X11_354 : Cond.methodLink RX11 354 yX3_revertLatest ∈ TW := walk_tw LW24_w LW24_g (i := 4) rfl
theorem im_X3_revertLatest : Cond.instanceMethod yX3_revertLatest ∈ TW := walk_tw LW24_w LW24_g (i := 5) rfl
theorem se_X3_revertLatest : Cond.selects RX3 yX3_revertLatest yX3_revertLatest ∈ TW := walk_tw LW24_w LW24_g (i := 6) rfl
theorem cd_X3_revertLatest : Cond.code yX3_revertLatest cX3_revertLatest 4 none ∈ TW := walk_tw LW24_w LW24_g (i := 7) rfl
theorem ml_X3_37 : Cond.methodLink RX3 37 yX10_putPerson ∈ TW := walk_tw LW24_w LW24_g (i := 8) rfl
theorem ml_X11_358 : Cond.methodLink RX11 358 yX6_copy ∈ TW := walk_tw LW24_w LW24_g (i := 9) rfl
theorem ml_X11_369 : Cond.methodLink RX11 369 yX10_mirrorCount ∈ TW := walk_tw LW24_w LW24_g (i := 10) rfl
theorem im_X10_mirrorCount : Cond.instanceMethod yX10_mirrorCount ∈ TW := walk_tw LW24_w LW24_g (i := 11) rfl
theorem se_X10_mirrorCount : Cond.selects RX10 yX10_mirrorCount yX10_mirrorCount ∈ TW := walk_tw LW24_w LW24_g (i := 12) rfl
theorem cd_X10_mirrorCount : Cond.code yX10_mirrorCount cX10_mirrorCount 3 (some .int) ∈ TW := walk_tw LW24_w LW24_g (i := 13) rfl
theorem ml_X13_3 : Cond.methodLink RX13 3 objectInit ∈ TW := walk_tw LW24_w LW24_g (i := 14) rfl
theorem fl_X13_49 : flw RX13 49 13 0 ∈ TW := walk_tw LW24_w LW24_g (i := 15) rfl
theorem fl_X13_52 : flw RX13 52 13 1 ∈ TW := walk_tw LW24_w LW24_g (i := 16) rfl
theorem fl_X13_9 : flw RX13 9 13 2 ∈ TW := walk_tw LW24_w LW24_g (i := 17) rfl
theorem fl_X13_303 : flw RX13 303 13 3 ∈ TW := walk_tw LW24_w LW24_g (i := 18) rfl
theorem fl_X13_155 : flw RX13 155 13 4 ∈ TW := walk_tw LW24_w LW24_g (i := 19) rfl
theorem fl_X13_13 : flw RX13 13 13 5 ∈ TW := walk_tw LW24_w LW24_g (i := 20) rfl
theorem fl_X13_296 : flw RX13 296 13 6 ∈ TW := walk_tw LW24_w LW24_g (i := 21) rfl
theorem fl_X13_66 : flw RX13 66 13 7 ∈ TW := walk_tw LW24_w LW24_g (i := 22) rfl
theorem fl_X13_84 : flw RX13 84 13 8 ∈ TW := walk_tw LW24_w LW24_g (i := 23) rfl
theorem fl_X13_81 : flw RX13 81 13 9 ∈ TW := walk_tw LW24_w LW24_g (i := 24) rfl
theorem fl_X13_90 : flw RX13 90 13 10 ∈ TW := walk_tw LW24_w LW24_g (i := 25) rfl
theorem fl_X13_104 : flw RX13 104 13 11 ∈ TW := walk_tw LW24_w LW24_g (i := 26) rfl
theorem fl_X13_107 : flw RX13 107 13 12 ∈ TW := walk_tw LW24_w LW24_g (i := 27) rfl
theorem fl_X13_110 : flw RX13 110 13 13 ∈ TW := walk_tw LW24_w LW24_g (i := 28) rfl
theorem fl_X13_97 : flw RX13 97 13 14 ∈ TW := walk_tw LW24_w LW24_g (i := 29) rfl
theorem fl_X13_17 : flw RX13 17 13 15 ∈ TW := walk_tw LW24_w LW24_g (i := 30) rfl
theorem fl_X13_21 : flw RX13 21 13 16 ∈ TW := walk_tw LW24_w LW24_g (i := 31) rfl
def LW25 : List (Nat × Cond) := [(1376, flw RX13 24 13 17), (0, flw RX13 27 13 18), (0, flw RX13 308 13 19), (0, flw RX13 311 13 20), (0, flw RX13 30 13 21), (0, flw RX13 33 13 22), (0, flw RX13 370 13 23), (0, flw RX13 36 13 24), (0, flw RX13 39 13 25), (0, flw RX13 410 13 26), (0, flw RX13 413 13 27), (0, flw RX13 416 13 28), (0, flw RX13 42 13 29), (0, flw RX13 425 13 30), (0, flw RX13 45 13 31), (0, flw RX13 458 13 32), (79, Cond.methodLink RX13 55 yX13_refused), (1, Cond.instanceMethod yX13_refused), (0, Cond.code yX13_refused cX13_refused 2 (some .int)), (0, Cond.classLink RX13 160 RX12), (0, Cond.instantiable RX12 21), (1, Cond.instanceMethod yX12_init), (0, Cond.code yX12_init cX12_init 1 none), (0, Cond.methodLink RX12 3 objectInit), (2, flw RX12 56 12 2), (2, flw RX12 59 12 5), (1, flw RX12 62 12 6), (1, flw RX12 52 12 7), (1, flw RX12 9 12 8), (1, flw RX12 15 12 9), (1, flw RX12 18 12 10), (1, flw RX12 21 12 11)]
theorem LW25_w : walkI LW25 lw_tbl = true := by decide +kernel
theorem LW25_g : LW25.all (fun q => goodWord q.2) = true := by decide +kernel
theorem fl_X13_24 : flw RX13 24 13 17 ∈ TW := walk_tw LW25_w LW25_g (i := 0) rfl
theorem fl_X13_27 : flw RX13 27 13 18 ∈ TW := walk_tw LW25_w LW25_g (i := 1) rfl
theorem fl_X13_308 : flw RX13 308 13 19 ∈ TW := walk_tw LW25_w LW25_g (i := 2) rfl
theorem fl_X13_311 : flw RX13 311 13 20 ∈ TW := walk_tw LW25_w LW25_g (i := 3) rfl
theorem fl_X13_30 : flw RX13 30 13 21 ∈ TW := walk_tw LW25_w LW25_g (i := 4) rfl
theorem fl_X13_33 : flw RX13 33 13 22 ∈ TW := walk_tw LW25_w LW25_g (i := 5) rfl
theorem fl_X13_370 : flw RX13 370 13 23 ∈ TW := walk_tw LW25_w LW25_g (i := 6) rfl
theorem fl_X13_36 : flw RX13 36 13 24 ∈ TW := walk_tw LW25_w LW25_g (i := 7) rfl
theorem fl_X13_39 : flw RX13 39 13 25 ∈ TW := walk_tw LW25_w LW25_g (i := 8) rfl
theorem fl_X13_410 : flw RX13 410 13 26 ∈ TW := walk_tw LW25_w LW25_g (i := 9) rfl
theorem fl_X13_413 : flw RX13 413 13 27 ∈ TW := walk_tw LW25_w LW25_g (i := 10) rfl
theorem fl_X13_416 : flw RX13 416 13 28 ∈ TW := walk_tw LW25_w LW25_g (i := 11) rfl
theorem fl_X13_42 : flw RX13 42 13 29 ∈ TW := walk_tw LW25_w LW25_g (i := 12) rfl
theorem fl_X13_425 : flw RX13 425 13 30 ∈ TW := walk_tw LW25_w LW25_g (i := 13) rfl
theorem fl_X13_45 : flw RX13 45 13 31 ∈ TW := walk_tw LW25_w LW25_g (i := 14) rfl
theorem fl_X13_458 : flw RX13 458 13 32 ∈ TW := walk_tw LW25_w LW25_g (i := 15) rfl
theorem ml_X13_55 : Cond.methodLink RX13 55 yX13_refused ∈ TW := walk_tw LW25_w LW25_g (i := 16) rfl
theorem im_X13_refused : Cond.instanceMethod yX13_refused ∈ TW := walk_tw LW25_w LW25_g (i := 17) rfl
theorem cd_X13_refused : Cond.code yX13_refused cX13_refused 2 (some .int) ∈ TW := walk_tw LW25_w LW25_g (i := 18) rfl
theorem cl_X13_160 : Cond.classLink RX13 160 RX12 ∈ TW := walk_tw LW25_w LW25_g (i := 19) rfl
theorem in_X12 : Cond.instantiable RX12 21 ∈ TW := walk_tw LW25_w LW25_g (i := 20) rfl
theorem im_X12_init : Cond.instanceMethod yX12_init ∈ TW := walk_tw LW25_w LW25_g (i := 21) rfl
theorem cd_X12_init : Cond.code yX12_init cX12_init 1 none ∈ TW := walk_tw LW25_w LW25_g (i := 22) rfl
theorem ml_X12_3 : Cond.methodLink RX12 3 objectInit ∈ TW := walk_tw LW25_w LW25_g (i := 23) rfl
theorem fl_X12_56 : flw RX12 56 12 2 ∈ TW := walk_tw LW25_w LW25_g (i := 24) rfl
theorem fl_X12_59 : flw RX12 59 12 5 ∈ TW := walk_tw LW25_w LW25_g (i := 25) rfl
theorem fl_X12_62 : flw RX12 62 12 6 ∈ TW := walk_tw LW25_w LW25_g (i := 26) rfl
theorem fl_X12_52 : flw RX12 52 12 7 ∈ TW := walk_tw LW25_w LW25_g (i := 27) rfl
theorem fl_X12_9 : flw RX12 9 12 8 ∈ TW := walk_tw LW25_w LW25_g (i := 28) rfl
theorem fl_X12_15 : flw RX12 15 12 9 ∈ TW := walk_tw LW25_w LW25_g (i := 29) rfl
theorem fl_X12_18 : flw RX12 18 12 10 ∈ TW := walk_tw LW25_w LW25_g (i := 30) rfl
theorem fl_X12_21 : flw RX12 21 12 11 ∈ TW := walk_tw LW25_w LW25_g (i := 31) rfl
def LW26 : List (Nat × Cond) := [(1500, flw RX12 24 12 12), (1, flw RX12 27 12 13), (1, flw RX12 30 12 14), (1, flw RX12 33 12 15), (1, flw RX12 36 12 16), (1, flw RX12 39 12 17), (1, flw RX12 42 12 18), (1, flw RX12 46 12 19), (1, flw RX12 49 12 20), (44, Cond.methodLink RX13 117 yX13_goesOn), (1, Cond.instanceMethod yX13_goesOn), (0, Cond.code yX13_goesOn cX13_goesOn 3 none), (0, Cond.methodLink RX13 87 yX13_byteAt), (1, Cond.instanceMethod yX13_byteAt), (0, Cond.code yX13_byteAt cX13_byteAt 2 (some .int)), (0, Cond.methodLink RX13 93 yX13_isLetter), (0, Cond.static yX13_isLetter), (0, Cond.code yX13_isLetter cX13_isLetter 1 (some .boolean)), (0, Cond.constantLong RX13 75 32), (0, Cond.methodLink RX13 101 yX13_isDigit), (0, Cond.static yX13_isDigit), (0, Cond.code yX13_isDigit cX13_isDigit 1 (some .boolean)), (0, Cond.methodLink RX13 300 yX13_readAll), (1, Cond.instanceMethod yX13_readAll), (0, Cond.code yX13_readAll cX13_readAll 2 none), (0, Cond.methodLink RX13 187 yX13_readLine), (1, Cond.instanceMethod yX13_readLine), (0, Cond.code yX13_readLine cX13_readLine 1 none), (1, Cond.methodLink RX13 120 yX13_isWord), (1, Cond.instanceMethod yX13_isWord), (0, Cond.code yX13_isWord cX13_isWord 2 (some .boolean)), (0, Cond.methodLink RX13 113 yX13_packed)]
theorem LW26_w : walkI LW26 lw_tbl = true := by decide +kernel
theorem LW26_g : LW26.all (fun q => goodWord q.2) = true := by decide +kernel
theorem fl_X12_24 : flw RX12 24 12 12 ∈ TW := walk_tw LW26_w LW26_g (i := 0) rfl
theorem fl_X12_27 : flw RX12 27 12 13 ∈ TW := walk_tw LW26_w LW26_g (i := 1) rfl
theorem fl_X12_30 : flw RX12 30 12 14 ∈ TW := walk_tw LW26_w LW26_g (i := 2) rfl
theorem fl_X12_33 : flw RX12 33 12 15 ∈ TW := walk_tw LW26_w LW26_g (i := 3) rfl
theorem fl_X12_36 : flw RX12 36 12 16 ∈ TW := walk_tw LW26_w LW26_g (i := 4) rfl
theorem fl_X12_39 : flw RX12 39 12 17 ∈ TW := walk_tw LW26_w LW26_g (i := 5) rfl
theorem fl_X12_42 : flw RX12 42 12 18 ∈ TW := walk_tw LW26_w LW26_g (i := 6) rfl
theorem fl_X12_46 : flw RX12 46 12 19 ∈ TW := walk_tw LW26_w LW26_g (i := 7) rfl
theorem fl_X12_49 : flw RX12 49 12 20 ∈ TW := walk_tw LW26_w LW26_g (i := 8) rfl
theorem ml_X13_117 : Cond.methodLink RX13 117 yX13_goesOn ∈ TW := walk_tw LW26_w LW26_g (i := 9) rfl
theorem im_X13_goesOn : Cond.instanceMethod yX13_goesOn ∈ TW := walk_tw LW26_w LW26_g (i := 10) rfl
theorem cd_X13_goesOn : Cond.code yX13_goesOn cX13_goesOn 3 none ∈ TW := walk_tw LW26_w LW26_g (i := 11) rfl
theorem ml_X13_87 : Cond.methodLink RX13 87 yX13_byteAt ∈ TW := walk_tw LW26_w LW26_g (i := 12) rfl
theorem im_X13_byteAt : Cond.instanceMethod yX13_byteAt ∈ TW := walk_tw LW26_w LW26_g (i := 13) rfl
theorem cd_X13_byteAt : Cond.code yX13_byteAt cX13_byteAt 2 (some .int) ∈ TW := walk_tw LW26_w LW26_g (i := 14) rfl
theorem ml_X13_93 : Cond.methodLink RX13 93 yX13_isLetter ∈ TW := walk_tw LW26_w LW26_g (i := 15) rfl
theorem sm_X13_isLetter : Cond.static yX13_isLetter ∈ TW := walk_tw LW26_w LW26_g (i := 16) rfl
theorem cd_X13_isLetter : Cond.code yX13_isLetter cX13_isLetter 1 (some .boolean) ∈ TW := walk_tw LW26_w LW26_g (i := 17) rfl
theorem cw_X13_75 : Cond.constantLong RX13 75 32 ∈ TW := walk_tw LW26_w LW26_g (i := 18) rfl
theorem ml_X13_101 : Cond.methodLink RX13 101 yX13_isDigit ∈ TW := walk_tw LW26_w LW26_g (i := 19) rfl
theorem sm_X13_isDigit : Cond.static yX13_isDigit ∈ TW := walk_tw LW26_w LW26_g (i := 20) rfl
theorem cd_X13_isDigit : Cond.code yX13_isDigit cX13_isDigit 1 (some .boolean) ∈ TW := walk_tw LW26_w LW26_g (i := 21) rfl
theorem ml_X13_300 : Cond.methodLink RX13 300 yX13_readAll ∈ TW := walk_tw LW26_w LW26_g (i := 22) rfl
theorem im_X13_readAll : Cond.instanceMethod yX13_readAll ∈ TW := walk_tw LW26_w LW26_g (i := 23) rfl
theorem cd_X13_readAll : Cond.code yX13_readAll cX13_readAll 2 none ∈ TW := walk_tw LW26_w LW26_g (i := 24) rfl
theorem ml_X13_187 : Cond.methodLink RX13 187 yX13_readLine ∈ TW := walk_tw LW26_w LW26_g (i := 25) rfl
theorem im_X13_readLine : Cond.instanceMethod yX13_readLine ∈ TW := walk_tw LW26_w LW26_g (i := 26) rfl
theorem cd_X13_readLine : Cond.code yX13_readLine cX13_readLine 1 none ∈ TW := walk_tw LW26_w LW26_g (i := 27) rfl
theorem ml_X13_120 : Cond.methodLink RX13 120 yX13_isWord ∈ TW := walk_tw LW26_w LW26_g (i := 28) rfl
theorem im_X13_isWord : Cond.instanceMethod yX13_isWord ∈ TW := walk_tw LW26_w LW26_g (i := 29) rfl
theorem cd_X13_isWord : Cond.code yX13_isWord cX13_isWord 2 (some .boolean) ∈ TW := walk_tw LW26_w LW26_g (i := 30) rfl
theorem ml_X13_113 : Cond.methodLink RX13 113 yX13_packed ∈ TW := walk_tw LW26_w LW26_g (i := 31) rfl
def LW27 : List (Nat × Cond) := [(1590, Cond.static yX13_packed), (0, Cond.code yX13_packed cX13_packed 4 (some .long)), (0, Cond.methodLink RX13 69 yJ0_length_8abf5), (0, Cond.methodLink RX13 77 yJ0_charAt_5068e), (0, Cond.methodLink RX13 196 yX13_readTown), (1, Cond.instanceMethod yX13_readTown), (0, Cond.code yX13_readTown cX13_readTown 3 none), (0, Cond.methodLink RX13 124 yX13_flaw), (1, Cond.instanceMethod yX13_flaw), (0, Cond.code yX13_flaw cX13_flaw 2 none), (1, Cond.methodLink RX13 215 yX13_readPart), (1, Cond.instanceMethod yX13_readPart), (0, Cond.code yX13_readPart cX13_readPart 4 (some .int)), (0, Cond.methodLink RX13 136 yX13_needs), (1, Cond.instanceMethod yX13_needs), (0, Cond.code yX13_needs cX13_needs 2 none), (0, Cond.methodLink RX13 140 yX13_readWhole), (1, Cond.instanceMethod yX13_readWhole), (0, Cond.code yX13_readWhole cX13_readWhole 4 (some .int)), (0, Cond.methodLink RX13 132 yX13_wholeAt), (1, Cond.instanceMethod yX13_wholeAt), (0, Cond.code yX13_wholeAt cX13_wholeAt 3 (some .int)), (0, Cond.methodLink RX13 128 yX13_in), (0, Cond.static yX13_in), (0, Cond.code yX13_in cX13_in 3 (some .boolean)), (2, Cond.methodLink RX13 199 yX13_readPerson), (1, Cond.instanceMethod yX13_readPerson), (0, Cond.code yX13_readPerson cX13_readPerson 4 none), (0, Cond.methodLink RX13 223 yX13_lineBegins), (1, Cond.instanceMethod yX13_lineBegins), (0, Cond.code yX13_lineBegins cX13_lineBegins 3 none), (0, Cond.methodLink RX13 227 yX13_readFresh)]
theorem LW27_w : walkI LW27 lw_tbl = true := by decide +kernel
theorem LW27_g : LW27.all (fun q => goodWord q.2) = true := by decide +kernel
theorem sm_X13_packed : Cond.static yX13_packed ∈ TW := walk_tw LW27_w LW27_g (i := 0) rfl
theorem cd_X13_packed : Cond.code yX13_packed cX13_packed 4 (some .long) ∈ TW := walk_tw LW27_w LW27_g (i := 1) rfl
theorem ml_X13_69 : Cond.methodLink RX13 69 yJ0_length_8abf5 ∈ TW := walk_tw LW27_w LW27_g (i := 2) rfl
theorem ml_X13_77 : Cond.methodLink RX13 77 yJ0_charAt_5068e ∈ TW := walk_tw LW27_w LW27_g (i := 3) rfl
theorem ml_X13_196 : Cond.methodLink RX13 196 yX13_readTown ∈ TW := walk_tw LW27_w LW27_g (i := 4) rfl
theorem im_X13_readTown : Cond.instanceMethod yX13_readTown ∈ TW := walk_tw LW27_w LW27_g (i := 5) rfl
theorem cd_X13_readTown : Cond.code yX13_readTown cX13_readTown 3 none ∈ TW := walk_tw LW27_w LW27_g (i := 6) rfl
theorem ml_X13_124 : Cond.methodLink RX13 124 yX13_flaw ∈ TW := walk_tw LW27_w LW27_g (i := 7) rfl
theorem im_X13_flaw : Cond.instanceMethod yX13_flaw ∈ TW := walk_tw LW27_w LW27_g (i := 8) rfl
theorem cd_X13_flaw : Cond.code yX13_flaw cX13_flaw 2 none ∈ TW := walk_tw LW27_w LW27_g (i := 9) rfl
theorem ml_X13_215 : Cond.methodLink RX13 215 yX13_readPart ∈ TW := walk_tw LW27_w LW27_g (i := 10) rfl
theorem im_X13_readPart : Cond.instanceMethod yX13_readPart ∈ TW := walk_tw LW27_w LW27_g (i := 11) rfl
theorem cd_X13_readPart : Cond.code yX13_readPart cX13_readPart 4 (some .int) ∈ TW := walk_tw LW27_w LW27_g (i := 12) rfl
theorem ml_X13_136 : Cond.methodLink RX13 136 yX13_needs ∈ TW := walk_tw LW27_w LW27_g (i := 13) rfl
theorem im_X13_needs : Cond.instanceMethod yX13_needs ∈ TW := walk_tw LW27_w LW27_g (i := 14) rfl
theorem cd_X13_needs : Cond.code yX13_needs cX13_needs 2 none ∈ TW := walk_tw LW27_w LW27_g (i := 15) rfl
theorem ml_X13_140 : Cond.methodLink RX13 140 yX13_readWhole ∈ TW := walk_tw LW27_w LW27_g (i := 16) rfl
theorem im_X13_readWhole : Cond.instanceMethod yX13_readWhole ∈ TW := walk_tw LW27_w LW27_g (i := 17) rfl
theorem cd_X13_readWhole : Cond.code yX13_readWhole cX13_readWhole 4 (some .int) ∈ TW := walk_tw LW27_w LW27_g (i := 18) rfl
theorem ml_X13_132 : Cond.methodLink RX13 132 yX13_wholeAt ∈ TW := walk_tw LW27_w LW27_g (i := 19) rfl
theorem im_X13_wholeAt : Cond.instanceMethod yX13_wholeAt ∈ TW := walk_tw LW27_w LW27_g (i := 20) rfl
theorem cd_X13_wholeAt : Cond.code yX13_wholeAt cX13_wholeAt 3 (some .int) ∈ TW := walk_tw LW27_w LW27_g (i := 21) rfl
theorem ml_X13_128 : Cond.methodLink RX13 128 yX13_in ∈ TW := walk_tw LW27_w LW27_g (i := 22) rfl
theorem sm_X13_in : Cond.static yX13_in ∈ TW := walk_tw LW27_w LW27_g (i := 23) rfl
theorem cd_X13_in : Cond.code yX13_in cX13_in 3 (some .boolean) ∈ TW := walk_tw LW27_w LW27_g (i := 24) rfl
theorem ml_X13_199 : Cond.methodLink RX13 199 yX13_readPerson ∈ TW := walk_tw LW27_w LW27_g (i := 25) rfl
theorem im_X13_readPerson : Cond.instanceMethod yX13_readPerson ∈ TW := walk_tw LW27_w LW27_g (i := 26) rfl
theorem cd_X13_readPerson : Cond.code yX13_readPerson cX13_readPerson 4 none ∈ TW := walk_tw LW27_w LW27_g (i := 27) rfl
theorem ml_X13_223 : Cond.methodLink RX13 223 yX13_lineBegins ∈ TW := walk_tw LW27_w LW27_g (i := 28) rfl
theorem im_X13_lineBegins : Cond.instanceMethod yX13_lineBegins ∈ TW := walk_tw LW27_w LW27_g (i := 29) rfl
theorem cd_X13_lineBegins : Cond.code yX13_lineBegins cX13_lineBegins 3 none ∈ TW := walk_tw LW27_w LW27_g (i := 30) rfl
theorem ml_X13_227 : Cond.methodLink RX13 227 yX13_readFresh ∈ TW := walk_tw LW27_w LW27_g (i := 31) rfl
def LW28 : List (Nat × Cond) := [(1634, Cond.instanceMethod yX13_readFresh), (0, Cond.code yX13_readFresh cX13_readFresh 3 (some .long)), (0, Cond.methodLink RX13 164 yX13_isName), (1, Cond.instanceMethod yX13_isName), (0, Cond.code yX13_isName cX13_isName 1 (some .boolean)), (4, Cond.methodLink RX13 168 yX12_find), (0, Cond.instanceMethod yX12_find), (0, Cond.selects RX12 yX12_find yX12_find), (0, Cond.code yX12_find cX12_find 4 (some .int)), (1, Cond.methodLink RX13 233 yX12_isTaken), (0, Cond.instanceMethod yX12_isTaken), (0, Cond.selects RX12 yX12_isTaken yX12_isTaken), (0, Cond.code yX12_isTaken cX12_isTaken 3 (some .boolean)), (0, Cond.methodLink RX13 236 yX13_names), (1, Cond.instanceMethod yX13_names), (0, Cond.code yX13_names cX13_names 5 none), (0, Cond.methodLink RX13 202 yX13_readDead), (1, Cond.instanceMethod yX13_readDead), (0, Cond.code yX13_readDead cX13_readDead 6 none), (6, Cond.methodLink RX13 255 yX13_readKnown), (1, Cond.instanceMethod yX13_readKnown), (0, Cond.code yX13_readKnown cX13_readKnown 3 (some .int)), (0, Cond.methodLink RX13 184 yX13_knownOne), (1, Cond.instanceMethod yX13_knownOne), (0, Cond.code yX13_knownOne cX13_knownOne 3 (some .int)), (0, Cond.methodLink RX13 205 yX13_readMirror), (1, Cond.instanceMethod yX13_readMirror), (0, Cond.code yX13_readMirror cX13_readMirror 3 none), (0, Cond.methodLink RX13 208 yX13_readUnsure), (1, Cond.instanceMethod yX13_readUnsure), (0, Cond.code yX13_readUnsure cX13_readUnsure 3 none), (0, Cond.methodLink RX13 271 yX12_isUnsure)]
theorem LW28_w : walkI LW28 lw_tbl = true := by decide +kernel
theorem LW28_g : LW28.all (fun q => goodWord q.2) = true := by decide +kernel
theorem im_X13_readFresh : Cond.instanceMethod yX13_readFresh ∈ TW := walk_tw LW28_w LW28_g (i := 0) rfl
theorem cd_X13_readFresh : Cond.code yX13_readFresh cX13_readFresh 3 (some .long) ∈ TW := walk_tw LW28_w LW28_g (i := 1) rfl
theorem ml_X13_164 : Cond.methodLink RX13 164 yX13_isName ∈ TW := walk_tw LW28_w LW28_g (i := 2) rfl
theorem im_X13_isName : Cond.instanceMethod yX13_isName ∈ TW := walk_tw LW28_w LW28_g (i := 3) rfl
theorem cd_X13_isName : Cond.code yX13_isName cX13_isName 1 (some .boolean) ∈ TW := walk_tw LW28_w LW28_g (i := 4) rfl
theorem ml_X13_168 : Cond.methodLink RX13 168 yX12_find ∈ TW := walk_tw LW28_w LW28_g (i := 5) rfl
theorem im_X12_find : Cond.instanceMethod yX12_find ∈ TW := walk_tw LW28_w LW28_g (i := 6) rfl
theorem se_X12_find : Cond.selects RX12 yX12_find yX12_find ∈ TW := walk_tw LW28_w LW28_g (i := 7) rfl
theorem cd_X12_find : Cond.code yX12_find cX12_find 4 (some .int) ∈ TW := walk_tw LW28_w LW28_g (i := 8) rfl
theorem ml_X13_233 : Cond.methodLink RX13 233 yX12_isTaken ∈ TW := walk_tw LW28_w LW28_g (i := 9) rfl
theorem im_X12_isTaken : Cond.instanceMethod yX12_isTaken ∈ TW := walk_tw LW28_w LW28_g (i := 10) rfl
theorem se_X12_isTaken : Cond.selects RX12 yX12_isTaken yX12_isTaken ∈ TW := walk_tw LW28_w LW28_g (i := 11) rfl
theorem cd_X12_isTaken : Cond.code yX12_isTaken cX12_isTaken 3 (some .boolean) ∈ TW := walk_tw LW28_w LW28_g (i := 12) rfl
theorem ml_X13_236 : Cond.methodLink RX13 236 yX13_names ∈ TW := walk_tw LW28_w LW28_g (i := 13) rfl
theorem im_X13_names : Cond.instanceMethod yX13_names ∈ TW := walk_tw LW28_w LW28_g (i := 14) rfl
theorem cd_X13_names : Cond.code yX13_names cX13_names 5 none ∈ TW := walk_tw LW28_w LW28_g (i := 15) rfl
theorem ml_X13_202 : Cond.methodLink RX13 202 yX13_readDead ∈ TW := walk_tw LW28_w LW28_g (i := 16) rfl
theorem im_X13_readDead : Cond.instanceMethod yX13_readDead ∈ TW := walk_tw LW28_w LW28_g (i := 17) rfl
theorem cd_X13_readDead : Cond.code yX13_readDead cX13_readDead 6 none ∈ TW := walk_tw LW28_w LW28_g (i := 18) rfl
theorem ml_X13_255 : Cond.methodLink RX13 255 yX13_readKnown ∈ TW := walk_tw LW28_w LW28_g (i := 19) rfl
theorem im_X13_readKnown : Cond.instanceMethod yX13_readKnown ∈ TW := walk_tw LW28_w LW28_g (i := 20) rfl
theorem cd_X13_readKnown : Cond.code yX13_readKnown cX13_readKnown 3 (some .int) ∈ TW := walk_tw LW28_w LW28_g (i := 21) rfl
theorem ml_X13_184 : Cond.methodLink RX13 184 yX13_knownOne ∈ TW := walk_tw LW28_w LW28_g (i := 22) rfl
theorem im_X13_knownOne : Cond.instanceMethod yX13_knownOne ∈ TW := walk_tw LW28_w LW28_g (i := 23) rfl
theorem cd_X13_knownOne : Cond.code yX13_knownOne cX13_knownOne 3 (some .int) ∈ TW := walk_tw LW28_w LW28_g (i := 24) rfl
theorem ml_X13_205 : Cond.methodLink RX13 205 yX13_readMirror ∈ TW := walk_tw LW28_w LW28_g (i := 25) rfl
theorem im_X13_readMirror : Cond.instanceMethod yX13_readMirror ∈ TW := walk_tw LW28_w LW28_g (i := 26) rfl
theorem cd_X13_readMirror : Cond.code yX13_readMirror cX13_readMirror 3 none ∈ TW := walk_tw LW28_w LW28_g (i := 27) rfl
theorem ml_X13_208 : Cond.methodLink RX13 208 yX13_readUnsure ∈ TW := walk_tw LW28_w LW28_g (i := 28) rfl
theorem im_X13_readUnsure : Cond.instanceMethod yX13_readUnsure ∈ TW := walk_tw LW28_w LW28_g (i := 29) rfl
theorem cd_X13_readUnsure : Cond.code yX13_readUnsure cX13_readUnsure 3 none ∈ TW := walk_tw LW28_w LW28_g (i := 30) rfl
theorem ml_X13_271 : Cond.methodLink RX13 271 yX12_isUnsure ∈ TW := walk_tw LW28_w LW28_g (i := 31) rfl
def LW29 : List (Nat × Cond) := [(1684, Cond.instanceMethod yX12_isUnsure), (0, Cond.selects RX12 yX12_isUnsure yX12_isUnsure), (0, Cond.code yX12_isUnsure cX12_isUnsure 3 (some .boolean)), (0, Cond.methodLink RX13 211 yX13_readHeard), (1, Cond.instanceMethod yX13_readHeard), (0, Cond.code yX13_readHeard cX13_readHeard 4 none), (1, Cond.methodLink RX13 284 yX12_isHeard), (0, Cond.instanceMethod yX12_isHeard), (0, Cond.selects RX12 yX12_isHeard yX12_isHeard), (0, Cond.code yX12_isHeard cX12_isHeard 4 (some .boolean)), (0, Cond.methodLink RX13 190 yX13_eatsSemicolon), (1, Cond.instanceMethod yX13_eatsSemicolon), (0, Cond.code yX13_eatsSemicolon cX13_eatsSemicolon 2 (some .boolean)), (0, Cond.methodLink RX13 305 yX13_asTold), (1, Cond.instanceMethod yX13_asTold), (0, Cond.code yX13_asTold cX13_asTold 3 none), (0, Cond.methodLink RX13 314 yX13_bit), (0, Cond.static yX13_bit), (0, Cond.code yX13_bit cX13_bit 2 (some .boolean)), (0, Cond.methodLink RX13 59 yX13_good), (1, Cond.instanceMethod yX13_good), (0, Cond.code yX13_good cX13_good 2 (some .int)), (12, Cond.methodLink RX13 339 yX13_isPerson), (1, Cond.instanceMethod yX13_isPerson), (0, Cond.code yX13_isPerson cX13_isPerson 2 (some .boolean)), (0, Cond.methodLink RX13 342 yX13_works), (1, Cond.instanceMethod yX13_works), (0, Cond.code yX13_works cX13_works 2 none), (0, Cond.methodLink RX13 345 yX13_heardOf), (1, Cond.instanceMethod yX13_heardOf), (0, Cond.code yX13_heardOf cX13_heardOf 5 (some .int)), (0, Cond.methodLink RX13 333 yX13_whoHears)]
theorem LW29_w : walkI LW29 lw_tbl = true := by decide +kernel
theorem LW29_g : LW29.all (fun q => goodWord q.2) = true := by decide +kernel
theorem im_X12_isUnsure : Cond.instanceMethod yX12_isUnsure ∈ TW := walk_tw LW29_w LW29_g (i := 0) rfl
theorem se_X12_isUnsure : Cond.selects RX12 yX12_isUnsure yX12_isUnsure ∈ TW := walk_tw LW29_w LW29_g (i := 1) rfl
theorem cd_X12_isUnsure : Cond.code yX12_isUnsure cX12_isUnsure 3 (some .boolean) ∈ TW := walk_tw LW29_w LW29_g (i := 2) rfl
theorem ml_X13_211 : Cond.methodLink RX13 211 yX13_readHeard ∈ TW := walk_tw LW29_w LW29_g (i := 3) rfl
theorem im_X13_readHeard : Cond.instanceMethod yX13_readHeard ∈ TW := walk_tw LW29_w LW29_g (i := 4) rfl
theorem cd_X13_readHeard : Cond.code yX13_readHeard cX13_readHeard 4 none ∈ TW := walk_tw LW29_w LW29_g (i := 5) rfl
theorem ml_X13_284 : Cond.methodLink RX13 284 yX12_isHeard ∈ TW := walk_tw LW29_w LW29_g (i := 6) rfl
theorem im_X12_isHeard : Cond.instanceMethod yX12_isHeard ∈ TW := walk_tw LW29_w LW29_g (i := 7) rfl
theorem se_X12_isHeard : Cond.selects RX12 yX12_isHeard yX12_isHeard ∈ TW := walk_tw LW29_w LW29_g (i := 8) rfl
theorem cd_X12_isHeard : Cond.code yX12_isHeard cX12_isHeard 4 (some .boolean) ∈ TW := walk_tw LW29_w LW29_g (i := 9) rfl
theorem ml_X13_190 : Cond.methodLink RX13 190 yX13_eatsSemicolon ∈ TW := walk_tw LW29_w LW29_g (i := 10) rfl
theorem im_X13_eatsSemicolon : Cond.instanceMethod yX13_eatsSemicolon ∈ TW := walk_tw LW29_w LW29_g (i := 11) rfl
theorem cd_X13_eatsSemicolon : Cond.code yX13_eatsSemicolon cX13_eatsSemicolon 2 (some .boolean) ∈ TW := walk_tw LW29_w LW29_g (i := 12) rfl
theorem ml_X13_305 : Cond.methodLink RX13 305 yX13_asTold ∈ TW := walk_tw LW29_w LW29_g (i := 13) rfl
theorem im_X13_asTold : Cond.instanceMethod yX13_asTold ∈ TW := walk_tw LW29_w LW29_g (i := 14) rfl
theorem cd_X13_asTold : Cond.code yX13_asTold cX13_asTold 3 none ∈ TW := walk_tw LW29_w LW29_g (i := 15) rfl
theorem ml_X13_314 : Cond.methodLink RX13 314 yX13_bit ∈ TW := walk_tw LW29_w LW29_g (i := 16) rfl
theorem sm_X13_bit : Cond.static yX13_bit ∈ TW := walk_tw LW29_w LW29_g (i := 17) rfl
theorem cd_X13_bit : Cond.code yX13_bit cX13_bit 2 (some .boolean) ∈ TW := walk_tw LW29_w LW29_g (i := 18) rfl
theorem ml_X13_59 : Cond.methodLink RX13 59 yX13_good ∈ TW := walk_tw LW29_w LW29_g (i := 19) rfl
theorem im_X13_good : Cond.instanceMethod yX13_good ∈ TW := walk_tw LW29_w LW29_g (i := 20) rfl
theorem cd_X13_good : Cond.code yX13_good cX13_good 2 (some .int) ∈ TW := walk_tw LW29_w LW29_g (i := 21) rfl
theorem ml_X13_339 : Cond.methodLink RX13 339 yX13_isPerson ∈ TW := walk_tw LW29_w LW29_g (i := 22) rfl
theorem im_X13_isPerson : Cond.instanceMethod yX13_isPerson ∈ TW := walk_tw LW29_w LW29_g (i := 23) rfl
theorem cd_X13_isPerson : Cond.code yX13_isPerson cX13_isPerson 2 (some .boolean) ∈ TW := walk_tw LW29_w LW29_g (i := 24) rfl
theorem ml_X13_342 : Cond.methodLink RX13 342 yX13_works ∈ TW := walk_tw LW29_w LW29_g (i := 25) rfl
theorem im_X13_works : Cond.instanceMethod yX13_works ∈ TW := walk_tw LW29_w LW29_g (i := 26) rfl
theorem cd_X13_works : Cond.code yX13_works cX13_works 2 none ∈ TW := walk_tw LW29_w LW29_g (i := 27) rfl
theorem ml_X13_345 : Cond.methodLink RX13 345 yX13_heardOf ∈ TW := walk_tw LW29_w LW29_g (i := 28) rfl
theorem im_X13_heardOf : Cond.instanceMethod yX13_heardOf ∈ TW := walk_tw LW29_w LW29_g (i := 29) rfl
theorem cd_X13_heardOf : Cond.code yX13_heardOf cX13_heardOf 5 (some .int) ∈ TW := walk_tw LW29_w LW29_g (i := 30) rfl
theorem ml_X13_333 : Cond.methodLink RX13 333 yX13_whoHears ∈ TW := walk_tw LW29_w LW29_g (i := 31) rfl
def LW30 : List (Nat × Cond) := [(1737, Cond.instanceMethod yX13_whoHears), (0, Cond.code yX13_whoHears cX13_whoHears 3 (some .int)), (0, Cond.methodLink RX13 323 yX13_aimOf), (1, Cond.instanceMethod yX13_aimOf), (0, Cond.code yX13_aimOf cX13_aimOf 2 (some .int)), (0, Cond.methodLink RX13 326 yX13_outOf), (1, Cond.instanceMethod yX13_outOf), (0, Cond.code yX13_outOf cX13_outOf 9 (some .int)), (0, Cond.methodLink RX13 317 yX13_around), (1, Cond.instanceMethod yX13_around), (0, Cond.code yX13_around cX13_around 3 (some .int)), (0, Cond.methodLink RX13 330 yX13_heardFrom), (1, Cond.instanceMethod yX13_heardFrom), (0, Cond.code yX13_heardFrom cX13_heardFrom 3 (some .int)), (0, Cond.methodLink RX13 320 yX13_whoIn), (1, Cond.instanceMethod yX13_whoIn), (0, Cond.code yX13_whoIn cX13_whoIn 3 (some .int)), (4, Cond.methodLink RX13 348 yX13_isDead), (1, Cond.instanceMethod yX13_isDead), (0, Cond.code yX13_isDead cX13_isDead 2 (some .boolean)), (4, Cond.methodLink RX13 351 yX13_isHouse), (1, Cond.instanceMethod yX13_isHouse), (0, Cond.code yX13_isHouse cX13_isHouse 2 (some .boolean)), (4, Cond.methodLink RX13 354 yX13_refusesNight), (1, Cond.instanceMethod yX13_refusesNight), (0, Cond.code yX13_refusesNight cX13_refusesNight 3 (some .int)), (16, Cond.methodLink RX13 358 yX13_rightOn), (1, Cond.instanceMethod yX13_rightOn), (0, Cond.code yX13_rightOn cX13_rightOn 4 (some .int)), (0, Cond.methodLink RX13 336 yX13_isRight), (1, Cond.instanceMethod yX13_isRight), (0, Cond.code yX13_isRight cX13_isRight 3 (some .boolean))]
theorem LW30_w : walkI LW30 lw_tbl = true := by decide +kernel
theorem LW30_g : LW30.all (fun q => goodWord q.2) = true := by decide +kernel
theorem im_X13_whoHears : Cond.instanceMethod yX13_whoHears ∈ TW := walk_tw LW30_w LW30_g (i := 0) rfl
theorem cd_X13_whoHears : Cond.code yX13_whoHears cX13_whoHears 3 (some .int) ∈ TW := walk_tw LW30_w LW30_g (i := 1) rfl
theorem ml_X13_323 : Cond.methodLink RX13 323 yX13_aimOf ∈ TW := walk_tw LW30_w LW30_g (i := 2) rfl
theorem im_X13_aimOf : Cond.instanceMethod yX13_aimOf ∈ TW := walk_tw LW30_w LW30_g (i := 3) rfl
theorem cd_X13_aimOf : Cond.code yX13_aimOf cX13_aimOf 2 (some .int) ∈ TW := walk_tw LW30_w LW30_g (i := 4) rfl
theorem ml_X13_326 : Cond.methodLink RX13 326 yX13_outOf ∈ TW := walk_tw LW30_w LW30_g (i := 5) rfl
theorem im_X13_outOf : Cond.instanceMethod yX13_outOf ∈ TW := walk_tw LW30_w LW30_g (i := 6) rfl
theorem cd_X13_outOf : Cond.code yX13_outOf cX13_outOf 9 (some .int) ∈ TW := walk_tw LW30_w LW30_g (i := 7) rfl
theorem ml_X13_317 : Cond.methodLink RX13 317 yX13_around ∈ TW := walk_tw LW30_w LW30_g (i := 8) rfl
theorem im_X13_around : Cond.instanceMethod yX13_around ∈ TW := walk_tw LW30_w LW30_g (i := 9) rfl
theorem cd_X13_around : Cond.code yX13_around cX13_around 3 (some .int) ∈ TW := walk_tw LW30_w LW30_g (i := 10) rfl
theorem ml_X13_330 : Cond.methodLink RX13 330 yX13_heardFrom ∈ TW := walk_tw LW30_w LW30_g (i := 11) rfl
theorem im_X13_heardFrom : Cond.instanceMethod yX13_heardFrom ∈ TW := walk_tw LW30_w LW30_g (i := 12) rfl
theorem cd_X13_heardFrom : Cond.code yX13_heardFrom cX13_heardFrom 3 (some .int) ∈ TW := walk_tw LW30_w LW30_g (i := 13) rfl
theorem ml_X13_320 : Cond.methodLink RX13 320 yX13_whoIn ∈ TW := walk_tw LW30_w LW30_g (i := 14) rfl
theorem im_X13_whoIn : Cond.instanceMethod yX13_whoIn ∈ TW := walk_tw LW30_w LW30_g (i := 15) rfl
theorem cd_X13_whoIn : Cond.code yX13_whoIn cX13_whoIn 3 (some .int) ∈ TW := walk_tw LW30_w LW30_g (i := 16) rfl
theorem ml_X13_348 : Cond.methodLink RX13 348 yX13_isDead ∈ TW := walk_tw LW30_w LW30_g (i := 17) rfl
theorem im_X13_isDead : Cond.instanceMethod yX13_isDead ∈ TW := walk_tw LW30_w LW30_g (i := 18) rfl
theorem cd_X13_isDead : Cond.code yX13_isDead cX13_isDead 2 (some .boolean) ∈ TW := walk_tw LW30_w LW30_g (i := 19) rfl
theorem ml_X13_351 : Cond.methodLink RX13 351 yX13_isHouse ∈ TW := walk_tw LW30_w LW30_g (i := 20) rfl
theorem im_X13_isHouse : Cond.instanceMethod yX13_isHouse ∈ TW := walk_tw LW30_w LW30_g (i := 21) rfl
theorem cd_X13_isHouse : Cond.code yX13_isHouse cX13_isHouse 2 (some .boolean) ∈ TW := walk_tw LW30_w LW30_g (i := 22) rfl
theorem ml_X13_354 : Cond.methodLink RX13 354 yX13_refusesNight ∈ TW := walk_tw LW30_w LW30_g (i := 23) rfl
theorem im_X13_refusesNight : Cond.instanceMethod yX13_refusesNight ∈ TW := walk_tw LW30_w LW30_g (i := 24) rfl
theorem cd_X13_refusesNight : Cond.code yX13_refusesNight cX13_refusesNight 3 (some .int) ∈ TW := walk_tw LW30_w LW30_g (i := 25) rfl
theorem ml_X13_358 : Cond.methodLink RX13 358 yX13_rightOn ∈ TW := walk_tw LW30_w LW30_g (i := 26) rfl
theorem im_X13_rightOn : Cond.instanceMethod yX13_rightOn ∈ TW := walk_tw LW30_w LW30_g (i := 27) rfl
theorem cd_X13_rightOn : Cond.code yX13_rightOn cX13_rightOn 4 (some .int) ∈ TW := walk_tw LW30_w LW30_g (i := 28) rfl
theorem ml_X13_336 : Cond.methodLink RX13 336 yX13_isRight ∈ TW := walk_tw LW30_w LW30_g (i := 29) rfl
theorem im_X13_isRight : Cond.instanceMethod yX13_isRight ∈ TW := walk_tw LW30_w LW30_g (i := 30) rfl
theorem cd_X13_isRight : Cond.code yX13_isRight cX13_isRight 3 (some .boolean) ∈ TW := walk_tw LW30_w LW30_g (i := 31) rfl
def LW31 : List (Nat × Cond) := [(1811, Cond.methodLink RX13 361 yX13_bits), (0, Cond.static yX13_bits), (0, Cond.code yX13_bits cX13_bits 3 (some .int)), (16, Cond.methodLink RX13 364 yX13_comesRound), (1, Cond.instanceMethod yX13_comesRound), (0, Cond.code yX13_comesRound cX13_comesRound 4 (some .boolean)), (36, Cond.methodLink RX13 376 yX13_seating), (1, Cond.instanceMethod yX13_seating), (0, Cond.code yX13_seating cX13_seating 6 none), (0, Cond.methodLink RX13 367 yX13_frees), (1, Cond.instanceMethod yX13_frees), (0, Cond.code yX13_frees cX13_frees 3 none), (0, Cond.methodLink RX13 373 yX13_seats), (1, Cond.instanceMethod yX13_seats), (0, Cond.code yX13_seats cX13_seats 8 none), (8, Cond.methodLink RX13 382 yX13_areTwo), (1, Cond.instanceMethod yX13_areTwo), (0, Cond.code yX13_areTwo cX13_areTwo 3 (some .boolean)), (0, Cond.methodLink RX13 385 yX13_isLiked), (1, Cond.instanceMethod yX13_isLiked), (0, Cond.code yX13_isLiked cX13_isLiked 5 (some .boolean)), (0, Cond.methodLink RX13 379 yX13_rightFor), (1, Cond.instanceMethod yX13_rightFor), (0, Cond.code yX13_rightFor cX13_rightFor 6 (some .int)), (12, Cond.methodLink RX13 398 yX13_brings), (1, Cond.instanceMethod yX13_brings), (0, Cond.code yX13_brings cX13_brings 9 (some .int)), (0, Cond.methodLink RX13 388 yX13_spreads), (1, Cond.instanceMethod yX13_spreads), (0, Cond.code yX13_spreads cX13_spreads 7 none), (0, Cond.methodLink RX13 392 yX13_behind), (1, Cond.instanceMethod yX13_behind)]
theorem LW31_w : walkI LW31 lw_tbl = true := by decide +kernel
theorem LW31_g : LW31.all (fun q => goodWord q.2) = true := by decide +kernel
theorem ml_X13_361 : Cond.methodLink RX13 361 yX13_bits ∈ TW := walk_tw LW31_w LW31_g (i := 0) rfl
theorem sm_X13_bits : Cond.static yX13_bits ∈ TW := walk_tw LW31_w LW31_g (i := 1) rfl
theorem cd_X13_bits : Cond.code yX13_bits cX13_bits 3 (some .int) ∈ TW := walk_tw LW31_w LW31_g (i := 2) rfl
theorem ml_X13_364 : Cond.methodLink RX13 364 yX13_comesRound ∈ TW := walk_tw LW31_w LW31_g (i := 3) rfl
theorem im_X13_comesRound : Cond.instanceMethod yX13_comesRound ∈ TW := walk_tw LW31_w LW31_g (i := 4) rfl
theorem cd_X13_comesRound : Cond.code yX13_comesRound cX13_comesRound 4 (some .boolean) ∈ TW := walk_tw LW31_w LW31_g (i := 5) rfl
theorem ml_X13_376 : Cond.methodLink RX13 376 yX13_seating ∈ TW := walk_tw LW31_w LW31_g (i := 6) rfl
theorem im_X13_seating : Cond.instanceMethod yX13_seating ∈ TW := walk_tw LW31_w LW31_g (i := 7) rfl
theorem cd_X13_seating : Cond.code yX13_seating cX13_seating 6 none ∈ TW := walk_tw LW31_w LW31_g (i := 8) rfl
theorem ml_X13_367 : Cond.methodLink RX13 367 yX13_frees ∈ TW := walk_tw LW31_w LW31_g (i := 9) rfl
theorem im_X13_frees : Cond.instanceMethod yX13_frees ∈ TW := walk_tw LW31_w LW31_g (i := 10) rfl
theorem cd_X13_frees : Cond.code yX13_frees cX13_frees 3 none ∈ TW := walk_tw LW31_w LW31_g (i := 11) rfl
theorem ml_X13_373 : Cond.methodLink RX13 373 yX13_seats ∈ TW := walk_tw LW31_w LW31_g (i := 12) rfl
theorem im_X13_seats : Cond.instanceMethod yX13_seats ∈ TW := walk_tw LW31_w LW31_g (i := 13) rfl
theorem cd_X13_seats : Cond.code yX13_seats cX13_seats 8 none ∈ TW := walk_tw LW31_w LW31_g (i := 14) rfl
theorem ml_X13_382 : Cond.methodLink RX13 382 yX13_areTwo ∈ TW := walk_tw LW31_w LW31_g (i := 15) rfl
theorem im_X13_areTwo : Cond.instanceMethod yX13_areTwo ∈ TW := walk_tw LW31_w LW31_g (i := 16) rfl
theorem cd_X13_areTwo : Cond.code yX13_areTwo cX13_areTwo 3 (some .boolean) ∈ TW := walk_tw LW31_w LW31_g (i := 17) rfl
theorem ml_X13_385 : Cond.methodLink RX13 385 yX13_isLiked ∈ TW := walk_tw LW31_w LW31_g (i := 18) rfl
theorem im_X13_isLiked : Cond.instanceMethod yX13_isLiked ∈ TW := walk_tw LW31_w LW31_g (i := 19) rfl
theorem cd_X13_isLiked : Cond.code yX13_isLiked cX13_isLiked 5 (some .boolean) ∈ TW := walk_tw LW31_w LW31_g (i := 20) rfl
theorem ml_X13_379 : Cond.methodLink RX13 379 yX13_rightFor ∈ TW := walk_tw LW31_w LW31_g (i := 21) rfl
theorem im_X13_rightFor : Cond.instanceMethod yX13_rightFor ∈ TW := walk_tw LW31_w LW31_g (i := 22) rfl
theorem cd_X13_rightFor : Cond.code yX13_rightFor cX13_rightFor 6 (some .int) ∈ TW := walk_tw LW31_w LW31_g (i := 23) rfl
theorem ml_X13_398 : Cond.methodLink RX13 398 yX13_brings ∈ TW := walk_tw LW31_w LW31_g (i := 24) rfl
theorem im_X13_brings : Cond.instanceMethod yX13_brings ∈ TW := walk_tw LW31_w LW31_g (i := 25) rfl
theorem cd_X13_brings : Cond.code yX13_brings cX13_brings 9 (some .int) ∈ TW := walk_tw LW31_w LW31_g (i := 26) rfl
theorem ml_X13_388 : Cond.methodLink RX13 388 yX13_spreads ∈ TW := walk_tw LW31_w LW31_g (i := 27) rfl
theorem im_X13_spreads : Cond.instanceMethod yX13_spreads ∈ TW := walk_tw LW31_w LW31_g (i := 28) rfl
theorem cd_X13_spreads : Cond.code yX13_spreads cX13_spreads 7 none ∈ TW := walk_tw LW31_w LW31_g (i := 29) rfl
theorem ml_X13_392 : Cond.methodLink RX13 392 yX13_behind ∈ TW := walk_tw LW31_w LW31_g (i := 30) rfl
theorem im_X13_behind : Cond.instanceMethod yX13_behind ∈ TW := walk_tw LW31_w LW31_g (i := 31) rfl
def LW32 : List (Nat × Cond) := [(1925, Cond.code yX13_behind cX13_behind 7 (some .int)), (0, Cond.methodLink RX13 395 yX13_apart), (1, Cond.instanceMethod yX13_apart), (0, Cond.code yX13_apart cX13_apart 4 (some .int)), (12, Cond.methodLink RX13 407 yX13_ringOf), (1, Cond.instanceMethod yX13_ringOf), (0, Cond.code yX13_ringOf cX13_ringOf 5 (some .int)), (0, Cond.methodLink RX13 404 yX13_nextOf), (1, Cond.instanceMethod yX13_nextOf), (0, Cond.code yX13_nextOf cX13_nextOf 4 (some .int)), (0, Cond.methodLink RX13 401 yX13_firstDead), (1, Cond.instanceMethod yX13_firstDead), (0, Cond.code yX13_firstDead cX13_firstDead 3 (some .int)), (8, Cond.methodLink RX13 422 yX13_fitting), (1, Cond.instanceMethod yX13_fitting), (0, Cond.code yX13_fitting cX13_fitting 5 (some .int)), (0, Cond.methodLink RX13 419 yX13_wrongHeard), (1, Cond.instanceMethod yX13_wrongHeard), (0, Cond.code yX13_wrongHeard cX13_wrongHeard 3 (some .int)), (16, Cond.methodLink RX13 428 yX13_asks), (1, Cond.instanceMethod yX13_asks), (0, Cond.code yX13_asks cX13_asks 4 (some .int)), (12, Cond.methodLink RX13 431 yX13_refusesSoot), (1, Cond.instanceMethod yX13_refusesSoot), (0, Cond.code yX13_refusesSoot cX13_refusesSoot 2 (some .int)), (0, Cond.methodLink RX13 434 yX13_lost), (1, Cond.instanceMethod yX13_lost), (0, Cond.code yX13_lost cX13_lost 2 (some .int)), (0, Cond.methodLink RX13 437 yX13_chatted), (0, Cond.static yX13_chatted), (0, Cond.code yX13_chatted cX13_chatted 3 (some .int)), (4, Cond.methodLink RX13 441 yX13_isRest)]
theorem LW32_w : walkI LW32 lw_tbl = true := by decide +kernel
theorem LW32_g : LW32.all (fun q => goodWord q.2) = true := by decide +kernel
theorem cd_X13_behind : Cond.code yX13_behind cX13_behind 7 (some .int) ∈ TW := walk_tw LW32_w LW32_g (i := 0) rfl
theorem ml_X13_395 : Cond.methodLink RX13 395 yX13_apart ∈ TW := walk_tw LW32_w LW32_g (i := 1) rfl
theorem im_X13_apart : Cond.instanceMethod yX13_apart ∈ TW := walk_tw LW32_w LW32_g (i := 2) rfl
theorem cd_X13_apart : Cond.code yX13_apart cX13_apart 4 (some .int) ∈ TW := walk_tw LW32_w LW32_g (i := 3) rfl
theorem ml_X13_407 : Cond.methodLink RX13 407 yX13_ringOf ∈ TW := walk_tw LW32_w LW32_g (i := 4) rfl
theorem im_X13_ringOf : Cond.instanceMethod yX13_ringOf ∈ TW := walk_tw LW32_w LW32_g (i := 5) rfl
theorem cd_X13_ringOf : Cond.code yX13_ringOf cX13_ringOf 5 (some .int) ∈ TW := walk_tw LW32_w LW32_g (i := 6) rfl
theorem ml_X13_404 : Cond.methodLink RX13 404 yX13_nextOf ∈ TW := walk_tw LW32_w LW32_g (i := 7) rfl
theorem im_X13_nextOf : Cond.instanceMethod yX13_nextOf ∈ TW := walk_tw LW32_w LW32_g (i := 8) rfl
theorem cd_X13_nextOf : Cond.code yX13_nextOf cX13_nextOf 4 (some .int) ∈ TW := walk_tw LW32_w LW32_g (i := 9) rfl
theorem ml_X13_401 : Cond.methodLink RX13 401 yX13_firstDead ∈ TW := walk_tw LW32_w LW32_g (i := 10) rfl
theorem im_X13_firstDead : Cond.instanceMethod yX13_firstDead ∈ TW := walk_tw LW32_w LW32_g (i := 11) rfl
theorem cd_X13_firstDead : Cond.code yX13_firstDead cX13_firstDead 3 (some .int) ∈ TW := walk_tw LW32_w LW32_g (i := 12) rfl
theorem ml_X13_422 : Cond.methodLink RX13 422 yX13_fitting ∈ TW := walk_tw LW32_w LW32_g (i := 13) rfl
theorem im_X13_fitting : Cond.instanceMethod yX13_fitting ∈ TW := walk_tw LW32_w LW32_g (i := 14) rfl
theorem cd_X13_fitting : Cond.code yX13_fitting cX13_fitting 5 (some .int) ∈ TW := walk_tw LW32_w LW32_g (i := 15) rfl
theorem ml_X13_419 : Cond.methodLink RX13 419 yX13_wrongHeard ∈ TW := walk_tw LW32_w LW32_g (i := 16) rfl
theorem im_X13_wrongHeard : Cond.instanceMethod yX13_wrongHeard ∈ TW := walk_tw LW32_w LW32_g (i := 17) rfl
theorem cd_X13_wrongHeard : Cond.code yX13_wrongHeard cX13_wrongHeard 3 (some .int) ∈ TW := walk_tw LW32_w LW32_g (i := 18) rfl
theorem ml_X13_428 : Cond.methodLink RX13 428 yX13_asks ∈ TW := walk_tw LW32_w LW32_g (i := 19) rfl
theorem im_X13_asks : Cond.instanceMethod yX13_asks ∈ TW := walk_tw LW32_w LW32_g (i := 20) rfl
theorem cd_X13_asks : Cond.code yX13_asks cX13_asks 4 (some .int) ∈ TW := walk_tw LW32_w LW32_g (i := 21) rfl
theorem ml_X13_431 : Cond.methodLink RX13 431 yX13_refusesSoot ∈ TW := walk_tw LW32_w LW32_g (i := 22) rfl
theorem im_X13_refusesSoot : Cond.instanceMethod yX13_refusesSoot ∈ TW := walk_tw LW32_w LW32_g (i := 23) rfl
theorem cd_X13_refusesSoot : Cond.code yX13_refusesSoot cX13_refusesSoot 2 (some .int) ∈ TW := walk_tw LW32_w LW32_g (i := 24) rfl
theorem ml_X13_434 : Cond.methodLink RX13 434 yX13_lost ∈ TW := walk_tw LW32_w LW32_g (i := 25) rfl
theorem im_X13_lost : Cond.instanceMethod yX13_lost ∈ TW := walk_tw LW32_w LW32_g (i := 26) rfl
theorem cd_X13_lost : Cond.code yX13_lost cX13_lost 2 (some .int) ∈ TW := walk_tw LW32_w LW32_g (i := 27) rfl
theorem ml_X13_437 : Cond.methodLink RX13 437 yX13_chatted ∈ TW := walk_tw LW32_w LW32_g (i := 28) rfl
theorem sm_X13_chatted : Cond.static yX13_chatted ∈ TW := walk_tw LW32_w LW32_g (i := 29) rfl
theorem cd_X13_chatted : Cond.code yX13_chatted cX13_chatted 3 (some .int) ∈ TW := walk_tw LW32_w LW32_g (i := 30) rfl
theorem ml_X13_441 : Cond.methodLink RX13 441 yX13_isRest ∈ TW := walk_tw LW32_w LW32_g (i := 31) rfl
def LW33 : List (Nat × Cond) := [(2018, Cond.static yX13_isRest), (0, Cond.code yX13_isRest cX13_isRest 4 (some .boolean)), (8, Cond.methodLink RX13 447 yX13_chance), (1, Cond.instanceMethod yX13_chance), (0, Cond.code yX13_chance cX13_chance 4 (some .int)), (0, Cond.methodLink RX13 444 yX13_hearerBy), (1, Cond.instanceMethod yX13_hearerBy), (0, Cond.code yX13_hearerBy cX13_hearerBy 4 (some .int)), (0, Cond.constantLong RX13 450 100), (0, Cond.methodLink RX13 452 yX13_fraction), (1, Cond.instanceMethod yX13_fraction), (0, Cond.code yX13_fraction cX13_fraction 6 (some .long)), (0, Cond.methodLink RX13 62 yX13_common), (0, Cond.static yX13_common), (0, Cond.code yX13_common cX13_common 10 (some .long)), (12, Cond.constant RX13 465 65536), (0, Cond.methodLink RX13 466 yX13_further), (1, Cond.instanceMethod yX13_further), (0, Cond.code yX13_further cX13_further 1 (some .int)), (0, Cond.constantLong RX13 456 75), (0, Cond.constantLong RX13 461 74), (0, Cond.constantLong RX13 463 65537), (8, Cond.methodLink RX13 469 yX13_remembers), (1, Cond.instanceMethod yX13_remembers), (0, Cond.code yX13_remembers cX13_remembers 2 none), (8, Cond.methodLink RX13 478 yX13_hangs), (1, Cond.instanceMethod yX13_hangs), (0, Cond.code yX13_hangs cX13_hangs 3 (some .boolean)), (0, Cond.methodLink RX13 472 yX13_denied), (1, Cond.instanceMethod yX13_denied), (0, Cond.code yX13_denied cX13_denied 2 (some .boolean)), (0, Cond.methodLink RX13 475 yX13_granted)]
theorem LW33_w : walkI LW33 lw_tbl = true := by decide +kernel
theorem LW33_g : LW33.all (fun q => goodWord q.2) = true := by decide +kernel
theorem sm_X13_isRest : Cond.static yX13_isRest ∈ TW := walk_tw LW33_w LW33_g (i := 0) rfl
theorem cd_X13_isRest : Cond.code yX13_isRest cX13_isRest 4 (some .boolean) ∈ TW := walk_tw LW33_w LW33_g (i := 1) rfl
theorem ml_X13_447 : Cond.methodLink RX13 447 yX13_chance ∈ TW := walk_tw LW33_w LW33_g (i := 2) rfl
theorem im_X13_chance : Cond.instanceMethod yX13_chance ∈ TW := walk_tw LW33_w LW33_g (i := 3) rfl
theorem cd_X13_chance : Cond.code yX13_chance cX13_chance 4 (some .int) ∈ TW := walk_tw LW33_w LW33_g (i := 4) rfl
theorem ml_X13_444 : Cond.methodLink RX13 444 yX13_hearerBy ∈ TW := walk_tw LW33_w LW33_g (i := 5) rfl
theorem im_X13_hearerBy : Cond.instanceMethod yX13_hearerBy ∈ TW := walk_tw LW33_w LW33_g (i := 6) rfl
theorem cd_X13_hearerBy : Cond.code yX13_hearerBy cX13_hearerBy 4 (some .int) ∈ TW := walk_tw LW33_w LW33_g (i := 7) rfl
theorem cw_X13_450 : Cond.constantLong RX13 450 100 ∈ TW := walk_tw LW33_w LW33_g (i := 8) rfl
theorem ml_X13_452 : Cond.methodLink RX13 452 yX13_fraction ∈ TW := walk_tw LW33_w LW33_g (i := 9) rfl
theorem im_X13_fraction : Cond.instanceMethod yX13_fraction ∈ TW := walk_tw LW33_w LW33_g (i := 10) rfl
theorem cd_X13_fraction : Cond.code yX13_fraction cX13_fraction 6 (some .long) ∈ TW := walk_tw LW33_w LW33_g (i := 11) rfl
theorem ml_X13_62 : Cond.methodLink RX13 62 yX13_common ∈ TW := walk_tw LW33_w LW33_g (i := 12) rfl
theorem sm_X13_common : Cond.static yX13_common ∈ TW := walk_tw LW33_w LW33_g (i := 13) rfl
theorem cd_X13_common : Cond.code yX13_common cX13_common 10 (some .long) ∈ TW := walk_tw LW33_w LW33_g (i := 14) rfl
theorem cw_X13_465 : Cond.constant RX13 465 65536 ∈ TW := walk_tw LW33_w LW33_g (i := 15) rfl
theorem ml_X13_466 : Cond.methodLink RX13 466 yX13_further ∈ TW := walk_tw LW33_w LW33_g (i := 16) rfl
theorem im_X13_further : Cond.instanceMethod yX13_further ∈ TW := walk_tw LW33_w LW33_g (i := 17) rfl
theorem cd_X13_further : Cond.code yX13_further cX13_further 1 (some .int) ∈ TW := walk_tw LW33_w LW33_g (i := 18) rfl
theorem cw_X13_456 : Cond.constantLong RX13 456 75 ∈ TW := walk_tw LW33_w LW33_g (i := 19) rfl
theorem cw_X13_461 : Cond.constantLong RX13 461 74 ∈ TW := walk_tw LW33_w LW33_g (i := 20) rfl
theorem cw_X13_463 : Cond.constantLong RX13 463 65537 ∈ TW := walk_tw LW33_w LW33_g (i := 21) rfl
theorem ml_X13_469 : Cond.methodLink RX13 469 yX13_remembers ∈ TW := walk_tw LW33_w LW33_g (i := 22) rfl
theorem im_X13_remembers : Cond.instanceMethod yX13_remembers ∈ TW := walk_tw LW33_w LW33_g (i := 23) rfl
theorem cd_X13_remembers : Cond.code yX13_remembers cX13_remembers 2 none ∈ TW := walk_tw LW33_w LW33_g (i := 24) rfl
theorem ml_X13_478 : Cond.methodLink RX13 478 yX13_hangs ∈ TW := walk_tw LW33_w LW33_g (i := 25) rfl
theorem im_X13_hangs : Cond.instanceMethod yX13_hangs ∈ TW := walk_tw LW33_w LW33_g (i := 26) rfl
theorem cd_X13_hangs : Cond.code yX13_hangs cX13_hangs 3 (some .boolean) ∈ TW := walk_tw LW33_w LW33_g (i := 27) rfl
theorem ml_X13_472 : Cond.methodLink RX13 472 yX13_denied ∈ TW := walk_tw LW33_w LW33_g (i := 28) rfl
theorem im_X13_denied : Cond.instanceMethod yX13_denied ∈ TW := walk_tw LW33_w LW33_g (i := 29) rfl
theorem cd_X13_denied : Cond.code yX13_denied cX13_denied 2 (some .boolean) ∈ TW := walk_tw LW33_w LW33_g (i := 30) rfl
theorem ml_X13_475 : Cond.methodLink RX13 475 yX13_granted ∈ TW := walk_tw LW33_w LW33_g (i := 31) rfl
def LW34 : List (Nat × Cond) := [(2094, Cond.instanceMethod yX13_granted), (0, Cond.code yX13_granted cX13_granted 1 (some .boolean)), (28, Cond.methodLink RX13 481 yX13_mirrorsNow), (1, Cond.instanceMethod yX13_mirrorsNow), (0, Cond.code yX13_mirrorsNow cX13_mirrorsNow 3 (some .int)), (22, Cond.fieldLink RJ0 9 "java/lang/String" "value" "[B"), (0, Cond.fieldLink RJ0 15 "java/lang/String" "coder" "B")]
theorem LW34_w : walkI LW34 lw_tbl = true := by decide +kernel
theorem LW34_g : LW34.all (fun q => goodWord q.2) = true := by decide +kernel
theorem im_X13_granted : Cond.instanceMethod yX13_granted ∈ TW := walk_tw LW34_w LW34_g (i := 0) rfl
theorem cd_X13_granted : Cond.code yX13_granted cX13_granted 1 (some .boolean) ∈ TW := walk_tw LW34_w LW34_g (i := 1) rfl
theorem ml_X13_481 : Cond.methodLink RX13 481 yX13_mirrorsNow ∈ TW := walk_tw LW34_w LW34_g (i := 2) rfl
theorem im_X13_mirrorsNow : Cond.instanceMethod yX13_mirrorsNow ∈ TW := walk_tw LW34_w LW34_g (i := 3) rfl
theorem cd_X13_mirrorsNow : Cond.code yX13_mirrorsNow cX13_mirrorsNow 3 (some .int) ∈ TW := walk_tw LW34_w LW34_g (i := 4) rfl
theorem fl_J0_9 : Cond.fieldLink RJ0 9 "java/lang/String" "value" "[B" ∈ TW := walk_tw LW34_w LW34_g (i := 5) rfl
theorem fl_J0_15 : Cond.fieldLink RJ0 15 "java/lang/String" "coder" "B" ∈ TW := walk_tw LW34_w LW34_g (i := 6) rfl
def LN0 : List (Nat × Cond) := [(144, Cond.methodLinkNest RX11 19 yX4_init RX11), (5, Cond.methodLinkNest RX4 11 yX9_init RX11), (5, Cond.methodLinkNest RX9 11 yX6_init RX11), (125, Cond.methodLinkNest RX4 24 yX8_init RX11), (52, Cond.methodLinkNest RX11 26 yX9_init RX11), (7, Cond.methodLinkNest RX10 11 yX6_init RX11), (2, Cond.methodLinkNest RX10 20 yX7_init RX11), (34, Cond.methodLinkNest RX11 45 yX5_init RX11), (37, Cond.methodLinkNest RX11 59 yX1_init RX11), (18, Cond.methodLinkNest RX11 66 yX2_init RX11), (13, Cond.methodLinkNest RX11 73 yX3_init RX11), (19, Cond.methodLinkNest RX11 84 yX6_init RX11), (256, Cond.methodLinkNest RX6 25 yX11_copyRow RX11), (6, Cond.methodLinkNest RX9 63 yX11_copyRow RX11), (740, Cond.methodLinkNest RX13 299 yX12_init RX13), (3, flN RX13 RX13 159 12 0), (0, flN RX13 RX13 221 12 1), (1, flN RX13 RX13 193 12 2), (0, flN RX13 RX13 241 12 3), (1, flN RX13 RX13 268 12 5), (1, flN RX13 RX13 279 12 6), (1, flN RX13 RX13 175 12 7), (1, flN RX13 RX13 239 12 8), (1, flN RX13 RX13 258 12 9), (1, flN RX13 RX13 261 12 10), (1, flN RX13 RX13 263 12 11), (1, flN RX13 RX13 266 12 12), (1, flN RX13 RX13 274 12 13), (1, flN RX13 RX13 276 12 14), (1, flN RX13 RX13 288 12 15), (1, flN RX13 RX13 291 12 16), (1, flN RX13 RX13 293 12 17)]
theorem LN0_w : walkI LN0 lw_tbl = true := by decide +kernel
theorem LN0_g : LN0.all (fun q => isNest q.2) = true := by decide +kernel
theorem ml_X11_19 : Cond.methodLinkNest RX11 19 yX4_init RX11 ∈ NW := walk_nw LN0_w LN0_g (i := 0) rfl
theorem ml_X4_11 : Cond.methodLinkNest RX4 11 yX9_init RX11 ∈ NW := walk_nw LN0_w LN0_g (i := 1) rfl
theorem ml_X9_11 : Cond.methodLinkNest RX9 11 yX6_init RX11 ∈ NW := walk_nw LN0_w LN0_g (i := 2) rfl
theorem ml_X4_24 : Cond.methodLinkNest RX4 24 yX8_init RX11 ∈ NW := walk_nw LN0_w LN0_g (i := 3) rfl
theorem ml_X11_26 : Cond.methodLinkNest RX11 26 yX9_init RX11 ∈ NW := walk_nw LN0_w LN0_g (i := 4) rfl
theorem ml_X10_11 : Cond.methodLinkNest RX10 11 yX6_init RX11 ∈ NW := walk_nw LN0_w LN0_g (i := 5) rfl
theorem ml_X10_20 : Cond.methodLinkNest RX10 20 yX7_init RX11 ∈ NW := walk_nw LN0_w LN0_g (i := 6) rfl
theorem ml_X11_45 : Cond.methodLinkNest RX11 45 yX5_init RX11 ∈ NW := walk_nw LN0_w LN0_g (i := 7) rfl
theorem ml_X11_59 : Cond.methodLinkNest RX11 59 yX1_init RX11 ∈ NW := walk_nw LN0_w LN0_g (i := 8) rfl
theorem ml_X11_66 : Cond.methodLinkNest RX11 66 yX2_init RX11 ∈ NW := walk_nw LN0_w LN0_g (i := 9) rfl
theorem ml_X11_73 : Cond.methodLinkNest RX11 73 yX3_init RX11 ∈ NW := walk_nw LN0_w LN0_g (i := 10) rfl
theorem ml_X11_84 : Cond.methodLinkNest RX11 84 yX6_init RX11 ∈ NW := walk_nw LN0_w LN0_g (i := 11) rfl
theorem ml_X6_25 : Cond.methodLinkNest RX6 25 yX11_copyRow RX11 ∈ NW := walk_nw LN0_w LN0_g (i := 12) rfl
theorem ml_X9_63 : Cond.methodLinkNest RX9 63 yX11_copyRow RX11 ∈ NW := walk_nw LN0_w LN0_g (i := 13) rfl
theorem ml_X13_299 : Cond.methodLinkNest RX13 299 yX12_init RX13 ∈ NW := walk_nw LN0_w LN0_g (i := 14) rfl
theorem fl_X13_159 : flN RX13 RX13 159 12 0 ∈ NW := walk_nw LN0_w LN0_g (i := 15) rfl
theorem fl_X13_221 : flN RX13 RX13 221 12 1 ∈ NW := walk_nw LN0_w LN0_g (i := 16) rfl
theorem fl_X13_193 : flN RX13 RX13 193 12 2 ∈ NW := walk_nw LN0_w LN0_g (i := 17) rfl
theorem fl_X13_241 : flN RX13 RX13 241 12 3 ∈ NW := walk_nw LN0_w LN0_g (i := 18) rfl
theorem fl_X13_268 : flN RX13 RX13 268 12 5 ∈ NW := walk_nw LN0_w LN0_g (i := 19) rfl
theorem fl_X13_279 : flN RX13 RX13 279 12 6 ∈ NW := walk_nw LN0_w LN0_g (i := 20) rfl
theorem fl_X13_175 : flN RX13 RX13 175 12 7 ∈ NW := walk_nw LN0_w LN0_g (i := 21) rfl
theorem fl_X13_239 : flN RX13 RX13 239 12 8 ∈ NW := walk_nw LN0_w LN0_g (i := 22) rfl
theorem fl_X13_258 : flN RX13 RX13 258 12 9 ∈ NW := walk_nw LN0_w LN0_g (i := 23) rfl
theorem fl_X13_261 : flN RX13 RX13 261 12 10 ∈ NW := walk_nw LN0_w LN0_g (i := 24) rfl
theorem fl_X13_263 : flN RX13 RX13 263 12 11 ∈ NW := walk_nw LN0_w LN0_g (i := 25) rfl
theorem fl_X13_266 : flN RX13 RX13 266 12 12 ∈ NW := walk_nw LN0_w LN0_g (i := 26) rfl
theorem fl_X13_274 : flN RX13 RX13 274 12 13 ∈ NW := walk_nw LN0_w LN0_g (i := 27) rfl
theorem fl_X13_276 : flN RX13 RX13 276 12 14 ∈ NW := walk_nw LN0_w LN0_g (i := 28) rfl
theorem fl_X13_288 : flN RX13 RX13 288 12 15 ∈ NW := walk_nw LN0_w LN0_g (i := 29) rfl
theorem fl_X13_291 : flN RX13 RX13 291 12 16 ∈ NW := walk_nw LN0_w LN0_g (i := 30) rfl
theorem fl_X13_293 : flN RX13 RX13 293 12 17 ∈ NW := walk_nw LN0_w LN0_g (i := 31) rfl
def LN1 : List (Nat × Cond) := [(1513, flN RX13 RX13 172 12 18), (1, flN RX13 RX13 178 12 19), (1, flN RX13 RX13 181 12 20)]
theorem LN1_w : walkI LN1 lw_tbl = true := by decide +kernel
theorem LN1_g : LN1.all (fun q => isNest q.2) = true := by decide +kernel
theorem fl_X13_172 : flN RX13 RX13 172 12 18 ∈ NW := walk_nw LN1_w LN1_g (i := 0) rfl
theorem fl_X13_178 : flN RX13 RX13 178 12 19 ∈ NW := walk_nw LN1_w LN1_g (i := 1) rfl
theorem fl_X13_181 : flN RX13 RX13 181 12 20 ∈ NW := walk_nw LN1_w LN1_g (i := 2) rfl
theorem cal_J0_charAt_5068e : CalV mJ0_charAt_5068e 1 := ⟨⟨cd_J0_charAt_5068e, iz_J0, ⟨by decide +kernel, by decide +kernel⟩, by decide +kernel⟩, im_J0_charAt_5068e, se_J0_charAt_5068e⟩
theorem cal_J0_checkIndex_df160 : CalS mJ0_checkIndex_df160 2 := ⟨⟨cd_J0_checkIndex_df160, iz_J0, ⟨by decide +kernel, by decide +kernel⟩, by decide +kernel⟩, sm_J0_checkIndex_df160⟩
theorem cal_J0_coder_7d493 : CalV mJ0_coder_7d493 0 := ⟨⟨cd_J0_coder_7d493, iz_J0, ⟨by decide +kernel, by decide +kernel⟩, by decide +kernel⟩, im_J0_coder_7d493, se_J0_coder_7d493⟩
theorem cal_J0_isLatin1_aae02 : CalV mJ0_isLatin1_aae02 0 := ⟨⟨cd_J0_isLatin1_aae02, iz_J0, ⟨by decide +kernel, by decide +kernel⟩, by decide +kernel⟩, im_J0_isLatin1_aae02, se_J0_isLatin1_aae02⟩
theorem cal_J0_length_8abf5 : CalV mJ0_length_8abf5 0 := ⟨⟨cd_J0_length_8abf5, iz_J0, ⟨by decide +kernel, by decide +kernel⟩, by decide +kernel⟩, im_J0_length_8abf5, se_J0_length_8abf5⟩
theorem cal_J1_charAt_3b067 : CalS mJ1_charAt_3b067 2 := ⟨⟨cd_J1_charAt_3b067, iz_J1, ⟨by decide +kernel, by decide +kernel⟩, by decide +kernel⟩, sm_J1_charAt_3b067⟩
theorem cal_J3_checkIndex_8e157 : CalS mJ3_checkIndex_8e157 3 := ⟨⟨cd_J3_checkIndex_8e157, iz_J3, ⟨by decide +kernel, by decide +kernel⟩, by decide +kernel⟩, sm_J3_checkIndex_8e157⟩
theorem cal_J6_bitCount_0f7a4 : CalS mJ6_bitCount_0f7a4 1 := ⟨⟨cd_J6_bitCount_0f7a4, iz_J6, ⟨by decide +kernel, by decide +kernel⟩, by decide +kernel⟩, sm_J6_bitCount_0f7a4⟩
theorem cal_J9_floorMod_7cf53 : CalS mJ9_floorMod_7cf53 2 := ⟨⟨cd_J9_floorMod_7cf53, iz_J9, ⟨by decide +kernel, by decide +kernel⟩, by decide +kernel⟩, sm_J9_floorMod_7cf53⟩
theorem cal_JM_max : CalS mJM_max 2 := ⟨⟨cd_JM_max, iz_J9, ⟨by decide +kernel, by decide +kernel⟩, by decide +kernel⟩, sm_JM_max⟩
theorem cal_JM_min : CalS mJM_min 2 := ⟨⟨cd_JM_min, iz_J9, ⟨by decide +kernel, by decide +kernel⟩, by decide +kernel⟩, sm_JM_min⟩
theorem cal_X0_collect : CalV mX0_collect 2 := ⟨⟨cd_X0_collect, iz_X0, ⟨by decide +kernel, by decide +kernel⟩, by decide +kernel⟩, im_X0_collect, se_X0_collect⟩
theorem cal_X0_fewestOn : CalV mX0_fewestOn 4 := ⟨⟨cd_X0_fewestOn, iz_X0, ⟨by decide +kernel, by decide +kernel⟩, by decide +kernel⟩, im_X0_fewestOn, se_X0_fewestOn⟩
theorem cal_X0_indexOf : CalV mX0_indexOf 3 := ⟨⟨cd_X0_indexOf, iz_X0, ⟨by decide +kernel, by decide +kernel⟩, by decide +kernel⟩, im_X0_indexOf, se_X0_indexOf⟩
theorem cal_X0_init : CalI mX0_init 0 := ⟨⟨cd_X0_init, iz_X0, ⟨by decide +kernel, by decide +kernel⟩, by decide +kernel⟩, rfl, im_X0_init⟩
theorem cal_X0_plan : CalV mX0_plan 2 := ⟨⟨cd_X0_plan, iz_X0, ⟨by decide +kernel, by decide +kernel⟩, by decide +kernel⟩, im_X0_plan, se_X0_plan⟩
theorem cal_X0_stepsFrom : CalV mX0_stepsFrom 2 := ⟨⟨cd_X0_stepsFrom, iz_X0, ⟨by decide +kernel, by decide +kernel⟩, by decide +kernel⟩, im_X0_stepsFrom, se_X0_stepsFrom⟩
theorem cal_X0_workOut : CalV mX0_workOut 3 := ⟨⟨cd_X0_workOut, iz_X0, ⟨by decide +kernel, by decide +kernel⟩, by decide +kernel⟩, im_X0_workOut, se_X0_workOut⟩
theorem cal_X10_aimOf : CalV mX10_aimOf 1 := ⟨⟨cd_X10_aimOf, iz_X10, ⟨by decide +kernel, by decide +kernel⟩, by decide +kernel⟩, im_X10_aimOf, se_X10_aimOf⟩
theorem cal_X10_heardBits : CalV mX10_heardBits 2 := ⟨⟨cd_X10_heardBits, iz_X10, ⟨by decide +kernel, by decide +kernel⟩, by decide +kernel⟩, im_X10_heardBits, se_X10_heardBits⟩
theorem cal_X10_init : CalI mX10_init 1 := ⟨⟨cd_X10_init, iz_X10, ⟨by decide +kernel, by decide +kernel⟩, by decide +kernel⟩, rfl, im_X10_init⟩
theorem cal_X10_isRight : CalV mX10_isRight 2 := ⟨⟨cd_X10_isRight, iz_X10, ⟨by decide +kernel, by decide +kernel⟩, by decide +kernel⟩, im_X10_isRight, se_X10_isRight⟩
theorem cal_X10_isRightWith : CalV mX10_isRightWith 4 := ⟨⟨cd_X10_isRightWith, iz_X10, ⟨by decide +kernel, by decide +kernel⟩, by decide +kernel⟩, im_X10_isRightWith, se_X10_isRightWith⟩
theorem cal_X10_landing : CalV mX10_landing 2 := ⟨⟨cd_X10_landing, iz_X10, ⟨by decide +kernel, by decide +kernel⟩, by decide +kernel⟩, im_X10_landing, se_X10_landing⟩
theorem cal_X10_landingAimed : CalV mX10_landingAimed 3 := ⟨⟨cd_X10_landingAimed, iz_X10, ⟨by decide +kernel, by decide +kernel⟩, by decide +kernel⟩, im_X10_landingAimed, se_X10_landingAimed⟩
theorem cal_X10_landingWith : CalV mX10_landingWith 5 := ⟨⟨cd_X10_landingWith, iz_X10, ⟨by decide +kernel, by decide +kernel⟩, by decide +kernel⟩, im_X10_landingWith, se_X10_landingWith⟩
theorem cal_X10_listener : CalV mX10_listener 2 := ⟨⟨cd_X10_listener, iz_X10, ⟨by decide +kernel, by decide +kernel⟩, by decide +kernel⟩, im_X10_listener, se_X10_listener⟩
theorem cal_X10_listenerAimed : CalV mX10_listenerAimed 3 := ⟨⟨cd_X10_listenerAimed, iz_X10, ⟨by decide +kernel, by decide +kernel⟩, by decide +kernel⟩, im_X10_listenerAimed, se_X10_listenerAimed⟩
theorem cal_X10_listenerFurtherOn : CalV mX10_listenerFurtherOn 2 := ⟨⟨cd_X10_listenerFurtherOn, iz_X10, ⟨by decide +kernel, by decide +kernel⟩, by decide +kernel⟩, im_X10_listenerFurtherOn, se_X10_listenerFurtherOn⟩
theorem cal_X10_mirrorCount : CalV mX10_mirrorCount 0 := ⟨⟨cd_X10_mirrorCount, iz_X10, ⟨by decide +kernel, by decide +kernel⟩, by decide +kernel⟩, im_X10_mirrorCount, se_X10_mirrorCount⟩
theorem cal_X10_putPerson : CalV mX10_putPerson 2 := ⟨⟨cd_X10_putPerson, iz_X10, ⟨by decide +kernel, by decide +kernel⟩, by decide +kernel⟩, im_X10_putPerson, se_X10_putPerson⟩
theorem cal_X10_rightBits : CalV mX10_rightBits 1 := ⟨⟨cd_X10_rightBits, iz_X10, ⟨by decide +kernel, by decide +kernel⟩, by decide +kernel⟩, im_X10_rightBits, se_X10_rightBits⟩
theorem cal_X10_rightCount : CalV mX10_rightCount 1 := ⟨⟨cd_X10_rightCount, iz_X10, ⟨by decide +kernel, by decide +kernel⟩, by decide +kernel⟩, im_X10_rightCount, se_X10_rightCount⟩
theorem cal_X10_rightNightsWith : CalV mX10_rightNightsWith 2 := ⟨⟨cd_X10_rightNightsWith, iz_X10, ⟨by decide +kernel, by decide +kernel⟩, by decide +kernel⟩, im_X10_rightNightsWith, se_X10_rightNightsWith⟩
theorem cal_X10_settle : CalV mX10_settle 1 := ⟨⟨cd_X10_settle, iz_X10, ⟨by decide +kernel, by decide +kernel⟩, by decide +kernel⟩, im_X10_settle, se_X10_settle⟩
theorem cal_X10_shift : CalS mX10_shift 3 := ⟨⟨cd_X10_shift, iz_X10, ⟨by decide +kernel, by decide +kernel⟩, by decide +kernel⟩, sm_X10_shift⟩
theorem cal_X11_bishopTalks : CalS mX11_bishopTalks 1 := ⟨⟨cd_X11_bishopTalks, iz_X11, ⟨by decide +kernel, by decide +kernel⟩, by decide +kernel⟩, sm_X11_bishopTalks⟩
theorem cal_X11_changeMirror : CalV mX11_changeMirror 2 := ⟨⟨cd_X11_changeMirror, iz_X11, ⟨by decide +kernel, by decide +kernel⟩, by decide +kernel⟩, im_X11_changeMirror, se_X11_changeMirror⟩
theorem cal_X11_commonDivisor : CalS mX11_commonDivisor 2 := ⟨⟨cd_X11_commonDivisor, iz_X11, ⟨by decide +kernel, by decide +kernel⟩, by decide +kernel⟩, sm_X11_commonDivisor⟩
theorem cal_X11_copyRow : CalS mX11_copyRow 2 := ⟨⟨cd_X11_copyRow, iz_X11, ⟨by decide +kernel, by decide +kernel⟩, by decide +kernel⟩, sm_X11_copyRow⟩
theorem cal_X11_gain : CalS mX11_gain 3 := ⟨⟨cd_X11_gain, iz_X11, ⟨by decide +kernel, by decide +kernel⟩, by decide +kernel⟩, sm_X11_gain⟩
theorem cal_X11_inLowestTerms : CalS mX11_inLowestTerms 3 := ⟨⟨cd_X11_inLowestTerms, iz_X11, ⟨by decide +kernel, by decide +kernel⟩, by decide +kernel⟩, sm_X11_inLowestTerms⟩
theorem cal_X11_isNoDead : CalV mX11_isNoDead 1 := ⟨⟨cd_X11_isNoDead, iz_X11, ⟨by decide +kernel, by decide +kernel⟩, by decide +kernel⟩, im_X11_isNoDead, se_X11_isNoDead⟩
theorem cal_X11_isNoHouse : CalV mX11_isNoHouse 1 := ⟨⟨cd_X11_isNoHouse, iz_X11, ⟨by decide +kernel, by decide +kernel⟩, by decide +kernel⟩, im_X11_isNoHouse, se_X11_isNoHouse⟩
theorem cal_X11_isNoNight : CalS mX11_isNoNight 1 := ⟨⟨cd_X11_isNoNight, iz_X11, ⟨by decide +kernel, by decide +kernel⟩, by decide +kernel⟩, sm_X11_isNoNight⟩
theorem cal_X11_isNoPerson : CalV mX11_isNoPerson 1 := ⟨⟨cd_X11_isNoPerson, iz_X11, ⟨by decide +kernel, by decide +kernel⟩, by decide +kernel⟩, im_X11_isNoPerson, se_X11_isNoPerson⟩
theorem cal_X11_isNoSeed : CalS mX11_isNoSeed 1 := ⟨⟨cd_X11_isNoSeed, iz_X11, ⟨by decide +kernel, by decide +kernel⟩, by decide +kernel⟩, sm_X11_isNoSeed⟩
theorem cal_X11_isNoSoot : CalS mX11_isNoSoot 1 := ⟨⟨cd_X11_isNoSoot, iz_X11, ⟨by decide +kernel, by decide +kernel⟩, by decide +kernel⟩, sm_X11_isNoSoot⟩
theorem cal_X11_isNoTown : CalV mX11_isNoTown 0 := ⟨⟨cd_X11_isNoTown, iz_X11, ⟨by decide +kernel, by decide +kernel⟩, by decide +kernel⟩, im_X11_isNoTown, se_X11_isNoTown⟩
theorem cal_X11_isRest : CalS mX11_isRest 2 := ⟨⟨cd_X11_isRest, iz_X11, ⟨by decide +kernel, by decide +kernel⟩, by decide +kernel⟩, sm_X11_isRest⟩
theorem cal_X11_nextInRing : CalV mX11_nextInRing 2 := ⟨⟨cd_X11_nextInRing, iz_X11, ⟨by decide +kernel, by decide +kernel⟩, by decide +kernel⟩, im_X11_nextInRing, se_X11_nextInRing⟩
theorem cal_X11_putNumber : CalV mX11_putNumber 1 := ⟨⟨cd_X11_putNumber, iz_X11, ⟨by decide +kernel, by decide +kernel⟩, by decide +kernel⟩, im_X11_putNumber, se_X11_putNumber⟩
theorem cal_X11_refuse : CalV mX11_refuse 1 := ⟨⟨cd_X11_refuse, iz_X11, ⟨by decide +kernel, by decide +kernel⟩, by decide +kernel⟩, im_X11_refuse, se_X11_refuse⟩
theorem cal_X11_refused : CalV mX11_refused 2 := ⟨⟨cd_X11_refused, iz_X11, ⟨by decide +kernel, by decide +kernel⟩, by decide +kernel⟩, im_X11_refused, se_X11_refused⟩
theorem cal_X11_ringLength : CalV mX11_ringLength 2 := ⟨⟨cd_X11_ringLength, iz_X11, ⟨by decide +kernel, by decide +kernel⟩, by decide +kernel⟩, im_X11_ringLength, se_X11_ringLength⟩
theorem cal_X11_sweepTalks : CalS mX11_sweepTalks 1 := ⟨⟨cd_X11_sweepTalks, iz_X11, ⟨by decide +kernel, by decide +kernel⟩, by decide +kernel⟩, sm_X11_sweepTalks⟩
theorem cal_X12_find : CalV mX12_find 1 := ⟨⟨cd_X12_find, iz_X12, ⟨by decide +kernel, by decide +kernel⟩, by decide +kernel⟩, im_X12_find, se_X12_find⟩
theorem cal_X12_init : CalI mX12_init 0 := ⟨⟨cd_X12_init, iz_X12, ⟨by decide +kernel, by decide +kernel⟩, by decide +kernel⟩, rfl, im_X12_init⟩
theorem cal_X12_isHeard : CalV mX12_isHeard 2 := ⟨⟨cd_X12_isHeard, iz_X12, ⟨by decide +kernel, by decide +kernel⟩, by decide +kernel⟩, im_X12_isHeard, se_X12_isHeard⟩
theorem cal_X12_isTaken : CalV mX12_isTaken 1 := ⟨⟨cd_X12_isTaken, iz_X12, ⟨by decide +kernel, by decide +kernel⟩, by decide +kernel⟩, im_X12_isTaken, se_X12_isTaken⟩
theorem cal_X12_isUnsure : CalV mX12_isUnsure 1 := ⟨⟨cd_X12_isUnsure, iz_X12, ⟨by decide +kernel, by decide +kernel⟩, by decide +kernel⟩, im_X12_isUnsure, se_X12_isUnsure⟩
theorem cal_X13_aimOf : CalV mX13_aimOf 1 := ⟨⟨cd_X13_aimOf, iz_X13, ⟨by decide +kernel, by decide +kernel⟩, by decide +kernel⟩, im_X13_aimOf, se_X13_aimOf⟩
theorem cal_X13_apart : CalV mX13_apart 2 := ⟨⟨cd_X13_apart, iz_X13, ⟨by decide +kernel, by decide +kernel⟩, by decide +kernel⟩, im_X13_apart, se_X13_apart⟩
theorem cal_X13_areTwo : CalV mX13_areTwo 2 := ⟨⟨cd_X13_areTwo, iz_X13, ⟨by decide +kernel, by decide +kernel⟩, by decide +kernel⟩, im_X13_areTwo, se_X13_areTwo⟩
theorem cal_X13_around : CalV mX13_around 1 := ⟨⟨cd_X13_around, iz_X13, ⟨by decide +kernel, by decide +kernel⟩, by decide +kernel⟩, im_X13_around, se_X13_around⟩
theorem cal_X13_asTold : CalV mX13_asTold 1 := ⟨⟨cd_X13_asTold, iz_X13, ⟨by decide +kernel, by decide +kernel⟩, by decide +kernel⟩, im_X13_asTold, se_X13_asTold⟩
theorem cal_X13_asks : CalV mX13_asks 0 := ⟨⟨cd_X13_asks, iz_X13, ⟨by decide +kernel, by decide +kernel⟩, by decide +kernel⟩, im_X13_asks, se_X13_asks⟩
theorem cal_X13_behind : CalV mX13_behind 2 := ⟨⟨cd_X13_behind, iz_X13, ⟨by decide +kernel, by decide +kernel⟩, by decide +kernel⟩, im_X13_behind, se_X13_behind⟩
theorem cal_X13_bit : CalS mX13_bit 2 := ⟨⟨cd_X13_bit, iz_X13, ⟨by decide +kernel, by decide +kernel⟩, by decide +kernel⟩, sm_X13_bit⟩
theorem cal_X13_bits : CalS mX13_bits 1 := ⟨⟨cd_X13_bits, iz_X13, ⟨by decide +kernel, by decide +kernel⟩, by decide +kernel⟩, sm_X13_bits⟩
theorem cal_X13_brings : CalV mX13_brings 2 := ⟨⟨cd_X13_brings, iz_X13, ⟨by decide +kernel, by decide +kernel⟩, by decide +kernel⟩, im_X13_brings, se_X13_brings⟩
theorem cal_X13_byteAt : CalV mX13_byteAt 1 := ⟨⟨cd_X13_byteAt, iz_X13, ⟨by decide +kernel, by decide +kernel⟩, by decide +kernel⟩, im_X13_byteAt, se_X13_byteAt⟩
theorem cal_X13_chance : CalV mX13_chance 3 := ⟨⟨cd_X13_chance, iz_X13, ⟨by decide +kernel, by decide +kernel⟩, by decide +kernel⟩, im_X13_chance, se_X13_chance⟩
theorem cal_X13_chatted : CalS mX13_chatted 3 := ⟨⟨cd_X13_chatted, iz_X13, ⟨by decide +kernel, by decide +kernel⟩, by decide +kernel⟩, sm_X13_chatted⟩
theorem cal_X13_comesRound : CalV mX13_comesRound 2 := ⟨⟨cd_X13_comesRound, iz_X13, ⟨by decide +kernel, by decide +kernel⟩, by decide +kernel⟩, im_X13_comesRound, se_X13_comesRound⟩
theorem cal_X13_common : CalS mX13_common 2 := ⟨⟨cd_X13_common, iz_X13, ⟨by decide +kernel, by decide +kernel⟩, by decide +kernel⟩, sm_X13_common⟩
theorem cal_X13_denied : CalV mX13_denied 1 := ⟨⟨cd_X13_denied, iz_X13, ⟨by decide +kernel, by decide +kernel⟩, by decide +kernel⟩, im_X13_denied, se_X13_denied⟩
theorem cal_X13_eatsSemicolon : CalV mX13_eatsSemicolon 0 := ⟨⟨cd_X13_eatsSemicolon, iz_X13, ⟨by decide +kernel, by decide +kernel⟩, by decide +kernel⟩, im_X13_eatsSemicolon, se_X13_eatsSemicolon⟩
theorem cal_X13_firstDead : CalV mX13_firstDead 1 := ⟨⟨cd_X13_firstDead, iz_X13, ⟨by decide +kernel, by decide +kernel⟩, by decide +kernel⟩, im_X13_firstDead, se_X13_firstDead⟩
theorem cal_X13_fitting : CalV mX13_fitting 1 := ⟨⟨cd_X13_fitting, iz_X13, ⟨by decide +kernel, by decide +kernel⟩, by decide +kernel⟩, im_X13_fitting, se_X13_fitting⟩
theorem cal_X13_flaw : CalV mX13_flaw 1 := ⟨⟨cd_X13_flaw, iz_X13, ⟨by decide +kernel, by decide +kernel⟩, by decide +kernel⟩, im_X13_flaw, se_X13_flaw⟩
theorem cal_X13_fraction : CalV mX13_fraction 3 := ⟨⟨cd_X13_fraction, iz_X13, ⟨by decide +kernel, by decide +kernel⟩, by decide +kernel⟩, im_X13_fraction, se_X13_fraction⟩
theorem cal_X13_frees : CalV mX13_frees 0 := ⟨⟨cd_X13_frees, iz_X13, ⟨by decide +kernel, by decide +kernel⟩, by decide +kernel⟩, im_X13_frees, se_X13_frees⟩
theorem cal_X13_further : CalV mX13_further 0 := ⟨⟨cd_X13_further, iz_X13, ⟨by decide +kernel, by decide +kernel⟩, by decide +kernel⟩, im_X13_further, se_X13_further⟩
theorem cal_X13_goesOn : CalV mX13_goesOn 0 := ⟨⟨cd_X13_goesOn, iz_X13, ⟨by decide +kernel, by decide +kernel⟩, by decide +kernel⟩, im_X13_goesOn, se_X13_goesOn⟩
theorem cal_X13_good : CalV mX13_good 1 := ⟨⟨cd_X13_good, iz_X13, ⟨by decide +kernel, by decide +kernel⟩, by decide +kernel⟩, im_X13_good, se_X13_good⟩
theorem cal_X13_granted : CalV mX13_granted 0 := ⟨⟨cd_X13_granted, iz_X13, ⟨by decide +kernel, by decide +kernel⟩, by decide +kernel⟩, im_X13_granted, se_X13_granted⟩
theorem cal_X13_hangs : CalV mX13_hangs 2 := ⟨⟨cd_X13_hangs, iz_X13, ⟨by decide +kernel, by decide +kernel⟩, by decide +kernel⟩, im_X13_hangs, se_X13_hangs⟩
theorem cal_X13_heardFrom : CalV mX13_heardFrom 1 := ⟨⟨cd_X13_heardFrom, iz_X13, ⟨by decide +kernel, by decide +kernel⟩, by decide +kernel⟩, im_X13_heardFrom, se_X13_heardFrom⟩
theorem cal_X13_heardOf : CalV mX13_heardOf 2 := ⟨⟨cd_X13_heardOf, iz_X13, ⟨by decide +kernel, by decide +kernel⟩, by decide +kernel⟩, im_X13_heardOf, se_X13_heardOf⟩
theorem cal_X13_hearerBy : CalV mX13_hearerBy 3 := ⟨⟨cd_X13_hearerBy, iz_X13, ⟨by decide +kernel, by decide +kernel⟩, by decide +kernel⟩, im_X13_hearerBy, se_X13_hearerBy⟩
theorem cal_X13_in : CalS mX13_in 3 := ⟨⟨cd_X13_in, iz_X13, ⟨by decide +kernel, by decide +kernel⟩, by decide +kernel⟩, sm_X13_in⟩
theorem cal_X13_isDead : CalV mX13_isDead 1 := ⟨⟨cd_X13_isDead, iz_X13, ⟨by decide +kernel, by decide +kernel⟩, by decide +kernel⟩, im_X13_isDead, se_X13_isDead⟩
theorem cal_X13_isDigit : CalS mX13_isDigit 1 := ⟨⟨cd_X13_isDigit, iz_X13, ⟨by decide +kernel, by decide +kernel⟩, by decide +kernel⟩, sm_X13_isDigit⟩
theorem cal_X13_isHouse : CalV mX13_isHouse 1 := ⟨⟨cd_X13_isHouse, iz_X13, ⟨by decide +kernel, by decide +kernel⟩, by decide +kernel⟩, im_X13_isHouse, se_X13_isHouse⟩
theorem cal_X13_isLetter : CalS mX13_isLetter 1 := ⟨⟨cd_X13_isLetter, iz_X13, ⟨by decide +kernel, by decide +kernel⟩, by decide +kernel⟩, sm_X13_isLetter⟩
theorem cal_X13_isLiked : CalV mX13_isLiked 3 := ⟨⟨cd_X13_isLiked, iz_X13, ⟨by decide +kernel, by decide +kernel⟩, by decide +kernel⟩, im_X13_isLiked, se_X13_isLiked⟩
theorem cal_X13_isName : CalV mX13_isName 0 := ⟨⟨cd_X13_isName, iz_X13, ⟨by decide +kernel, by decide +kernel⟩, by decide +kernel⟩, im_X13_isName, se_X13_isName⟩
theorem cal_X13_isPerson : CalV mX13_isPerson 1 := ⟨⟨cd_X13_isPerson, iz_X13, ⟨by decide +kernel, by decide +kernel⟩, by decide +kernel⟩, im_X13_isPerson, se_X13_isPerson⟩
theorem cal_X13_isRest : CalS mX13_isRest 2 := ⟨⟨cd_X13_isRest, iz_X13, ⟨by decide +kernel, by decide +kernel⟩, by decide +kernel⟩, sm_X13_isRest⟩
theorem cal_X13_isRight : CalV mX13_isRight 2 := ⟨⟨cd_X13_isRight, iz_X13, ⟨by decide +kernel, by decide +kernel⟩, by decide +kernel⟩, im_X13_isRight, se_X13_isRight⟩
theorem cal_X13_isWord : CalV mX13_isWord 1 := ⟨⟨cd_X13_isWord, iz_X13, ⟨by decide +kernel, by decide +kernel⟩, by decide +kernel⟩, im_X13_isWord, se_X13_isWord⟩
theorem cal_X13_knownOne : CalV mX13_knownOne 1 := ⟨⟨cd_X13_knownOne, iz_X13, ⟨by decide +kernel, by decide +kernel⟩, by decide +kernel⟩, im_X13_knownOne, se_X13_knownOne⟩
theorem cal_X13_lineBegins : CalV mX13_lineBegins 2 := ⟨⟨cd_X13_lineBegins, iz_X13, ⟨by decide +kernel, by decide +kernel⟩, by decide +kernel⟩, im_X13_lineBegins, se_X13_lineBegins⟩
theorem cal_X13_lost : CalV mX13_lost 1 := ⟨⟨cd_X13_lost, iz_X13, ⟨by decide +kernel, by decide +kernel⟩, by decide +kernel⟩, im_X13_lost, se_X13_lost⟩
theorem cal_X13_mirrorsNow : CalV mX13_mirrorsNow 0 := ⟨⟨cd_X13_mirrorsNow, iz_X13, ⟨by decide +kernel, by decide +kernel⟩, by decide +kernel⟩, im_X13_mirrorsNow, se_X13_mirrorsNow⟩
theorem cal_X13_names : CalV mX13_names 3 := ⟨⟨cd_X13_names, iz_X13, ⟨by decide +kernel, by decide +kernel⟩, by decide +kernel⟩, im_X13_names, se_X13_names⟩
theorem cal_X13_needs : CalV mX13_needs 1 := ⟨⟨cd_X13_needs, iz_X13, ⟨by decide +kernel, by decide +kernel⟩, by decide +kernel⟩, im_X13_needs, se_X13_needs⟩
theorem cal_X13_nextOf : CalV mX13_nextOf 2 := ⟨⟨cd_X13_nextOf, iz_X13, ⟨by decide +kernel, by decide +kernel⟩, by decide +kernel⟩, im_X13_nextOf, se_X13_nextOf⟩
theorem cal_X13_outOf : CalV mX13_outOf 3 := ⟨⟨cd_X13_outOf, iz_X13, ⟨by decide +kernel, by decide +kernel⟩, by decide +kernel⟩, im_X13_outOf, se_X13_outOf⟩
theorem cal_X13_packed : CalS mX13_packed 1 := ⟨⟨cd_X13_packed, iz_X13, ⟨by decide +kernel, by decide +kernel⟩, by decide +kernel⟩, sm_X13_packed⟩
theorem cal_X13_readAll : CalV mX13_readAll 0 := ⟨⟨cd_X13_readAll, iz_X13, ⟨by decide +kernel, by decide +kernel⟩, by decide +kernel⟩, im_X13_readAll, se_X13_readAll⟩
theorem cal_X13_readDead : CalV mX13_readDead 0 := ⟨⟨cd_X13_readDead, iz_X13, ⟨by decide +kernel, by decide +kernel⟩, by decide +kernel⟩, im_X13_readDead, se_X13_readDead⟩
theorem cal_X13_readFresh : CalV mX13_readFresh 0 := ⟨⟨cd_X13_readFresh, iz_X13, ⟨by decide +kernel, by decide +kernel⟩, by decide +kernel⟩, im_X13_readFresh, se_X13_readFresh⟩
theorem cal_X13_readHeard : CalV mX13_readHeard 0 := ⟨⟨cd_X13_readHeard, iz_X13, ⟨by decide +kernel, by decide +kernel⟩, by decide +kernel⟩, im_X13_readHeard, se_X13_readHeard⟩
theorem cal_X13_readKnown : CalV mX13_readKnown 1 := ⟨⟨cd_X13_readKnown, iz_X13, ⟨by decide +kernel, by decide +kernel⟩, by decide +kernel⟩, im_X13_readKnown, se_X13_readKnown⟩
theorem cal_X13_readLine : CalV mX13_readLine 0 := ⟨⟨cd_X13_readLine, iz_X13, ⟨by decide +kernel, by decide +kernel⟩, by decide +kernel⟩, im_X13_readLine, se_X13_readLine⟩
theorem cal_X13_readMirror : CalV mX13_readMirror 0 := ⟨⟨cd_X13_readMirror, iz_X13, ⟨by decide +kernel, by decide +kernel⟩, by decide +kernel⟩, im_X13_readMirror, se_X13_readMirror⟩
theorem cal_X13_readPart : CalV mX13_readPart 3 := ⟨⟨cd_X13_readPart, iz_X13, ⟨by decide +kernel, by decide +kernel⟩, by decide +kernel⟩, im_X13_readPart, se_X13_readPart⟩
theorem cal_X13_readPerson : CalV mX13_readPerson 0 := ⟨⟨cd_X13_readPerson, iz_X13, ⟨by decide +kernel, by decide +kernel⟩, by decide +kernel⟩, im_X13_readPerson, se_X13_readPerson⟩
theorem cal_X13_readTown : CalV mX13_readTown 0 := ⟨⟨cd_X13_readTown, iz_X13, ⟨by decide +kernel, by decide +kernel⟩, by decide +kernel⟩, im_X13_readTown, se_X13_readTown⟩
theorem cal_X13_readUnsure : CalV mX13_readUnsure 0 := ⟨⟨cd_X13_readUnsure, iz_X13, ⟨by decide +kernel, by decide +kernel⟩, by decide +kernel⟩, im_X13_readUnsure, se_X13_readUnsure⟩
theorem cal_X13_readWhole : CalV mX13_readWhole 2 := ⟨⟨cd_X13_readWhole, iz_X13, ⟨by decide +kernel, by decide +kernel⟩, by decide +kernel⟩, im_X13_readWhole, se_X13_readWhole⟩
theorem cal_X13_refused : CalV mX13_refused 1 := ⟨⟨cd_X13_refused, iz_X13, ⟨by decide +kernel, by decide +kernel⟩, by decide +kernel⟩, im_X13_refused, se_X13_refused⟩
theorem cal_X13_refusesNight : CalV mX13_refusesNight 2 := ⟨⟨cd_X13_refusesNight, iz_X13, ⟨by decide +kernel, by decide +kernel⟩, by decide +kernel⟩, im_X13_refusesNight, se_X13_refusesNight⟩
theorem cal_X13_refusesSoot : CalV mX13_refusesSoot 1 := ⟨⟨cd_X13_refusesSoot, iz_X13, ⟨by decide +kernel, by decide +kernel⟩, by decide +kernel⟩, im_X13_refusesSoot, se_X13_refusesSoot⟩
theorem cal_X13_remembers : CalV mX13_remembers 0 := ⟨⟨cd_X13_remembers, iz_X13, ⟨by decide +kernel, by decide +kernel⟩, by decide +kernel⟩, im_X13_remembers, se_X13_remembers⟩
theorem cal_X13_rightFor : CalV mX13_rightFor 3 := ⟨⟨cd_X13_rightFor, iz_X13, ⟨by decide +kernel, by decide +kernel⟩, by decide +kernel⟩, im_X13_rightFor, se_X13_rightFor⟩
theorem cal_X13_rightOn : CalV mX13_rightOn 1 := ⟨⟨cd_X13_rightOn, iz_X13, ⟨by decide +kernel, by decide +kernel⟩, by decide +kernel⟩, im_X13_rightOn, se_X13_rightOn⟩
theorem cal_X13_ringOf : CalV mX13_ringOf 2 := ⟨⟨cd_X13_ringOf, iz_X13, ⟨by decide +kernel, by decide +kernel⟩, by decide +kernel⟩, im_X13_ringOf, se_X13_ringOf⟩
theorem cal_X13_seating : CalV mX13_seating 1 := ⟨⟨cd_X13_seating, iz_X13, ⟨by decide +kernel, by decide +kernel⟩, by decide +kernel⟩, im_X13_seating, se_X13_seating⟩
theorem cal_X13_seats : CalV mX13_seats 1 := ⟨⟨cd_X13_seats, iz_X13, ⟨by decide +kernel, by decide +kernel⟩, by decide +kernel⟩, im_X13_seats, se_X13_seats⟩
theorem cal_X13_spreads : CalV mX13_spreads 3 := ⟨⟨cd_X13_spreads, iz_X13, ⟨by decide +kernel, by decide +kernel⟩, by decide +kernel⟩, im_X13_spreads, se_X13_spreads⟩
theorem cal_X13_whoHears : CalV mX13_whoHears 2 := ⟨⟨cd_X13_whoHears, iz_X13, ⟨by decide +kernel, by decide +kernel⟩, by decide +kernel⟩, im_X13_whoHears, se_X13_whoHears⟩
theorem cal_X13_whoIn : CalV mX13_whoIn 1 := ⟨⟨cd_X13_whoIn, iz_X13, ⟨by decide +kernel, by decide +kernel⟩, by decide +kernel⟩, im_X13_whoIn, se_X13_whoIn⟩
theorem cal_X13_wholeAt : CalV mX13_wholeAt 2 := ⟨⟨cd_X13_wholeAt, iz_X13, ⟨by decide +kernel, by decide +kernel⟩, by decide +kernel⟩, im_X13_wholeAt, se_X13_wholeAt⟩
theorem cal_X13_works : CalV mX13_works 0 := ⟨⟨cd_X13_works, iz_X13, ⟨by decide +kernel, by decide +kernel⟩, by decide +kernel⟩, im_X13_works, se_X13_works⟩
theorem cal_X13_wrongHeard : CalV mX13_wrongHeard 1 := ⟨⟨cd_X13_wrongHeard, iz_X13, ⟨by decide +kernel, by decide +kernel⟩, by decide +kernel⟩, im_X13_wrongHeard, se_X13_wrongHeard⟩
theorem cal_X1_inAll : CalV mX1_inAll 0 := ⟨⟨cd_X1_inAll, iz_X1, ⟨by decide +kernel, by decide +kernel⟩, by decide +kernel⟩, im_X1_inAll, se_X1_inAll⟩
theorem cal_X1_inSome : CalV mX1_inSome 0 := ⟨⟨cd_X1_inSome, iz_X1, ⟨by decide +kernel, by decide +kernel⟩, by decide +kernel⟩, im_X1_inSome, se_X1_inSome⟩
theorem cal_X1_init : CalI mX1_init 0 := ⟨⟨cd_X1_init, iz_X1, ⟨by decide +kernel, by decide +kernel⟩, by decide +kernel⟩, rfl, im_X1_init⟩
theorem cal_X1_leftAtMost : CalV mX1_leftAtMost 1 := ⟨⟨cd_X1_leftAtMost, iz_X1, ⟨by decide +kernel, by decide +kernel⟩, by decide +kernel⟩, im_X1_leftAtMost, se_X1_leftAtMost⟩
theorem cal_X1_list : CalV mX1_list 2 := ⟨⟨cd_X1_list, iz_X1, ⟨by decide +kernel, by decide +kernel⟩, by decide +kernel⟩, im_X1_list, se_X1_list⟩
theorem cal_X1_notSoBy : CalS mX1_notSoBy 2 := ⟨⟨cd_X1_notSoBy, iz_X1, ⟨by decide +kernel, by decide +kernel⟩, by decide +kernel⟩, sm_X1_notSoBy⟩
theorem cal_X1_suppose : CalS mX1_suppose 3 := ⟨⟨cd_X1_suppose, iz_X1, ⟨by decide +kernel, by decide +kernel⟩, by decide +kernel⟩, sm_X1_suppose⟩
theorem cal_X1_whomToAsk : CalV mX1_whomToAsk 1 := ⟨⟨cd_X1_whomToAsk, iz_X1, ⟨by decide +kernel, by decide +kernel⟩, by decide +kernel⟩, im_X1_whomToAsk, se_X1_whomToAsk⟩
theorem cal_X2_countWays : CalV mX2_countWays 2 := ⟨⟨cd_X2_countWays, iz_X2, ⟨by decide +kernel, by decide +kernel⟩, by decide +kernel⟩, im_X2_countWays, se_X2_countWays⟩
theorem cal_X2_draw : CalV mX2_draw 0 := ⟨⟨cd_X2_draw, iz_X2, ⟨by decide +kernel, by decide +kernel⟩, by decide +kernel⟩, im_X2_draw, se_X2_draw⟩
theorem cal_X2_drawnListener : CalV mX2_drawnListener 3 := ⟨⟨cd_X2_drawnListener, iz_X2, ⟨by decide +kernel, by decide +kernel⟩, by decide +kernel⟩, im_X2_drawnListener, se_X2_drawnListener⟩
theorem cal_X2_hundredths : CalV mX2_hundredths 4 := ⟨⟨cd_X2_hundredths, iz_X2, ⟨by decide +kernel, by decide +kernel⟩, by decide +kernel⟩, im_X2_hundredths, se_X2_hundredths⟩
theorem cal_X2_init : CalI mX2_init 0 := ⟨⟨cd_X2_init, iz_X2, ⟨by decide +kernel, by decide +kernel⟩, by decide +kernel⟩, rfl, im_X2_init⟩
theorem cal_X2_skip : CalV mX2_skip 1 := ⟨⟨cd_X2_skip, iz_X2, ⟨by decide +kernel, by decide +kernel⟩, by decide +kernel⟩, im_X2_skip, se_X2_skip⟩
theorem cal_X2_waysFrom : CalV mX2_waysFrom 1 := ⟨⟨cd_X2_waysFrom, iz_X2, ⟨by decide +kernel, by decide +kernel⟩, by decide +kernel⟩, im_X2_waysFrom, se_X2_waysFrom⟩
theorem cal_X3_forgetOldest : CalV mX3_forgetOldest 0 := ⟨⟨cd_X3_forgetOldest, iz_X3, ⟨by decide +kernel, by decide +kernel⟩, by decide +kernel⟩, im_X3_forgetOldest, se_X3_forgetOldest⟩
theorem cal_X3_init : CalI mX3_init 0 := ⟨⟨cd_X3_init, iz_X3, ⟨by decide +kernel, by decide +kernel⟩, by decide +kernel⟩, rfl, im_X3_init⟩
theorem cal_X3_keep : CalV mX3_keep 3 := ⟨⟨cd_X3_keep, iz_X3, ⟨by decide +kernel, by decide +kernel⟩, by decide +kernel⟩, im_X3_keep, se_X3_keep⟩
theorem cal_X3_revertLatest : CalV mX3_revertLatest 1 := ⟨⟨cd_X3_revertLatest, iz_X3, ⟨by decide +kernel, by decide +kernel⟩, by decide +kernel⟩, im_X3_revertLatest, se_X3_revertLatest⟩
theorem cal_X4_beginLine : CalV mX4_beginLine 1 := ⟨⟨cd_X4_beginLine, iz_X4, ⟨by decide +kernel, by decide +kernel⟩, by decide +kernel⟩, im_X4_beginLine, se_X4_beginLine⟩
theorem cal_X4_fail : CalV mX4_fail 2 := ⟨⟨cd_X4_fail, iz_X4, ⟨by decide +kernel, by decide +kernel⟩, by decide +kernel⟩, im_X4_fail, se_X4_fail⟩
theorem cal_X4_find : CalS mX4_find 3 := ⟨⟨cd_X4_find, iz_X4, ⟨by decide +kernel, by decide +kernel⟩, by decide +kernel⟩, sm_X4_find⟩
theorem cal_X4_init : CalI mX4_init 0 := ⟨⟨cd_X4_init, iz_X4, ⟨by decide +kernel, by decide +kernel⟩, by decide +kernel⟩, rfl, im_X4_init⟩
theorem cal_X4_lawOfToken : CalV mX4_lawOfToken 0 := ⟨⟨cd_X4_lawOfToken, iz_X4, ⟨by decide +kernel, by decide +kernel⟩, by decide +kernel⟩, im_X4_lawOfToken, se_X4_lawOfToken⟩
theorem cal_X4_lineSort : CalV mX4_lineSort 0 := ⟨⟨cd_X4_lineSort, iz_X4, ⟨by decide +kernel, by decide +kernel⟩, by decide +kernel⟩, im_X4_lineSort, se_X4_lineSort⟩
theorem cal_X4_read : CalV mX4_read 2 := ⟨⟨cd_X4_read, iz_X4, ⟨by decide +kernel, by decide +kernel⟩, by decide +kernel⟩, im_X4_read, se_X4_read⟩
theorem cal_X4_readDead : CalV mX4_readDead 0 := ⟨⟨cd_X4_readDead, iz_X4, ⟨by decide +kernel, by decide +kernel⟩, by decide +kernel⟩, im_X4_readDead, se_X4_readDead⟩
theorem cal_X4_readHeard : CalV mX4_readHeard 0 := ⟨⟨cd_X4_readHeard, iz_X4, ⟨by decide +kernel, by decide +kernel⟩, by decide +kernel⟩, im_X4_readHeard, se_X4_readHeard⟩
theorem cal_X4_readLine : CalV mX4_readLine 0 := ⟨⟨cd_X4_readLine, iz_X4, ⟨by decide +kernel, by decide +kernel⟩, by decide +kernel⟩, im_X4_readLine, se_X4_readLine⟩
theorem cal_X4_readMirror : CalV mX4_readMirror 0 := ⟨⟨cd_X4_readMirror, iz_X4, ⟨by decide +kernel, by decide +kernel⟩, by decide +kernel⟩, im_X4_readMirror, se_X4_readMirror⟩
theorem cal_X4_readPerson : CalV mX4_readPerson 0 := ⟨⟨cd_X4_readPerson, iz_X4, ⟨by decide +kernel, by decide +kernel⟩, by decide +kernel⟩, im_X4_readPerson, se_X4_readPerson⟩
theorem cal_X4_readTown : CalV mX4_readTown 0 := ⟨⟨cd_X4_readTown, iz_X4, ⟨by decide +kernel, by decide +kernel⟩, by decide +kernel⟩, im_X4_readTown, se_X4_readTown⟩
theorem cal_X4_readUnsure : CalV mX4_readUnsure 0 := ⟨⟨cd_X4_readUnsure, iz_X4, ⟨by decide +kernel, by decide +kernel⟩, by decide +kernel⟩, im_X4_readUnsure, se_X4_readUnsure⟩
theorem cal_X4_takeLaw : CalV mX4_takeLaw 0 := ⟨⟨cd_X4_takeLaw, iz_X4, ⟨by decide +kernel, by decide +kernel⟩, by decide +kernel⟩, im_X4_takeLaw, se_X4_takeLaw⟩
theorem cal_X4_takeNewName : CalV mX4_takeNewName 0 := ⟨⟨cd_X4_takeNewName, iz_X4, ⟨by decide +kernel, by decide +kernel⟩, by decide +kernel⟩, im_X4_takeNewName, se_X4_takeNewName⟩
theorem cal_X4_takeToken : CalV mX4_takeToken 1 := ⟨⟨cd_X4_takeToken, iz_X4, ⟨by decide +kernel, by decide +kernel⟩, by decide +kernel⟩, im_X4_takeToken, se_X4_takeToken⟩
theorem cal_X4_takeTold : CalV mX4_takeTold 2 := ⟨⟨cd_X4_takeTold, iz_X4, ⟨by decide +kernel, by decide +kernel⟩, by decide +kernel⟩, im_X4_takeTold, se_X4_takeTold⟩
theorem cal_X4_takeWhole : CalV mX4_takeWhole 2 := ⟨⟨cd_X4_takeWhole, iz_X4, ⟨by decide +kernel, by decide +kernel⟩, by decide +kernel⟩, im_X4_takeWhole, se_X4_takeWhole⟩
theorem cal_X4_takeWord : CalV mX4_takeWord 1 := ⟨⟨cd_X4_takeWord, iz_X4, ⟨by decide +kernel, by decide +kernel⟩, by decide +kernel⟩, im_X4_takeWord, se_X4_takeWord⟩
theorem cal_X5_firstBestPlace : CalV mX5_firstBestPlace 3 := ⟨⟨cd_X5_firstBestPlace, iz_X5, ⟨by decide +kernel, by decide +kernel⟩, by decide +kernel⟩, im_X5_firstBestPlace, se_X5_firstBestPlace⟩
theorem cal_X5_init : CalI mX5_init 0 := ⟨⟨cd_X5_init, iz_X5, ⟨by decide +kernel, by decide +kernel⟩, by decide +kernel⟩, rfl, im_X5_init⟩
theorem cal_X5_isLiked : CalV mX5_isLiked 2 := ⟨⟨cd_X5_isLiked, iz_X5, ⟨by decide +kernel, by decide +kernel⟩, by decide +kernel⟩, im_X5_isLiked, se_X5_isLiked⟩
theorem cal_X5_mostRight : CalV mX5_mostRight 0 := ⟨⟨cd_X5_mostRight, iz_X5, ⟨by decide +kernel, by decide +kernel⟩, by decide +kernel⟩, im_X5_mostRight, se_X5_mostRight⟩
theorem cal_X5_placeOf : CalV mX5_placeOf 2 := ⟨⟨cd_X5_placeOf, iz_X5, ⟨by decide +kernel, by decide +kernel⟩, by decide +kernel⟩, im_X5_placeOf, se_X5_placeOf⟩
theorem cal_X5_weigh : CalV mX5_weigh 2 := ⟨⟨cd_X5_weigh, iz_X5, ⟨by decide +kernel, by decide +kernel⟩, by decide +kernel⟩, im_X5_weigh, se_X5_weigh⟩
theorem cal_X5_worthOf : CalV mX5_worthOf 2 := ⟨⟨cd_X5_worthOf, iz_X5, ⟨by decide +kernel, by decide +kernel⟩, by decide +kernel⟩, im_X5_worthOf, se_X5_worthOf⟩
theorem cal_X6_copy : CalV mX6_copy 1 := ⟨⟨cd_X6_copy, iz_X6, ⟨by decide +kernel, by decide +kernel⟩, by decide +kernel⟩, im_X6_copy, se_X6_copy⟩
theorem cal_X6_init : CalI mX6_init 0 := ⟨⟨cd_X6_init, iz_X6, ⟨by decide +kernel, by decide +kernel⟩, by decide +kernel⟩, rfl, im_X6_init⟩
theorem cal_X7_init : CalI mX7_init 0 := ⟨⟨cd_X7_init, iz_X7, ⟨by decide +kernel, by decide +kernel⟩, by decide +kernel⟩, rfl, im_X7_init⟩
theorem cal_X7_isHouse : CalV mX7_isHouse 1 := ⟨⟨cd_X7_isHouse, iz_X7, ⟨by decide +kernel, by decide +kernel⟩, by decide +kernel⟩, im_X7_isHouse, se_X7_isHouse⟩
theorem cal_X7_lay : CalV mX7_lay 3 := ⟨⟨cd_X7_lay, iz_X7, ⟨by decide +kernel, by decide +kernel⟩, by decide +kernel⟩, im_X7_lay, se_X7_lay⟩
theorem cal_X7_listenerAt : CalV mX7_listenerAt 1 := ⟨⟨cd_X7_listenerAt, iz_X7, ⟨by decide +kernel, by decide +kernel⟩, by decide +kernel⟩, im_X7_listenerAt, se_X7_listenerAt⟩
theorem cal_X7_occupantOf : CalV mX7_occupantOf 1 := ⟨⟨cd_X7_occupantOf, iz_X7, ⟨by decide +kernel, by decide +kernel⟩, by decide +kernel⟩, im_X7_occupantOf, se_X7_occupantOf⟩
theorem cal_X8_begin : CalV mX8_begin 2 := ⟨⟨cd_X8_begin, iz_X8, ⟨by decide +kernel, by decide +kernel⟩, by decide +kernel⟩, im_X8_begin, se_X8_begin⟩
theorem cal_X8_init : CalI mX8_init 0 := ⟨⟨cd_X8_init, iz_X8, ⟨by decide +kernel, by decide +kernel⟩, by decide +kernel⟩, rfl, im_X8_init⟩
theorem cal_X8_isWord : CalV mX8_isWord 1 := ⟨⟨cd_X8_isWord, iz_X8, ⟨by decide +kernel, by decide +kernel⟩, by decide +kernel⟩, im_X8_isWord, se_X8_isWord⟩
theorem cal_X8_sortAt : CalV mX8_sortAt 1 := ⟨⟨cd_X8_sortAt, iz_X8, ⟨by decide +kernel, by decide +kernel⟩, by decide +kernel⟩, im_X8_sortAt, se_X8_sortAt⟩
theorem cal_X8_step : CalV mX8_step 0 := ⟨⟨cd_X8_step, iz_X8, ⟨by decide +kernel, by decide +kernel⟩, by decide +kernel⟩, im_X8_step, se_X8_step⟩
theorem cal_X9_around : CalV mX9_around 1 := ⟨⟨cd_X9_around, iz_X9, ⟨by decide +kernel, by decide +kernel⟩, by decide +kernel⟩, im_X9_around, se_X9_around⟩
theorem cal_X9_clear : CalV mX9_clear 0 := ⟨⟨cd_X9_clear, iz_X9, ⟨by decide +kernel, by decide +kernel⟩, by decide +kernel⟩, im_X9_clear, se_X9_clear⟩
theorem cal_X9_copy : CalV mX9_copy 1 := ⟨⟨cd_X9_copy, iz_X9, ⟨by decide +kernel, by decide +kernel⟩, by decide +kernel⟩, im_X9_copy, se_X9_copy⟩
theorem cal_X9_deadFor : CalV mX9_deadFor 1 := ⟨⟨cd_X9_deadFor, iz_X9, ⟨by decide +kernel, by decide +kernel⟩, by decide +kernel⟩, im_X9_deadFor, se_X9_deadFor⟩
theorem cal_X9_distance : CalV mX9_distance 2 := ⟨⟨cd_X9_distance, iz_X9, ⟨by decide +kernel, by decide +kernel⟩, by decide +kernel⟩, im_X9_distance, se_X9_distance⟩
theorem cal_X9_firstDeadFor : CalV mX9_firstDeadFor 1 := ⟨⟨cd_X9_firstDeadFor, iz_X9, ⟨by decide +kernel, by decide +kernel⟩, by decide +kernel⟩, im_X9_firstDeadFor, se_X9_firstDeadFor⟩
theorem cal_X9_init : CalI mX9_init 0 := ⟨⟨cd_X9_init, iz_X9, ⟨by decide +kernel, by decide +kernel⟩, by decide +kernel⟩, rfl, im_X9_init⟩
theorem cal_X9_isHeard : CalV mX9_isHeard 2 := ⟨⟨cd_X9_isHeard, iz_X9, ⟨by decide +kernel, by decide +kernel⟩, by decide +kernel⟩, im_X9_isHeard, se_X9_isHeard⟩
theorem cal_X9_isTaken : CalV mX9_isTaken 1 := ⟨⟨cd_X9_isTaken, iz_X9, ⟨by decide +kernel, by decide +kernel⟩, by decide +kernel⟩, im_X9_isTaken, se_X9_isTaken⟩
theorem cal_X9_isUnsure : CalV mX9_isUnsure 1 := ⟨⟨cd_X9_isUnsure, iz_X9, ⟨by decide +kernel, by decide +kernel⟩, by decide +kernel⟩, im_X9_isUnsure, se_X9_isUnsure⟩
theorem cal_X9_nightsToGoRound : CalV mX9_nightsToGoRound 1 := ⟨⟨cd_X9_nightsToGoRound, iz_X9, ⟨by decide +kernel, by decide +kernel⟩, by decide +kernel⟩, im_X9_nightsToGoRound, se_X9_nightsToGoRound⟩
theorem ft_0_0 : ft 0 0 = 2 := rfl
theorem ft_0_1 : ft 0 1 = 2 := rfl
theorem ft_0_2 : ft 0 2 = 2 := rfl
theorem ft_0_3 : ft 0 3 = 2 := rfl
theorem ft_0_4 : ft 0 4 = 0 := rfl
theorem ft_10_0 : ft 10 0 = 2 := rfl
theorem ft_10_1 : ft 10 1 = 2 := rfl
theorem ft_10_2 : ft 10 2 = 2 := rfl
theorem ft_11_0 : ft 11 0 = 2 := rfl
theorem ft_11_1 : ft 11 1 = 0 := rfl
theorem ft_11_10 : ft 11 10 = 2 := rfl
theorem ft_11_11 : ft 11 11 = 2 := rfl
theorem ft_11_12 : ft 11 12 = 2 := rfl
theorem ft_11_13 : ft 11 13 = 2 := rfl
theorem ft_11_14 : ft 11 14 = 2 := rfl
theorem ft_11_15 : ft 11 15 = 0 := rfl
theorem ft_11_2 : ft 11 2 = 0 := rfl
theorem ft_11_3 : ft 11 3 = 0 := rfl
theorem ft_11_4 : ft 11 4 = 0 := rfl
theorem ft_11_5 : ft 11 5 = 2 := rfl
theorem ft_11_6 : ft 11 6 = 2 := rfl
theorem ft_11_7 : ft 11 7 = 2 := rfl
theorem ft_11_8 : ft 11 8 = 2 := rfl
theorem ft_11_9 : ft 11 9 = 2 := rfl
theorem ft_12_0 : ft 12 0 = 0 := rfl
theorem ft_12_1 : ft 12 1 = 0 := rfl
theorem ft_12_10 : ft 12 10 = 2 := rfl
theorem ft_12_11 : ft 12 11 = 2 := rfl
theorem ft_12_12 : ft 12 12 = 2 := rfl
theorem ft_12_13 : ft 12 13 = 2 := rfl
theorem ft_12_14 : ft 12 14 = 2 := rfl
theorem ft_12_15 : ft 12 15 = 2 := rfl
theorem ft_12_16 : ft 12 16 = 2 := rfl
theorem ft_12_17 : ft 12 17 = 2 := rfl
theorem ft_12_18 : ft 12 18 = 2 := rfl
theorem ft_12_19 : ft 12 19 = 2 := rfl
theorem ft_12_2 : ft 12 2 = 0 := rfl
theorem ft_12_20 : ft 12 20 = 2 := rfl
theorem ft_12_3 : ft 12 3 = 0 := rfl
theorem ft_12_5 : ft 12 5 = 0 := rfl
theorem ft_12_6 : ft 12 6 = 0 := rfl
theorem ft_12_7 : ft 12 7 = 0 := rfl
theorem ft_12_8 : ft 12 8 = 2 := rfl
theorem ft_12_9 : ft 12 9 = 2 := rfl
theorem ft_13_0 : ft 13 0 = 0 := rfl
theorem ft_13_1 : ft 13 1 = 0 := rfl
theorem ft_13_10 : ft 13 10 = 0 := rfl
theorem ft_13_11 : ft 13 11 = 0 := rfl
theorem ft_13_12 : ft 13 12 = 0 := rfl
theorem ft_13_13 : ft 13 13 = 0 := rfl
theorem ft_13_14 : ft 13 14 = 1 := rfl
theorem ft_13_15 : ft 13 15 = 2 := rfl
theorem ft_13_16 : ft 13 16 = 2 := rfl
theorem ft_13_17 : ft 13 17 = 2 := rfl
theorem ft_13_18 : ft 13 18 = 2 := rfl
theorem ft_13_19 : ft 13 19 = 0 := rfl
theorem ft_13_2 : ft 13 2 = 0 := rfl
theorem ft_13_20 : ft 13 20 = 0 := rfl
theorem ft_13_21 : ft 13 21 = 2 := rfl
theorem ft_13_22 : ft 13 22 = 2 := rfl
theorem ft_13_23 : ft 13 23 = 0 := rfl
theorem ft_13_24 : ft 13 24 = 2 := rfl
theorem ft_13_25 : ft 13 25 = 2 := rfl
theorem ft_13_26 : ft 13 26 = 0 := rfl
theorem ft_13_27 : ft 13 27 = 0 := rfl
theorem ft_13_28 : ft 13 28 = 0 := rfl
theorem ft_13_29 : ft 13 29 = 2 := rfl
theorem ft_13_3 : ft 13 3 = 2 := rfl
theorem ft_13_30 : ft 13 30 = 0 := rfl
theorem ft_13_31 : ft 13 31 = 2 := rfl
theorem ft_13_32 : ft 13 32 = 0 := rfl
theorem ft_13_4 : ft 13 4 = 2 := rfl
theorem ft_13_5 : ft 13 5 = 2 := rfl
theorem ft_13_6 : ft 13 6 = 0 := rfl
theorem ft_13_7 : ft 13 7 = 0 := rfl
theorem ft_13_8 : ft 13 8 = 0 := rfl
theorem ft_13_9 : ft 13 9 = 0 := rfl
theorem ft_1_0 : ft 1 0 = 2 := rfl
theorem ft_1_1 : ft 1 1 = 0 := rfl
theorem ft_1_2 : ft 1 2 = 0 := rfl
theorem ft_2_0 : ft 2 0 = 2 := rfl
theorem ft_2_1 : ft 2 1 = 0 := rfl
theorem ft_3_0 : ft 3 0 = 0 := rfl
theorem ft_3_1 : ft 3 1 = 2 := rfl
theorem ft_3_2 : ft 3 2 = 2 := rfl
theorem ft_3_3 : ft 3 3 = 2 := rfl
theorem ft_4_0 : ft 4 0 = 2 := rfl
theorem ft_4_1 : ft 4 1 = 0 := rfl
theorem ft_4_2 : ft 4 2 = 0 := rfl
theorem ft_4_3 : ft 4 3 = 2 := rfl
theorem ft_4_4 : ft 4 4 = 2 := rfl
theorem ft_4_5 : ft 4 5 = 2 := rfl
theorem ft_4_6 : ft 4 6 = 0 := rfl
theorem ft_5_0 : ft 5 0 = 2 := rfl
theorem ft_5_1 : ft 5 1 = 2 := rfl
theorem ft_5_2 : ft 5 2 = 0 := rfl
theorem ft_6_0 : ft 6 0 = 0 := rfl
theorem ft_6_1 : ft 6 1 = 2 := rfl
theorem ft_6_2 : ft 6 2 = 2 := rfl
theorem ft_6_3 : ft 6 3 = 2 := rfl
theorem ft_7_0 : ft 7 0 = 2 := rfl
theorem ft_7_1 : ft 7 1 = 2 := rfl
theorem ft_7_2 : ft 7 2 = 0 := rfl
theorem ft_8_0 : ft 8 0 = 0 := rfl
theorem ft_8_1 : ft 8 1 = 0 := rfl
theorem ft_8_2 : ft 8 2 = 1 := rfl
theorem ft_8_3 : ft 8 3 = 2 := rfl
theorem ft_8_4 : ft 8 4 = 0 := rfl
theorem ft_8_5 : ft 8 5 = 0 := rfl
theorem ft_9_0 : ft 9 0 = 0 := rfl
theorem ft_9_1 : ft 9 1 = 0 := rfl
theorem ft_9_10 : ft 9 10 = 2 := rfl
theorem ft_9_11 : ft 9 11 = 2 := rfl
theorem ft_9_12 : ft 9 12 = 2 := rfl
theorem ft_9_13 : ft 9 13 = 2 := rfl
theorem ft_9_2 : ft 9 2 = 0 := rfl
theorem ft_9_3 : ft 9 3 = 0 := rfl
theorem ft_9_4 : ft 9 4 = 0 := rfl
theorem ft_9_5 : ft 9 5 = 0 := rfl
theorem ft_9_6 : ft 9 6 = 2 := rfl
theorem ft_9_7 : ft 9 7 = 2 := rfl
theorem ft_9_8 : ft 9 8 = 2 := rfl
theorem ft_9_9 : ft 9 9 = 2 := rfl
theorem nf_0_0 : 0 < nf 0 := by decide
theorem nf_0_1 : 1 < nf 0 := by decide
theorem nf_0_2 : 2 < nf 0 := by decide
theorem nf_0_3 : 3 < nf 0 := by decide
theorem nf_0_4 : 4 < nf 0 := by decide
theorem nf_10_0 : 0 < nf 10 := by decide
theorem nf_10_1 : 1 < nf 10 := by decide
theorem nf_10_2 : 2 < nf 10 := by decide
theorem nf_11_0 : 0 < nf 11 := by decide
theorem nf_11_1 : 1 < nf 11 := by decide
theorem nf_11_10 : 10 < nf 11 := by decide
theorem nf_11_11 : 11 < nf 11 := by decide
theorem nf_11_12 : 12 < nf 11 := by decide
theorem nf_11_13 : 13 < nf 11 := by decide
theorem nf_11_14 : 14 < nf 11 := by decide
theorem nf_11_15 : 15 < nf 11 := by decide
theorem nf_11_2 : 2 < nf 11 := by decide
theorem nf_11_3 : 3 < nf 11 := by decide
theorem nf_11_4 : 4 < nf 11 := by decide
theorem nf_11_5 : 5 < nf 11 := by decide
theorem nf_11_6 : 6 < nf 11 := by decide
theorem nf_11_7 : 7 < nf 11 := by decide
theorem nf_11_8 : 8 < nf 11 := by decide
theorem nf_11_9 : 9 < nf 11 := by decide
theorem nf_12_0 : 0 < nf 12 := by decide
theorem nf_12_1 : 1 < nf 12 := by decide
theorem nf_12_10 : 10 < nf 12 := by decide
theorem nf_12_11 : 11 < nf 12 := by decide
theorem nf_12_12 : 12 < nf 12 := by decide
theorem nf_12_13 : 13 < nf 12 := by decide
theorem nf_12_14 : 14 < nf 12 := by decide
theorem nf_12_15 : 15 < nf 12 := by decide
theorem nf_12_16 : 16 < nf 12 := by decide
theorem nf_12_17 : 17 < nf 12 := by decide
theorem nf_12_18 : 18 < nf 12 := by decide
theorem nf_12_19 : 19 < nf 12 := by decide
theorem nf_12_2 : 2 < nf 12 := by decide
theorem nf_12_20 : 20 < nf 12 := by decide
theorem nf_12_3 : 3 < nf 12 := by decide
theorem nf_12_5 : 5 < nf 12 := by decide
theorem nf_12_6 : 6 < nf 12 := by decide
theorem nf_12_7 : 7 < nf 12 := by decide
theorem nf_12_8 : 8 < nf 12 := by decide
theorem nf_12_9 : 9 < nf 12 := by decide
theorem nf_13_0 : 0 < nf 13 := by decide
theorem nf_13_1 : 1 < nf 13 := by decide
theorem nf_13_10 : 10 < nf 13 := by decide
theorem nf_13_11 : 11 < nf 13 := by decide
theorem nf_13_12 : 12 < nf 13 := by decide
theorem nf_13_13 : 13 < nf 13 := by decide
theorem nf_13_14 : 14 < nf 13 := by decide
theorem nf_13_15 : 15 < nf 13 := by decide
theorem nf_13_16 : 16 < nf 13 := by decide
theorem nf_13_17 : 17 < nf 13 := by decide
theorem nf_13_18 : 18 < nf 13 := by decide
theorem nf_13_19 : 19 < nf 13 := by decide
theorem nf_13_2 : 2 < nf 13 := by decide
theorem nf_13_20 : 20 < nf 13 := by decide
theorem nf_13_21 : 21 < nf 13 := by decide
theorem nf_13_22 : 22 < nf 13 := by decide
theorem nf_13_23 : 23 < nf 13 := by decide
theorem nf_13_24 : 24 < nf 13 := by decide
theorem nf_13_25 : 25 < nf 13 := by decide
theorem nf_13_26 : 26 < nf 13 := by decide
theorem nf_13_27 : 27 < nf 13 := by decide
theorem nf_13_28 : 28 < nf 13 := by decide
theorem nf_13_29 : 29 < nf 13 := by decide
theorem nf_13_3 : 3 < nf 13 := by decide
theorem nf_13_30 : 30 < nf 13 := by decide
theorem nf_13_31 : 31 < nf 13 := by decide
theorem nf_13_32 : 32 < nf 13 := by decide
theorem nf_13_4 : 4 < nf 13 := by decide
theorem nf_13_5 : 5 < nf 13 := by decide
theorem nf_13_6 : 6 < nf 13 := by decide
theorem nf_13_7 : 7 < nf 13 := by decide
theorem nf_13_8 : 8 < nf 13 := by decide
theorem nf_13_9 : 9 < nf 13 := by decide
theorem nf_1_0 : 0 < nf 1 := by decide
theorem nf_1_1 : 1 < nf 1 := by decide
theorem nf_1_2 : 2 < nf 1 := by decide
theorem nf_2_0 : 0 < nf 2 := by decide
theorem nf_2_1 : 1 < nf 2 := by decide
theorem nf_3_0 : 0 < nf 3 := by decide
theorem nf_3_1 : 1 < nf 3 := by decide
theorem nf_3_2 : 2 < nf 3 := by decide
theorem nf_3_3 : 3 < nf 3 := by decide
theorem nf_4_0 : 0 < nf 4 := by decide
theorem nf_4_1 : 1 < nf 4 := by decide
theorem nf_4_2 : 2 < nf 4 := by decide
theorem nf_4_3 : 3 < nf 4 := by decide
theorem nf_4_4 : 4 < nf 4 := by decide
theorem nf_4_5 : 5 < nf 4 := by decide
theorem nf_4_6 : 6 < nf 4 := by decide
theorem nf_5_0 : 0 < nf 5 := by decide
theorem nf_5_1 : 1 < nf 5 := by decide
theorem nf_5_2 : 2 < nf 5 := by decide
theorem nf_6_0 : 0 < nf 6 := by decide
theorem nf_6_1 : 1 < nf 6 := by decide
theorem nf_6_2 : 2 < nf 6 := by decide
theorem nf_6_3 : 3 < nf 6 := by decide
theorem nf_7_0 : 0 < nf 7 := by decide
theorem nf_7_1 : 1 < nf 7 := by decide
theorem nf_7_2 : 2 < nf 7 := by decide
theorem nf_8_0 : 0 < nf 8 := by decide
theorem nf_8_1 : 1 < nf 8 := by decide
theorem nf_8_2 : 2 < nf 8 := by decide
theorem nf_8_3 : 3 < nf 8 := by decide
theorem nf_8_4 : 4 < nf 8 := by decide
theorem nf_8_5 : 5 < nf 8 := by decide
theorem nf_9_0 : 0 < nf 9 := by decide
theorem nf_9_1 : 1 < nf 9 := by decide
theorem nf_9_10 : 10 < nf 9 := by decide
theorem nf_9_11 : 11 < nf 9 := by decide
theorem nf_9_12 : 12 < nf 9 := by decide
theorem nf_9_13 : 13 < nf 9 := by decide
theorem nf_9_2 : 2 < nf 9 := by decide
theorem nf_9_3 : 3 < nf 9 := by decide
theorem nf_9_4 : 4 < nf 9 := by decide
theorem nf_9_5 : 5 < nf 9 := by decide
theorem nf_9_6 : 6 < nf 9 := by decide
theorem nf_9_7 : 7 < nf 9 := by decide
theorem nf_9_8 : 8 < nf 9 := by decide
theorem nf_9_9 : 9 < nf 9 := by decide
theorem ty_0_0 : isRf (tyCl 0 0) = true := rfl
theorem ty_0_1 : isRf (tyCl 0 1) = true := rfl
theorem ty_0_2 : isRf (tyCl 0 2) = true := rfl
theorem ty_0_3 : isRf (tyCl 0 3) = true := rfl
theorem ty_0_4 : tyCl 0 4 = .int := rfl
theorem ty_10_0 : isRf (tyCl 10 0) = true := rfl
theorem ty_10_1 : isRf (tyCl 10 1) = true := rfl
theorem ty_10_2 : isRf (tyCl 10 2) = true := rfl
theorem ty_11_0 : isRf (tyCl 11 0) = true := rfl
theorem ty_11_1 : tyCl 11 1 = .int := rfl
theorem ty_11_10 : isRf (tyCl 11 10) = true := rfl
theorem ty_11_11 : isRf (tyCl 11 11) = true := rfl
theorem ty_11_12 : isRf (tyCl 11 12) = true := rfl
theorem ty_11_13 : isRf (tyCl 11 13) = true := rfl
theorem ty_11_14 : isRf (tyCl 11 14) = true := rfl
theorem ty_11_15 : tyCl 11 15 = .int := rfl
theorem ty_11_2 : tyCl 11 2 = .int := rfl
theorem ty_11_3 : tyCl 11 3 = .int := rfl
theorem ty_11_4 : tyCl 11 4 = .int := rfl
theorem ty_11_5 : isRf (tyCl 11 5) = true := rfl
theorem ty_11_6 : isRf (tyCl 11 6) = true := rfl
theorem ty_11_7 : isRf (tyCl 11 7) = true := rfl
theorem ty_11_8 : isRf (tyCl 11 8) = true := rfl
theorem ty_11_9 : isRf (tyCl 11 9) = true := rfl
theorem ty_12_0 : tyCl 12 0 = .int := rfl
theorem ty_12_1 : tyCl 12 1 = .int := rfl
theorem ty_12_10 : isRf (tyCl 12 10) = true := rfl
theorem ty_12_11 : isRf (tyCl 12 11) = true := rfl
theorem ty_12_12 : isRf (tyCl 12 12) = true := rfl
theorem ty_12_13 : isRf (tyCl 12 13) = true := rfl
theorem ty_12_14 : isRf (tyCl 12 14) = true := rfl
theorem ty_12_15 : isRf (tyCl 12 15) = true := rfl
theorem ty_12_16 : isRf (tyCl 12 16) = true := rfl
theorem ty_12_17 : isRf (tyCl 12 17) = true := rfl
theorem ty_12_18 : isRf (tyCl 12 18) = true := rfl
theorem ty_12_19 : isRf (tyCl 12 19) = true := rfl
theorem ty_12_2 : tyCl 12 2 = .int := rfl
theorem ty_12_20 : isRf (tyCl 12 20) = true := rfl
theorem ty_12_3 : tyCl 12 3 = .int := rfl
theorem ty_12_5 : tyCl 12 5 = .int := rfl
theorem ty_12_6 : tyCl 12 6 = .int := rfl
theorem ty_12_7 : tyCl 12 7 = .int := rfl
theorem ty_12_8 : isRf (tyCl 12 8) = true := rfl
theorem ty_12_9 : isRf (tyCl 12 9) = true := rfl
theorem ty_13_0 : tyCl 13 0 = .int := rfl
theorem ty_13_1 : tyCl 13 1 = .int := rfl
theorem ty_13_10 : tyCl 13 10 = .int := rfl
theorem ty_13_11 : tyCl 13 11 = .int := rfl
theorem ty_13_12 : tyCl 13 12 = .int := rfl
theorem ty_13_13 : tyCl 13 13 = .int := rfl
theorem ty_13_14 : tyCl 13 14 = .long := rfl
theorem ty_13_15 : isRf (tyCl 13 15) = true := rfl
theorem ty_13_16 : isRf (tyCl 13 16) = true := rfl
theorem ty_13_17 : isRf (tyCl 13 17) = true := rfl
theorem ty_13_18 : isRf (tyCl 13 18) = true := rfl
theorem ty_13_19 : tyCl 13 19 = .int := rfl
theorem ty_13_2 : tyCl 13 2 = .int := rfl
theorem ty_13_20 : tyCl 13 20 = .int := rfl
theorem ty_13_21 : isRf (tyCl 13 21) = true := rfl
theorem ty_13_22 : isRf (tyCl 13 22) = true := rfl
theorem ty_13_23 : tyCl 13 23 = .int := rfl
theorem ty_13_24 : isRf (tyCl 13 24) = true := rfl
theorem ty_13_25 : isRf (tyCl 13 25) = true := rfl
theorem ty_13_26 : tyCl 13 26 = .int := rfl
theorem ty_13_27 : tyCl 13 27 = .int := rfl
theorem ty_13_28 : tyCl 13 28 = .int := rfl
theorem ty_13_29 : isRf (tyCl 13 29) = true := rfl
theorem ty_13_3 : isRf (tyCl 13 3) = true := rfl
theorem ty_13_30 : tyCl 13 30 = .int := rfl
theorem ty_13_31 : isRf (tyCl 13 31) = true := rfl
theorem ty_13_32 : tyCl 13 32 = .int := rfl
theorem ty_13_4 : isRf (tyCl 13 4) = true := rfl
theorem ty_13_5 : isRf (tyCl 13 5) = true := rfl
theorem ty_13_6 : tyCl 13 6 = .int := rfl
theorem ty_13_7 : tyCl 13 7 = .int := rfl
theorem ty_13_8 : tyCl 13 8 = .int := rfl
theorem ty_13_9 : tyCl 13 9 = .int := rfl
theorem ty_1_0 : isRf (tyCl 1 0) = true := rfl
theorem ty_1_1 : tyCl 1 1 = .int := rfl
theorem ty_1_2 : tyCl 1 2 = .int := rfl
theorem ty_2_0 : isRf (tyCl 2 0) = true := rfl
theorem ty_2_1 : tyCl 2 1 = .int := rfl
theorem ty_3_0 : tyCl 3 0 = .int := rfl
theorem ty_3_1 : isRf (tyCl 3 1) = true := rfl
theorem ty_3_2 : isRf (tyCl 3 2) = true := rfl
theorem ty_3_3 : isRf (tyCl 3 3) = true := rfl
theorem ty_4_0 : isRf (tyCl 4 0) = true := rfl
theorem ty_4_1 : tyCl 4 1 = .int := rfl
theorem ty_4_2 : tyCl 4 2 = .int := rfl
theorem ty_4_3 : isRf (tyCl 4 3) = true := rfl
theorem ty_4_4 : isRf (tyCl 4 4) = true := rfl
theorem ty_4_5 : isRf (tyCl 4 5) = true := rfl
theorem ty_4_6 : tyCl 4 6 = .int := rfl
theorem ty_5_0 : isRf (tyCl 5 0) = true := rfl
theorem ty_5_1 : isRf (tyCl 5 1) = true := rfl
theorem ty_5_2 : tyCl 5 2 = .int := rfl
theorem ty_6_0 : tyCl 6 0 = .int := rfl
theorem ty_6_1 : isRf (tyCl 6 1) = true := rfl
theorem ty_6_2 : isRf (tyCl 6 2) = true := rfl
theorem ty_6_3 : isRf (tyCl 6 3) = true := rfl
theorem ty_7_0 : isRf (tyCl 7 0) = true := rfl
theorem ty_7_1 : isRf (tyCl 7 1) = true := rfl
theorem ty_7_2 : tyCl 7 2 = .int := rfl
theorem ty_8_0 : tyCl 8 0 = .int := rfl
theorem ty_8_1 : tyCl 8 1 = .int := rfl
theorem ty_8_2 : tyCl 8 2 = .long := rfl
theorem ty_8_3 : isRf (tyCl 8 3) = true := rfl
theorem ty_8_4 : tyCl 8 4 = .int := rfl
theorem ty_8_5 : tyCl 8 5 = .int := rfl
theorem ty_9_0 : tyCl 9 0 = .int := rfl
theorem ty_9_1 : tyCl 9 1 = .int := rfl
theorem ty_9_10 : isRf (tyCl 9 10) = true := rfl
theorem ty_9_11 : isRf (tyCl 9 11) = true := rfl
theorem ty_9_12 : isRf (tyCl 9 12) = true := rfl
theorem ty_9_13 : isRf (tyCl 9 13) = true := rfl
theorem ty_9_2 : tyCl 9 2 = .int := rfl
theorem ty_9_3 : tyCl 9 3 = .int := rfl
theorem ty_9_4 : tyCl 9 4 = .int := rfl
theorem ty_9_5 : tyCl 9 5 = .int := rfl
theorem ty_9_6 : isRf (tyCl 9 6) = true := rfl
theorem ty_9_7 : isRf (tyCl 9 7) = true := rfl
theorem ty_9_8 : isRf (tyCl 9 8) = true := rfl
theorem ty_9_9 : isRf (tyCl 9 9) = true := rfl
