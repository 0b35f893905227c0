def mX7_init : pM := (cX7_init, 1, none, 7, yX7_init)
def mX5_init : pM := (cX5_init, 1, none, 5, yX5_init)
def mX3_init : pM := (cX3_init, 1, none, 3, yX3_init)
def mX2_init : pM := (cX2_init, 1, none, 2, yX2_init)
def mX0_init : pM := (cX0_init, 1, none, 0, yX0_init)
def mX6_init : pM := (cX6_init, 1, none, 6, yX6_init)
def mX4_init : pM := (cX4_init, 1, none, 4, yX4_init)
def mX1_init : pM := (cX1_init, 1, none, 1, yX1_init)
def mX7_feed : pM := (cX7_feed, 2, (some .int), 7, yX7_feed)
def mX7_refuse : pM := (cX7_refuse, 3, (some .int), 7, yX7_refuse)
def mX2_take : pM := (cX2_take, 2, (some .int), 2, yX2_take)
def mX7_caseOf : pM := (cX7_caseOf, 2, (some .int), 7, yX7_caseOf)
def mX7_tellLetters : pM := (cX7_tellLetters, 4, (some .int), 7, yX7_tellLetters)
def mX2_firstBad : pM := (cX2_firstBad, 4, (some .int), 2, yX2_firstBad)
def mJ0_length_8abf5 : pM := (cJ0_length_8abf5, 1, (some .int), 12, yJ0_length_8abf5)
def mJ0_coder_7d493 : pM := (cJ0_coder_7d493, 1, (some .byte), 12, yJ0_coder_7d493)
def mX2_shape : pM := (cX2_shape, 1, (some (FieldType.object "java/lang/String")), 2, yX2_shape)
def mJ0_isEmpty_aae02 : pM := (cJ0_isEmpty_aae02, 1, (some .boolean), 12, yJ0_isEmpty_aae02)
def mJ0_charAt_5068e : pM := (cJ0_charAt_5068e, 2, (some .char), 12, yJ0_charAt_5068e)
def mJ0_isLatin1_aae02 : pM := (cJ0_isLatin1_aae02, 1, (some .boolean), 12, yJ0_isLatin1_aae02)
def mJ1_charAt_3b067 : pM := (cJ1_charAt_3b067, 2, (some .char), 13, yJ1_charAt_3b067)
def mJ0_checkIndex_df160 : pM := (cJ0_checkIndex_df160, 2, none, 12, yJ0_checkIndex_df160)
def mJ3_checkIndex_8e157 : pM := (cJ3_checkIndex_8e157, 3, (some .int), 14, yJ3_checkIndex_8e157)
def mJ2_charAt_3b067 : pM := (cJ2_charAt_3b067, 2, (some .char), 15, yJ2_charAt_3b067)
def mJ2_checkIndex_2214a : pM := (cJ2_checkIndex_2214a, 2, none, 15, yJ2_checkIndex_2214a)
def mJ2_length_9d52b : pM := (cJ2_length_9d52b, 1, (some .int), 15, yJ2_length_9d52b)
def mJ2_getChar_3b067 : pM := (cJ2_getChar_3b067, 2, (some .char), 15, yJ2_getChar_3b067)
def mX2_suits : pM := (cX2_suits, 2, (some .boolean), 2, yX2_suits)
def mX5_copyFrom : pM := (cX5_copyFrom, 2, none, 5, yX5_copyFrom)
def mX3_copyFrom : pM := (cX3_copyFrom, 2, none, 3, yX3_copyFrom)
def mX2_beginsAt : pM := (cX2_beginsAt, 2, (some .boolean), 2, yX2_beginsAt)
def mX2_sign : pM := (cX2_sign, 2, (some .int), 2, yX2_sign)
def mX2_tellOne : pM := (cX2_tellOne, 3, (some .boolean), 2, yX2_tellOne)
def mX2_digit : pM := (cX2_digit, 2, (some .int), 2, yX2_digit)
def mX5_addLowest : pM := (cX5_addLowest, 4, (some .boolean), 5, yX5_addLowest)
def mX7_isKind : pM := (cX7_isKind, 1, (some .boolean), 7, yX7_isKind)
def mX7_outside : pM := (cX7_outside, 3, (some .int), 7, yX7_outside)
def mX5_change : pM := (cX5_change, 3, (some .boolean), 5, yX5_change)
def mX3_resize : pM := (cX3_resize, 3, none, 3, yX3_resize)
def mJ9_min_7cf53 : pM := (cJ9_min_7cf53, 2, (some .int), 11, yJ9_min_7cf53)
def mJ9_max_7cf53 : pM := (cJ9_max_7cf53, 2, (some .int), 11, yJ9_max_7cf53)
def mX5_changePoint : pM := (cX5_changePoint, 3, (some .boolean), 5, yX5_changePoint)
def mX3_has : pM := (cX3_has, 2, (some .boolean), 3, yX3_has)
def mX3_put : pM := (cX3_put, 3, none, 3, yX3_put)
def mX5_loseLowest : pM := (cX5_loseLowest, 1, (some .boolean), 5, yX5_loseLowest)
def mX7_court : pM := (cX7_court, 3, (some .int), 7, yX7_court)
def mX5_hasCourt : pM := (cX5_hasCourt, 2, (some .boolean), 5, yX5_hasCourt)
def mX7_point : pM := (cX7_point, 5, (some .int), 7, yX7_point)
def mX7_refuseHigh : pM := (cX7_refuseHigh, 2, (some .int), 7, yX7_refuseHigh)
def mX3_number : pM := (cX3_number, 2, (some .int), 3, yX3_number)
def mX0_note : pM := (cX0_note, 4, none, 0, yX0_note)
def mX0_forgetOldest : pM := (cX0_forgetOldest, 2, none, 0, yX0_forgetOldest)
def mX7_kind : pM := (cX7_kind, 6, (some .int), 7, yX7_kind)
def mX5_rename : pM := (cX5_rename, 4, none, 5, yX5_rename)
def mX7_lowest : pM := (cX7_lowest, 4, (some .int), 7, yX7_lowest)
def mX7_set : pM := (cX7_set, 5, (some .int), 7, yX7_set)
def mX7_back : pM := (cX7_back, 1, (some .int), 7, yX7_back)
def mX0_takeBack : pM := (cX0_takeBack, 2, (some .int), 0, yX0_takeBack)
def mX7_down : pM := (cX7_down, 4, (some .int), 7, yX7_down)
def mX7_goDownTo : pM := (cX7_goDownTo, 2, none, 7, yX7_goDownTo)
def mX5_goDown : pM := (cX5_goDown, 4, none, 5, yX5_goDown)
def mX5_hearAs : pM := (cX5_hearAs, 4, none, 5, yX5_hearAs)
def mX3_notZero : pM := (cX3_notZero, 3, (some .int), 3, yX3_notZero)
def mX3_suffer : pM := (cX3_suffer, 4, none, 3, yX3_suffer)
def mX3_surest : pM := (cX3_surest, 5, (some .int), 3, yX3_surest)
def mX3_halve : pM := (cX3_halve, 2, none, 3, yX3_halve)
def mX3_turn : pM := (cX3_turn, 2, none, 3, yX3_turn)
def mX3_lessenBehind : pM := (cX3_lessenBehind, 3, none, 3, yX3_lessenBehind)
def mX3_bringOver : pM := (cX3_bringOver, 3, none, 3, yX3_bringOver)
def mX3_bringOthersNearer : pM := (cX3_bringOthersNearer, 3, none, 3, yX3_bringOthersNearer)
def mX3_isFor : pM := (cX3_isFor, 1, (some .boolean), 3, yX3_isFor)
def mX3_sum : pM := (cX3_sum, 3, (some .int), 3, yX3_sum)
def mX7_bit : pM := (cX7_bit, 1, (some .int), 7, yX7_bit)
def mX7_turns : pM := (cX7_turns, 6, (some .int), 7, yX7_turns)
def mX5_hear : pM := (cX5_hear, 3, none, 5, yX5_hear)
def mX7_costs : pM := (cX7_costs, 3, (some .int), 7, yX7_costs)
def mX5_costsBetween : pM := (cX5_costsBetween, 5, (some .int), 5, yX5_costsBetween)
def mX7_up : pM := (cX7_up, 2, (some .int), 7, yX7_up)
def mX5_sendsBack : pM := (cX5_sendsBack, 4, (some .boolean), 5, yX5_sendsBack)
def mX7_round : pM := (cX7_round, 2, (some .int), 7, yX7_round)
def mX1_go : pM := (cX1_go, 6, none, 1, yX1_go)
def mX3_told : pM := (cX3_told, 4, (some .long), 3, yX3_told)
def mX4_note : pM := (cX4_note, 4, none, 4, yX4_note)
def mX1_comeToFirst : pM := (cX1_comeToFirst, 4, none, 1, yX1_comeToFirst)
def mX4_find : pM := (cX4_find, 4, (some .int), 4, yX4_find)
def mX7_appeals : pM := (cX7_appeals, 2, (some .int), 7, yX7_appeals)
def mX6_weigh : pM := (cX6_weigh, 4, none, 6, yX6_weigh)
def mX6_weighStep : pM := (cX6_weighStep, 6, none, 6, yX6_weighStep)
def mX6_through : pM := (cX6_through, 2, (some .int), 6, yX6_through)
def mX7_press : pM := (cX7_press, 3, (some .int), 7, yX7_press)
def mX7_fewestPressed : pM := (cX7_fewestPressed, 4, (some .int), 7, yX7_fewestPressed)
def mJ6_bitCount_0f7a4 : pM := (cJ6_bitCount_0f7a4, 1, (some .int), 10, yJ6_bitCount_0f7a4)
def mX7_turnsBy : pM := (cX7_turnsBy, 9, (some .int), 7, yX7_turnsBy)
def mX7_playOn : pM := (cX7_playOn, 12, (some .int), 7, yX7_playOn)
def mX3_move : pM := (cX3_move, 3, (some .int), 3, yX3_move)
def mX7_standsFast : pM := (cX7_standsFast, 1, (some .int), 7, yX7_standsFast)
def mX7_fastCourts : pM := (cX7_fastCourts, 3, (some .int), 7, yX7_fastCourts)
def mX7_survive : pM := (cX7_survive, 6, (some .int), 7, yX7_survive)
def mX3_beThree : pM := (cX3_beThree, 4, none, 3, yX3_beThree)
def mX7_fits : pM := (cX7_fits, 5, (some .int), 7, yX7_fits)
def mX7_tellsNumbers : pM := (cX7_tellsNumbers, 3, (some .boolean), 7, yX7_tellsNumbers)
def mX7_readTold : pM := (cX7_readTold, 6, none, 7, yX7_readTold)
def mX3_isAs : pM := (cX3_isAs, 3, (some .boolean), 3, yX3_isAs)
def mX7_first : pM := (cX7_first, 5, (some .int), 7, yX7_first)
def mX7_apart : pM := (cX7_apart, 6, (some .int), 7, yX7_apart)
def mX7_treaty : pM := (cX7_treaty, 4, (some .int), 7, yX7_treaty)
def mX7_share : pM := (cX7_share, 2, (some .int), 7, yX7_share)
def mX7_bedtime : pM := (cX7_bedtime, 10, (some .long), 7, yX7_bedtime)
def mX7_refuseLong : pM := (cX7_refuseLong, 2, (some .long), 7, yX7_refuseLong)
def mX7_goDownAsleep : pM := (cX7_goDownAsleep, 3, none, 7, yX7_goDownAsleep)
def mX7_power : pM := (cX7_power, 5, (some .long), 7, yX7_power)
def mX7_commonDivisor : pM := (cX7_commonDivisor, 11, (some .long), 7, yX7_commonDivisor)
def mX7_order : pM := (cX7_order, 5, (some .int), 7, yX7_order)
def mX7_goDownSwapped : pM := (cX7_goDownSwapped, 4, none, 7, yX7_goDownSwapped)
def mX7_bestOrder : pM := (cX7_bestOrder, 3, (some .int), 7, yX7_bestOrder)
def mX7_findBestOrder : pM := (cX7_findBestOrder, 6, (some .int), 7, yX7_findBestOrder)
def mX7_toNextOrder : pM := (cX7_toNextOrder, 6, (some .boolean), 7, yX7_toNextOrder)
def mX7_swapPlaces : pM := (cX7_swapPlaces, 4, none, 7, yX7_swapPlaces)
def mX7_needed : pM := (cX7_needed, 3, (some .int), 7, yX7_needed)
def mX7_cheapest : pM := (cX7_cheapest, 5, (some .int), 7, yX7_cheapest)
def mX7_isForBehindAll : pM := (cX7_isForBehindAll, 1, (some .boolean), 7, yX7_isForBehindAll)
def mX7_biggest : pM := (cX7_biggest, 7, (some .int), 7, yX7_biggest)
def mJ9_abs_0f7a4 : pM := (cJ9_abs_0f7a4, 1, (some .int), 11, yJ9_abs_0f7a4)
def mX7_swing : pM := (cX7_swing, 4, (some .int), 7, yX7_swing)
def mX7_rounds : pM := (cX7_rounds, 3, (some .int), 7, yX7_rounds)
def mX7_worst : pM := (cX7_worst, 6, (some .int), 7, yX7_worst)
def mX7_goDownWith : pM := (cX7_goDownWith, 4, none, 7, yX7_goDownWith)
def mX7_same : pM := (cX7_same, 4, (some .int), 7, yX7_same)
def mX7_dead : pM := (cX7_dead, 3, (some .int), 7, yX7_dead)
def mX7_changesAny : pM := (cX7_changesAny, 2, (some .boolean), 7, yX7_changesAny)
def mX7_flip : pM := (cX7_flip, 3, (some .int), 7, yX7_flip)
def mX7_fewestAsleep : pM := (cX7_fewestAsleep, 4, (some .int), 7, yX7_fewestAsleep)
def mX7_margin : pM := (cX7_margin, 6, (some .int), 7, yX7_margin)
def mX7_stepAway : pM := (cX7_stepAway, 8, (some .boolean), 7, yX7_stepAway)
def mX7_beats : pM := (cX7_beats, 1, (some .int), 7, yX7_beats)
def mX7_commute : pM := (cX7_commute, 3, (some .int), 7, yX7_commute)
def mX7_again : pM := (cX7_again, 5, (some .int), 7, yX7_again)
def mX7_bestLowest : pM := (cX7_bestLowest, 6, (some .int), 7, yX7_bestLowest)
def mX7_peak : pM := (cX7_peak, 5, (some .int), 7, yX7_peak)
def mX7_fullStake : pM := (cX7_fullStake, 3, (some .int), 7, yX7_fullStake)
def mX7_heard : pM := (cX7_heard, 3, (some .int), 7, yX7_heard)
def mX7_lastSay : pM := (cX7_lastSay, 3, (some .int), 7, yX7_lastSay)
def mX7_row : pM := (cX7_row, 2, (some .int), 7, yX7_row)
def mX7_judge : pM := (cX7_judge, 2, (some .int), 7, yX7_judge)
def mX7_firstNotSo : pM := (cX7_firstNotSo, 2, (some .int), 7, yX7_firstNotSo)
def mX7_clear : pM := (cX7_clear, 2, (some .int), 7, yX7_clear)
def mX7_lots : pM := (cX7_lots, 10, (some .int), 7, yX7_lots)
def mX7_image : pM := (cX7_image, 1, (some .int), 7, yX7_image)
def mX7_restore : pM := (cX7_restore, 1, (some .int), 7, yX7_restore)
def mX7_count : pM := (cX7_count, 2, (some .int), 7, yX7_count)
def mX8_init : pM := (cX8_init, 1, none, 8, yX8_init)
def mX8_feed : pM := (cX8_feed, 2, (some .int), 8, yX8_feed)
def mX8_refuse : pM := (cX8_refuse, 2, (some .int), 8, yX8_refuse)
def mX8_caseOf : pM := (cX8_caseOf, 2, (some .int), 8, yX8_caseOf)
def mX8_readStatement : pM := (cX8_readStatement, 5, none, 8, yX8_readStatement)
def mX8_here : pM := (cX8_here, 1, (some .int), 8, yX8_here)
def mX8_isLetter : pM := (cX8_isLetter, 1, (some .boolean), 8, yX8_isLetter)
def mX8_readDigits : pM := (cX8_readDigits, 4, (some .int), 8, yX8_readDigits)
def mX8_in : pM := (cX8_in, 6, (some .boolean), 8, yX8_in)
def mX8_carryAll : pM := (cX8_carryAll, 4, none, 8, yX8_carryAll)
def mX8_carry : pM := (cX8_carry, 2, (some .int), 8, yX8_carry)
def mX8_comes : pM := (cX8_comes, 5, (some .boolean), 8, yX8_comes)
def mX8_courtComes : pM := (cX8_courtComes, 4, none, 8, yX8_courtComes)
def mX8_setMany : pM := (cX8_setMany, 3, none, 8, yX8_setMany)
def mX8_image : pM := (cX8_image, 1, (some .int), 8, yX8_image)
def mX8_restore : pM := (cX8_restore, 1, (some .int), 8, yX8_restore)
def mX8_back : pM := (cX8_back, 2, (some .int), 8, yX8_back)
def mX8_court : pM := (cX8_court, 3, (some .int), 8, yX8_court)
def mX8_isCourt : pM := (cX8_isCourt, 2, (some .boolean), 8, yX8_isCourt)
def mX8_point : pM := (cX8_point, 5, (some .int), 8, yX8_point)
def mX8_wrongNumber : pM := (cX8_wrongNumber, 3, (some .int), 8, yX8_wrongNumber)
def mX8_keepTurn : pM := (cX8_keepTurn, 2, none, 8, yX8_keepTurn)
def mX8_kind : pM := (cX8_kind, 6, (some .int), 8, yX8_kind)
def mX8_lowest : pM := (cX8_lowest, 5, (some .int), 8, yX8_lowest)
def mX8_set : pM := (cX8_set, 5, (some .int), 8, yX8_set)
def mX8_down : pM := (cX8_down, 4, (some .int), 8, yX8_down)
def mX8_downTo : pM := (cX8_downTo, 3, none, 8, yX8_downTo)
def mX8_think : pM := (cX8_think, 2, none, 8, yX8_think)
def mX8_pass : pM := (cX8_pass, 2, none, 8, yX8_pass)
def mX8_sendsBack : pM := (cX8_sendsBack, 2, (some .boolean), 8, yX8_sendsBack)
def mX8_standing : pM := (cX8_standing, 3, (some .int), 8, yX8_standing)
def mX8_act : pM := (cX8_act, 5, none, 8, yX8_act)
def mX8_surest : pM := (cX8_surest, 3, (some .int), 8, yX8_surest)
def mX8_plainly : pM := (cX8_plainly, 1, (some .int), 8, yX8_plainly)
def mX8_bench : pM := (cX8_bench, 4, none, 8, yX8_bench)
def mX8_held : pM := (cX8_held, 1, (some .int), 8, yX8_held)
def mX8_halve : pM := (cX8_halve, 2, none, 8, yX8_halve)
def mX8_sumNow : pM := (cX8_sumNow, 3, (some .int), 8, yX8_sumNow)
def mX8_isFor : pM := (cX8_isFor, 1, (some .boolean), 8, yX8_isFor)
def mX8_turns : pM := (cX8_turns, 7, (some .int), 8, yX8_turns)
def mX8_costs : pM := (cX8_costs, 4, (some .int), 8, yX8_costs)
def mX8_up : pM := (cX8_up, 3, (some .int), 8, yX8_up)
def mX8_round : pM := (cX8_round, 2, (some .int), 8, yX8_round)
def mX8_goRound : pM := (cX8_goRound, 4, none, 8, yX8_goRound)
def mX8_comesAgain : pM := (cX8_comesAgain, 6, (some .int), 8, yX8_comesAgain)
def mX8_rounds : pM := (cX8_rounds, 4, (some .int), 8, yX8_rounds)
def mX8_appeals : pM := (cX8_appeals, 3, (some .int), 8, yX8_appeals)
def mX8_layAppeals : pM := (cX8_layAppeals, 4, none, 8, yX8_layAppeals)
def mX8_goneThrough : pM := (cX8_goneThrough, 2, (some .int), 8, yX8_goneThrough)
def mX8_treaty : pM := (cX8_treaty, 4, (some .int), 8, yX8_treaty)
def mX8_wrongBit : pM := (cX8_wrongBit, 3, (some .int), 8, yX8_wrongBit)
def mX8_share : pM := (cX8_share, 2, (some .int), 8, yX8_share)
def mX8_press : pM := (cX8_press, 3, (some .int), 8, yX8_press)
def mX8_pressBits : pM := (cX8_pressBits, 4, (some .int), 8, yX8_pressBits)
def mX8_onesOf : pM := (cX8_onesOf, 3, (some .int), 8, yX8_onesOf)
def mX8_hasBit : pM := (cX8_hasBit, 2, (some .boolean), 8, yX8_hasBit)
def mX8_passAll : pM := (cX8_passAll, 3, none, 8, yX8_passAll)
def mX8_turnsBy : pM := (cX8_turnsBy, 7, (some .int), 8, yX8_turnsBy)
def mX8_sumBehindAll : pM := (cX8_sumBehindAll, 1, (some .int), 8, yX8_sumBehindAll)
def mX8_afterOne : pM := (cX8_afterOne, 1, (some .int), 8, yX8_afterOne)
def mX8_lastBy : pM := (cX8_lastBy, 4, (some .int), 8, yX8_lastBy)
def mX8_sumByChanges : pM := (cX8_sumByChanges, 4, (some .int), 8, yX8_sumByChanges)
def mX8_afterOneOfFour : pM := (cX8_afterOneOfFour, 3, (some .int), 8, yX8_afterOneOfFour)
def mX8_afterTwo : pM := (cX8_afterTwo, 3, (some .int), 8, yX8_afterTwo)
def mX8_standsFast : pM := (cX8_standsFast, 1, (some .int), 8, yX8_standsFast)
def mX8_fastFrom : pM := (cX8_fastFrom, 5, (some .int), 8, yX8_fastFrom)
def mX8_survive : pM := (cX8_survive, 5, (some .int), 8, yX8_survive)
def mX8_thinkThree : pM := (cX8_thinkThree, 4, none, 8, yX8_thinkThree)
def mX8_fits : pM := (cX8_fits, 7, (some .int), 8, yX8_fits)
def mX8_first : pM := (cX8_first, 8, (some .int), 8, yX8_first)
def mX8_apart : pM := (cX8_apart, 7, (some .int), 8, yX8_apart)
def mX8_bedtime : pM := (cX8_bedtime, 12, (some .long), 8, yX8_bedtime)
def mX8_divisor : pM := (cX8_divisor, 10, (some .long), 8, yX8_divisor)
def mX8_order : pM := (cX8_order, 6, (some .int), 8, yX8_order)
def mX8_change : pM := (cX8_change, 5, none, 8, yX8_change)
def mX8_bestOrder : pM := (cX8_bestOrder, 8, (some .int), 8, yX8_bestOrder)
def mX8_sumByOrder : pM := (cX8_sumByOrder, 3, (some .int), 8, yX8_sumByOrder)
def mX8_layOrder : pM := (cX8_layOrder, 9, none, 8, yX8_layOrder)
def mX8_ordersOf : pM := (cX8_ordersOf, 3, (some .int), 8, yX8_ordersOf)
def mX8_needed : pM := (cX8_needed, 3, (some .int), 8, yX8_needed)
def mX8_cheapest : pM := (cX8_cheapest, 4, (some .int), 8, yX8_cheapest)
def mX8_biggest : pM := (cX8_biggest, 7, (some .int), 8, yX8_biggest)
def mX8_swing : pM := (cX8_swing, 4, (some .int), 8, yX8_swing)
def mX8_worst : pM := (cX8_worst, 8, (some .int), 8, yX8_worst)
def mX8_same : pM := (cX8_same, 6, (some .int), 8, yX8_same)
def mX8_dead : pM := (cX8_dead, 5, (some .int), 8, yX8_dead)
def mX8_flip : pM := (cX8_flip, 5, (some .int), 8, yX8_flip)
def mX8_margin : pM := (cX8_margin, 6, (some .int), 8, yX8_margin)
def mX8_isOtherBy : pM := (cX8_isOtherBy, 6, (some .boolean), 8, yX8_isOtherBy)
def mX8_beats : pM := (cX8_beats, 4, (some .int), 8, yX8_beats)
def mX8_commute : pM := (cX8_commute, 5, (some .int), 8, yX8_commute)
def mX8_again : pM := (cX8_again, 6, (some .int), 8, yX8_again)
def mX8_isAsAt : pM := (cX8_isAsAt, 4, (some .boolean), 8, yX8_isAsAt)
def mX8_bestLowest : pM := (cX8_bestLowest, 5, (some .int), 8, yX8_bestLowest)
def mX8_peak : pM := (cX8_peak, 5, (some .int), 8, yX8_peak)
def mX8_fullStake : pM := (cX8_fullStake, 3, (some .int), 8, yX8_fullStake)
def mX8_heard : pM := (cX8_heard, 5, (some .int), 8, yX8_heard)
def mX8_lastSay : pM := (cX8_lastSay, 4, (some .int), 8, yX8_lastSay)
def mX8_row : pM := (cX8_row, 2, (some .int), 8, yX8_row)
def mX8_judge : pM := (cX8_judge, 3, (some .int), 8, yX8_judge)
def mX8_clear : pM := (cX8_clear, 2, (some .int), 8, yX8_clear)
def mX8_lots : pM := (cX8_lots, 10, (some .int), 8, yX8_lots)
def mX8_count : pM := (cX8_count, 2, (some .int), 8, yX8_count)
theorem fa_nil {α : Type} {P : α → Prop} : ∀ q ∈ ([] : List α), P q := fun q h => absurd h List.not_mem_nil
theorem fa_cons {α : Type} {P : α → Prop} {a : α} {l : List α} (h : P a) (hl : ∀ q ∈ l, P q) : ∀ q ∈ a :: l, P q := fun q hq => (List.mem_cons.mp hq).elim (fun e => e ▸ h) (hl q)
theorem tk_1 {i : Nat} {w : Cond} (h : tables_1_1[i]? = some w) : w ∈ lw_tbl := List.mem_append_right _ (List.mem_append_left _ (List.mem_of_getElem? h))
theorem tk_2 {i : Nat} {w : Cond} (h : tables_1_2[i]? = some w) : w ∈ lw_tbl := List.mem_append_right _ (List.mem_append_right _ (List.mem_append_left _ (List.mem_of_getElem? h)))
theorem tk_3 {i : Nat} {w : Cond} (h : tables_1_3[i]? = some w) : w ∈ lw_tbl := List.mem_append_right _ (List.mem_append_right _ (List.mem_append_right _ (List.mem_append_left _ (List.mem_of_getElem? h))))
theorem tk_4 {i : Nat} {w : Cond} (h : tables_1_4[i]? = some w) : w ∈ lw_tbl := List.mem_append_right _ (List.mem_append_right _ (List.mem_append_right _ (List.mem_append_right _ (List.mem_append_left _ (List.mem_of_getElem? h)))))
theorem tk_5 {i : Nat} {w : Cond} (h : tables_1_5[i]? = some w) : w ∈ lw_tbl := List.mem_append_right _ (List.mem_append_right _ (List.mem_append_right _ (List.mem_append_right _ (List.mem_append_right _ (List.mem_append_left _ (List.mem_of_getElem? h))))))
theorem tk_6 {i : Nat} {w : Cond} (h : tables_1_6[i]? = some w) : w ∈ lw_tbl := List.mem_append_right _ (List.mem_append_right _ (List.mem_append_right _ (List.mem_append_right _ (List.mem_append_right _ (List.mem_append_right _ (List.mem_of_getElem? h))))))
theorem tkp_1 {i n : Nat} {y : MethodName} (h : lw_privs_1[i]? = some (y, n)) : (Cond.selects y.cls y y) ∈ lw_tbl := List.mem_append_left _ (List.mem_map.mpr ⟨(y, n), List.mem_append_left _ (List.mem_of_getElem? h), rfl⟩)
theorem tkp_2 {i n : Nat} {y : MethodName} (h : lw_privs_2[i]? = some (y, n)) : (Cond.selects y.cls y y) ∈ lw_tbl := List.mem_append_left _ (List.mem_map.mpr ⟨(y, n), List.mem_append_right _ (List.mem_append_left _ (List.mem_of_getElem? h)), rfl⟩)
theorem tkp_3 {i n : Nat} {y : MethodName} (h : lw_privs_3[i]? = some (y, n)) : (Cond.selects y.cls y y) ∈ lw_tbl := List.mem_append_left _ (List.mem_map.mpr ⟨(y, n), List.mem_append_right _ (List.mem_append_right _ (List.mem_append_left _ (List.mem_of_getElem? h))), rfl⟩)
theorem tkp_4 {i n : Nat} {y : MethodName} (h : lw_privs_4[i]? = some (y, n)) : (Cond.selects y.cls y y) ∈ lw_tbl := List.mem_append_left _ (List.mem_map.mpr ⟨(y, n), List.mem_append_right _ (List.mem_append_right _ (List.mem_append_right _ (List.mem_append_left _ (List.mem_of_getElem? h)))), rfl⟩)
theorem tkp_5 {i n : Nat} {y : MethodName} (h : lw_privs_5[i]? = some (y, n)) : (Cond.selects y.cls y y) ∈ lw_tbl := List.mem_append_left _ (List.mem_map.mpr ⟨(y, n), List.mem_append_right _ (List.mem_append_right _ (List.mem_append_right _ (List.mem_append_right _ (List.mem_append_left _ (List.mem_of_getElem? h))))), rfl⟩)
theorem tkp_6 {i n : Nat} {y : MethodName} (h : lw_privs_6[i]? = some (y, n)) : (Cond.selects y.cls y y) ∈ lw_tbl := List.mem_append_left _ (List.mem_map.mpr ⟨(y, n), List.mem_append_right _ (List.mem_append_right _ (List.mem_append_right _ (List.mem_append_right _ (List.mem_append_right _ (List.mem_append_left _ (List.mem_of_getElem? h)))))), rfl⟩)
theorem tkp_7 {i n : Nat} {y : MethodName} (h : lw_privs_7[i]? = some (y, n)) : (Cond.selects y.cls y y) ∈ lw_tbl := List.mem_append_left _ (List.mem_map.mpr ⟨(y, n), List.mem_append_right _ (List.mem_append_right _ (List.mem_append_right _ (List.mem_append_right _ (List.mem_append_right _ (List.mem_append_right _ (List.mem_of_getElem? h)))))), rfl⟩)
theorem wm_145 : (Cond.fieldLink "AppealsDown$Points" (9) "AppealsDown$Points" "numbers" "[I") ∈ lw_tbl := tk_1 (i := 37) rfl
theorem wm_146 : (Cond.fieldLink "AppealsDown$Points" (15) "AppealsDown$Points" "many" "I") ∈ lw_tbl := tk_1 (i := 38) rfl
theorem wm_147 : (Cond.fieldLinkNest "AppealsDown" (155) "AppealsDown$Points" "many" "I" "AppealsDown") ∈ lw_tbl := tk_1 (i := 39) rfl
theorem wm_154 : (Cond.fieldLink "AppealsDown$Suit" (9) "AppealsDown$Suit" "kinds" "[I") ∈ lw_tbl := tk_1 (i := 46) rfl
theorem wm_155 : (Cond.fieldLinkNest "AppealsDown$Going" (58) "AppealsDown$Suit" "kinds" "[I" "AppealsDown") ∈ lw_tbl := tk_1 (i := 47) rfl
theorem wm_156 : (Cond.fieldLinkNest "AppealsDown" (109) "AppealsDown$Suit" "kinds" "[I" "AppealsDown") ∈ lw_tbl := tk_1 (i := 48) rfl
theorem wm_157 : (Cond.fieldLink "AppealsDown$Suit" (15) "AppealsDown$Suit" "figures" "[I") ∈ lw_tbl := tk_1 (i := 49) rfl
theorem wm_158 : (Cond.fieldLinkNest "AppealsDown$Going" (62) "AppealsDown$Suit" "figures" "[I" "AppealsDown") ∈ lw_tbl := tk_1 (i := 50) rfl
theorem wm_159 : (Cond.fieldLinkNest "AppealsDown" (112) "AppealsDown$Suit" "figures" "[I" "AppealsDown") ∈ lw_tbl := tk_1 (i := 51) rfl
theorem wm_160 : (Cond.fieldLink "AppealsDown$Suit" (18) "AppealsDown$Suit" "costs" "[I") ∈ lw_tbl := tk_1 (i := 52) rfl
theorem wm_161 : (Cond.fieldLinkNest "AppealsDown$Weighing" (57) "AppealsDown$Suit" "costs" "[I" "AppealsDown") ∈ lw_tbl := tk_1 (i := 53) rfl
theorem wm_162 : (Cond.fieldLinkNest "AppealsDown" (115) "AppealsDown$Suit" "costs" "[I" "AppealsDown") ∈ lw_tbl := tk_1 (i := 54) rfl
theorem wm_163 : (Cond.fieldLink "AppealsDown$Suit" (21) "AppealsDown$Suit" "courts" "I") ∈ lw_tbl := tk_1 (i := 55) rfl
theorem wm_164 : (Cond.fieldLinkNest "AppealsDown$Weighing" (32) "AppealsDown$Suit" "courts" "I" "AppealsDown") ∈ lw_tbl := tk_1 (i := 56) rfl
theorem wm_165 : (Cond.fieldLinkNest "AppealsDown$Going" (47) "AppealsDown$Suit" "courts" "I" "AppealsDown") ∈ lw_tbl := tk_1 (i := 57) rfl
theorem wm_166 : (Cond.fieldLinkNest "AppealsDown" (152) "AppealsDown$Suit" "courts" "I" "AppealsDown") ∈ lw_tbl := tk_1 (i := 58) rfl
theorem wm_167 : (Cond.fieldLink "AppealsDown$Suit" (28) "AppealsDown$Suit" "points" "LAppealsDown$Points;") ∈ lw_tbl := tk_1 (i := 59) rfl
theorem wm_168 : (Cond.fieldLinkNest "AppealsDown$Going" (22) "AppealsDown$Suit" "points" "LAppealsDown$Points;" "AppealsDown") ∈ lw_tbl := tk_1 (i := 60) rfl
theorem wm_169 : (Cond.fieldLinkNest "AppealsDown$Weighing" (35) "AppealsDown$Suit" "points" "LAppealsDown$Points;" "AppealsDown") ∈ lw_tbl := tk_1 (i := 61) rfl
theorem wm_170 : (Cond.fieldLinkNest "AppealsDown" (118) "AppealsDown$Suit" "points" "LAppealsDown$Points;" "AppealsDown") ∈ lw_tbl := tk_1 (i := 62) rfl
theorem wm_171 : (Cond.fieldLink "AppealsDown$Suit" (32) "AppealsDown$Suit" "stake" "I") ∈ lw_tbl := tk_1 (i := 63) rfl
theorem wm_172 : (Cond.fieldLinkNest "AppealsDown$Weighing" (60) "AppealsDown$Suit" "stake" "I" "AppealsDown") ∈ lw_tbl := tk_1 (i := 64) rfl
theorem wm_173 : (Cond.fieldLinkNest "AppealsDown" (156) "AppealsDown$Suit" "stake" "I" "AppealsDown") ∈ lw_tbl := tk_1 (i := 65) rfl
theorem wm_174 : (Cond.fieldLink "AppealsDown$Suit" (35) "AppealsDown$Suit" "length" "I") ∈ lw_tbl := tk_1 (i := 66) rfl
theorem wm_175 : (Cond.fieldLinkNest "AppealsDown" (159) "AppealsDown$Suit" "length" "I" "AppealsDown") ∈ lw_tbl := tk_1 (i := 67) rfl
theorem wm_197 : (Cond.fieldLink "AppealsDown$Letters" (9) "AppealsDown$Letters" "signs" "[I") ∈ lw_tbl := tk_1 (i := 89) rfl
theorem wm_198 : (Cond.fieldLink "AppealsDown$Letters" (15) "AppealsDown$Letters" "many" "I") ∈ lw_tbl := tk_1 (i := 90) rfl
theorem wm_199 : (Cond.fieldLinkNest "AppealsDown" (95) "AppealsDown$Letters" "many" "I" "AppealsDown") ∈ lw_tbl := tk_1 (i := 91) rfl
theorem wm_211 : (Cond.fieldLink "AppealsDown$Changes" (9) "AppealsDown$Changes" "whats" "[I") ∈ lw_tbl := tk_1 (i := 103) rfl
theorem wm_212 : (Cond.fieldLink "AppealsDown$Changes" (15) "AppealsDown$Changes" "wheres" "[I") ∈ lw_tbl := tk_1 (i := 104) rfl
theorem wm_213 : (Cond.fieldLink "AppealsDown$Changes" (18) "AppealsDown$Changes" "olds" "[I") ∈ lw_tbl := tk_1 (i := 105) rfl
theorem wm_214 : (Cond.fieldLink "AppealsDown$Changes" (21) "AppealsDown$Changes" "many" "I") ∈ lw_tbl := tk_1 (i := 106) rfl
theorem wm_215 : (Cond.fieldLinkNest "AppealsDown" (166) "AppealsDown$Changes" "many" "I" "AppealsDown") ∈ lw_tbl := tk_1 (i := 107) rfl
theorem wm_233 : (Cond.fieldLink "AppealsDown$Weighing" (9) "AppealsDown$Weighing" "forBehind" "[Z") ∈ lw_tbl := tk_1 (i := 125) rfl
theorem wm_234 : (Cond.fieldLinkNest "AppealsDown" (276) "AppealsDown$Weighing" "forBehind" "[Z" "AppealsDown") ∈ lw_tbl := tk_1 (i := 126) rfl
theorem wm_235 : (Cond.fieldLink "AppealsDown$Weighing" (15) "AppealsDown$Weighing" "goesOn" "[Z") ∈ lw_tbl := tk_1 (i := 127) rfl
theorem wm_236 : (Cond.fieldLinkNest "AppealsDown" (273) "AppealsDown$Weighing" "goesOn" "[Z" "AppealsDown") ∈ lw_tbl := tk_1 (i := 128) rfl
theorem wm_237 : (Cond.fieldLink "AppealsDown$Weighing" (18) "AppealsDown$Weighing" "endsFor" "[Z") ∈ lw_tbl := tk_1 (i := 129) rfl
theorem wm_238 : (Cond.fieldLinkNest "AppealsDown" (218) "AppealsDown$Weighing" "endsFor" "[Z" "AppealsDown") ∈ lw_tbl := tk_1 (i := 130) rfl
theorem wm_239 : (Cond.fieldLink "AppealsDown$Weighing" (21) "AppealsDown$Weighing" "paysFor" "[I") ∈ lw_tbl := tk_1 (i := 131) rfl
theorem wm_240 : (Cond.fieldLinkNest "AppealsDown" (222) "AppealsDown$Weighing" "paysFor" "[I" "AppealsDown") ∈ lw_tbl := tk_1 (i := 132) rfl
theorem wm_241 : (Cond.fieldLink "AppealsDown$Weighing" (25) "AppealsDown$Weighing" "paysAgainst" "[I") ∈ lw_tbl := tk_1 (i := 133) rfl
theorem wm_242 : (Cond.fieldLinkNest "AppealsDown" (225) "AppealsDown$Weighing" "paysAgainst" "[I" "AppealsDown") ∈ lw_tbl := tk_1 (i := 134) rfl
theorem wm_243 : (Cond.fieldLink "AppealsDown$Weighing" (28) "AppealsDown$Weighing" "courts" "I") ∈ lw_tbl := tk_1 (i := 135) rfl
theorem wm_264 : (Cond.fieldLink "AppealsDown$Seen" (9) "AppealsDown$Seen" "all" "[J") ∈ lw_tbl := tk_1 (i := 156) rfl
theorem wm_265 : (Cond.fieldLink "AppealsDown$Seen" (15) "AppealsDown$Seen" "whens" "[I") ∈ lw_tbl := tk_1 (i := 157) rfl
theorem wm_266 : (Cond.fieldLink "AppealsDown$Seen" (19) "AppealsDown$Seen" "many" "I") ∈ lw_tbl := tk_1 (i := 158) rfl
theorem wm_267 : (Cond.fieldLinkNest "AppealsDown$Going" (34) "AppealsDown$Seen" "many" "I" "AppealsDown") ∈ lw_tbl := tk_1 (i := 159) rfl
theorem wm_268 : (Cond.fieldLinkNest "AppealsDown" (320) "AppealsDown$Seen" "many" "I" "AppealsDown") ∈ lw_tbl := tk_1 (i := 160) rfl
theorem wm_283 : (Cond.fieldLink "AppealsDown$Going" (9) "AppealsDown$Going" "ended" "Z") ∈ lw_tbl := tk_1 (i := 175) rfl
theorem wm_284 : (Cond.fieldLinkNest "AppealsDown" (205) "AppealsDown$Going" "ended" "Z" "AppealsDown") ∈ lw_tbl := tk_1 (i := 176) rfl
theorem wm_285 : (Cond.fieldLink "AppealsDown$Going" (15) "AppealsDown$Going" "gone" "I") ∈ lw_tbl := tk_1 (i := 177) rfl
theorem wm_286 : (Cond.fieldLinkNest "AppealsDown" (208) "AppealsDown$Going" "gone" "I" "AppealsDown") ∈ lw_tbl := tk_1 (i := 178) rfl
theorem wm_287 : (Cond.fieldLink "AppealsDown$Going" (19) "AppealsDown$Going" "circle" "I") ∈ lw_tbl := tk_1 (i := 179) rfl
theorem wm_288 : (Cond.fieldLinkNest "AppealsDown" (202) "AppealsDown$Going" "circle" "I" "AppealsDown") ∈ lw_tbl := tk_1 (i := 180) rfl
theorem wm_296 : (Cond.fieldLink "AppealsDown" (10) "AppealsDown" "now" "LAppealsDown$Suit;") ∈ lw_tbl := tk_1 (i := 188) rfl
theorem wm_297 : (Cond.fieldLink "AppealsDown" (16) "AppealsDown" "trial" "LAppealsDown$Suit;") ∈ lw_tbl := tk_1 (i := 189) rfl
theorem wm_298 : (Cond.fieldLink "AppealsDown" (19) "AppealsDown" "taken" "LAppealsDown$Suit;") ∈ lw_tbl := tk_1 (i := 190) rfl
theorem wm_299 : (Cond.fieldLink "AppealsDown" (22) "AppealsDown" "isTaken" "Z") ∈ lw_tbl := tk_1 (i := 191) rfl
theorem wm_300 : (Cond.fieldLink "AppealsDown" (29) "AppealsDown" "letters" "LAppealsDown$Letters;") ∈ lw_tbl := tk_1 (i := 192) rfl
theorem wm_301 : (Cond.fieldLink "AppealsDown" (36) "AppealsDown" "changes" "LAppealsDown$Changes;") ∈ lw_tbl := tk_1 (i := 193) rfl
theorem wm_302 : (Cond.fieldLink "AppealsDown" (40) "AppealsDown" "told" "[I") ∈ lw_tbl := tk_1 (i := 194) rfl
theorem wm_303 : (Cond.fieldLink "AppealsDown" (44) "AppealsDown" "toldMany" "I") ∈ lw_tbl := tk_1 (i := 195) rfl
theorem wm_304 : (Cond.fieldLink "AppealsDown" (48) "AppealsDown" "refusals" "[I") ∈ lw_tbl := tk_1 (i := 196) rfl
theorem wm_305 : (Cond.fieldLink "AppealsDown" (54) "AppealsDown" "stand" "LAppealsDown$Points;") ∈ lw_tbl := tk_1 (i := 197) rfl
theorem wm_306 : (Cond.fieldLink "AppealsDown" (58) "AppealsDown" "begun" "LAppealsDown$Points;") ∈ lw_tbl := tk_1 (i := 198) rfl
theorem wm_307 : (Cond.fieldLink "AppealsDown" (61) "AppealsDown" "other" "LAppealsDown$Points;") ∈ lw_tbl := tk_1 (i := 199) rfl
theorem wm_308 : (Cond.fieldLink "AppealsDown" (67) "AppealsDown" "weighing" "LAppealsDown$Weighing;") ∈ lw_tbl := tk_1 (i := 200) rfl
theorem wm_309 : (Cond.fieldLink "AppealsDown" (74) "AppealsDown" "seen" "LAppealsDown$Seen;") ∈ lw_tbl := tk_1 (i := 201) rfl
theorem wm_310 : (Cond.fieldLink "AppealsDown" (81) "AppealsDown" "going" "LAppealsDown$Going;") ∈ lw_tbl := tk_1 (i := 202) rfl
theorem wm_311 : (Cond.fieldLink "AppealsDown" (85) "AppealsDown" "places" "[I") ∈ lw_tbl := tk_1 (i := 203) rfl
theorem wm_312 : (Cond.fieldLink "AppealsDown" (88) "AppealsDown" "bestPlaces" "[I") ∈ lw_tbl := tk_1 (i := 204) rfl
theorem wm_969 : (Cond.fieldLink "AppealsDownModel" (108) "AppealsDownModel" "courts" "I") ∈ lw_tbl := tk_4 (i := 141) rfl
theorem wm_970 : (Cond.fieldLink "AppealsDownModel" (7) "AppealsDownModel" "kinds" "[I") ∈ lw_tbl := tk_4 (i := 142) rfl
theorem wm_971 : (Cond.fieldLink "AppealsDownModel" (13) "AppealsDownModel" "figures" "[I") ∈ lw_tbl := tk_4 (i := 143) rfl
theorem wm_972 : (Cond.fieldLink "AppealsDownModel" (16) "AppealsDownModel" "costs0" "[I") ∈ lw_tbl := tk_4 (i := 144) rfl
theorem wm_973 : (Cond.fieldLink "AppealsDownModel" (19) "AppealsDownModel" "many" "I") ∈ lw_tbl := tk_4 (i := 145) rfl
theorem wm_974 : (Cond.fieldLink "AppealsDownModel" (23) "AppealsDownModel" "points" "[I") ∈ lw_tbl := tk_4 (i := 146) rfl
theorem wm_975 : (Cond.fieldLink "AppealsDownModel" (26) "AppealsDownModel" "stake" "I") ∈ lw_tbl := tk_4 (i := 147) rfl
theorem wm_976 : (Cond.fieldLink "AppealsDownModel" (29) "AppealsDownModel" "length" "I") ∈ lw_tbl := tk_4 (i := 148) rfl
theorem wm_977 : (Cond.fieldLink "AppealsDownModel" (105) "AppealsDownModel" "thrown" "I") ∈ lw_tbl := tk_4 (i := 149) rfl
theorem wm_978 : (Cond.fieldLink "AppealsDownModel" (32) "AppealsDownModel" "refusals" "[I") ∈ lw_tbl := tk_4 (i := 150) rfl
theorem wm_979 : (Cond.fieldLink "AppealsDownModel" (35) "AppealsDownModel" "now" "[I") ∈ lw_tbl := tk_4 (i := 151) rfl
theorem wm_980 : (Cond.fieldLink "AppealsDownModel" (115) "AppealsDownModel" "nowMany" "I") ∈ lw_tbl := tk_4 (i := 152) rfl
theorem wm_981 : (Cond.fieldLink "AppealsDownModel" (38) "AppealsDownModel" "letters" "[I") ∈ lw_tbl := tk_4 (i := 153) rfl
theorem wm_982 : (Cond.fieldLink "AppealsDownModel" (167) "AppealsDownModel" "letterMany" "I") ∈ lw_tbl := tk_4 (i := 154) rfl
theorem wm_983 : (Cond.fieldLink "AppealsDownModel" (170) "AppealsDownModel" "at" "I") ∈ lw_tbl := tk_4 (i := 155) rfl
theorem wm_984 : (Cond.fieldLink "AppealsDownModel" (173) "AppealsDownModel" "isBad" "Z") ∈ lw_tbl := tk_4 (i := 156) rfl
theorem wm_985 : (Cond.fieldLink "AppealsDownModel" (184) "AppealsDownModel" "statements" "I") ∈ lw_tbl := tk_4 (i := 157) rfl
theorem wm_986 : (Cond.fieldLink "AppealsDownModel" (41) "AppealsDownModel" "placeIn" "[I") ∈ lw_tbl := tk_4 (i := 158) rfl
theorem wm_987 : (Cond.fieldLink "AppealsDownModel" (44) "AppealsDownModel" "letterOf" "[I") ∈ lw_tbl := tk_4 (i := 159) rfl
theorem wm_988 : (Cond.fieldLink "AppealsDownModel" (47) "AppealsDownModel" "told" "[I") ∈ lw_tbl := tk_4 (i := 160) rfl
theorem wm_989 : (Cond.fieldLink "AppealsDownModel" (50) "AppealsDownModel" "kept" "[I") ∈ lw_tbl := tk_4 (i := 161) rfl
theorem wm_990 : (Cond.fieldLink "AppealsDownModel" (53) "AppealsDownModel" "imaged" "[I") ∈ lw_tbl := tk_4 (i := 162) rfl
theorem wm_991 : (Cond.fieldLink "AppealsDownModel" (227) "AppealsDownModel" "hasImage" "Z") ∈ lw_tbl := tk_4 (i := 163) rfl
theorem wm_992 : (Cond.fieldLink "AppealsDownModel" (221) "AppealsDownModel" "place0" "I") ∈ lw_tbl := tk_4 (i := 164) rfl
theorem wm_993 : (Cond.fieldLink "AppealsDownModel" (215) "AppealsDownModel" "isTaking" "Z") ∈ lw_tbl := tk_4 (i := 165) rfl
theorem wm_994 : (Cond.fieldLink "AppealsDownModel" (218) "AppealsDownModel" "keptIn" "[I") ∈ lw_tbl := tk_4 (i := 166) rfl
theorem wm_995 : (Cond.fieldLink "AppealsDownModel" (56) "AppealsDownModel" "turns0" "[I") ∈ lw_tbl := tk_4 (i := 167) rfl
theorem wm_996 : (Cond.fieldLink "AppealsDownModel" (59) "AppealsDownModel" "turnOf" "[I") ∈ lw_tbl := tk_4 (i := 168) rfl
theorem wm_997 : (Cond.fieldLink "AppealsDownModel" (212) "AppealsDownModel" "turned" "I") ∈ lw_tbl := tk_4 (i := 169) rfl
theorem wm_998 : (Cond.fieldLink "AppealsDownModel" (265) "AppealsDownModel" "roundCourts" "I") ∈ lw_tbl := tk_4 (i := 170) rfl
theorem wm_999 : (Cond.fieldLink "AppealsDownModel" (259) "AppealsDownModel" "roundWhen" "I") ∈ lw_tbl := tk_4 (i := 171) rfl
theorem wm_1000 : (Cond.fieldLink "AppealsDownModel" (62) "AppealsDownModel" "comings" "[I") ∈ lw_tbl := tk_4 (i := 172) rfl
theorem wm_1001 : (Cond.fieldLink "AppealsDownModel" (65) "AppealsDownModel" "comingAt" "[I") ∈ lw_tbl := tk_4 (i := 173) rfl
theorem wm_1002 : (Cond.fieldLink "AppealsDownModel" (256) "AppealsDownModel" "comingMany" "I") ∈ lw_tbl := tk_4 (i := 174) rfl
theorem wm_1003 : (Cond.fieldLink "AppealsDownModel" (68) "AppealsDownModel" "forBehind" "[Z") ∈ lw_tbl := tk_4 (i := 175) rfl
theorem wm_1004 : (Cond.fieldLink "AppealsDownModel" (72) "AppealsDownModel" "goesOn" "[Z") ∈ lw_tbl := tk_4 (i := 176) rfl
theorem wm_1005 : (Cond.fieldLink "AppealsDownModel" (75) "AppealsDownModel" "forInTheEnd" "[Z") ∈ lw_tbl := tk_4 (i := 177) rfl
theorem wm_1006 : (Cond.fieldLink "AppealsDownModel" (78) "AppealsDownModel" "paysFor" "[I") ∈ lw_tbl := tk_4 (i := 178) rfl
theorem wm_1007 : (Cond.fieldLink "AppealsDownModel" (81) "AppealsDownModel" "paysAgainst" "[I") ∈ lw_tbl := tk_4 (i := 179) rfl
theorem wm_1008 : (Cond.fieldLink "AppealsDownModel" (84) "AppealsDownModel" "changes" "[I") ∈ lw_tbl := tk_4 (i := 180) rfl
theorem wm_1009 : (Cond.fieldLink "AppealsDownModel" (87) "AppealsDownModel" "row" "[I") ∈ lw_tbl := tk_4 (i := 181) rfl
theorem wm_1010 : (Cond.fieldLink "AppealsDownModel" (312) "AppealsDownModel" "rowMany" "I") ∈ lw_tbl := tk_4 (i := 182) rfl
theorem wm_1011 : (Cond.fieldLink "AppealsDownModel" (90) "AppealsDownModel" "did" "[I") ∈ lw_tbl := tk_4 (i := 183) rfl
theorem wm_1012 : (Cond.fieldLink "AppealsDownModel" (93) "AppealsDownModel" "order0" "[I") ∈ lw_tbl := tk_4 (i := 184) rfl
theorem wm_1013 : (Cond.fieldLink "AppealsDownModel" (96) "AppealsDownModel" "alone" "[I") ∈ lw_tbl := tk_4 (i := 185) rfl
theorem wm_1014 : (Cond.fieldLink "AppealsDownModel" (99) "AppealsDownModel" "stepsOf" "[I") ∈ lw_tbl := tk_4 (i := 186) rfl
theorem wm_1015 : (Cond.fieldLink "AppealsDownModel" (102) "AppealsDownModel" "times" "[I") ∈ lw_tbl := tk_4 (i := 187) rfl
theorem wm_129 : (Cond.code mX7_init.2.2.2.2 mX7_init.1 mX7_init.2.1 mX7_init.2.2.1) ∈ lw_tbl := tk_1 (i := 21) rfl
theorem wm_109 : (Cond.initialized "AppealsDown") ∈ lw_tbl := tk_1 (i := 1) rfl
theorem wm_137 : (Cond.code mX5_init.2.2.2.2 mX5_init.1 mX5_init.2.1 mX5_init.2.2.1) ∈ lw_tbl := tk_1 (i := 29) rfl
theorem wm_110 : (Cond.initialized "AppealsDown$Suit") ∈ lw_tbl := tk_1 (i := 2) rfl
theorem wm_143 : (Cond.code mX3_init.2.2.2.2 mX3_init.1 mX3_init.2.1 mX3_init.2.2.1) ∈ lw_tbl := tk_1 (i := 35) rfl
theorem wm_111 : (Cond.initialized "AppealsDown$Points") ∈ lw_tbl := tk_1 (i := 3) rfl
theorem wm_195 : (Cond.code mX2_init.2.2.2.2 mX2_init.1 mX2_init.2.1 mX2_init.2.2.1) ∈ lw_tbl := tk_1 (i := 87) rfl
theorem wm_112 : (Cond.initialized "AppealsDown$Letters") ∈ lw_tbl := tk_1 (i := 4) rfl
theorem wm_209 : (Cond.code mX0_init.2.2.2.2 mX0_init.1 mX0_init.2.1 mX0_init.2.2.1) ∈ lw_tbl := tk_1 (i := 101) rfl
theorem wm_113 : (Cond.initialized "AppealsDown$Changes") ∈ lw_tbl := tk_1 (i := 5) rfl
theorem wm_231 : (Cond.code mX6_init.2.2.2.2 mX6_init.1 mX6_init.2.1 mX6_init.2.2.1) ∈ lw_tbl := tk_1 (i := 123) rfl
theorem wm_114 : (Cond.initialized "AppealsDown$Weighing") ∈ lw_tbl := tk_1 (i := 6) rfl
theorem wm_262 : (Cond.code mX4_init.2.2.2.2 mX4_init.1 mX4_init.2.1 mX4_init.2.2.1) ∈ lw_tbl := tk_1 (i := 154) rfl
theorem wm_115 : (Cond.initialized "AppealsDown$Seen") ∈ lw_tbl := tk_1 (i := 7) rfl
theorem wm_281 : (Cond.code mX1_init.2.2.2.2 mX1_init.1 mX1_init.2.1 mX1_init.2.2.1) ∈ lw_tbl := tk_1 (i := 173) rfl
theorem wm_116 : (Cond.initialized "AppealsDown$Going") ∈ lw_tbl := tk_1 (i := 8) rfl
theorem wm_351 : (Cond.code mX7_feed.2.2.2.2 mX7_feed.1 mX7_feed.2.1 mX7_feed.2.2.1) ∈ lw_tbl := tk_2 (i := 3) rfl
theorem wm_355 : (Cond.code mX7_refuse.2.2.2.2 mX7_refuse.1 mX7_refuse.2.1 mX7_refuse.2.2.1) ∈ lw_tbl := tk_2 (i := 7) rfl
theorem wm_359 : (Cond.code mX2_take.2.2.2.2 mX2_take.1 mX2_take.2.1 mX2_take.2.2.1) ∈ lw_tbl := tk_2 (i := 11) rfl
theorem wm_363 : (Cond.code mX7_caseOf.2.2.2.2 mX7_caseOf.1 mX7_caseOf.2.1 mX7_caseOf.2.2.1) ∈ lw_tbl := tk_2 (i := 15) rfl
theorem wm_367 : (Cond.code mX7_tellLetters.2.2.2.2 mX7_tellLetters.1 mX7_tellLetters.2.1 mX7_tellLetters.2.2.1) ∈ lw_tbl := tk_2 (i := 19) rfl
theorem wm_371 : (Cond.code mX2_firstBad.2.2.2.2 mX2_firstBad.1 mX2_firstBad.2.1 mX2_firstBad.2.2.1) ∈ lw_tbl := tk_2 (i := 23) rfl
theorem wm_376 : (Cond.code mJ0_length_8abf5.2.2.2.2 mJ0_length_8abf5.1 mJ0_length_8abf5.2.1 mJ0_length_8abf5.2.2.1) ∈ lw_tbl := tk_2 (i := 28) rfl
theorem wm_118 : (Cond.initialized "java/lang/String") ∈ lw_tbl := tk_1 (i := 10) rfl
theorem wm_380 : (Cond.code mJ0_coder_7d493.2.2.2.2 mJ0_coder_7d493.1 mJ0_coder_7d493.2.1 mJ0_coder_7d493.2.2.1) ∈ lw_tbl := tk_2 (i := 32) rfl
theorem wm_385 : (Cond.code mX2_shape.2.2.2.2 mX2_shape.1 mX2_shape.2.1 mX2_shape.2.2.1) ∈ lw_tbl := tk_2 (i := 37) rfl
theorem wm_395 : (Cond.code mJ0_isEmpty_aae02.2.2.2.2 mJ0_isEmpty_aae02.1 mJ0_isEmpty_aae02.2.1 mJ0_isEmpty_aae02.2.2.1) ∈ lw_tbl := tk_2 (i := 47) rfl
theorem wm_399 : (Cond.code mJ0_charAt_5068e.2.2.2.2 mJ0_charAt_5068e.1 mJ0_charAt_5068e.2.1 mJ0_charAt_5068e.2.2.1) ∈ lw_tbl := tk_2 (i := 51) rfl
theorem wm_403 : (Cond.code mJ0_isLatin1_aae02.2.2.2.2 mJ0_isLatin1_aae02.1 mJ0_isLatin1_aae02.2.1 mJ0_isLatin1_aae02.2.2.1) ∈ lw_tbl := tk_2 (i := 55) rfl
theorem wm_406 : (Cond.code mJ1_charAt_3b067.2.2.2.2 mJ1_charAt_3b067.1 mJ1_charAt_3b067.2.1 mJ1_charAt_3b067.2.2.1) ∈ lw_tbl := tk_2 (i := 58) rfl
theorem wm_119 : (Cond.initialized "java/lang/StringLatin1") ∈ lw_tbl := tk_1 (i := 11) rfl
theorem wm_409 : (Cond.code mJ0_checkIndex_df160.2.2.2.2 mJ0_checkIndex_df160.1 mJ0_checkIndex_df160.2.1 mJ0_checkIndex_df160.2.2.1) ∈ lw_tbl := tk_2 (i := 61) rfl
theorem wm_414 : (Cond.code mJ3_checkIndex_8e157.2.2.2.2 mJ3_checkIndex_8e157.1 mJ3_checkIndex_8e157.2.1 mJ3_checkIndex_8e157.2.2.1) ∈ lw_tbl := tk_2 (i := 66) rfl
theorem wm_120 : (Cond.initialized "jdk/internal/util/Preconditions") ∈ lw_tbl := tk_1 (i := 12) rfl
theorem wm_436 : (Cond.code mX2_suits.2.2.2.2 mX2_suits.1 mX2_suits.2.1 mX2_suits.2.2.1) ∈ lw_tbl := tk_2 (i := 88) rfl
theorem wm_440 : (Cond.code mX5_copyFrom.2.2.2.2 mX5_copyFrom.1 mX5_copyFrom.2.1 mX5_copyFrom.2.2.1) ∈ lw_tbl := tk_2 (i := 92) rfl
theorem wm_447 : (Cond.code mX3_copyFrom.2.2.2.2 mX3_copyFrom.1 mX3_copyFrom.2.1 mX3_copyFrom.2.2.1) ∈ lw_tbl := tk_2 (i := 99) rfl
theorem wm_452 : (Cond.code mX2_beginsAt.2.2.2.2 mX2_beginsAt.1 mX2_beginsAt.2.1 mX2_beginsAt.2.2.1) ∈ lw_tbl := tk_2 (i := 104) rfl
theorem wm_456 : (Cond.code mX2_sign.2.2.2.2 mX2_sign.1 mX2_sign.2.1 mX2_sign.2.2.1) ∈ lw_tbl := tk_2 (i := 108) rfl
theorem wm_460 : (Cond.code mX2_tellOne.2.2.2.2 mX2_tellOne.1 mX2_tellOne.2.1 mX2_tellOne.2.2.1) ∈ lw_tbl := tk_2 (i := 112) rfl
theorem wm_464 : (Cond.code mX2_digit.2.2.2.2 mX2_digit.1 mX2_digit.2.1 mX2_digit.2.2.1) ∈ lw_tbl := tk_2 (i := 116) rfl
theorem wm_468 : (Cond.code mX5_addLowest.2.2.2.2 mX5_addLowest.1 mX5_addLowest.2.1 mX5_addLowest.2.2.1) ∈ lw_tbl := tk_2 (i := 120) rfl
theorem wm_471 : (Cond.code mX7_isKind.2.2.2.2 mX7_isKind.1 mX7_isKind.2.1 mX7_isKind.2.2.1) ∈ lw_tbl := tk_2 (i := 123) rfl
theorem wm_474 : (Cond.code mX7_outside.2.2.2.2 mX7_outside.1 mX7_outside.2.1 mX7_outside.2.2.1) ∈ lw_tbl := tk_2 (i := 126) rfl
theorem wm_478 : (Cond.code mX5_change.2.2.2.2 mX5_change.1 mX5_change.2.1 mX5_change.2.2.1) ∈ lw_tbl := tk_2 (i := 130) rfl
theorem wm_482 : (Cond.code mX3_resize.2.2.2.2 mX3_resize.1 mX3_resize.2.1 mX3_resize.2.2.1) ∈ lw_tbl := tk_2 (i := 134) rfl
theorem wm_492 : (Cond.code mX5_changePoint.2.2.2.2 mX5_changePoint.1 mX5_changePoint.2.1 mX5_changePoint.2.2.1) ∈ lw_tbl := tk_2 (i := 144) rfl
theorem wm_496 : (Cond.code mX3_has.2.2.2.2 mX3_has.1 mX3_has.2.1 mX3_has.2.2.1) ∈ lw_tbl := tk_2 (i := 148) rfl
theorem wm_500 : (Cond.code mX3_put.2.2.2.2 mX3_put.1 mX3_put.2.1 mX3_put.2.2.1) ∈ lw_tbl := tk_2 (i := 152) rfl
theorem wm_505 : (Cond.code mX5_loseLowest.2.2.2.2 mX5_loseLowest.1 mX5_loseLowest.2.1 mX5_loseLowest.2.2.1) ∈ lw_tbl := tk_2 (i := 157) rfl
theorem wm_510 : (Cond.code mX7_court.2.2.2.2 mX7_court.1 mX7_court.2.1 mX7_court.2.2.1) ∈ lw_tbl := tk_2 (i := 162) rfl
theorem wm_514 : (Cond.code mX5_hasCourt.2.2.2.2 mX5_hasCourt.1 mX5_hasCourt.2.1 mX5_hasCourt.2.2.1) ∈ lw_tbl := tk_2 (i := 166) rfl
theorem wm_518 : (Cond.code mX7_point.2.2.2.2 mX7_point.1 mX7_point.2.1 mX7_point.2.2.1) ∈ lw_tbl := tk_2 (i := 170) rfl
theorem wm_523 : (Cond.code mX7_refuseHigh.2.2.2.2 mX7_refuseHigh.1 mX7_refuseHigh.2.1 mX7_refuseHigh.2.2.1) ∈ lw_tbl := tk_2 (i := 175) rfl
theorem wm_529 : (Cond.code mX3_number.2.2.2.2 mX3_number.1 mX3_number.2.1 mX3_number.2.2.1) ∈ lw_tbl := tk_2 (i := 181) rfl
theorem wm_533 : (Cond.code mX0_note.2.2.2.2 mX0_note.1 mX0_note.2.1 mX0_note.2.2.1) ∈ lw_tbl := tk_2 (i := 185) rfl
theorem wm_537 : (Cond.code mX0_forgetOldest.2.2.2.2 mX0_forgetOldest.1 mX0_forgetOldest.2.1 mX0_forgetOldest.2.2.1) ∈ lw_tbl := tk_2 (i := 189) rfl
theorem wm_542 : (Cond.code mX7_kind.2.2.2.2 mX7_kind.1 mX7_kind.2.1 mX7_kind.2.2.1) ∈ lw_tbl := tk_2 (i := 194) rfl
theorem wm_547 : (Cond.code mX5_rename.2.2.2.2 mX5_rename.1 mX5_rename.2.1 mX5_rename.2.2.1) ∈ lw_tbl := tk_2 (i := 199) rfl
theorem wm_552 : (Cond.code mX7_lowest.2.2.2.2 mX7_lowest.1 mX7_lowest.2.1 mX7_lowest.2.2.1) ∈ lw_tbl := tk_2 (i := 204) rfl
theorem wm_557 : (Cond.code mX7_set.2.2.2.2 mX7_set.1 mX7_set.2.1 mX7_set.2.2.1) ∈ lw_tbl := tk_2 (i := 209) rfl
theorem wm_562 : (Cond.code mX7_back.2.2.2.2 mX7_back.1 mX7_back.2.1 mX7_back.2.2.1) ∈ lw_tbl := tk_2 (i := 214) rfl
theorem wm_566 : (Cond.code mX0_takeBack.2.2.2.2 mX0_takeBack.1 mX0_takeBack.2.1 mX0_takeBack.2.2.1) ∈ lw_tbl := tk_2 (i := 218) rfl
theorem wm_573 : (Cond.code mX7_down.2.2.2.2 mX7_down.1 mX7_down.2.1 mX7_down.2.2.1) ∈ lw_tbl := tk_2 (i := 225) rfl
theorem wm_577 : (Cond.code mX7_goDownTo.2.2.2.2 mX7_goDownTo.1 mX7_goDownTo.2.1 mX7_goDownTo.2.2.1) ∈ lw_tbl := tk_2 (i := 229) rfl
theorem wm_582 : (Cond.code mX5_goDown.2.2.2.2 mX5_goDown.1 mX5_goDown.2.1 mX5_goDown.2.2.1) ∈ lw_tbl := tk_2 (i := 234) rfl
theorem wm_586 : (Cond.code mX5_hearAs.2.2.2.2 mX5_hearAs.1 mX5_hearAs.2.1 mX5_hearAs.2.2.1) ∈ lw_tbl := tk_2 (i := 238) rfl
theorem wm_590 : (Cond.code mX3_notZero.2.2.2.2 mX3_notZero.1 mX3_notZero.2.1 mX3_notZero.2.2.1) ∈ lw_tbl := tk_3 (i := 2) rfl
theorem wm_594 : (Cond.code mX3_suffer.2.2.2.2 mX3_suffer.1 mX3_suffer.2.1 mX3_suffer.2.2.1) ∈ lw_tbl := tk_3 (i := 6) rfl
theorem wm_598 : (Cond.code mX3_surest.2.2.2.2 mX3_surest.1 mX3_surest.2.1 mX3_surest.2.2.1) ∈ lw_tbl := tk_3 (i := 10) rfl
theorem wm_602 : (Cond.code mX3_halve.2.2.2.2 mX3_halve.1 mX3_halve.2.1 mX3_halve.2.2.1) ∈ lw_tbl := tk_3 (i := 14) rfl
theorem wm_606 : (Cond.code mX3_turn.2.2.2.2 mX3_turn.1 mX3_turn.2.1 mX3_turn.2.2.1) ∈ lw_tbl := tk_3 (i := 18) rfl
theorem wm_610 : (Cond.code mX3_lessenBehind.2.2.2.2 mX3_lessenBehind.1 mX3_lessenBehind.2.1 mX3_lessenBehind.2.2.1) ∈ lw_tbl := tk_3 (i := 22) rfl
theorem wm_614 : (Cond.code mX3_bringOver.2.2.2.2 mX3_bringOver.1 mX3_bringOver.2.1 mX3_bringOver.2.2.1) ∈ lw_tbl := tk_3 (i := 26) rfl
theorem wm_618 : (Cond.code mX3_bringOthersNearer.2.2.2.2 mX3_bringOthersNearer.1 mX3_bringOthersNearer.2.1 mX3_bringOthersNearer.2.2.1) ∈ lw_tbl := tk_3 (i := 30) rfl
theorem wm_622 : (Cond.code mX3_isFor.2.2.2.2 mX3_isFor.1 mX3_isFor.2.1 mX3_isFor.2.2.1) ∈ lw_tbl := tk_3 (i := 34) rfl
theorem wm_626 : (Cond.code mX3_sum.2.2.2.2 mX3_sum.1 mX3_sum.2.1 mX3_sum.2.2.1) ∈ lw_tbl := tk_3 (i := 38) rfl
theorem wm_629 : (Cond.code mX7_bit.2.2.2.2 mX7_bit.1 mX7_bit.2.1 mX7_bit.2.2.1) ∈ lw_tbl := tk_3 (i := 41) rfl
theorem wm_634 : (Cond.code mX7_turns.2.2.2.2 mX7_turns.1 mX7_turns.2.1 mX7_turns.2.2.1) ∈ lw_tbl := tk_3 (i := 46) rfl
theorem wm_638 : (Cond.code mX5_hear.2.2.2.2 mX5_hear.1 mX5_hear.2.1 mX5_hear.2.2.1) ∈ lw_tbl := tk_3 (i := 50) rfl
theorem wm_642 : (Cond.code mX7_costs.2.2.2.2 mX7_costs.1 mX7_costs.2.1 mX7_costs.2.2.1) ∈ lw_tbl := tk_3 (i := 54) rfl
theorem wm_646 : (Cond.code mX5_costsBetween.2.2.2.2 mX5_costsBetween.1 mX5_costsBetween.2.1 mX5_costsBetween.2.2.1) ∈ lw_tbl := tk_3 (i := 58) rfl
theorem wm_651 : (Cond.code mX7_up.2.2.2.2 mX7_up.1 mX7_up.2.1 mX7_up.2.2.1) ∈ lw_tbl := tk_3 (i := 63) rfl
theorem wm_655 : (Cond.code mX5_sendsBack.2.2.2.2 mX5_sendsBack.1 mX5_sendsBack.2.1 mX5_sendsBack.2.2.1) ∈ lw_tbl := tk_3 (i := 67) rfl
theorem wm_659 : (Cond.code mX7_round.2.2.2.2 mX7_round.1 mX7_round.2.1 mX7_round.2.2.1) ∈ lw_tbl := tk_3 (i := 71) rfl
theorem wm_663 : (Cond.code mX1_go.2.2.2.2 mX1_go.1 mX1_go.2.1 mX1_go.2.2.1) ∈ lw_tbl := tk_3 (i := 75) rfl
theorem wm_668 : (Cond.code mX3_told.2.2.2.2 mX3_told.1 mX3_told.2.1 mX3_told.2.2.1) ∈ lw_tbl := tk_3 (i := 80) rfl
theorem wm_674 : (Cond.code mX4_note.2.2.2.2 mX4_note.1 mX4_note.2.1 mX4_note.2.2.1) ∈ lw_tbl := tk_3 (i := 86) rfl
theorem wm_679 : (Cond.code mX1_comeToFirst.2.2.2.2 mX1_comeToFirst.1 mX1_comeToFirst.2.1 mX1_comeToFirst.2.2.1) ∈ lw_tbl := tk_3 (i := 91) rfl
theorem wm_683 : (Cond.code mX4_find.2.2.2.2 mX4_find.1 mX4_find.2.1 mX4_find.2.2.1) ∈ lw_tbl := tk_3 (i := 95) rfl
theorem wm_688 : (Cond.code mX7_appeals.2.2.2.2 mX7_appeals.1 mX7_appeals.2.1 mX7_appeals.2.2.1) ∈ lw_tbl := tk_3 (i := 100) rfl
theorem wm_692 : (Cond.code mX6_weigh.2.2.2.2 mX6_weigh.1 mX6_weigh.2.1 mX6_weigh.2.2.1) ∈ lw_tbl := tk_3 (i := 104) rfl
theorem wm_699 : (Cond.code mX6_weighStep.2.2.2.2 mX6_weighStep.1 mX6_weighStep.2.1 mX6_weighStep.2.2.1) ∈ lw_tbl := tk_3 (i := 111) rfl
theorem wm_703 : (Cond.code mX6_through.2.2.2.2 mX6_through.1 mX6_through.2.1 mX6_through.2.2.1) ∈ lw_tbl := tk_3 (i := 115) rfl
theorem wm_707 : (Cond.code mX7_press.2.2.2.2 mX7_press.1 mX7_press.2.1 mX7_press.2.2.1) ∈ lw_tbl := tk_3 (i := 119) rfl
theorem wm_711 : (Cond.code mX7_fewestPressed.2.2.2.2 mX7_fewestPressed.1 mX7_fewestPressed.2.1 mX7_fewestPressed.2.2.1) ∈ lw_tbl := tk_3 (i := 123) rfl
theorem wm_714 : (Cond.code mJ6_bitCount_0f7a4.2.2.2.2 mJ6_bitCount_0f7a4.1 mJ6_bitCount_0f7a4.2.1 mJ6_bitCount_0f7a4.2.2.1) ∈ lw_tbl := tk_3 (i := 126) rfl
theorem wm_124 : (Cond.initialized "java/lang/Integer") ∈ lw_tbl := tk_1 (i := 16) rfl
theorem wm_721 : (Cond.code mX7_turnsBy.2.2.2.2 mX7_turnsBy.1 mX7_turnsBy.2.1 mX7_turnsBy.2.2.1) ∈ lw_tbl := tk_3 (i := 133) rfl
theorem wm_725 : (Cond.code mX7_playOn.2.2.2.2 mX7_playOn.1 mX7_playOn.2.1 mX7_playOn.2.2.1) ∈ lw_tbl := tk_3 (i := 137) rfl
theorem wm_731 : (Cond.code mX3_move.2.2.2.2 mX3_move.1 mX3_move.2.1 mX3_move.2.2.1) ∈ lw_tbl := tk_3 (i := 143) rfl
theorem wm_737 : (Cond.code mX7_standsFast.2.2.2.2 mX7_standsFast.1 mX7_standsFast.2.1 mX7_standsFast.2.2.1) ∈ lw_tbl := tk_3 (i := 149) rfl
theorem wm_741 : (Cond.code mX7_fastCourts.2.2.2.2 mX7_fastCourts.1 mX7_fastCourts.2.1 mX7_fastCourts.2.2.1) ∈ lw_tbl := tk_3 (i := 153) rfl
theorem wm_745 : (Cond.code mX7_survive.2.2.2.2 mX7_survive.1 mX7_survive.2.1 mX7_survive.2.2.1) ∈ lw_tbl := tk_3 (i := 157) rfl
theorem wm_749 : (Cond.code mX3_beThree.2.2.2.2 mX3_beThree.1 mX3_beThree.2.1 mX3_beThree.2.2.1) ∈ lw_tbl := tk_3 (i := 161) rfl
theorem wm_754 : (Cond.code mX7_fits.2.2.2.2 mX7_fits.1 mX7_fits.2.1 mX7_fits.2.2.1) ∈ lw_tbl := tk_3 (i := 166) rfl
theorem wm_758 : (Cond.code mX7_tellsNumbers.2.2.2.2 mX7_tellsNumbers.1 mX7_tellsNumbers.2.1 mX7_tellsNumbers.2.2.1) ∈ lw_tbl := tk_3 (i := 170) rfl
theorem wm_762 : (Cond.code mX7_readTold.2.2.2.2 mX7_readTold.1 mX7_readTold.2.1 mX7_readTold.2.2.1) ∈ lw_tbl := tk_3 (i := 174) rfl
theorem wm_767 : (Cond.code mX3_isAs.2.2.2.2 mX3_isAs.1 mX3_isAs.2.1 mX3_isAs.2.2.1) ∈ lw_tbl := tk_3 (i := 179) rfl
theorem wm_771 : (Cond.code mX7_first.2.2.2.2 mX7_first.1 mX7_first.2.1 mX7_first.2.2.1) ∈ lw_tbl := tk_3 (i := 183) rfl
theorem wm_775 : (Cond.code mX7_apart.2.2.2.2 mX7_apart.1 mX7_apart.2.1 mX7_apart.2.2.1) ∈ lw_tbl := tk_3 (i := 187) rfl
theorem wm_779 : (Cond.code mX7_treaty.2.2.2.2 mX7_treaty.1 mX7_treaty.2.1 mX7_treaty.2.2.1) ∈ lw_tbl := tk_3 (i := 191) rfl
theorem wm_783 : (Cond.code mX7_share.2.2.2.2 mX7_share.1 mX7_share.2.1 mX7_share.2.2.1) ∈ lw_tbl := tk_3 (i := 195) rfl
theorem wm_787 : (Cond.code mX7_bedtime.2.2.2.2 mX7_bedtime.1 mX7_bedtime.2.1 mX7_bedtime.2.2.1) ∈ lw_tbl := tk_3 (i := 199) rfl
theorem wm_791 : (Cond.code mX7_refuseLong.2.2.2.2 mX7_refuseLong.1 mX7_refuseLong.2.1 mX7_refuseLong.2.2.1) ∈ lw_tbl := tk_3 (i := 203) rfl
theorem wm_796 : (Cond.code mX7_goDownAsleep.2.2.2.2 mX7_goDownAsleep.1 mX7_goDownAsleep.2.1 mX7_goDownAsleep.2.2.1) ∈ lw_tbl := tk_3 (i := 208) rfl
theorem wm_799 : (Cond.code mX7_power.2.2.2.2 mX7_power.1 mX7_power.2.1 mX7_power.2.2.1) ∈ lw_tbl := tk_3 (i := 211) rfl
theorem wm_802 : (Cond.code mX7_commonDivisor.2.2.2.2 mX7_commonDivisor.1 mX7_commonDivisor.2.1 mX7_commonDivisor.2.2.1) ∈ lw_tbl := tk_3 (i := 214) rfl
theorem wm_806 : (Cond.code mX7_order.2.2.2.2 mX7_order.1 mX7_order.2.1 mX7_order.2.2.1) ∈ lw_tbl := tk_3 (i := 218) rfl
theorem wm_810 : (Cond.code mX7_goDownSwapped.2.2.2.2 mX7_goDownSwapped.1 mX7_goDownSwapped.2.1 mX7_goDownSwapped.2.2.1) ∈ lw_tbl := tk_3 (i := 222) rfl
theorem wm_814 : (Cond.code mX7_bestOrder.2.2.2.2 mX7_bestOrder.1 mX7_bestOrder.2.1 mX7_bestOrder.2.2.1) ∈ lw_tbl := tk_3 (i := 226) rfl
theorem wm_818 : (Cond.code mX7_findBestOrder.2.2.2.2 mX7_findBestOrder.1 mX7_findBestOrder.2.1 mX7_findBestOrder.2.2.1) ∈ lw_tbl := tk_3 (i := 230) rfl
theorem wm_823 : (Cond.code mX7_toNextOrder.2.2.2.2 mX7_toNextOrder.1 mX7_toNextOrder.2.1 mX7_toNextOrder.2.2.1) ∈ lw_tbl := tk_3 (i := 235) rfl
theorem wm_827 : (Cond.code mX7_swapPlaces.2.2.2.2 mX7_swapPlaces.1 mX7_swapPlaces.2.1 mX7_swapPlaces.2.2.1) ∈ lw_tbl := tk_3 (i := 239) rfl
theorem wm_831 : (Cond.code mX7_needed.2.2.2.2 mX7_needed.1 mX7_needed.2.1 mX7_needed.2.2.1) ∈ lw_tbl := tk_4 (i := 3) rfl
theorem wm_835 : (Cond.code mX7_cheapest.2.2.2.2 mX7_cheapest.1 mX7_cheapest.2.1 mX7_cheapest.2.2.1) ∈ lw_tbl := tk_4 (i := 7) rfl
theorem wm_839 : (Cond.code mX7_isForBehindAll.2.2.2.2 mX7_isForBehindAll.1 mX7_isForBehindAll.2.1 mX7_isForBehindAll.2.2.1) ∈ lw_tbl := tk_4 (i := 11) rfl
theorem wm_843 : (Cond.code mX7_biggest.2.2.2.2 mX7_biggest.1 mX7_biggest.2.1 mX7_biggest.2.2.1) ∈ lw_tbl := tk_4 (i := 15) rfl
theorem wm_850 : (Cond.code mX7_swing.2.2.2.2 mX7_swing.1 mX7_swing.2.1 mX7_swing.2.2.1) ∈ lw_tbl := tk_4 (i := 22) rfl
theorem wm_854 : (Cond.code mX7_rounds.2.2.2.2 mX7_rounds.1 mX7_rounds.2.1 mX7_rounds.2.2.1) ∈ lw_tbl := tk_4 (i := 26) rfl
theorem wm_858 : (Cond.code mX7_worst.2.2.2.2 mX7_worst.1 mX7_worst.2.1 mX7_worst.2.2.1) ∈ lw_tbl := tk_4 (i := 30) rfl
theorem wm_862 : (Cond.code mX7_goDownWith.2.2.2.2 mX7_goDownWith.1 mX7_goDownWith.2.1 mX7_goDownWith.2.2.1) ∈ lw_tbl := tk_4 (i := 34) rfl
theorem wm_867 : (Cond.code mX7_same.2.2.2.2 mX7_same.1 mX7_same.2.1 mX7_same.2.2.1) ∈ lw_tbl := tk_4 (i := 39) rfl
theorem wm_871 : (Cond.code mX7_dead.2.2.2.2 mX7_dead.1 mX7_dead.2.1 mX7_dead.2.2.1) ∈ lw_tbl := tk_4 (i := 43) rfl
theorem wm_875 : (Cond.code mX7_changesAny.2.2.2.2 mX7_changesAny.1 mX7_changesAny.2.1 mX7_changesAny.2.2.1) ∈ lw_tbl := tk_4 (i := 47) rfl
theorem wm_879 : (Cond.code mX7_flip.2.2.2.2 mX7_flip.1 mX7_flip.2.1 mX7_flip.2.2.1) ∈ lw_tbl := tk_4 (i := 51) rfl
theorem wm_883 : (Cond.code mX7_fewestAsleep.2.2.2.2 mX7_fewestAsleep.1 mX7_fewestAsleep.2.1 mX7_fewestAsleep.2.2.1) ∈ lw_tbl := tk_4 (i := 55) rfl
theorem wm_887 : (Cond.code mX7_margin.2.2.2.2 mX7_margin.1 mX7_margin.2.1 mX7_margin.2.2.1) ∈ lw_tbl := tk_4 (i := 59) rfl
theorem wm_891 : (Cond.code mX7_stepAway.2.2.2.2 mX7_stepAway.1 mX7_stepAway.2.1 mX7_stepAway.2.2.1) ∈ lw_tbl := tk_4 (i := 63) rfl
theorem wm_895 : (Cond.code mX7_beats.2.2.2.2 mX7_beats.1 mX7_beats.2.1 mX7_beats.2.2.1) ∈ lw_tbl := tk_4 (i := 67) rfl
theorem wm_899 : (Cond.code mX7_commute.2.2.2.2 mX7_commute.1 mX7_commute.2.1 mX7_commute.2.2.1) ∈ lw_tbl := tk_4 (i := 71) rfl
theorem wm_903 : (Cond.code mX7_again.2.2.2.2 mX7_again.1 mX7_again.2.1 mX7_again.2.2.1) ∈ lw_tbl := tk_4 (i := 75) rfl
theorem wm_910 : (Cond.code mX7_bestLowest.2.2.2.2 mX7_bestLowest.1 mX7_bestLowest.2.1 mX7_bestLowest.2.2.1) ∈ lw_tbl := tk_4 (i := 82) rfl
theorem wm_914 : (Cond.code mX7_peak.2.2.2.2 mX7_peak.1 mX7_peak.2.1 mX7_peak.2.2.1) ∈ lw_tbl := tk_4 (i := 86) rfl
theorem wm_918 : (Cond.code mX7_fullStake.2.2.2.2 mX7_fullStake.1 mX7_fullStake.2.1 mX7_fullStake.2.2.1) ∈ lw_tbl := tk_4 (i := 90) rfl
theorem wm_922 : (Cond.code mX7_heard.2.2.2.2 mX7_heard.1 mX7_heard.2.1 mX7_heard.2.2.1) ∈ lw_tbl := tk_4 (i := 94) rfl
theorem wm_926 : (Cond.code mX7_lastSay.2.2.2.2 mX7_lastSay.1 mX7_lastSay.2.1 mX7_lastSay.2.2.1) ∈ lw_tbl := tk_4 (i := 98) rfl
theorem wm_930 : (Cond.code mX7_row.2.2.2.2 mX7_row.1 mX7_row.2.1 mX7_row.2.2.1) ∈ lw_tbl := tk_4 (i := 102) rfl
theorem wm_934 : (Cond.code mX7_judge.2.2.2.2 mX7_judge.1 mX7_judge.2.1 mX7_judge.2.2.1) ∈ lw_tbl := tk_4 (i := 106) rfl
theorem wm_938 : (Cond.code mX7_firstNotSo.2.2.2.2 mX7_firstNotSo.1 mX7_firstNotSo.2.1 mX7_firstNotSo.2.2.1) ∈ lw_tbl := tk_4 (i := 110) rfl
theorem wm_942 : (Cond.code mX7_clear.2.2.2.2 mX7_clear.1 mX7_clear.2.1 mX7_clear.2.2.1) ∈ lw_tbl := tk_4 (i := 114) rfl
theorem wm_946 : (Cond.code mX7_lots.2.2.2.2 mX7_lots.1 mX7_lots.2.1 mX7_lots.2.2.1) ∈ lw_tbl := tk_4 (i := 118) rfl
theorem wm_953 : (Cond.code mX7_image.2.2.2.2 mX7_image.1 mX7_image.2.1 mX7_image.2.2.1) ∈ lw_tbl := tk_4 (i := 125) rfl
theorem wm_957 : (Cond.code mX7_restore.2.2.2.2 mX7_restore.1 mX7_restore.2.1 mX7_restore.2.2.1) ∈ lw_tbl := tk_4 (i := 129) rfl
theorem wm_961 : (Cond.code mX7_count.2.2.2.2 mX7_count.1 mX7_count.2.1 mX7_count.2.2.1) ∈ lw_tbl := tk_4 (i := 133) rfl
theorem wm_967 : (Cond.code mX8_init.2.2.2.2 mX8_init.1 mX8_init.2.1 mX8_init.2.2.1) ∈ lw_tbl := tk_4 (i := 139) rfl
theorem wm_117 : (Cond.initialized "AppealsDownModel") ∈ lw_tbl := tk_1 (i := 9) rfl
theorem wm_1114 : (Cond.code mX8_feed.2.2.2.2 mX8_feed.1 mX8_feed.2.1 mX8_feed.2.2.1) ∈ lw_tbl := tk_5 (i := 46) rfl
theorem wm_1118 : (Cond.code mX8_refuse.2.2.2.2 mX8_refuse.1 mX8_refuse.2.1 mX8_refuse.2.2.1) ∈ lw_tbl := tk_5 (i := 50) rfl
theorem wm_1122 : (Cond.code mX8_caseOf.2.2.2.2 mX8_caseOf.1 mX8_caseOf.2.1 mX8_caseOf.2.2.1) ∈ lw_tbl := tk_5 (i := 54) rfl
theorem wm_1126 : (Cond.code mX8_readStatement.2.2.2.2 mX8_readStatement.1 mX8_readStatement.2.1 mX8_readStatement.2.2.1) ∈ lw_tbl := tk_5 (i := 58) rfl
theorem wm_1130 : (Cond.code mX8_here.2.2.2.2 mX8_here.1 mX8_here.2.1 mX8_here.2.2.1) ∈ lw_tbl := tk_5 (i := 62) rfl
theorem wm_1133 : (Cond.code mX8_isLetter.2.2.2.2 mX8_isLetter.1 mX8_isLetter.2.1 mX8_isLetter.2.2.1) ∈ lw_tbl := tk_5 (i := 65) rfl
theorem wm_1137 : (Cond.code mX8_readDigits.2.2.2.2 mX8_readDigits.1 mX8_readDigits.2.1 mX8_readDigits.2.2.1) ∈ lw_tbl := tk_5 (i := 69) rfl
theorem wm_1142 : (Cond.code mX8_in.2.2.2.2 mX8_in.1 mX8_in.2.1 mX8_in.2.2.1) ∈ lw_tbl := tk_5 (i := 74) rfl
theorem wm_1146 : (Cond.code mX8_carryAll.2.2.2.2 mX8_carryAll.1 mX8_carryAll.2.1 mX8_carryAll.2.2.1) ∈ lw_tbl := tk_5 (i := 78) rfl
theorem wm_1150 : (Cond.code mX8_carry.2.2.2.2 mX8_carry.1 mX8_carry.2.1 mX8_carry.2.2.1) ∈ lw_tbl := tk_5 (i := 82) rfl
theorem wm_1154 : (Cond.code mX8_comes.2.2.2.2 mX8_comes.1 mX8_comes.2.1 mX8_comes.2.2.1) ∈ lw_tbl := tk_5 (i := 86) rfl
theorem wm_1158 : (Cond.code mX8_courtComes.2.2.2.2 mX8_courtComes.1 mX8_courtComes.2.1 mX8_courtComes.2.2.1) ∈ lw_tbl := tk_5 (i := 90) rfl
theorem wm_1163 : (Cond.code mX8_setMany.2.2.2.2 mX8_setMany.1 mX8_setMany.2.1 mX8_setMany.2.2.1) ∈ lw_tbl := tk_5 (i := 95) rfl
theorem wm_1167 : (Cond.code mX8_image.2.2.2.2 mX8_image.1 mX8_image.2.1 mX8_image.2.2.1) ∈ lw_tbl := tk_5 (i := 99) rfl
theorem wm_1171 : (Cond.code mX8_restore.2.2.2.2 mX8_restore.1 mX8_restore.2.1 mX8_restore.2.2.1) ∈ lw_tbl := tk_5 (i := 103) rfl
theorem wm_1175 : (Cond.code mX8_back.2.2.2.2 mX8_back.1 mX8_back.2.1 mX8_back.2.2.1) ∈ lw_tbl := tk_5 (i := 107) rfl
theorem wm_1179 : (Cond.code mX8_court.2.2.2.2 mX8_court.1 mX8_court.2.1 mX8_court.2.2.1) ∈ lw_tbl := tk_5 (i := 111) rfl
theorem wm_1183 : (Cond.code mX8_isCourt.2.2.2.2 mX8_isCourt.1 mX8_isCourt.2.1 mX8_isCourt.2.2.1) ∈ lw_tbl := tk_5 (i := 115) rfl
theorem wm_1188 : (Cond.code mX8_point.2.2.2.2 mX8_point.1 mX8_point.2.1 mX8_point.2.2.1) ∈ lw_tbl := tk_5 (i := 120) rfl
theorem wm_1191 : (Cond.code mX8_wrongNumber.2.2.2.2 mX8_wrongNumber.1 mX8_wrongNumber.2.1 mX8_wrongNumber.2.2.1) ∈ lw_tbl := tk_5 (i := 123) rfl
theorem wm_1196 : (Cond.code mX8_keepTurn.2.2.2.2 mX8_keepTurn.1 mX8_keepTurn.2.1 mX8_keepTurn.2.2.1) ∈ lw_tbl := tk_5 (i := 128) rfl
theorem wm_1200 : (Cond.code mX8_kind.2.2.2.2 mX8_kind.1 mX8_kind.2.1 mX8_kind.2.2.1) ∈ lw_tbl := tk_5 (i := 132) rfl
theorem wm_1205 : (Cond.code mX8_lowest.2.2.2.2 mX8_lowest.1 mX8_lowest.2.1 mX8_lowest.2.2.1) ∈ lw_tbl := tk_5 (i := 137) rfl
theorem wm_1209 : (Cond.code mX8_set.2.2.2.2 mX8_set.1 mX8_set.2.1 mX8_set.2.2.1) ∈ lw_tbl := tk_5 (i := 141) rfl
theorem wm_1213 : (Cond.code mX8_down.2.2.2.2 mX8_down.1 mX8_down.2.1 mX8_down.2.2.1) ∈ lw_tbl := tk_5 (i := 145) rfl
theorem wm_1219 : (Cond.code mX8_downTo.2.2.2.2 mX8_downTo.1 mX8_downTo.2.1 mX8_downTo.2.2.1) ∈ lw_tbl := tk_5 (i := 151) rfl
theorem wm_1223 : (Cond.code mX8_think.2.2.2.2 mX8_think.1 mX8_think.2.1 mX8_think.2.2.1) ∈ lw_tbl := tk_5 (i := 155) rfl
theorem wm_1227 : (Cond.code mX8_pass.2.2.2.2 mX8_pass.1 mX8_pass.2.1 mX8_pass.2.2.1) ∈ lw_tbl := tk_5 (i := 159) rfl
theorem wm_1231 : (Cond.code mX8_sendsBack.2.2.2.2 mX8_sendsBack.1 mX8_sendsBack.2.1 mX8_sendsBack.2.2.1) ∈ lw_tbl := tk_5 (i := 163) rfl
theorem wm_1235 : (Cond.code mX8_standing.2.2.2.2 mX8_standing.1 mX8_standing.2.1 mX8_standing.2.2.1) ∈ lw_tbl := tk_5 (i := 167) rfl
theorem wm_1239 : (Cond.code mX8_act.2.2.2.2 mX8_act.1 mX8_act.2.1 mX8_act.2.2.1) ∈ lw_tbl := tk_5 (i := 171) rfl
theorem wm_1243 : (Cond.code mX8_surest.2.2.2.2 mX8_surest.1 mX8_surest.2.1 mX8_surest.2.2.1) ∈ lw_tbl := tk_5 (i := 175) rfl
theorem wm_1246 : (Cond.code mX8_plainly.2.2.2.2 mX8_plainly.1 mX8_plainly.2.1 mX8_plainly.2.2.1) ∈ lw_tbl := tk_5 (i := 178) rfl
theorem wm_1250 : (Cond.code mX8_bench.2.2.2.2 mX8_bench.1 mX8_bench.2.1 mX8_bench.2.2.1) ∈ lw_tbl := tk_5 (i := 182) rfl
theorem wm_1253 : (Cond.code mX8_held.2.2.2.2 mX8_held.1 mX8_held.2.1 mX8_held.2.2.1) ∈ lw_tbl := tk_5 (i := 185) rfl
theorem wm_1257 : (Cond.code mX8_halve.2.2.2.2 mX8_halve.1 mX8_halve.2.1 mX8_halve.2.2.1) ∈ lw_tbl := tk_5 (i := 189) rfl
theorem wm_1261 : (Cond.code mX8_sumNow.2.2.2.2 mX8_sumNow.1 mX8_sumNow.2.1 mX8_sumNow.2.2.1) ∈ lw_tbl := tk_5 (i := 193) rfl
theorem wm_1265 : (Cond.code mX8_isFor.2.2.2.2 mX8_isFor.1 mX8_isFor.2.1 mX8_isFor.2.2.1) ∈ lw_tbl := tk_5 (i := 197) rfl
theorem wm_1269 : (Cond.code mX8_turns.2.2.2.2 mX8_turns.1 mX8_turns.2.1 mX8_turns.2.2.1) ∈ lw_tbl := tk_5 (i := 201) rfl
theorem wm_1273 : (Cond.code mX8_costs.2.2.2.2 mX8_costs.1 mX8_costs.2.1 mX8_costs.2.2.1) ∈ lw_tbl := tk_5 (i := 205) rfl
theorem wm_1277 : (Cond.code mX8_up.2.2.2.2 mX8_up.1 mX8_up.2.1 mX8_up.2.2.1) ∈ lw_tbl := tk_5 (i := 209) rfl
theorem wm_1281 : (Cond.code mX8_round.2.2.2.2 mX8_round.1 mX8_round.2.1 mX8_round.2.2.1) ∈ lw_tbl := tk_5 (i := 213) rfl
theorem wm_1285 : (Cond.code mX8_goRound.2.2.2.2 mX8_goRound.1 mX8_goRound.2.1 mX8_goRound.2.2.1) ∈ lw_tbl := tk_5 (i := 217) rfl
theorem wm_1289 : (Cond.code mX8_comesAgain.2.2.2.2 mX8_comesAgain.1 mX8_comesAgain.2.1 mX8_comesAgain.2.2.1) ∈ lw_tbl := tk_5 (i := 221) rfl
theorem wm_1293 : (Cond.code mX8_rounds.2.2.2.2 mX8_rounds.1 mX8_rounds.2.1 mX8_rounds.2.2.1) ∈ lw_tbl := tk_5 (i := 225) rfl
theorem wm_1297 : (Cond.code mX8_appeals.2.2.2.2 mX8_appeals.1 mX8_appeals.2.1 mX8_appeals.2.2.1) ∈ lw_tbl := tk_5 (i := 229) rfl
theorem wm_1302 : (Cond.code mX8_layAppeals.2.2.2.2 mX8_layAppeals.1 mX8_layAppeals.2.1 mX8_layAppeals.2.2.1) ∈ lw_tbl := tk_5 (i := 234) rfl
theorem wm_1306 : (Cond.code mX8_goneThrough.2.2.2.2 mX8_goneThrough.1 mX8_goneThrough.2.1 mX8_goneThrough.2.2.1) ∈ lw_tbl := tk_5 (i := 238) rfl
theorem wm_1310 : (Cond.code mX8_treaty.2.2.2.2 mX8_treaty.1 mX8_treaty.2.1 mX8_treaty.2.2.1) ∈ lw_tbl := tk_6 (i := 2) rfl
theorem wm_1313 : (Cond.code mX8_wrongBit.2.2.2.2 mX8_wrongBit.1 mX8_wrongBit.2.1 mX8_wrongBit.2.2.1) ∈ lw_tbl := tk_6 (i := 5) rfl
theorem wm_1317 : (Cond.code mX8_share.2.2.2.2 mX8_share.1 mX8_share.2.1 mX8_share.2.2.1) ∈ lw_tbl := tk_6 (i := 9) rfl
theorem wm_1321 : (Cond.code mX8_press.2.2.2.2 mX8_press.1 mX8_press.2.1 mX8_press.2.2.1) ∈ lw_tbl := tk_6 (i := 13) rfl
theorem wm_1325 : (Cond.code mX8_pressBits.2.2.2.2 mX8_pressBits.1 mX8_pressBits.2.1 mX8_pressBits.2.2.1) ∈ lw_tbl := tk_6 (i := 17) rfl
theorem wm_1328 : (Cond.code mX8_onesOf.2.2.2.2 mX8_onesOf.1 mX8_onesOf.2.1 mX8_onesOf.2.2.1) ∈ lw_tbl := tk_6 (i := 20) rfl
theorem wm_1331 : (Cond.code mX8_hasBit.2.2.2.2 mX8_hasBit.1 mX8_hasBit.2.1 mX8_hasBit.2.2.1) ∈ lw_tbl := tk_6 (i := 23) rfl
theorem wm_1335 : (Cond.code mX8_passAll.2.2.2.2 mX8_passAll.1 mX8_passAll.2.1 mX8_passAll.2.2.1) ∈ lw_tbl := tk_6 (i := 27) rfl
theorem wm_1339 : (Cond.code mX8_turnsBy.2.2.2.2 mX8_turnsBy.1 mX8_turnsBy.2.1 mX8_turnsBy.2.2.1) ∈ lw_tbl := tk_6 (i := 31) rfl
theorem wm_1343 : (Cond.code mX8_sumBehindAll.2.2.2.2 mX8_sumBehindAll.1 mX8_sumBehindAll.2.1 mX8_sumBehindAll.2.2.1) ∈ lw_tbl := tk_6 (i := 35) rfl
theorem wm_1347 : (Cond.code mX8_afterOne.2.2.2.2 mX8_afterOne.1 mX8_afterOne.2.1 mX8_afterOne.2.2.1) ∈ lw_tbl := tk_6 (i := 39) rfl
theorem wm_1351 : (Cond.code mX8_lastBy.2.2.2.2 mX8_lastBy.1 mX8_lastBy.2.1 mX8_lastBy.2.2.1) ∈ lw_tbl := tk_6 (i := 43) rfl
theorem wm_1355 : (Cond.code mX8_sumByChanges.2.2.2.2 mX8_sumByChanges.1 mX8_sumByChanges.2.1 mX8_sumByChanges.2.2.1) ∈ lw_tbl := tk_6 (i := 47) rfl
theorem wm_1359 : (Cond.code mX8_afterOneOfFour.2.2.2.2 mX8_afterOneOfFour.1 mX8_afterOneOfFour.2.1 mX8_afterOneOfFour.2.2.1) ∈ lw_tbl := tk_6 (i := 51) rfl
theorem wm_1363 : (Cond.code mX8_afterTwo.2.2.2.2 mX8_afterTwo.1 mX8_afterTwo.2.1 mX8_afterTwo.2.2.1) ∈ lw_tbl := tk_6 (i := 55) rfl
theorem wm_1367 : (Cond.code mX8_standsFast.2.2.2.2 mX8_standsFast.1 mX8_standsFast.2.1 mX8_standsFast.2.2.1) ∈ lw_tbl := tk_6 (i := 59) rfl
theorem wm_1371 : (Cond.code mX8_fastFrom.2.2.2.2 mX8_fastFrom.1 mX8_fastFrom.2.1 mX8_fastFrom.2.2.1) ∈ lw_tbl := tk_6 (i := 63) rfl
theorem wm_1375 : (Cond.code mX8_survive.2.2.2.2 mX8_survive.1 mX8_survive.2.1 mX8_survive.2.2.1) ∈ lw_tbl := tk_6 (i := 67) rfl
theorem wm_1379 : (Cond.code mX8_thinkThree.2.2.2.2 mX8_thinkThree.1 mX8_thinkThree.2.1 mX8_thinkThree.2.2.1) ∈ lw_tbl := tk_6 (i := 71) rfl
theorem wm_1383 : (Cond.code mX8_fits.2.2.2.2 mX8_fits.1 mX8_fits.2.1 mX8_fits.2.2.1) ∈ lw_tbl := tk_6 (i := 75) rfl
theorem wm_1387 : (Cond.code mX8_first.2.2.2.2 mX8_first.1 mX8_first.2.1 mX8_first.2.2.1) ∈ lw_tbl := tk_6 (i := 79) rfl
theorem wm_1391 : (Cond.code mX8_apart.2.2.2.2 mX8_apart.1 mX8_apart.2.1 mX8_apart.2.2.1) ∈ lw_tbl := tk_6 (i := 83) rfl
theorem wm_1395 : (Cond.code mX8_bedtime.2.2.2.2 mX8_bedtime.1 mX8_bedtime.2.1 mX8_bedtime.2.2.1) ∈ lw_tbl := tk_6 (i := 87) rfl
theorem wm_1399 : (Cond.code mX8_divisor.2.2.2.2 mX8_divisor.1 mX8_divisor.2.1 mX8_divisor.2.2.1) ∈ lw_tbl := tk_6 (i := 91) rfl
theorem wm_1403 : (Cond.code mX8_order.2.2.2.2 mX8_order.1 mX8_order.2.1 mX8_order.2.2.1) ∈ lw_tbl := tk_6 (i := 95) rfl
theorem wm_1407 : (Cond.code mX8_change.2.2.2.2 mX8_change.1 mX8_change.2.1 mX8_change.2.2.1) ∈ lw_tbl := tk_6 (i := 99) rfl
theorem wm_1411 : (Cond.code mX8_bestOrder.2.2.2.2 mX8_bestOrder.1 mX8_bestOrder.2.1 mX8_bestOrder.2.2.1) ∈ lw_tbl := tk_6 (i := 103) rfl
theorem wm_1415 : (Cond.code mX8_sumByOrder.2.2.2.2 mX8_sumByOrder.1 mX8_sumByOrder.2.1 mX8_sumByOrder.2.2.1) ∈ lw_tbl := tk_6 (i := 107) rfl
theorem wm_1419 : (Cond.code mX8_layOrder.2.2.2.2 mX8_layOrder.1 mX8_layOrder.2.1 mX8_layOrder.2.2.1) ∈ lw_tbl := tk_6 (i := 111) rfl
theorem wm_1422 : (Cond.code mX8_ordersOf.2.2.2.2 mX8_ordersOf.1 mX8_ordersOf.2.1 mX8_ordersOf.2.2.1) ∈ lw_tbl := tk_6 (i := 114) rfl
theorem wm_1426 : (Cond.code mX8_needed.2.2.2.2 mX8_needed.1 mX8_needed.2.1 mX8_needed.2.2.1) ∈ lw_tbl := tk_6 (i := 118) rfl
theorem wm_1430 : (Cond.code mX8_cheapest.2.2.2.2 mX8_cheapest.1 mX8_cheapest.2.1 mX8_cheapest.2.2.1) ∈ lw_tbl := tk_6 (i := 122) rfl
theorem wm_1434 : (Cond.code mX8_biggest.2.2.2.2 mX8_biggest.1 mX8_biggest.2.1 mX8_biggest.2.2.1) ∈ lw_tbl := tk_6 (i := 126) rfl
theorem wm_1438 : (Cond.code mX8_swing.2.2.2.2 mX8_swing.1 mX8_swing.2.1 mX8_swing.2.2.1) ∈ lw_tbl := tk_6 (i := 130) rfl
theorem wm_1442 : (Cond.code mX8_worst.2.2.2.2 mX8_worst.1 mX8_worst.2.1 mX8_worst.2.2.1) ∈ lw_tbl := tk_6 (i := 134) rfl
theorem wm_1446 : (Cond.code mX8_same.2.2.2.2 mX8_same.1 mX8_same.2.1 mX8_same.2.2.1) ∈ lw_tbl := tk_6 (i := 138) rfl
theorem wm_1450 : (Cond.code mX8_dead.2.2.2.2 mX8_dead.1 mX8_dead.2.1 mX8_dead.2.2.1) ∈ lw_tbl := tk_6 (i := 142) rfl
theorem wm_1454 : (Cond.code mX8_flip.2.2.2.2 mX8_flip.1 mX8_flip.2.1 mX8_flip.2.2.1) ∈ lw_tbl := tk_6 (i := 146) rfl
theorem wm_1458 : (Cond.code mX8_margin.2.2.2.2 mX8_margin.1 mX8_margin.2.1 mX8_margin.2.2.1) ∈ lw_tbl := tk_6 (i := 150) rfl
theorem wm_1462 : (Cond.code mX8_isOtherBy.2.2.2.2 mX8_isOtherBy.1 mX8_isOtherBy.2.1 mX8_isOtherBy.2.2.1) ∈ lw_tbl := tk_6 (i := 154) rfl
theorem wm_1467 : (Cond.code mX8_beats.2.2.2.2 mX8_beats.1 mX8_beats.2.1 mX8_beats.2.2.1) ∈ lw_tbl := tk_6 (i := 159) rfl
theorem wm_1471 : (Cond.code mX8_commute.2.2.2.2 mX8_commute.1 mX8_commute.2.1 mX8_commute.2.2.1) ∈ lw_tbl := tk_6 (i := 163) rfl
theorem wm_1475 : (Cond.code mX8_again.2.2.2.2 mX8_again.1 mX8_again.2.1 mX8_again.2.2.1) ∈ lw_tbl := tk_6 (i := 167) rfl
theorem wm_1479 : (Cond.code mX8_isAsAt.2.2.2.2 mX8_isAsAt.1 mX8_isAsAt.2.1 mX8_isAsAt.2.2.1) ∈ lw_tbl := tk_6 (i := 171) rfl
theorem wm_1483 : (Cond.code mX8_bestLowest.2.2.2.2 mX8_bestLowest.1 mX8_bestLowest.2.1 mX8_bestLowest.2.2.1) ∈ lw_tbl := tk_6 (i := 175) rfl
theorem wm_1487 : (Cond.code mX8_peak.2.2.2.2 mX8_peak.1 mX8_peak.2.1 mX8_peak.2.2.1) ∈ lw_tbl := tk_6 (i := 179) rfl
theorem wm_1491 : (Cond.code mX8_fullStake.2.2.2.2 mX8_fullStake.1 mX8_fullStake.2.1 mX8_fullStake.2.2.1) ∈ lw_tbl := tk_6 (i := 183) rfl
theorem wm_1495 : (Cond.code mX8_heard.2.2.2.2 mX8_heard.1 mX8_heard.2.1 mX8_heard.2.2.1) ∈ lw_tbl := tk_6 (i := 187) rfl
theorem wm_1499 : (Cond.code mX8_lastSay.2.2.2.2 mX8_lastSay.1 mX8_lastSay.2.1 mX8_lastSay.2.2.1) ∈ lw_tbl := tk_6 (i := 191) rfl
theorem wm_1503 : (Cond.code mX8_row.2.2.2.2 mX8_row.1 mX8_row.2.1 mX8_row.2.2.1) ∈ lw_tbl := tk_6 (i := 195) rfl
theorem wm_1507 : (Cond.code mX8_judge.2.2.2.2 mX8_judge.1 mX8_judge.2.1 mX8_judge.2.2.1) ∈ lw_tbl := tk_6 (i := 199) rfl
theorem wm_1511 : (Cond.code mX8_clear.2.2.2.2 mX8_clear.1 mX8_clear.2.1 mX8_clear.2.2.1) ∈ lw_tbl := tk_6 (i := 203) rfl
theorem wm_1515 : (Cond.code mX8_lots.2.2.2.2 mX8_lots.1 mX8_lots.2.1 mX8_lots.2.2.1) ∈ lw_tbl := tk_6 (i := 207) rfl
theorem wm_1522 : (Cond.code mX8_count.2.2.2.2 mX8_count.1 mX8_count.2.1 mX8_count.2.2.1) ∈ lw_tbl := tk_6 (i := 214) rfl
theorem wm_534 : (Cond.methodLink "AppealsDown$Changes" (25) yX0_forgetOldest) ∈ lw_tbl := tk_2 (i := 186) rfl
theorem wm_536 : (Cond.instanceMethod yX0_forgetOldest) ∈ lw_tbl := tk_2 (i := 188) rfl
theorem wm_21 : (Cond.selects yX0_forgetOldest.cls yX0_forgetOldest yX0_forgetOldest) ∈ lw_tbl := tkp_2 (i := 5) rfl
theorem wm_567 : (Cond.methodLinkNest "AppealsDown$Changes" (28) yX5_changePoint "AppealsDown") ∈ lw_tbl := tk_2 (i := 219) rfl
theorem wm_491 : (Cond.instanceMethod yX5_changePoint) ∈ lw_tbl := tk_2 (i := 143) rfl
theorem wm_13 : (Cond.selects yX5_changePoint.cls yX5_changePoint yX5_changePoint) ∈ lw_tbl := tkp_1 (i := 13) rfl
theorem wm_568 : (Cond.methodLinkNest "AppealsDown$Changes" (34) yX5_rename "AppealsDown") ∈ lw_tbl := tk_2 (i := 220) rfl
theorem wm_546 : (Cond.instanceMethod yX5_rename) ∈ lw_tbl := tk_2 (i := 198) rfl
theorem wm_22 : (Cond.selects yX5_rename.cls yX5_rename yX5_rename) ∈ lw_tbl := tkp_2 (i := 6) rfl
theorem wm_569 : (Cond.methodLinkNest "AppealsDown$Changes" (38) yX5_loseLowest "AppealsDown") ∈ lw_tbl := tk_2 (i := 221) rfl
theorem wm_504 : (Cond.instanceMethod yX5_loseLowest) ∈ lw_tbl := tk_2 (i := 156) rfl
theorem wm_16 : (Cond.selects yX5_loseLowest.cls yX5_loseLowest yX5_loseLowest) ∈ lw_tbl := tkp_2 (i := 0) rfl
theorem wm_664 : (Cond.methodLinkNest "AppealsDown$Going" (28) yX3_copyFrom "AppealsDown") ∈ lw_tbl := tk_3 (i := 76) rfl
theorem wm_446 : (Cond.instanceMethod yX3_copyFrom) ∈ lw_tbl := tk_2 (i := 98) rfl
theorem wm_5 : (Cond.selects yX3_copyFrom.cls yX3_copyFrom yX3_copyFrom) ∈ lw_tbl := tkp_1 (i := 5) rfl
theorem wm_665 : (Cond.methodLinkNest "AppealsDown$Going" (39) yX3_told "AppealsDown") ∈ lw_tbl := tk_3 (i := 77) rfl
theorem wm_667 : (Cond.instanceMethod yX3_told) ∈ lw_tbl := tk_3 (i := 79) rfl
theorem wm_41 : (Cond.selects yX3_told.cls yX3_told yX3_told) ∈ lw_tbl := tkp_3 (i := 9) rfl
theorem wm_671 : (Cond.methodLinkNest "AppealsDown$Going" (43) yX4_note "AppealsDown") ∈ lw_tbl := tk_3 (i := 83) rfl
theorem wm_673 : (Cond.instanceMethod yX4_note) ∈ lw_tbl := tk_3 (i := 85) rfl
theorem wm_42 : (Cond.selects yX4_note.cls yX4_note yX4_note) ∈ lw_tbl := tkp_3 (i := 10) rfl
theorem wm_675 : (Cond.methodLinkNest "AppealsDown$Going" (50) yX5_sendsBack "AppealsDown") ∈ lw_tbl := tk_3 (i := 87) rfl
theorem wm_654 : (Cond.instanceMethod yX5_sendsBack) ∈ lw_tbl := tk_3 (i := 66) rfl
theorem wm_39 : (Cond.selects yX5_sendsBack.cls yX5_sendsBack yX5_sendsBack) ∈ lw_tbl := tkp_3 (i := 7) rfl
theorem wm_676 : (Cond.methodLink "AppealsDown$Going" (54) yX1_comeToFirst) ∈ lw_tbl := tk_3 (i := 88) rfl
theorem wm_678 : (Cond.instanceMethod yX1_comeToFirst) ∈ lw_tbl := tk_3 (i := 90) rfl
theorem wm_43 : (Cond.selects yX1_comeToFirst.cls yX1_comeToFirst yX1_comeToFirst) ∈ lw_tbl := tkp_3 (i := 11) rfl
theorem wm_680 : (Cond.methodLinkNest "AppealsDown$Going" (69) yX4_find "AppealsDown") ∈ lw_tbl := tk_3 (i := 92) rfl
theorem wm_682 : (Cond.instanceMethod yX4_find) ∈ lw_tbl := tk_3 (i := 94) rfl
theorem wm_44 : (Cond.selects yX4_find.cls yX4_find yX4_find) ∈ lw_tbl := tkp_3 (i := 12) rfl
theorem wm_684 : (Cond.methodLinkNest "AppealsDown$Going" (65) yX3_suffer "AppealsDown") ∈ lw_tbl := tk_3 (i := 96) rfl
theorem wm_593 : (Cond.instanceMethod yX3_suffer) ∈ lw_tbl := tk_3 (i := 5) rfl
theorem wm_28 : (Cond.selects yX3_suffer.cls yX3_suffer yX3_suffer) ∈ lw_tbl := tkp_2 (i := 12) rfl
theorem wm_373 : (Cond.methodLink "AppealsDown$Letters" (37) yJ0_length_8abf5) ∈ lw_tbl := tk_2 (i := 25) rfl
theorem wm_374 : (Cond.instanceMethod yJ0_length_8abf5) ∈ lw_tbl := tk_2 (i := 26) rfl
theorem wm_375 : (Cond.selects "java/lang/String" yJ0_length_8abf5 yJ0_length_8abf5) ∈ lw_tbl := tk_2 (i := 27) rfl
theorem wm_383 : (Cond.methodLink "AppealsDown$Letters" (43) yX2_shape) ∈ lw_tbl := tk_2 (i := 35) rfl
theorem wm_384 : (Cond.static yX2_shape) ∈ lw_tbl := tk_2 (i := 36) rfl
theorem wm_392 : (Cond.methodLink "AppealsDown$Letters" (47) yJ0_isEmpty_aae02) ∈ lw_tbl := tk_2 (i := 44) rfl
theorem wm_393 : (Cond.instanceMethod yJ0_isEmpty_aae02) ∈ lw_tbl := tk_2 (i := 45) rfl
theorem wm_394 : (Cond.selects "java/lang/String" yJ0_isEmpty_aae02 yJ0_isEmpty_aae02) ∈ lw_tbl := tk_2 (i := 46) rfl
theorem wm_396 : (Cond.methodLink "AppealsDown$Letters" (51) yJ0_charAt_5068e) ∈ lw_tbl := tk_2 (i := 48) rfl
theorem wm_397 : (Cond.instanceMethod yJ0_charAt_5068e) ∈ lw_tbl := tk_2 (i := 49) rfl
theorem wm_398 : (Cond.selects "java/lang/String" yJ0_charAt_5068e yJ0_charAt_5068e) ∈ lw_tbl := tk_2 (i := 50) rfl
theorem wm_434 : (Cond.methodLink "AppealsDown$Letters" (55) yX2_suits) ∈ lw_tbl := tk_2 (i := 86) rfl
theorem wm_435 : (Cond.static yX2_suits) ∈ lw_tbl := tk_2 (i := 87) rfl
theorem wm_453 : (Cond.methodLink "AppealsDown$Letters" (19) yX2_sign) ∈ lw_tbl := tk_2 (i := 105) rfl
theorem wm_455 : (Cond.instanceMethod yX2_sign) ∈ lw_tbl := tk_2 (i := 107) rfl
theorem wm_7 : (Cond.selects yX2_sign.cls yX2_sign yX2_sign) ∈ lw_tbl := tkp_1 (i := 7) rfl
theorem wm_461 : (Cond.methodLink "AppealsDown$Letters" (59) yX2_digit) ∈ lw_tbl := tk_2 (i := 113) rfl
theorem wm_463 : (Cond.instanceMethod yX2_digit) ∈ lw_tbl := tk_2 (i := 115) rfl
theorem wm_9 : (Cond.selects yX2_digit.cls yX2_digit yX2_digit) ∈ lw_tbl := tkp_1 (i := 9) rfl
theorem wm_465 : (Cond.methodLinkNest "AppealsDown$Letters" (62) yX5_addLowest "AppealsDown") ∈ lw_tbl := tk_2 (i := 117) rfl
theorem wm_467 : (Cond.instanceMethod yX5_addLowest) ∈ lw_tbl := tk_2 (i := 119) rfl
theorem wm_10 : (Cond.selects yX5_addLowest.cls yX5_addLowest yX5_addLowest) ∈ lw_tbl := tkp_1 (i := 10) rfl
theorem wm_475 : (Cond.methodLinkNest "AppealsDown$Letters" (68) yX5_change "AppealsDown") ∈ lw_tbl := tk_2 (i := 127) rfl
theorem wm_477 : (Cond.instanceMethod yX5_change) ∈ lw_tbl := tk_2 (i := 129) rfl
theorem wm_11 : (Cond.selects yX5_change.cls yX5_change yX5_change) ∈ lw_tbl := tkp_1 (i := 11) rfl
theorem wm_489 : (Cond.methodLinkNest "AppealsDown$Letters" (71) yX5_changePoint "AppealsDown") ∈ lw_tbl := tk_2 (i := 141) rfl
theorem wm_502 : (Cond.methodLinkNest "AppealsDown$Letters" (74) yX5_loseLowest "AppealsDown") ∈ lw_tbl := tk_2 (i := 154) rfl
theorem wm_501 : (Cond.methodLink "AppealsDown$Points" (19) yX3_has) ∈ lw_tbl := tk_2 (i := 153) rfl
theorem wm_495 : (Cond.instanceMethod yX3_has) ∈ lw_tbl := tk_2 (i := 147) rfl
theorem wm_14 : (Cond.selects yX3_has.cls yX3_has yX3_has) ∈ lw_tbl := tkp_1 (i := 14) rfl
theorem wm_595 : (Cond.methodLink "AppealsDown$Points" (58) yX3_surest) ∈ lw_tbl := tk_3 (i := 7) rfl
theorem wm_597 : (Cond.instanceMethod yX3_surest) ∈ lw_tbl := tk_3 (i := 9) rfl
theorem wm_29 : (Cond.selects yX3_surest.cls yX3_surest yX3_surest) ∈ lw_tbl := tkp_2 (i := 13) rfl
theorem wm_599 : (Cond.methodLink "AppealsDown$Points" (61) yX3_halve) ∈ lw_tbl := tk_3 (i := 11) rfl
theorem wm_601 : (Cond.instanceMethod yX3_halve) ∈ lw_tbl := tk_3 (i := 13) rfl
theorem wm_30 : (Cond.selects yX3_halve.cls yX3_halve yX3_halve) ∈ lw_tbl := tkp_2 (i := 14) rfl
theorem wm_603 : (Cond.methodLink "AppealsDown$Points" (64) yX3_turn) ∈ lw_tbl := tk_3 (i := 15) rfl
theorem wm_605 : (Cond.instanceMethod yX3_turn) ∈ lw_tbl := tk_3 (i := 17) rfl
theorem wm_31 : (Cond.selects yX3_turn.cls yX3_turn yX3_turn) ∈ lw_tbl := tkp_2 (i := 15) rfl
theorem wm_607 : (Cond.methodLink "AppealsDown$Points" (67) yX3_lessenBehind) ∈ lw_tbl := tk_3 (i := 19) rfl
theorem wm_609 : (Cond.instanceMethod yX3_lessenBehind) ∈ lw_tbl := tk_3 (i := 21) rfl
theorem wm_32 : (Cond.selects yX3_lessenBehind.cls yX3_lessenBehind yX3_lessenBehind) ∈ lw_tbl := tkp_3 (i := 0) rfl
theorem wm_611 : (Cond.methodLink "AppealsDown$Points" (70) yX3_bringOver) ∈ lw_tbl := tk_3 (i := 23) rfl
theorem wm_613 : (Cond.instanceMethod yX3_bringOver) ∈ lw_tbl := tk_3 (i := 25) rfl
theorem wm_33 : (Cond.selects yX3_bringOver.cls yX3_bringOver yX3_bringOver) ∈ lw_tbl := tkp_3 (i := 1) rfl
theorem wm_615 : (Cond.methodLink "AppealsDown$Points" (73) yX3_bringOthersNearer) ∈ lw_tbl := tk_3 (i := 27) rfl
theorem wm_617 : (Cond.instanceMethod yX3_bringOthersNearer) ∈ lw_tbl := tk_3 (i := 29) rfl
theorem wm_34 : (Cond.selects yX3_bringOthersNearer.cls yX3_bringOthersNearer yX3_bringOthersNearer) ∈ lw_tbl := tkp_3 (i := 2) rfl
theorem wm_623 : (Cond.methodLink "AppealsDown$Points" (50) yX3_sum) ∈ lw_tbl := tk_3 (i := 35) rfl
theorem wm_625 : (Cond.instanceMethod yX3_sum) ∈ lw_tbl := tk_3 (i := 37) rfl
theorem wm_36 : (Cond.selects yX3_sum.cls yX3_sum yX3_sum) ∈ lw_tbl := tkp_3 (i := 4) rfl
theorem wm_732 : (Cond.methodLink "AppealsDown$Points" (32) yX3_number) ∈ lw_tbl := tk_3 (i := 144) rfl
theorem wm_528 : (Cond.instanceMethod yX3_number) ∈ lw_tbl := tk_2 (i := 180) rfl
theorem wm_19 : (Cond.selects yX3_number.cls yX3_number yX3_number) ∈ lw_tbl := tkp_2 (i := 3) rfl
theorem wm_733 : (Cond.methodLink "AppealsDown$Points" (36) yX3_put) ∈ lw_tbl := tk_3 (i := 145) rfl
theorem wm_499 : (Cond.instanceMethod yX3_put) ∈ lw_tbl := tk_2 (i := 151) rfl
theorem wm_15 : (Cond.selects yX3_put.cls yX3_put yX3_put) ∈ lw_tbl := tkp_1 (i := 15) rfl
theorem wm_750 : (Cond.methodLink "AppealsDown$Points" (46) yX3_resize) ∈ lw_tbl := tk_3 (i := 162) rfl
theorem wm_481 : (Cond.instanceMethod yX3_resize) ∈ lw_tbl := tk_2 (i := 133) rfl
theorem wm_12 : (Cond.selects yX3_resize.cls yX3_resize yX3_resize) ∈ lw_tbl := tkp_1 (i := 12) rfl
theorem wm_141 : (Cond.methodLinkNest "AppealsDown$Suit" (27) yX3_init "AppealsDown") ∈ lw_tbl := tk_1 (i := 33) rfl
theorem wm_142 : (Cond.instanceMethod yX3_init) ∈ lw_tbl := tk_1 (i := 34) rfl
theorem wm_444 : (Cond.methodLinkNest "AppealsDown$Suit" (44) yX3_copyFrom "AppealsDown") ∈ lw_tbl := tk_2 (i := 96) rfl
theorem wm_469 : (Cond.methodLinkNest "AppealsDown$Suit" (52) yX7_isKind "AppealsDown") ∈ lw_tbl := tk_2 (i := 121) rfl
theorem wm_470 : (Cond.static yX7_isKind) ∈ lw_tbl := tk_2 (i := 122) rfl
theorem wm_472 : (Cond.methodLinkNest "AppealsDown$Suit" (55) yX7_outside "AppealsDown") ∈ lw_tbl := tk_2 (i := 124) rfl
theorem wm_473 : (Cond.static yX7_outside) ∈ lw_tbl := tk_2 (i := 125) rfl
theorem wm_479 : (Cond.methodLinkNest "AppealsDown$Suit" (59) yX3_resize "AppealsDown") ∈ lw_tbl := tk_2 (i := 131) rfl
theorem wm_493 : (Cond.methodLinkNest "AppealsDown$Suit" (63) yX3_has "AppealsDown") ∈ lw_tbl := tk_2 (i := 145) rfl
theorem wm_497 : (Cond.methodLinkNest "AppealsDown$Suit" (66) yX3_put "AppealsDown") ∈ lw_tbl := tk_2 (i := 149) rfl
theorem wm_548 : (Cond.methodLink "AppealsDown$Suit" (48) yX5_hasCourt) ∈ lw_tbl := tk_2 (i := 200) rfl
theorem wm_513 : (Cond.instanceMethod yX5_hasCourt) ∈ lw_tbl := tk_2 (i := 165) rfl
theorem wm_17 : (Cond.selects yX5_hasCourt.cls yX5_hasCourt yX5_hasCourt) ∈ lw_tbl := tkp_2 (i := 1) rfl
theorem wm_583 : (Cond.methodLink "AppealsDown$Suit" (80) yX5_hearAs) ∈ lw_tbl := tk_2 (i := 235) rfl
theorem wm_585 : (Cond.instanceMethod yX5_hearAs) ∈ lw_tbl := tk_2 (i := 237) rfl
theorem wm_26 : (Cond.selects yX5_hearAs.cls yX5_hearAs yX5_hearAs) ∈ lw_tbl := tkp_2 (i := 10) rfl
theorem wm_587 : (Cond.methodLinkNest "AppealsDown$Suit" (76) yX3_notZero "AppealsDown") ∈ lw_tbl := tk_2 (i := 239) rfl
theorem wm_589 : (Cond.instanceMethod yX3_notZero) ∈ lw_tbl := tk_3 (i := 1) rfl
theorem wm_27 : (Cond.selects yX3_notZero.cls yX3_notZero yX3_notZero) ∈ lw_tbl := tkp_2 (i := 11) rfl
theorem wm_591 : (Cond.methodLinkNest "AppealsDown$Suit" (84) yX3_suffer "AppealsDown") ∈ lw_tbl := tk_3 (i := 3) rfl
theorem wm_693 : (Cond.methodLinkNest "AppealsDown$Weighing" (39) yX3_copyFrom "AppealsDown") ∈ lw_tbl := tk_3 (i := 105) rfl
theorem wm_694 : (Cond.methodLinkNest "AppealsDown$Weighing" (45) yX5_hear "AppealsDown") ∈ lw_tbl := tk_3 (i := 106) rfl
theorem wm_637 : (Cond.instanceMethod yX5_hear) ∈ lw_tbl := tk_3 (i := 49) rfl
theorem wm_37 : (Cond.selects yX5_hear.cls yX5_hear yX5_hear) ∈ lw_tbl := tkp_3 (i := 5) rfl
theorem wm_695 : (Cond.methodLinkNest "AppealsDown$Weighing" (49) yX3_isFor "AppealsDown") ∈ lw_tbl := tk_3 (i := 107) rfl
theorem wm_621 : (Cond.instanceMethod yX3_isFor) ∈ lw_tbl := tk_3 (i := 33) rfl
theorem wm_35 : (Cond.selects yX3_isFor.cls yX3_isFor yX3_isFor) ∈ lw_tbl := tkp_3 (i := 3) rfl
theorem wm_696 : (Cond.methodLink "AppealsDown$Weighing" (53) yX6_weighStep) ∈ lw_tbl := tk_3 (i := 108) rfl
theorem wm_698 : (Cond.instanceMethod yX6_weighStep) ∈ lw_tbl := tk_3 (i := 110) rfl
theorem wm_46 : (Cond.selects yX6_weighStep.cls yX6_weighStep yX6_weighStep) ∈ lw_tbl := tkp_3 (i := 14) rfl
theorem wm_135 : (Cond.methodLinkNest "AppealsDown" (9) yX5_init "AppealsDown") ∈ lw_tbl := tk_1 (i := 27) rfl
theorem wm_136 : (Cond.instanceMethod yX5_init) ∈ lw_tbl := tk_1 (i := 28) rfl
theorem wm_193 : (Cond.methodLinkNest "AppealsDown" (28) yX2_init "AppealsDown") ∈ lw_tbl := tk_1 (i := 85) rfl
theorem wm_194 : (Cond.instanceMethod yX2_init) ∈ lw_tbl := tk_1 (i := 86) rfl
theorem wm_207 : (Cond.methodLinkNest "AppealsDown" (35) yX0_init "AppealsDown") ∈ lw_tbl := tk_1 (i := 99) rfl
theorem wm_208 : (Cond.instanceMethod yX0_init) ∈ lw_tbl := tk_1 (i := 100) rfl
theorem wm_226 : (Cond.methodLinkNest "AppealsDown" (53) yX3_init "AppealsDown") ∈ lw_tbl := tk_1 (i := 118) rfl
theorem wm_229 : (Cond.methodLinkNest "AppealsDown" (66) yX6_init "AppealsDown") ∈ lw_tbl := tk_1 (i := 121) rfl
theorem wm_230 : (Cond.instanceMethod yX6_init) ∈ lw_tbl := tk_1 (i := 122) rfl
theorem wm_260 : (Cond.methodLinkNest "AppealsDown" (73) yX4_init "AppealsDown") ∈ lw_tbl := tk_1 (i := 152) rfl
theorem wm_261 : (Cond.instanceMethod yX4_init) ∈ lw_tbl := tk_1 (i := 153) rfl
theorem wm_279 : (Cond.methodLinkNest "AppealsDown" (80) yX1_init "AppealsDown") ∈ lw_tbl := tk_1 (i := 171) rfl
theorem wm_280 : (Cond.instanceMethod yX1_init) ∈ lw_tbl := tk_1 (i := 172) rfl
theorem wm_352 : (Cond.methodLink "AppealsDown" (91) yX7_refuse) ∈ lw_tbl := tk_2 (i := 4) rfl
theorem wm_354 : (Cond.instanceMethod yX7_refuse) ∈ lw_tbl := tk_2 (i := 6) rfl
theorem wm_0 : (Cond.selects yX7_refuse.cls yX7_refuse yX7_refuse) ∈ lw_tbl := tkp_1 (i := 0) rfl
theorem wm_356 : (Cond.methodLinkNest "AppealsDown" (98) yX2_take "AppealsDown") ∈ lw_tbl := tk_2 (i := 8) rfl
theorem wm_358 : (Cond.instanceMethod yX2_take) ∈ lw_tbl := tk_2 (i := 10) rfl
theorem wm_1 : (Cond.selects yX2_take.cls yX2_take yX2_take) ∈ lw_tbl := tkp_1 (i := 1) rfl
theorem wm_364 : (Cond.methodLink "AppealsDown" (101) yX7_tellLetters) ∈ lw_tbl := tk_2 (i := 16) rfl
theorem wm_366 : (Cond.instanceMethod yX7_tellLetters) ∈ lw_tbl := tk_2 (i := 18) rfl
theorem wm_2 : (Cond.selects yX7_tellLetters.cls yX7_tellLetters yX7_tellLetters) ∈ lw_tbl := tkp_1 (i := 2) rfl
theorem wm_368 : (Cond.methodLinkNest "AppealsDown" (349) yX2_firstBad "AppealsDown") ∈ lw_tbl := tk_2 (i := 20) rfl
theorem wm_370 : (Cond.instanceMethod yX2_firstBad) ∈ lw_tbl := tk_2 (i := 22) rfl
theorem wm_3 : (Cond.selects yX2_firstBad.cls yX2_firstBad yX2_firstBad) ∈ lw_tbl := tkp_1 (i := 3) rfl
theorem wm_437 : (Cond.methodLinkNest "AppealsDown" (341) yX5_copyFrom "AppealsDown") ∈ lw_tbl := tk_2 (i := 89) rfl
theorem wm_439 : (Cond.instanceMethod yX5_copyFrom) ∈ lw_tbl := tk_2 (i := 91) rfl
theorem wm_4 : (Cond.selects yX5_copyFrom.cls yX5_copyFrom yX5_copyFrom) ∈ lw_tbl := tkp_1 (i := 4) rfl
theorem wm_449 : (Cond.methodLinkNest "AppealsDown" (352) yX2_beginsAt "AppealsDown") ∈ lw_tbl := tk_2 (i := 101) rfl
theorem wm_451 : (Cond.instanceMethod yX2_beginsAt) ∈ lw_tbl := tk_2 (i := 103) rfl
theorem wm_6 : (Cond.selects yX2_beginsAt.cls yX2_beginsAt yX2_beginsAt) ∈ lw_tbl := tkp_1 (i := 6) rfl
theorem wm_457 : (Cond.methodLinkNest "AppealsDown" (355) yX2_tellOne "AppealsDown") ∈ lw_tbl := tk_2 (i := 109) rfl
theorem wm_459 : (Cond.instanceMethod yX2_tellOne) ∈ lw_tbl := tk_2 (i := 111) rfl
theorem wm_8 : (Cond.selects yX2_tellOne.cls yX2_tellOne yX2_tellOne) ∈ lw_tbl := tkp_1 (i := 8) rfl
theorem wm_511 : (Cond.methodLinkNest "AppealsDown" (105) yX5_hasCourt "AppealsDown") ∈ lw_tbl := tk_2 (i := 163) rfl
theorem wm_519 : (Cond.methodLinkNest "AppealsDown" (121) yX3_has "AppealsDown") ∈ lw_tbl := tk_2 (i := 171) rfl
theorem wm_520 : (Cond.methodLink "AppealsDown" (124) yX7_refuseHigh) ∈ lw_tbl := tk_2 (i := 172) rfl
theorem wm_522 : (Cond.instanceMethod yX7_refuseHigh) ∈ lw_tbl := tk_2 (i := 174) rfl
theorem wm_18 : (Cond.selects yX7_refuseHigh.cls yX7_refuseHigh yX7_refuseHigh) ∈ lw_tbl := tkp_2 (i := 2) rfl
theorem wm_525 : (Cond.methodLink "AppealsDown" (127) yX7_outside) ∈ lw_tbl := tk_2 (i := 177) rfl
theorem wm_526 : (Cond.methodLinkNest "AppealsDown" (131) yX3_number "AppealsDown") ∈ lw_tbl := tk_2 (i := 178) rfl
theorem wm_530 : (Cond.methodLinkNest "AppealsDown" (134) yX0_note "AppealsDown") ∈ lw_tbl := tk_2 (i := 182) rfl
theorem wm_532 : (Cond.instanceMethod yX0_note) ∈ lw_tbl := tk_2 (i := 184) rfl
theorem wm_20 : (Cond.selects yX0_note.cls yX0_note yX0_note) ∈ lw_tbl := tkp_2 (i := 4) rfl
theorem wm_538 : (Cond.methodLinkNest "AppealsDown" (138) yX3_put "AppealsDown") ∈ lw_tbl := tk_2 (i := 190) rfl
theorem wm_543 : (Cond.methodLink "AppealsDown" (142) yX7_isKind) ∈ lw_tbl := tk_2 (i := 195) rfl
theorem wm_544 : (Cond.methodLinkNest "AppealsDown" (145) yX5_rename "AppealsDown") ∈ lw_tbl := tk_2 (i := 196) rfl
theorem wm_553 : (Cond.methodLinkNest "AppealsDown" (148) yX5_addLowest "AppealsDown") ∈ lw_tbl := tk_2 (i := 205) rfl
theorem wm_558 : (Cond.methodLinkNest "AppealsDown" (162) yX5_change "AppealsDown") ∈ lw_tbl := tk_2 (i := 210) rfl
theorem wm_563 : (Cond.methodLinkNest "AppealsDown" (167) yX0_takeBack "AppealsDown") ∈ lw_tbl := tk_2 (i := 215) rfl
theorem wm_565 : (Cond.instanceMethod yX0_takeBack) ∈ lw_tbl := tk_2 (i := 217) rfl
theorem wm_23 : (Cond.selects yX0_takeBack.cls yX0_takeBack yX0_takeBack) ∈ lw_tbl := tkp_2 (i := 7) rfl
theorem wm_574 : (Cond.methodLink "AppealsDown" (171) yX7_goDownTo) ∈ lw_tbl := tk_2 (i := 226) rfl
theorem wm_576 : (Cond.instanceMethod yX7_goDownTo) ∈ lw_tbl := tk_2 (i := 228) rfl
theorem wm_24 : (Cond.selects yX7_goDownTo.cls yX7_goDownTo yX7_goDownTo) ∈ lw_tbl := tkp_2 (i := 8) rfl
theorem wm_578 : (Cond.methodLinkNest "AppealsDown" (236) yX3_copyFrom "AppealsDown") ∈ lw_tbl := tk_2 (i := 230) rfl
theorem wm_579 : (Cond.methodLinkNest "AppealsDown" (269) yX5_goDown "AppealsDown") ∈ lw_tbl := tk_2 (i := 231) rfl
theorem wm_581 : (Cond.instanceMethod yX5_goDown) ∈ lw_tbl := tk_2 (i := 233) rfl
theorem wm_25 : (Cond.selects yX5_goDown.cls yX5_goDown yX5_goDown) ∈ lw_tbl := tkp_2 (i := 9) rfl
theorem wm_619 : (Cond.methodLinkNest "AppealsDown" (175) yX3_isFor "AppealsDown") ∈ lw_tbl := tk_3 (i := 31) rfl
theorem wm_627 : (Cond.methodLink "AppealsDown" (179) yX7_bit) ∈ lw_tbl := tk_3 (i := 39) rfl
theorem wm_628 : (Cond.static yX7_bit) ∈ lw_tbl := tk_3 (i := 40) rfl
theorem wm_630 : (Cond.methodLinkNest "AppealsDown" (183) yX3_sum "AppealsDown") ∈ lw_tbl := tk_3 (i := 42) rfl
theorem wm_635 : (Cond.methodLinkNest "AppealsDown" (186) yX5_hear "AppealsDown") ∈ lw_tbl := tk_3 (i := 47) rfl
theorem wm_643 : (Cond.methodLinkNest "AppealsDown" (190) yX5_costsBetween "AppealsDown") ∈ lw_tbl := tk_3 (i := 55) rfl
theorem wm_645 : (Cond.instanceMethod yX5_costsBetween) ∈ lw_tbl := tk_3 (i := 57) rfl
theorem wm_38 : (Cond.selects yX5_costsBetween.cls yX5_costsBetween yX5_costsBetween) ∈ lw_tbl := tkp_3 (i := 6) rfl
theorem wm_652 : (Cond.methodLinkNest "AppealsDown" (194) yX5_sendsBack "AppealsDown") ∈ lw_tbl := tk_3 (i := 64) rfl
theorem wm_660 : (Cond.methodLinkNest "AppealsDown" (198) yX1_go "AppealsDown") ∈ lw_tbl := tk_3 (i := 72) rfl
theorem wm_662 : (Cond.instanceMethod yX1_go) ∈ lw_tbl := tk_3 (i := 74) rfl
theorem wm_40 : (Cond.selects yX1_go.cls yX1_go yX1_go) ∈ lw_tbl := tkp_3 (i := 8) rfl
theorem wm_689 : (Cond.methodLinkNest "AppealsDown" (211) yX6_weigh "AppealsDown") ∈ lw_tbl := tk_3 (i := 101) rfl
theorem wm_691 : (Cond.instanceMethod yX6_weigh) ∈ lw_tbl := tk_3 (i := 103) rfl
theorem wm_45 : (Cond.selects yX6_weigh.cls yX6_weigh yX6_weigh) ∈ lw_tbl := tkp_3 (i := 13) rfl
theorem wm_700 : (Cond.methodLinkNest "AppealsDown" (215) yX6_through "AppealsDown") ∈ lw_tbl := tk_3 (i := 112) rfl
theorem wm_702 : (Cond.instanceMethod yX6_through) ∈ lw_tbl := tk_3 (i := 114) rfl
theorem wm_47 : (Cond.selects yX6_through.cls yX6_through yX6_through) ∈ lw_tbl := tkp_3 (i := 15) rfl
theorem wm_708 : (Cond.methodLink "AppealsDown" (228) yX7_fewestPressed) ∈ lw_tbl := tk_3 (i := 120) rfl
theorem wm_710 : (Cond.instanceMethod yX7_fewestPressed) ∈ lw_tbl := tk_3 (i := 122) rfl
theorem wm_48 : (Cond.selects yX7_fewestPressed.cls yX7_fewestPressed yX7_fewestPressed) ∈ lw_tbl := tkp_4 (i := 0) rfl
theorem wm_712 : (Cond.methodLink "AppealsDown" (231) yJ6_bitCount_0f7a4) ∈ lw_tbl := tk_3 (i := 124) rfl
theorem wm_713 : (Cond.static yJ6_bitCount_0f7a4) ∈ lw_tbl := tk_3 (i := 125) rfl
theorem wm_723 : (Cond.methodLink "AppealsDown" (242) yX7_playOn) ∈ lw_tbl := tk_3 (i := 135) rfl
theorem wm_724 : (Cond.static yX7_playOn) ∈ lw_tbl := tk_3 (i := 136) rfl
theorem wm_728 : (Cond.methodLinkNest "AppealsDown" (246) yX3_move "AppealsDown") ∈ lw_tbl := tk_3 (i := 140) rfl
theorem wm_730 : (Cond.instanceMethod yX3_move) ∈ lw_tbl := tk_3 (i := 142) rfl
theorem wm_49 : (Cond.selects yX3_move.cls yX3_move yX3_move) ∈ lw_tbl := tkp_4 (i := 1) rfl
theorem wm_738 : (Cond.methodLink "AppealsDown" (249) yX7_fastCourts) ∈ lw_tbl := tk_3 (i := 150) rfl
theorem wm_740 : (Cond.instanceMethod yX7_fastCourts) ∈ lw_tbl := tk_3 (i := 152) rfl
theorem wm_50 : (Cond.selects yX7_fastCourts.cls yX7_fastCourts yX7_fastCourts) ∈ lw_tbl := tkp_4 (i := 2) rfl
theorem wm_746 : (Cond.methodLinkNest "AppealsDown" (252) yX3_beThree "AppealsDown") ∈ lw_tbl := tk_3 (i := 158) rfl
theorem wm_748 : (Cond.instanceMethod yX3_beThree) ∈ lw_tbl := tk_3 (i := 160) rfl
theorem wm_51 : (Cond.selects yX3_beThree.cls yX3_beThree yX3_beThree) ∈ lw_tbl := tkp_4 (i := 3) rfl
theorem wm_755 : (Cond.methodLink "AppealsDown" (255) yX7_tellsNumbers) ∈ lw_tbl := tk_3 (i := 167) rfl
theorem wm_757 : (Cond.instanceMethod yX7_tellsNumbers) ∈ lw_tbl := tk_3 (i := 169) rfl
theorem wm_52 : (Cond.selects yX7_tellsNumbers.cls yX7_tellsNumbers yX7_tellsNumbers) ∈ lw_tbl := tkp_4 (i := 4) rfl
theorem wm_759 : (Cond.methodLink "AppealsDown" (258) yX7_readTold) ∈ lw_tbl := tk_3 (i := 171) rfl
theorem wm_761 : (Cond.instanceMethod yX7_readTold) ∈ lw_tbl := tk_3 (i := 173) rfl
theorem wm_53 : (Cond.selects yX7_readTold.cls yX7_readTold yX7_readTold) ∈ lw_tbl := tkp_4 (i := 5) rfl
theorem wm_763 : (Cond.methodLinkNest "AppealsDown" (262) yX3_suffer "AppealsDown") ∈ lw_tbl := tk_3 (i := 175) rfl
theorem wm_764 : (Cond.methodLinkNest "AppealsDown" (265) yX3_isAs "AppealsDown") ∈ lw_tbl := tk_3 (i := 176) rfl
theorem wm_766 : (Cond.instanceMethod yX3_isAs) ∈ lw_tbl := tk_3 (i := 178) rfl
theorem wm_54 : (Cond.selects yX3_isAs.cls yX3_isAs yX3_isAs) ∈ lw_tbl := tkp_4 (i := 6) rfl
theorem wm_788 : (Cond.methodLink "AppealsDown" (279) yX7_refuseLong) ∈ lw_tbl := tk_3 (i := 200) rfl
theorem wm_790 : (Cond.instanceMethod yX7_refuseLong) ∈ lw_tbl := tk_3 (i := 202) rfl
theorem wm_55 : (Cond.selects yX7_refuseLong.cls yX7_refuseLong yX7_refuseLong) ∈ lw_tbl := tkp_4 (i := 7) rfl
theorem wm_793 : (Cond.methodLink "AppealsDown" (283) yX7_goDownAsleep) ∈ lw_tbl := tk_3 (i := 205) rfl
theorem wm_795 : (Cond.instanceMethod yX7_goDownAsleep) ∈ lw_tbl := tk_3 (i := 207) rfl
theorem wm_56 : (Cond.selects yX7_goDownAsleep.cls yX7_goDownAsleep yX7_goDownAsleep) ∈ lw_tbl := tkp_4 (i := 8) rfl
theorem wm_797 : (Cond.methodLink "AppealsDown" (286) yX7_power) ∈ lw_tbl := tk_3 (i := 209) rfl
theorem wm_798 : (Cond.static yX7_power) ∈ lw_tbl := tk_3 (i := 210) rfl
theorem wm_800 : (Cond.methodLink "AppealsDown" (290) yX7_commonDivisor) ∈ lw_tbl := tk_3 (i := 212) rfl
theorem wm_801 : (Cond.static yX7_commonDivisor) ∈ lw_tbl := tk_3 (i := 213) rfl
theorem wm_807 : (Cond.methodLink "AppealsDown" (294) yX7_goDownSwapped) ∈ lw_tbl := tk_3 (i := 219) rfl
theorem wm_809 : (Cond.instanceMethod yX7_goDownSwapped) ∈ lw_tbl := tk_3 (i := 221) rfl
theorem wm_57 : (Cond.selects yX7_goDownSwapped.cls yX7_goDownSwapped yX7_goDownSwapped) ∈ lw_tbl := tkp_4 (i := 9) rfl
theorem wm_815 : (Cond.methodLink "AppealsDown" (297) yX7_findBestOrder) ∈ lw_tbl := tk_3 (i := 227) rfl
theorem wm_817 : (Cond.instanceMethod yX7_findBestOrder) ∈ lw_tbl := tk_3 (i := 229) rfl
theorem wm_58 : (Cond.selects yX7_findBestOrder.cls yX7_findBestOrder yX7_findBestOrder) ∈ lw_tbl := tkp_4 (i := 10) rfl
theorem wm_820 : (Cond.methodLink "AppealsDown" (371) yX7_toNextOrder) ∈ lw_tbl := tk_3 (i := 232) rfl
theorem wm_822 : (Cond.instanceMethod yX7_toNextOrder) ∈ lw_tbl := tk_3 (i := 234) rfl
theorem wm_59 : (Cond.selects yX7_toNextOrder.cls yX7_toNextOrder yX7_toNextOrder) ∈ lw_tbl := tkp_4 (i := 11) rfl
theorem wm_824 : (Cond.methodLink "AppealsDown" (374) yX7_swapPlaces) ∈ lw_tbl := tk_3 (i := 236) rfl
theorem wm_826 : (Cond.instanceMethod yX7_swapPlaces) ∈ lw_tbl := tk_3 (i := 238) rfl
theorem wm_60 : (Cond.selects yX7_swapPlaces.cls yX7_swapPlaces yX7_swapPlaces) ∈ lw_tbl := tkp_4 (i := 12) rfl
theorem wm_836 : (Cond.methodLink "AppealsDown" (300) yX7_isForBehindAll) ∈ lw_tbl := tk_4 (i := 8) rfl
theorem wm_838 : (Cond.instanceMethod yX7_isForBehindAll) ∈ lw_tbl := tk_4 (i := 10) rfl
theorem wm_61 : (Cond.selects yX7_isForBehindAll.cls yX7_isForBehindAll yX7_isForBehindAll) ∈ lw_tbl := tkp_4 (i := 13) rfl
theorem wm_859 : (Cond.methodLink "AppealsDown" (308) yX7_goDownWith) ∈ lw_tbl := tk_4 (i := 31) rfl
theorem wm_861 : (Cond.instanceMethod yX7_goDownWith) ∈ lw_tbl := tk_4 (i := 33) rfl
theorem wm_62 : (Cond.selects yX7_goDownWith.cls yX7_goDownWith yX7_goDownWith) ∈ lw_tbl := tkp_4 (i := 14) rfl
theorem wm_863 : (Cond.methodLinkNest "AppealsDown" (331) yX5_hearAs "AppealsDown") ∈ lw_tbl := tk_4 (i := 35) rfl
theorem wm_872 : (Cond.methodLink "AppealsDown" (311) yX7_changesAny) ∈ lw_tbl := tk_4 (i := 44) rfl
theorem wm_874 : (Cond.instanceMethod yX7_changesAny) ∈ lw_tbl := tk_4 (i := 46) rfl
theorem wm_63 : (Cond.selects yX7_changesAny.cls yX7_changesAny yX7_changesAny) ∈ lw_tbl := tkp_4 (i := 15) rfl
theorem wm_880 : (Cond.methodLink "AppealsDown" (314) yX7_fewestAsleep) ∈ lw_tbl := tk_4 (i := 52) rfl
theorem wm_882 : (Cond.instanceMethod yX7_fewestAsleep) ∈ lw_tbl := tk_4 (i := 54) rfl
theorem wm_64 : (Cond.selects yX7_fewestAsleep.cls yX7_fewestAsleep yX7_fewestAsleep) ∈ lw_tbl := tkp_5 (i := 0) rfl
theorem wm_888 : (Cond.methodLink "AppealsDown" (317) yX7_stepAway) ∈ lw_tbl := tk_4 (i := 60) rfl
theorem wm_890 : (Cond.instanceMethod yX7_stepAway) ∈ lw_tbl := tk_4 (i := 62) rfl
theorem wm_65 : (Cond.selects yX7_stepAway.cls yX7_stepAway yX7_stepAway) ∈ lw_tbl := tkp_5 (i := 1) rfl
theorem wm_904 : (Cond.methodLinkNest "AppealsDown" (321) yX3_told "AppealsDown") ∈ lw_tbl := tk_4 (i := 76) rfl
theorem wm_905 : (Cond.methodLinkNest "AppealsDown" (324) yX4_note "AppealsDown") ∈ lw_tbl := tk_4 (i := 77) rfl
theorem wm_906 : (Cond.methodLinkNest "AppealsDown" (327) yX4_find "AppealsDown") ∈ lw_tbl := tk_4 (i := 78) rfl
theorem wm_935 : (Cond.methodLink "AppealsDown" (335) yX7_firstNotSo) ∈ lw_tbl := tk_4 (i := 107) rfl
theorem wm_937 : (Cond.instanceMethod yX7_firstNotSo) ∈ lw_tbl := tk_4 (i := 109) rfl
theorem wm_66 : (Cond.selects yX7_firstNotSo.cls yX7_firstNotSo yX7_firstNotSo) ∈ lw_tbl := tkp_5 (i := 2) rfl
theorem wm_962 : (Cond.methodLinkNest "AppealsDown" (344) yX3_notZero "AppealsDown") ∈ lw_tbl := tk_4 (i := 134) rfl
theorem wm_1115 : (Cond.methodLink "AppealsDownModel" (164) yX8_refuse) ∈ lw_tbl := tk_5 (i := 47) rfl
theorem wm_1117 : (Cond.instanceMethod yX8_refuse) ∈ lw_tbl := tk_5 (i := 49) rfl
theorem wm_67 : (Cond.selects yX8_refuse.cls yX8_refuse yX8_refuse) ∈ lw_tbl := tkp_5 (i := 3) rfl
theorem wm_1123 : (Cond.methodLink "AppealsDownModel" (202) yX8_readStatement) ∈ lw_tbl := tk_5 (i := 55) rfl
theorem wm_1125 : (Cond.instanceMethod yX8_readStatement) ∈ lw_tbl := tk_5 (i := 57) rfl
theorem wm_68 : (Cond.selects yX8_readStatement.cls yX8_readStatement yX8_readStatement) ∈ lw_tbl := tkp_5 (i := 4) rfl
theorem wm_1127 : (Cond.methodLink "AppealsDownModel" (177) yX8_here) ∈ lw_tbl := tk_5 (i := 59) rfl
theorem wm_1129 : (Cond.instanceMethod yX8_here) ∈ lw_tbl := tk_5 (i := 61) rfl
theorem wm_69 : (Cond.selects yX8_here.cls yX8_here yX8_here) ∈ lw_tbl := tkp_5 (i := 5) rfl
theorem wm_1131 : (Cond.methodLink "AppealsDownModel" (187) yX8_isLetter) ∈ lw_tbl := tk_5 (i := 63) rfl
theorem wm_1132 : (Cond.static yX8_isLetter) ∈ lw_tbl := tk_5 (i := 64) rfl
theorem wm_1134 : (Cond.methodLink "AppealsDownModel" (190) yX8_readDigits) ∈ lw_tbl := tk_5 (i := 66) rfl
theorem wm_1136 : (Cond.instanceMethod yX8_readDigits) ∈ lw_tbl := tk_5 (i := 68) rfl
theorem wm_70 : (Cond.selects yX8_readDigits.cls yX8_readDigits yX8_readDigits) ∈ lw_tbl := tkp_5 (i := 6) rfl
theorem wm_1140 : (Cond.methodLink "AppealsDownModel" (111) yX8_in) ∈ lw_tbl := tk_5 (i := 72) rfl
theorem wm_1141 : (Cond.static yX8_in) ∈ lw_tbl := tk_5 (i := 73) rfl
theorem wm_1143 : (Cond.methodLink "AppealsDownModel" (205) yX8_carryAll) ∈ lw_tbl := tk_5 (i := 75) rfl
theorem wm_1145 : (Cond.instanceMethod yX8_carryAll) ∈ lw_tbl := tk_5 (i := 77) rfl
theorem wm_71 : (Cond.selects yX8_carryAll.cls yX8_carryAll yX8_carryAll) ∈ lw_tbl := tkp_5 (i := 7) rfl
theorem wm_1147 : (Cond.methodLink "AppealsDownModel" (224) yX8_carry) ∈ lw_tbl := tk_5 (i := 79) rfl
theorem wm_1149 : (Cond.instanceMethod yX8_carry) ∈ lw_tbl := tk_5 (i := 81) rfl
theorem wm_72 : (Cond.selects yX8_carry.cls yX8_carry yX8_carry) ∈ lw_tbl := tkp_5 (i := 8) rfl
theorem wm_1151 : (Cond.methodLink "AppealsDownModel" (209) yX8_comes) ∈ lw_tbl := tk_5 (i := 83) rfl
theorem wm_1153 : (Cond.instanceMethod yX8_comes) ∈ lw_tbl := tk_5 (i := 85) rfl
theorem wm_73 : (Cond.selects yX8_comes.cls yX8_comes yX8_comes) ∈ lw_tbl := tkp_5 (i := 9) rfl
theorem wm_1155 : (Cond.methodLink "AppealsDownModel" (193) yX8_courtComes) ∈ lw_tbl := tk_5 (i := 87) rfl
theorem wm_1157 : (Cond.instanceMethod yX8_courtComes) ∈ lw_tbl := tk_5 (i := 89) rfl
theorem wm_74 : (Cond.selects yX8_courtComes.cls yX8_courtComes yX8_courtComes) ∈ lw_tbl := tkp_5 (i := 10) rfl
theorem wm_1160 : (Cond.methodLink "AppealsDownModel" (199) yX8_setMany) ∈ lw_tbl := tk_5 (i := 92) rfl
theorem wm_1162 : (Cond.instanceMethod yX8_setMany) ∈ lw_tbl := tk_5 (i := 94) rfl
theorem wm_75 : (Cond.selects yX8_setMany.cls yX8_setMany yX8_setMany) ∈ lw_tbl := tkp_5 (i := 11) rfl
theorem wm_1180 : (Cond.methodLink "AppealsDownModel" (230) yX8_isCourt) ∈ lw_tbl := tk_5 (i := 112) rfl
theorem wm_1182 : (Cond.instanceMethod yX8_isCourt) ∈ lw_tbl := tk_5 (i := 114) rfl
theorem wm_76 : (Cond.selects yX8_isCourt.cls yX8_isCourt yX8_isCourt) ∈ lw_tbl := tkp_5 (i := 12) rfl
theorem wm_1189 : (Cond.methodLink "AppealsDownModel" (235) yX8_wrongNumber) ∈ lw_tbl := tk_5 (i := 121) rfl
theorem wm_1190 : (Cond.static yX8_wrongNumber) ∈ lw_tbl := tk_5 (i := 122) rfl
theorem wm_1193 : (Cond.methodLink "AppealsDownModel" (240) yX8_keepTurn) ∈ lw_tbl := tk_5 (i := 125) rfl
theorem wm_1195 : (Cond.instanceMethod yX8_keepTurn) ∈ lw_tbl := tk_5 (i := 127) rfl
theorem wm_77 : (Cond.selects yX8_keepTurn.cls yX8_keepTurn yX8_keepTurn) ∈ lw_tbl := tkp_5 (i := 13) rfl
theorem wm_1216 : (Cond.methodLink "AppealsDownModel" (249) yX8_downTo) ∈ lw_tbl := tk_5 (i := 148) rfl
theorem wm_1218 : (Cond.instanceMethod yX8_downTo) ∈ lw_tbl := tk_5 (i := 150) rfl
theorem wm_78 : (Cond.selects yX8_downTo.cls yX8_downTo yX8_downTo) ∈ lw_tbl := tkp_5 (i := 14) rfl
theorem wm_1220 : (Cond.methodLink "AppealsDownModel" (158) yX8_think) ∈ lw_tbl := tk_5 (i := 152) rfl
theorem wm_1222 : (Cond.instanceMethod yX8_think) ∈ lw_tbl := tk_5 (i := 154) rfl
theorem wm_79 : (Cond.selects yX8_think.cls yX8_think yX8_think) ∈ lw_tbl := tkp_5 (i := 15) rfl
theorem wm_1224 : (Cond.methodLink "AppealsDownModel" (154) yX8_pass) ∈ lw_tbl := tk_5 (i := 156) rfl
theorem wm_1226 : (Cond.instanceMethod yX8_pass) ∈ lw_tbl := tk_5 (i := 158) rfl
theorem wm_80 : (Cond.selects yX8_pass.cls yX8_pass yX8_pass) ∈ lw_tbl := tkp_6 (i := 0) rfl
theorem wm_1228 : (Cond.methodLink "AppealsDownModel" (142) yX8_sendsBack) ∈ lw_tbl := tk_5 (i := 160) rfl
theorem wm_1230 : (Cond.instanceMethod yX8_sendsBack) ∈ lw_tbl := tk_5 (i := 162) rfl
theorem wm_81 : (Cond.selects yX8_sendsBack.cls yX8_sendsBack yX8_sendsBack) ∈ lw_tbl := tkp_6 (i := 1) rfl
theorem wm_1232 : (Cond.methodLink "AppealsDownModel" (139) yX8_standing) ∈ lw_tbl := tk_5 (i := 164) rfl
theorem wm_1234 : (Cond.instanceMethod yX8_standing) ∈ lw_tbl := tk_5 (i := 166) rfl
theorem wm_82 : (Cond.selects yX8_standing.cls yX8_standing yX8_standing) ∈ lw_tbl := tkp_6 (i := 2) rfl
theorem wm_1236 : (Cond.methodLink "AppealsDownModel" (146) yX8_act) ∈ lw_tbl := tk_5 (i := 168) rfl
theorem wm_1238 : (Cond.instanceMethod yX8_act) ∈ lw_tbl := tk_5 (i := 170) rfl
theorem wm_83 : (Cond.selects yX8_act.cls yX8_act yX8_act) ∈ lw_tbl := tkp_6 (i := 3) rfl
theorem wm_1240 : (Cond.methodLink "AppealsDownModel" (126) yX8_surest) ∈ lw_tbl := tk_5 (i := 172) rfl
theorem wm_1242 : (Cond.instanceMethod yX8_surest) ∈ lw_tbl := tk_5 (i := 174) rfl
theorem wm_84 : (Cond.selects yX8_surest.cls yX8_surest yX8_surest) ∈ lw_tbl := tkp_6 (i := 4) rfl
theorem wm_1244 : (Cond.methodLink "AppealsDownModel" (122) yX8_plainly) ∈ lw_tbl := tk_5 (i := 176) rfl
theorem wm_1245 : (Cond.static yX8_plainly) ∈ lw_tbl := tk_5 (i := 177) rfl
theorem wm_1247 : (Cond.methodLink "AppealsDownModel" (132) yX8_bench) ∈ lw_tbl := tk_5 (i := 179) rfl
theorem wm_1249 : (Cond.instanceMethod yX8_bench) ∈ lw_tbl := tk_5 (i := 181) rfl
theorem wm_85 : (Cond.selects yX8_bench.cls yX8_bench yX8_bench) ∈ lw_tbl := tkp_6 (i := 5) rfl
theorem wm_1251 : (Cond.methodLink "AppealsDownModel" (129) yX8_held) ∈ lw_tbl := tk_5 (i := 183) rfl
theorem wm_1252 : (Cond.static yX8_held) ∈ lw_tbl := tk_5 (i := 184) rfl
theorem wm_1254 : (Cond.methodLink "AppealsDownModel" (136) yX8_halve) ∈ lw_tbl := tk_5 (i := 186) rfl
theorem wm_1256 : (Cond.instanceMethod yX8_halve) ∈ lw_tbl := tk_5 (i := 188) rfl
theorem wm_86 : (Cond.selects yX8_halve.cls yX8_halve yX8_halve) ∈ lw_tbl := tkp_6 (i := 6) rfl
theorem wm_1258 : (Cond.methodLink "AppealsDownModel" (118) yX8_sumNow) ∈ lw_tbl := tk_5 (i := 190) rfl
theorem wm_1260 : (Cond.instanceMethod yX8_sumNow) ∈ lw_tbl := tk_5 (i := 192) rfl
theorem wm_87 : (Cond.selects yX8_sumNow.cls yX8_sumNow yX8_sumNow) ∈ lw_tbl := tkp_6 (i := 7) rfl
theorem wm_1262 : (Cond.methodLink "AppealsDownModel" (252) yX8_isFor) ∈ lw_tbl := tk_5 (i := 194) rfl
theorem wm_1264 : (Cond.instanceMethod yX8_isFor) ∈ lw_tbl := tk_5 (i := 196) rfl
theorem wm_88 : (Cond.selects yX8_isFor.cls yX8_isFor yX8_isFor) ∈ lw_tbl := tkp_6 (i := 8) rfl
theorem wm_1282 : (Cond.methodLink "AppealsDownModel" (268) yX8_goRound) ∈ lw_tbl := tk_5 (i := 214) rfl
theorem wm_1284 : (Cond.instanceMethod yX8_goRound) ∈ lw_tbl := tk_5 (i := 216) rfl
theorem wm_89 : (Cond.selects yX8_goRound.cls yX8_goRound yX8_goRound) ∈ lw_tbl := tkp_6 (i := 9) rfl
theorem wm_1286 : (Cond.methodLink "AppealsDownModel" (262) yX8_comesAgain) ∈ lw_tbl := tk_5 (i := 218) rfl
theorem wm_1288 : (Cond.instanceMethod yX8_comesAgain) ∈ lw_tbl := tk_5 (i := 220) rfl
theorem wm_90 : (Cond.selects yX8_comesAgain.cls yX8_comesAgain yX8_comesAgain) ∈ lw_tbl := tkp_6 (i := 10) rfl
theorem wm_1299 : (Cond.methodLink "AppealsDownModel" (273) yX8_layAppeals) ∈ lw_tbl := tk_5 (i := 231) rfl
theorem wm_1301 : (Cond.instanceMethod yX8_layAppeals) ∈ lw_tbl := tk_5 (i := 233) rfl
theorem wm_91 : (Cond.selects yX8_layAppeals.cls yX8_layAppeals yX8_layAppeals) ∈ lw_tbl := tkp_6 (i := 11) rfl
theorem wm_1303 : (Cond.methodLink "AppealsDownModel" (276) yX8_goneThrough) ∈ lw_tbl := tk_5 (i := 235) rfl
theorem wm_1305 : (Cond.instanceMethod yX8_goneThrough) ∈ lw_tbl := tk_5 (i := 237) rfl
theorem wm_92 : (Cond.selects yX8_goneThrough.cls yX8_goneThrough yX8_goneThrough) ∈ lw_tbl := tkp_6 (i := 12) rfl
theorem wm_1311 : (Cond.methodLink "AppealsDownModel" (279) yX8_wrongBit) ∈ lw_tbl := tk_6 (i := 3) rfl
theorem wm_1312 : (Cond.static yX8_wrongBit) ∈ lw_tbl := tk_6 (i := 4) rfl
theorem wm_1322 : (Cond.methodLink "AppealsDownModel" (285) yX8_pressBits) ∈ lw_tbl := tk_6 (i := 14) rfl
theorem wm_1324 : (Cond.instanceMethod yX8_pressBits) ∈ lw_tbl := tk_6 (i := 16) rfl
theorem wm_93 : (Cond.selects yX8_pressBits.cls yX8_pressBits yX8_pressBits) ∈ lw_tbl := tkp_6 (i := 13) rfl
theorem wm_1326 : (Cond.methodLink "AppealsDownModel" (282) yX8_onesOf) ∈ lw_tbl := tk_6 (i := 18) rfl
theorem wm_1327 : (Cond.static yX8_onesOf) ∈ lw_tbl := tk_6 (i := 19) rfl
theorem wm_1329 : (Cond.methodLink "AppealsDownModel" (150) yX8_hasBit) ∈ lw_tbl := tk_6 (i := 21) rfl
theorem wm_1330 : (Cond.static yX8_hasBit) ∈ lw_tbl := tk_6 (i := 22) rfl
theorem wm_1332 : (Cond.methodLink "AppealsDownModel" (161) yX8_passAll) ∈ lw_tbl := tk_6 (i := 24) rfl
theorem wm_1334 : (Cond.instanceMethod yX8_passAll) ∈ lw_tbl := tk_6 (i := 26) rfl
theorem wm_94 : (Cond.selects yX8_passAll.cls yX8_passAll yX8_passAll) ∈ lw_tbl := tkp_6 (i := 14) rfl
theorem wm_1340 : (Cond.methodLink "AppealsDownModel" (297) yX8_sumBehindAll) ∈ lw_tbl := tk_6 (i := 32) rfl
theorem wm_1342 : (Cond.instanceMethod yX8_sumBehindAll) ∈ lw_tbl := tk_6 (i := 34) rfl
theorem wm_95 : (Cond.selects yX8_sumBehindAll.cls yX8_sumBehindAll yX8_sumBehindAll) ∈ lw_tbl := tkp_6 (i := 15) rfl
theorem wm_1344 : (Cond.methodLink "AppealsDownModel" (300) yX8_afterOne) ∈ lw_tbl := tk_6 (i := 36) rfl
theorem wm_1346 : (Cond.instanceMethod yX8_afterOne) ∈ lw_tbl := tk_6 (i := 38) rfl
theorem wm_96 : (Cond.selects yX8_afterOne.cls yX8_afterOne yX8_afterOne) ∈ lw_tbl := tkp_7 (i := 0) rfl
theorem wm_1348 : (Cond.methodLink "AppealsDownModel" (291) yX8_lastBy) ∈ lw_tbl := tk_6 (i := 40) rfl
theorem wm_1350 : (Cond.instanceMethod yX8_lastBy) ∈ lw_tbl := tk_6 (i := 42) rfl
theorem wm_97 : (Cond.selects yX8_lastBy.cls yX8_lastBy yX8_lastBy) ∈ lw_tbl := tkp_7 (i := 1) rfl
theorem wm_1352 : (Cond.methodLink "AppealsDownModel" (288) yX8_sumByChanges) ∈ lw_tbl := tk_6 (i := 44) rfl
theorem wm_1354 : (Cond.instanceMethod yX8_sumByChanges) ∈ lw_tbl := tk_6 (i := 46) rfl
theorem wm_98 : (Cond.selects yX8_sumByChanges.cls yX8_sumByChanges yX8_sumByChanges) ∈ lw_tbl := tkp_7 (i := 2) rfl
theorem wm_1356 : (Cond.methodLink "AppealsDownModel" (303) yX8_afterOneOfFour) ∈ lw_tbl := tk_6 (i := 48) rfl
theorem wm_1358 : (Cond.instanceMethod yX8_afterOneOfFour) ∈ lw_tbl := tk_6 (i := 50) rfl
theorem wm_99 : (Cond.selects yX8_afterOneOfFour.cls yX8_afterOneOfFour yX8_afterOneOfFour) ∈ lw_tbl := tkp_7 (i := 3) rfl
theorem wm_1360 : (Cond.methodLink "AppealsDownModel" (294) yX8_afterTwo) ∈ lw_tbl := tk_6 (i := 52) rfl
theorem wm_1362 : (Cond.instanceMethod yX8_afterTwo) ∈ lw_tbl := tk_6 (i := 54) rfl
theorem wm_100 : (Cond.selects yX8_afterTwo.cls yX8_afterTwo yX8_afterTwo) ∈ lw_tbl := tkp_7 (i := 4) rfl
theorem wm_1368 : (Cond.methodLink "AppealsDownModel" (306) yX8_fastFrom) ∈ lw_tbl := tk_6 (i := 60) rfl
theorem wm_1370 : (Cond.instanceMethod yX8_fastFrom) ∈ lw_tbl := tk_6 (i := 62) rfl
theorem wm_101 : (Cond.selects yX8_fastFrom.cls yX8_fastFrom yX8_fastFrom) ∈ lw_tbl := tkp_7 (i := 5) rfl
theorem wm_1376 : (Cond.methodLink "AppealsDownModel" (309) yX8_thinkThree) ∈ lw_tbl := tk_6 (i := 68) rfl
theorem wm_1378 : (Cond.instanceMethod yX8_thinkThree) ∈ lw_tbl := tk_6 (i := 70) rfl
theorem wm_102 : (Cond.selects yX8_thinkThree.cls yX8_thinkThree yX8_thinkThree) ∈ lw_tbl := tkp_7 (i := 6) rfl
theorem wm_1397 : (Cond.methodLink "AppealsDownModel" (317) yX8_divisor) ∈ lw_tbl := tk_6 (i := 89) rfl
theorem wm_1398 : (Cond.static yX8_divisor) ∈ lw_tbl := tk_6 (i := 90) rfl
theorem wm_1404 : (Cond.methodLink "AppealsDownModel" (321) yX8_change) ∈ lw_tbl := tk_6 (i := 96) rfl
theorem wm_1406 : (Cond.instanceMethod yX8_change) ∈ lw_tbl := tk_6 (i := 98) rfl
theorem wm_103 : (Cond.selects yX8_change.cls yX8_change yX8_change) ∈ lw_tbl := tkp_7 (i := 7) rfl
theorem wm_1412 : (Cond.methodLink "AppealsDownModel" (330) yX8_sumByOrder) ∈ lw_tbl := tk_6 (i := 104) rfl
theorem wm_1414 : (Cond.instanceMethod yX8_sumByOrder) ∈ lw_tbl := tk_6 (i := 106) rfl
theorem wm_104 : (Cond.selects yX8_sumByOrder.cls yX8_sumByOrder yX8_sumByOrder) ∈ lw_tbl := tkp_7 (i := 8) rfl
theorem wm_1416 : (Cond.methodLink "AppealsDownModel" (327) yX8_layOrder) ∈ lw_tbl := tk_6 (i := 108) rfl
theorem wm_1418 : (Cond.instanceMethod yX8_layOrder) ∈ lw_tbl := tk_6 (i := 110) rfl
theorem wm_105 : (Cond.selects yX8_layOrder.cls yX8_layOrder yX8_layOrder) ∈ lw_tbl := tkp_7 (i := 9) rfl
theorem wm_1420 : (Cond.methodLink "AppealsDownModel" (324) yX8_ordersOf) ∈ lw_tbl := tk_6 (i := 112) rfl
theorem wm_1421 : (Cond.static yX8_ordersOf) ∈ lw_tbl := tk_6 (i := 113) rfl
theorem wm_1459 : (Cond.methodLink "AppealsDownModel" (335) yX8_isOtherBy) ∈ lw_tbl := tk_6 (i := 151) rfl
theorem wm_1461 : (Cond.instanceMethod yX8_isOtherBy) ∈ lw_tbl := tk_6 (i := 153) rfl
theorem wm_106 : (Cond.selects yX8_isOtherBy.cls yX8_isOtherBy yX8_isOtherBy) ∈ lw_tbl := tkp_7 (i := 10) rfl
theorem wm_1476 : (Cond.methodLink "AppealsDownModel" (339) yX8_isAsAt) ∈ lw_tbl := tk_6 (i := 168) rfl
theorem wm_1478 : (Cond.instanceMethod yX8_isAsAt) ∈ lw_tbl := tk_6 (i := 170) rfl
theorem wm_107 : (Cond.selects yX8_isAsAt.cls yX8_isAsAt yX8_isAsAt) ∈ lw_tbl := tkp_7 (i := 11) rfl
theorem wm_127 : (Cond.methodLink "AppealsDownLaw" (9) yX7_init) ∈ lw_tbl := tk_1 (i := 19) rfl
theorem wm_128 : (Cond.instanceMethod yX7_init) ∈ lw_tbl := tk_1 (i := 20) rfl
theorem wm_348 : (Cond.methodLink "AppealsDownLaw" (13) yX7_feed) ∈ lw_tbl := tk_2 (i := 0) rfl
theorem wm_349 : (Cond.instanceMethod yX7_feed) ∈ lw_tbl := tk_2 (i := 1) rfl
theorem wm_350 : (Cond.selects "AppealsDown" yX7_feed yX7_feed) ∈ lw_tbl := tk_2 (i := 2) rfl
theorem wm_360 : (Cond.methodLink "AppealsDownLaw" (18) yX7_caseOf) ∈ lw_tbl := tk_2 (i := 12) rfl
theorem wm_361 : (Cond.instanceMethod yX7_caseOf) ∈ lw_tbl := tk_2 (i := 13) rfl
theorem wm_362 : (Cond.selects "AppealsDown" yX7_caseOf yX7_caseOf) ∈ lw_tbl := tk_2 (i := 14) rfl
theorem wm_507 : (Cond.methodLink "AppealsDownLaw" (23) yX7_court) ∈ lw_tbl := tk_2 (i := 159) rfl
theorem wm_508 : (Cond.instanceMethod yX7_court) ∈ lw_tbl := tk_2 (i := 160) rfl
theorem wm_509 : (Cond.selects "AppealsDown" yX7_court yX7_court) ∈ lw_tbl := tk_2 (i := 161) rfl
theorem wm_515 : (Cond.methodLink "AppealsDownLaw" (28) yX7_point) ∈ lw_tbl := tk_2 (i := 167) rfl
theorem wm_516 : (Cond.instanceMethod yX7_point) ∈ lw_tbl := tk_2 (i := 168) rfl
theorem wm_517 : (Cond.selects "AppealsDown" yX7_point yX7_point) ∈ lw_tbl := tk_2 (i := 169) rfl
theorem wm_539 : (Cond.methodLink "AppealsDownLaw" (32) yX7_kind) ∈ lw_tbl := tk_2 (i := 191) rfl
theorem wm_540 : (Cond.instanceMethod yX7_kind) ∈ lw_tbl := tk_2 (i := 192) rfl
theorem wm_541 : (Cond.selects "AppealsDown" yX7_kind yX7_kind) ∈ lw_tbl := tk_2 (i := 193) rfl
theorem wm_549 : (Cond.methodLink "AppealsDownLaw" (37) yX7_lowest) ∈ lw_tbl := tk_2 (i := 201) rfl
theorem wm_550 : (Cond.instanceMethod yX7_lowest) ∈ lw_tbl := tk_2 (i := 202) rfl
theorem wm_551 : (Cond.selects "AppealsDown" yX7_lowest yX7_lowest) ∈ lw_tbl := tk_2 (i := 203) rfl
theorem wm_554 : (Cond.methodLink "AppealsDownLaw" (41) yX7_set) ∈ lw_tbl := tk_2 (i := 206) rfl
theorem wm_555 : (Cond.instanceMethod yX7_set) ∈ lw_tbl := tk_2 (i := 207) rfl
theorem wm_556 : (Cond.selects "AppealsDown" yX7_set yX7_set) ∈ lw_tbl := tk_2 (i := 208) rfl
theorem wm_559 : (Cond.methodLink "AppealsDownLaw" (45) yX7_back) ∈ lw_tbl := tk_2 (i := 211) rfl
theorem wm_560 : (Cond.instanceMethod yX7_back) ∈ lw_tbl := tk_2 (i := 212) rfl
theorem wm_561 : (Cond.selects "AppealsDown" yX7_back yX7_back) ∈ lw_tbl := tk_2 (i := 213) rfl
theorem wm_570 : (Cond.methodLink "AppealsDownLaw" (49) yX7_down) ∈ lw_tbl := tk_2 (i := 222) rfl
theorem wm_571 : (Cond.instanceMethod yX7_down) ∈ lw_tbl := tk_2 (i := 223) rfl
theorem wm_572 : (Cond.selects "AppealsDown" yX7_down yX7_down) ∈ lw_tbl := tk_2 (i := 224) rfl
theorem wm_631 : (Cond.methodLink "AppealsDownLaw" (53) yX7_turns) ∈ lw_tbl := tk_3 (i := 43) rfl
theorem wm_632 : (Cond.instanceMethod yX7_turns) ∈ lw_tbl := tk_3 (i := 44) rfl
theorem wm_633 : (Cond.selects "AppealsDown" yX7_turns yX7_turns) ∈ lw_tbl := tk_3 (i := 45) rfl
theorem wm_639 : (Cond.methodLink "AppealsDownLaw" (57) yX7_costs) ∈ lw_tbl := tk_3 (i := 51) rfl
theorem wm_640 : (Cond.instanceMethod yX7_costs) ∈ lw_tbl := tk_3 (i := 52) rfl
theorem wm_641 : (Cond.selects "AppealsDown" yX7_costs yX7_costs) ∈ lw_tbl := tk_3 (i := 53) rfl
theorem wm_648 : (Cond.methodLink "AppealsDownLaw" (61) yX7_up) ∈ lw_tbl := tk_3 (i := 60) rfl
theorem wm_649 : (Cond.instanceMethod yX7_up) ∈ lw_tbl := tk_3 (i := 61) rfl
theorem wm_650 : (Cond.selects "AppealsDown" yX7_up yX7_up) ∈ lw_tbl := tk_3 (i := 62) rfl
theorem wm_656 : (Cond.methodLink "AppealsDownLaw" (65) yX7_round) ∈ lw_tbl := tk_3 (i := 68) rfl
theorem wm_657 : (Cond.instanceMethod yX7_round) ∈ lw_tbl := tk_3 (i := 69) rfl
theorem wm_658 : (Cond.selects "AppealsDown" yX7_round yX7_round) ∈ lw_tbl := tk_3 (i := 70) rfl
theorem wm_685 : (Cond.methodLink "AppealsDownLaw" (69) yX7_appeals) ∈ lw_tbl := tk_3 (i := 97) rfl
theorem wm_686 : (Cond.instanceMethod yX7_appeals) ∈ lw_tbl := tk_3 (i := 98) rfl
theorem wm_687 : (Cond.selects "AppealsDown" yX7_appeals yX7_appeals) ∈ lw_tbl := tk_3 (i := 99) rfl
theorem wm_704 : (Cond.methodLink "AppealsDownLaw" (73) yX7_press) ∈ lw_tbl := tk_3 (i := 116) rfl
theorem wm_705 : (Cond.instanceMethod yX7_press) ∈ lw_tbl := tk_3 (i := 117) rfl
theorem wm_706 : (Cond.selects "AppealsDown" yX7_press yX7_press) ∈ lw_tbl := tk_3 (i := 118) rfl
theorem wm_718 : (Cond.methodLink "AppealsDownLaw" (77) yX7_turnsBy) ∈ lw_tbl := tk_3 (i := 130) rfl
theorem wm_719 : (Cond.instanceMethod yX7_turnsBy) ∈ lw_tbl := tk_3 (i := 131) rfl
theorem wm_720 : (Cond.selects "AppealsDown" yX7_turnsBy yX7_turnsBy) ∈ lw_tbl := tk_3 (i := 132) rfl
theorem wm_734 : (Cond.methodLink "AppealsDownLaw" (81) yX7_standsFast) ∈ lw_tbl := tk_3 (i := 146) rfl
theorem wm_735 : (Cond.instanceMethod yX7_standsFast) ∈ lw_tbl := tk_3 (i := 147) rfl
theorem wm_736 : (Cond.selects "AppealsDown" yX7_standsFast yX7_standsFast) ∈ lw_tbl := tk_3 (i := 148) rfl
theorem wm_742 : (Cond.methodLink "AppealsDownLaw" (85) yX7_survive) ∈ lw_tbl := tk_3 (i := 154) rfl
theorem wm_743 : (Cond.instanceMethod yX7_survive) ∈ lw_tbl := tk_3 (i := 155) rfl
theorem wm_744 : (Cond.selects "AppealsDown" yX7_survive yX7_survive) ∈ lw_tbl := tk_3 (i := 156) rfl
theorem wm_751 : (Cond.methodLink "AppealsDownLaw" (89) yX7_fits) ∈ lw_tbl := tk_3 (i := 163) rfl
theorem wm_752 : (Cond.instanceMethod yX7_fits) ∈ lw_tbl := tk_3 (i := 164) rfl
theorem wm_753 : (Cond.selects "AppealsDown" yX7_fits yX7_fits) ∈ lw_tbl := tk_3 (i := 165) rfl
theorem wm_768 : (Cond.methodLink "AppealsDownLaw" (93) yX7_first) ∈ lw_tbl := tk_3 (i := 180) rfl
theorem wm_769 : (Cond.instanceMethod yX7_first) ∈ lw_tbl := tk_3 (i := 181) rfl
theorem wm_770 : (Cond.selects "AppealsDown" yX7_first yX7_first) ∈ lw_tbl := tk_3 (i := 182) rfl
theorem wm_772 : (Cond.methodLink "AppealsDownLaw" (97) yX7_apart) ∈ lw_tbl := tk_3 (i := 184) rfl
theorem wm_773 : (Cond.instanceMethod yX7_apart) ∈ lw_tbl := tk_3 (i := 185) rfl
theorem wm_774 : (Cond.selects "AppealsDown" yX7_apart yX7_apart) ∈ lw_tbl := tk_3 (i := 186) rfl
theorem wm_776 : (Cond.methodLink "AppealsDownLaw" (101) yX7_treaty) ∈ lw_tbl := tk_3 (i := 188) rfl
theorem wm_777 : (Cond.instanceMethod yX7_treaty) ∈ lw_tbl := tk_3 (i := 189) rfl
theorem wm_778 : (Cond.selects "AppealsDown" yX7_treaty yX7_treaty) ∈ lw_tbl := tk_3 (i := 190) rfl
theorem wm_780 : (Cond.methodLink "AppealsDownLaw" (105) yX7_share) ∈ lw_tbl := tk_3 (i := 192) rfl
theorem wm_781 : (Cond.instanceMethod yX7_share) ∈ lw_tbl := tk_3 (i := 193) rfl
theorem wm_782 : (Cond.selects "AppealsDown" yX7_share yX7_share) ∈ lw_tbl := tk_3 (i := 194) rfl
theorem wm_784 : (Cond.methodLink "AppealsDownLaw" (109) yX7_bedtime) ∈ lw_tbl := tk_3 (i := 196) rfl
theorem wm_785 : (Cond.instanceMethod yX7_bedtime) ∈ lw_tbl := tk_3 (i := 197) rfl
theorem wm_786 : (Cond.selects "AppealsDown" yX7_bedtime yX7_bedtime) ∈ lw_tbl := tk_3 (i := 198) rfl
theorem wm_803 : (Cond.methodLink "AppealsDownLaw" (114) yX7_order) ∈ lw_tbl := tk_3 (i := 215) rfl
theorem wm_804 : (Cond.instanceMethod yX7_order) ∈ lw_tbl := tk_3 (i := 216) rfl
theorem wm_805 : (Cond.selects "AppealsDown" yX7_order yX7_order) ∈ lw_tbl := tk_3 (i := 217) rfl
theorem wm_811 : (Cond.methodLink "AppealsDownLaw" (118) yX7_bestOrder) ∈ lw_tbl := tk_3 (i := 223) rfl
theorem wm_812 : (Cond.instanceMethod yX7_bestOrder) ∈ lw_tbl := tk_3 (i := 224) rfl
theorem wm_813 : (Cond.selects "AppealsDown" yX7_bestOrder yX7_bestOrder) ∈ lw_tbl := tk_3 (i := 225) rfl
theorem wm_828 : (Cond.methodLink "AppealsDownLaw" (122) yX7_needed) ∈ lw_tbl := tk_4 (i := 0) rfl
theorem wm_829 : (Cond.instanceMethod yX7_needed) ∈ lw_tbl := tk_4 (i := 1) rfl
theorem wm_830 : (Cond.selects "AppealsDown" yX7_needed yX7_needed) ∈ lw_tbl := tk_4 (i := 2) rfl
theorem wm_832 : (Cond.methodLink "AppealsDownLaw" (126) yX7_cheapest) ∈ lw_tbl := tk_4 (i := 4) rfl
theorem wm_833 : (Cond.instanceMethod yX7_cheapest) ∈ lw_tbl := tk_4 (i := 5) rfl
theorem wm_834 : (Cond.selects "AppealsDown" yX7_cheapest yX7_cheapest) ∈ lw_tbl := tk_4 (i := 6) rfl
theorem wm_840 : (Cond.methodLink "AppealsDownLaw" (130) yX7_biggest) ∈ lw_tbl := tk_4 (i := 12) rfl
theorem wm_841 : (Cond.instanceMethod yX7_biggest) ∈ lw_tbl := tk_4 (i := 13) rfl
theorem wm_842 : (Cond.selects "AppealsDown" yX7_biggest yX7_biggest) ∈ lw_tbl := tk_4 (i := 14) rfl
theorem wm_847 : (Cond.methodLink "AppealsDownLaw" (134) yX7_swing) ∈ lw_tbl := tk_4 (i := 19) rfl
theorem wm_848 : (Cond.instanceMethod yX7_swing) ∈ lw_tbl := tk_4 (i := 20) rfl
theorem wm_849 : (Cond.selects "AppealsDown" yX7_swing yX7_swing) ∈ lw_tbl := tk_4 (i := 21) rfl
theorem wm_851 : (Cond.methodLink "AppealsDownLaw" (138) yX7_rounds) ∈ lw_tbl := tk_4 (i := 23) rfl
theorem wm_852 : (Cond.instanceMethod yX7_rounds) ∈ lw_tbl := tk_4 (i := 24) rfl
theorem wm_853 : (Cond.selects "AppealsDown" yX7_rounds yX7_rounds) ∈ lw_tbl := tk_4 (i := 25) rfl
theorem wm_855 : (Cond.methodLink "AppealsDownLaw" (142) yX7_worst) ∈ lw_tbl := tk_4 (i := 27) rfl
theorem wm_856 : (Cond.instanceMethod yX7_worst) ∈ lw_tbl := tk_4 (i := 28) rfl
theorem wm_857 : (Cond.selects "AppealsDown" yX7_worst yX7_worst) ∈ lw_tbl := tk_4 (i := 29) rfl
theorem wm_864 : (Cond.methodLink "AppealsDownLaw" (146) yX7_same) ∈ lw_tbl := tk_4 (i := 36) rfl
theorem wm_865 : (Cond.instanceMethod yX7_same) ∈ lw_tbl := tk_4 (i := 37) rfl
theorem wm_866 : (Cond.selects "AppealsDown" yX7_same yX7_same) ∈ lw_tbl := tk_4 (i := 38) rfl
theorem wm_868 : (Cond.methodLink "AppealsDownLaw" (150) yX7_dead) ∈ lw_tbl := tk_4 (i := 40) rfl
theorem wm_869 : (Cond.instanceMethod yX7_dead) ∈ lw_tbl := tk_4 (i := 41) rfl
theorem wm_870 : (Cond.selects "AppealsDown" yX7_dead yX7_dead) ∈ lw_tbl := tk_4 (i := 42) rfl
theorem wm_876 : (Cond.methodLink "AppealsDownLaw" (154) yX7_flip) ∈ lw_tbl := tk_4 (i := 48) rfl
theorem wm_877 : (Cond.instanceMethod yX7_flip) ∈ lw_tbl := tk_4 (i := 49) rfl
theorem wm_878 : (Cond.selects "AppealsDown" yX7_flip yX7_flip) ∈ lw_tbl := tk_4 (i := 50) rfl
theorem wm_884 : (Cond.methodLink "AppealsDownLaw" (158) yX7_margin) ∈ lw_tbl := tk_4 (i := 56) rfl
theorem wm_885 : (Cond.instanceMethod yX7_margin) ∈ lw_tbl := tk_4 (i := 57) rfl
theorem wm_886 : (Cond.selects "AppealsDown" yX7_margin yX7_margin) ∈ lw_tbl := tk_4 (i := 58) rfl
theorem wm_892 : (Cond.methodLink "AppealsDownLaw" (162) yX7_beats) ∈ lw_tbl := tk_4 (i := 64) rfl
theorem wm_893 : (Cond.instanceMethod yX7_beats) ∈ lw_tbl := tk_4 (i := 65) rfl
theorem wm_894 : (Cond.selects "AppealsDown" yX7_beats yX7_beats) ∈ lw_tbl := tk_4 (i := 66) rfl
theorem wm_896 : (Cond.methodLink "AppealsDownLaw" (166) yX7_commute) ∈ lw_tbl := tk_4 (i := 68) rfl
theorem wm_897 : (Cond.instanceMethod yX7_commute) ∈ lw_tbl := tk_4 (i := 69) rfl
theorem wm_898 : (Cond.selects "AppealsDown" yX7_commute yX7_commute) ∈ lw_tbl := tk_4 (i := 70) rfl
theorem wm_900 : (Cond.methodLink "AppealsDownLaw" (170) yX7_again) ∈ lw_tbl := tk_4 (i := 72) rfl
theorem wm_901 : (Cond.instanceMethod yX7_again) ∈ lw_tbl := tk_4 (i := 73) rfl
theorem wm_902 : (Cond.selects "AppealsDown" yX7_again yX7_again) ∈ lw_tbl := tk_4 (i := 74) rfl
theorem wm_907 : (Cond.methodLink "AppealsDownLaw" (174) yX7_bestLowest) ∈ lw_tbl := tk_4 (i := 79) rfl
theorem wm_908 : (Cond.instanceMethod yX7_bestLowest) ∈ lw_tbl := tk_4 (i := 80) rfl
theorem wm_909 : (Cond.selects "AppealsDown" yX7_bestLowest yX7_bestLowest) ∈ lw_tbl := tk_4 (i := 81) rfl
theorem wm_911 : (Cond.methodLink "AppealsDownLaw" (178) yX7_peak) ∈ lw_tbl := tk_4 (i := 83) rfl
theorem wm_912 : (Cond.instanceMethod yX7_peak) ∈ lw_tbl := tk_4 (i := 84) rfl
theorem wm_913 : (Cond.selects "AppealsDown" yX7_peak yX7_peak) ∈ lw_tbl := tk_4 (i := 85) rfl
theorem wm_915 : (Cond.methodLink "AppealsDownLaw" (182) yX7_fullStake) ∈ lw_tbl := tk_4 (i := 87) rfl
theorem wm_916 : (Cond.instanceMethod yX7_fullStake) ∈ lw_tbl := tk_4 (i := 88) rfl
theorem wm_917 : (Cond.selects "AppealsDown" yX7_fullStake yX7_fullStake) ∈ lw_tbl := tk_4 (i := 89) rfl
theorem wm_919 : (Cond.methodLink "AppealsDownLaw" (186) yX7_heard) ∈ lw_tbl := tk_4 (i := 91) rfl
theorem wm_920 : (Cond.instanceMethod yX7_heard) ∈ lw_tbl := tk_4 (i := 92) rfl
theorem wm_921 : (Cond.selects "AppealsDown" yX7_heard yX7_heard) ∈ lw_tbl := tk_4 (i := 93) rfl
theorem wm_923 : (Cond.methodLink "AppealsDownLaw" (190) yX7_lastSay) ∈ lw_tbl := tk_4 (i := 95) rfl
theorem wm_924 : (Cond.instanceMethod yX7_lastSay) ∈ lw_tbl := tk_4 (i := 96) rfl
theorem wm_925 : (Cond.selects "AppealsDown" yX7_lastSay yX7_lastSay) ∈ lw_tbl := tk_4 (i := 97) rfl
theorem wm_927 : (Cond.methodLink "AppealsDownLaw" (194) yX7_row) ∈ lw_tbl := tk_4 (i := 99) rfl
theorem wm_928 : (Cond.instanceMethod yX7_row) ∈ lw_tbl := tk_4 (i := 100) rfl
theorem wm_929 : (Cond.selects "AppealsDown" yX7_row yX7_row) ∈ lw_tbl := tk_4 (i := 101) rfl
theorem wm_931 : (Cond.methodLink "AppealsDownLaw" (198) yX7_judge) ∈ lw_tbl := tk_4 (i := 103) rfl
theorem wm_932 : (Cond.instanceMethod yX7_judge) ∈ lw_tbl := tk_4 (i := 104) rfl
theorem wm_933 : (Cond.selects "AppealsDown" yX7_judge yX7_judge) ∈ lw_tbl := tk_4 (i := 105) rfl
theorem wm_939 : (Cond.methodLink "AppealsDownLaw" (202) yX7_clear) ∈ lw_tbl := tk_4 (i := 111) rfl
theorem wm_940 : (Cond.instanceMethod yX7_clear) ∈ lw_tbl := tk_4 (i := 112) rfl
theorem wm_941 : (Cond.selects "AppealsDown" yX7_clear yX7_clear) ∈ lw_tbl := tk_4 (i := 113) rfl
theorem wm_943 : (Cond.methodLink "AppealsDownLaw" (206) yX7_lots) ∈ lw_tbl := tk_4 (i := 115) rfl
theorem wm_944 : (Cond.instanceMethod yX7_lots) ∈ lw_tbl := tk_4 (i := 116) rfl
theorem wm_945 : (Cond.selects "AppealsDown" yX7_lots yX7_lots) ∈ lw_tbl := tk_4 (i := 117) rfl
theorem wm_950 : (Cond.methodLink "AppealsDownLaw" (210) yX7_image) ∈ lw_tbl := tk_4 (i := 122) rfl
theorem wm_951 : (Cond.instanceMethod yX7_image) ∈ lw_tbl := tk_4 (i := 123) rfl
theorem wm_952 : (Cond.selects "AppealsDown" yX7_image yX7_image) ∈ lw_tbl := tk_4 (i := 124) rfl
theorem wm_954 : (Cond.methodLink "AppealsDownLaw" (214) yX7_restore) ∈ lw_tbl := tk_4 (i := 126) rfl
theorem wm_955 : (Cond.instanceMethod yX7_restore) ∈ lw_tbl := tk_4 (i := 127) rfl
theorem wm_956 : (Cond.selects "AppealsDown" yX7_restore yX7_restore) ∈ lw_tbl := tk_4 (i := 128) rfl
theorem wm_958 : (Cond.methodLink "AppealsDownLaw" (218) yX7_count) ∈ lw_tbl := tk_4 (i := 130) rfl
theorem wm_959 : (Cond.instanceMethod yX7_count) ∈ lw_tbl := tk_4 (i := 131) rfl
theorem wm_960 : (Cond.selects "AppealsDown" yX7_count yX7_count) ∈ lw_tbl := tk_4 (i := 132) rfl
theorem wm_965 : (Cond.methodLink "AppealsDownLaw" (12) yX8_init) ∈ lw_tbl := tk_4 (i := 137) rfl
theorem wm_966 : (Cond.instanceMethod yX8_init) ∈ lw_tbl := tk_4 (i := 138) rfl
theorem wm_1111 : (Cond.methodLink "AppealsDownLaw" (17) yX8_feed) ∈ lw_tbl := tk_5 (i := 43) rfl
theorem wm_1112 : (Cond.instanceMethod yX8_feed) ∈ lw_tbl := tk_5 (i := 44) rfl
theorem wm_1113 : (Cond.selects "AppealsDownModel" yX8_feed yX8_feed) ∈ lw_tbl := tk_5 (i := 45) rfl
theorem wm_1119 : (Cond.methodLink "AppealsDownLaw" (22) yX8_caseOf) ∈ lw_tbl := tk_5 (i := 51) rfl
theorem wm_1120 : (Cond.instanceMethod yX8_caseOf) ∈ lw_tbl := tk_5 (i := 52) rfl
theorem wm_1121 : (Cond.selects "AppealsDownModel" yX8_caseOf yX8_caseOf) ∈ lw_tbl := tk_5 (i := 53) rfl
theorem wm_1164 : (Cond.methodLink "AppealsDownLaw" (213) yX8_image) ∈ lw_tbl := tk_5 (i := 96) rfl
theorem wm_1165 : (Cond.instanceMethod yX8_image) ∈ lw_tbl := tk_5 (i := 97) rfl
theorem wm_1166 : (Cond.selects "AppealsDownModel" yX8_image yX8_image) ∈ lw_tbl := tk_5 (i := 98) rfl
theorem wm_1168 : (Cond.methodLink "AppealsDownLaw" (217) yX8_restore) ∈ lw_tbl := tk_5 (i := 100) rfl
theorem wm_1169 : (Cond.instanceMethod yX8_restore) ∈ lw_tbl := tk_5 (i := 101) rfl
theorem wm_1170 : (Cond.selects "AppealsDownModel" yX8_restore yX8_restore) ∈ lw_tbl := tk_5 (i := 102) rfl
theorem wm_1172 : (Cond.methodLink "AppealsDownLaw" (48) yX8_back) ∈ lw_tbl := tk_5 (i := 104) rfl
theorem wm_1173 : (Cond.instanceMethod yX8_back) ∈ lw_tbl := tk_5 (i := 105) rfl
theorem wm_1174 : (Cond.selects "AppealsDownModel" yX8_back yX8_back) ∈ lw_tbl := tk_5 (i := 106) rfl
theorem wm_1176 : (Cond.methodLink "AppealsDownLaw" (27) yX8_court) ∈ lw_tbl := tk_5 (i := 108) rfl
theorem wm_1177 : (Cond.instanceMethod yX8_court) ∈ lw_tbl := tk_5 (i := 109) rfl
theorem wm_1178 : (Cond.selects "AppealsDownModel" yX8_court yX8_court) ∈ lw_tbl := tk_5 (i := 110) rfl
theorem wm_1185 : (Cond.methodLink "AppealsDownLaw" (31) yX8_point) ∈ lw_tbl := tk_5 (i := 117) rfl
theorem wm_1186 : (Cond.instanceMethod yX8_point) ∈ lw_tbl := tk_5 (i := 118) rfl
theorem wm_1187 : (Cond.selects "AppealsDownModel" yX8_point yX8_point) ∈ lw_tbl := tk_5 (i := 119) rfl
theorem wm_1197 : (Cond.methodLink "AppealsDownLaw" (36) yX8_kind) ∈ lw_tbl := tk_5 (i := 129) rfl
theorem wm_1198 : (Cond.instanceMethod yX8_kind) ∈ lw_tbl := tk_5 (i := 130) rfl
theorem wm_1199 : (Cond.selects "AppealsDownModel" yX8_kind yX8_kind) ∈ lw_tbl := tk_5 (i := 131) rfl
theorem wm_1202 : (Cond.methodLink "AppealsDownLaw" (40) yX8_lowest) ∈ lw_tbl := tk_5 (i := 134) rfl
theorem wm_1203 : (Cond.instanceMethod yX8_lowest) ∈ lw_tbl := tk_5 (i := 135) rfl
theorem wm_1204 : (Cond.selects "AppealsDownModel" yX8_lowest yX8_lowest) ∈ lw_tbl := tk_5 (i := 136) rfl
theorem wm_1206 : (Cond.methodLink "AppealsDownLaw" (44) yX8_set) ∈ lw_tbl := tk_5 (i := 138) rfl
theorem wm_1207 : (Cond.instanceMethod yX8_set) ∈ lw_tbl := tk_5 (i := 139) rfl
theorem wm_1208 : (Cond.selects "AppealsDownModel" yX8_set yX8_set) ∈ lw_tbl := tk_5 (i := 140) rfl
theorem wm_1210 : (Cond.methodLink "AppealsDownLaw" (52) yX8_down) ∈ lw_tbl := tk_5 (i := 142) rfl
theorem wm_1211 : (Cond.instanceMethod yX8_down) ∈ lw_tbl := tk_5 (i := 143) rfl
theorem wm_1212 : (Cond.selects "AppealsDownModel" yX8_down yX8_down) ∈ lw_tbl := tk_5 (i := 144) rfl
theorem wm_1266 : (Cond.methodLink "AppealsDownLaw" (56) yX8_turns) ∈ lw_tbl := tk_5 (i := 198) rfl
theorem wm_1267 : (Cond.instanceMethod yX8_turns) ∈ lw_tbl := tk_5 (i := 199) rfl
theorem wm_1268 : (Cond.selects "AppealsDownModel" yX8_turns yX8_turns) ∈ lw_tbl := tk_5 (i := 200) rfl
theorem wm_1270 : (Cond.methodLink "AppealsDownLaw" (60) yX8_costs) ∈ lw_tbl := tk_5 (i := 202) rfl
theorem wm_1271 : (Cond.instanceMethod yX8_costs) ∈ lw_tbl := tk_5 (i := 203) rfl
theorem wm_1272 : (Cond.selects "AppealsDownModel" yX8_costs yX8_costs) ∈ lw_tbl := tk_5 (i := 204) rfl
theorem wm_1274 : (Cond.methodLink "AppealsDownLaw" (64) yX8_up) ∈ lw_tbl := tk_5 (i := 206) rfl
theorem wm_1275 : (Cond.instanceMethod yX8_up) ∈ lw_tbl := tk_5 (i := 207) rfl
theorem wm_1276 : (Cond.selects "AppealsDownModel" yX8_up yX8_up) ∈ lw_tbl := tk_5 (i := 208) rfl
theorem wm_1278 : (Cond.methodLink "AppealsDownLaw" (68) yX8_round) ∈ lw_tbl := tk_5 (i := 210) rfl
theorem wm_1279 : (Cond.instanceMethod yX8_round) ∈ lw_tbl := tk_5 (i := 211) rfl
theorem wm_1280 : (Cond.selects "AppealsDownModel" yX8_round yX8_round) ∈ lw_tbl := tk_5 (i := 212) rfl
theorem wm_1290 : (Cond.methodLink "AppealsDownLaw" (141) yX8_rounds) ∈ lw_tbl := tk_5 (i := 222) rfl
theorem wm_1291 : (Cond.instanceMethod yX8_rounds) ∈ lw_tbl := tk_5 (i := 223) rfl
theorem wm_1292 : (Cond.selects "AppealsDownModel" yX8_rounds yX8_rounds) ∈ lw_tbl := tk_5 (i := 224) rfl
theorem wm_1294 : (Cond.methodLink "AppealsDownLaw" (72) yX8_appeals) ∈ lw_tbl := tk_5 (i := 226) rfl
theorem wm_1295 : (Cond.instanceMethod yX8_appeals) ∈ lw_tbl := tk_5 (i := 227) rfl
theorem wm_1296 : (Cond.selects "AppealsDownModel" yX8_appeals yX8_appeals) ∈ lw_tbl := tk_5 (i := 228) rfl
theorem wm_1307 : (Cond.methodLink "AppealsDownLaw" (104) yX8_treaty) ∈ lw_tbl := tk_5 (i := 239) rfl
theorem wm_1308 : (Cond.instanceMethod yX8_treaty) ∈ lw_tbl := tk_6 (i := 0) rfl
theorem wm_1309 : (Cond.selects "AppealsDownModel" yX8_treaty yX8_treaty) ∈ lw_tbl := tk_6 (i := 1) rfl
theorem wm_1314 : (Cond.methodLink "AppealsDownLaw" (108) yX8_share) ∈ lw_tbl := tk_6 (i := 6) rfl
theorem wm_1315 : (Cond.instanceMethod yX8_share) ∈ lw_tbl := tk_6 (i := 7) rfl
theorem wm_1316 : (Cond.selects "AppealsDownModel" yX8_share yX8_share) ∈ lw_tbl := tk_6 (i := 8) rfl
theorem wm_1318 : (Cond.methodLink "AppealsDownLaw" (76) yX8_press) ∈ lw_tbl := tk_6 (i := 10) rfl
theorem wm_1319 : (Cond.instanceMethod yX8_press) ∈ lw_tbl := tk_6 (i := 11) rfl
theorem wm_1320 : (Cond.selects "AppealsDownModel" yX8_press yX8_press) ∈ lw_tbl := tk_6 (i := 12) rfl
theorem wm_1336 : (Cond.methodLink "AppealsDownLaw" (80) yX8_turnsBy) ∈ lw_tbl := tk_6 (i := 28) rfl
theorem wm_1337 : (Cond.instanceMethod yX8_turnsBy) ∈ lw_tbl := tk_6 (i := 29) rfl
theorem wm_1338 : (Cond.selects "AppealsDownModel" yX8_turnsBy yX8_turnsBy) ∈ lw_tbl := tk_6 (i := 30) rfl
theorem wm_1364 : (Cond.methodLink "AppealsDownLaw" (84) yX8_standsFast) ∈ lw_tbl := tk_6 (i := 56) rfl
theorem wm_1365 : (Cond.instanceMethod yX8_standsFast) ∈ lw_tbl := tk_6 (i := 57) rfl
theorem wm_1366 : (Cond.selects "AppealsDownModel" yX8_standsFast yX8_standsFast) ∈ lw_tbl := tk_6 (i := 58) rfl
theorem wm_1372 : (Cond.methodLink "AppealsDownLaw" (88) yX8_survive) ∈ lw_tbl := tk_6 (i := 64) rfl
theorem wm_1373 : (Cond.instanceMethod yX8_survive) ∈ lw_tbl := tk_6 (i := 65) rfl
theorem wm_1374 : (Cond.selects "AppealsDownModel" yX8_survive yX8_survive) ∈ lw_tbl := tk_6 (i := 66) rfl
theorem wm_1380 : (Cond.methodLink "AppealsDownLaw" (92) yX8_fits) ∈ lw_tbl := tk_6 (i := 72) rfl
theorem wm_1381 : (Cond.instanceMethod yX8_fits) ∈ lw_tbl := tk_6 (i := 73) rfl
theorem wm_1382 : (Cond.selects "AppealsDownModel" yX8_fits yX8_fits) ∈ lw_tbl := tk_6 (i := 74) rfl
theorem wm_1384 : (Cond.methodLink "AppealsDownLaw" (96) yX8_first) ∈ lw_tbl := tk_6 (i := 76) rfl
theorem wm_1385 : (Cond.instanceMethod yX8_first) ∈ lw_tbl := tk_6 (i := 77) rfl
theorem wm_1386 : (Cond.selects "AppealsDownModel" yX8_first yX8_first) ∈ lw_tbl := tk_6 (i := 78) rfl
theorem wm_1388 : (Cond.methodLink "AppealsDownLaw" (100) yX8_apart) ∈ lw_tbl := tk_6 (i := 80) rfl
theorem wm_1389 : (Cond.instanceMethod yX8_apart) ∈ lw_tbl := tk_6 (i := 81) rfl
theorem wm_1390 : (Cond.selects "AppealsDownModel" yX8_apart yX8_apart) ∈ lw_tbl := tk_6 (i := 82) rfl
theorem wm_1392 : (Cond.methodLink "AppealsDownLaw" (113) yX8_bedtime) ∈ lw_tbl := tk_6 (i := 84) rfl
theorem wm_1393 : (Cond.instanceMethod yX8_bedtime) ∈ lw_tbl := tk_6 (i := 85) rfl
theorem wm_1394 : (Cond.selects "AppealsDownModel" yX8_bedtime yX8_bedtime) ∈ lw_tbl := tk_6 (i := 86) rfl
theorem wm_1400 : (Cond.methodLink "AppealsDownLaw" (117) yX8_order) ∈ lw_tbl := tk_6 (i := 92) rfl
theorem wm_1401 : (Cond.instanceMethod yX8_order) ∈ lw_tbl := tk_6 (i := 93) rfl
theorem wm_1402 : (Cond.selects "AppealsDownModel" yX8_order yX8_order) ∈ lw_tbl := tk_6 (i := 94) rfl
theorem wm_1408 : (Cond.methodLink "AppealsDownLaw" (121) yX8_bestOrder) ∈ lw_tbl := tk_6 (i := 100) rfl
theorem wm_1409 : (Cond.instanceMethod yX8_bestOrder) ∈ lw_tbl := tk_6 (i := 101) rfl
theorem wm_1410 : (Cond.selects "AppealsDownModel" yX8_bestOrder yX8_bestOrder) ∈ lw_tbl := tk_6 (i := 102) rfl
theorem wm_1423 : (Cond.methodLink "AppealsDownLaw" (125) yX8_needed) ∈ lw_tbl := tk_6 (i := 115) rfl
theorem wm_1424 : (Cond.instanceMethod yX8_needed) ∈ lw_tbl := tk_6 (i := 116) rfl
theorem wm_1425 : (Cond.selects "AppealsDownModel" yX8_needed yX8_needed) ∈ lw_tbl := tk_6 (i := 117) rfl
theorem wm_1427 : (Cond.methodLink "AppealsDownLaw" (129) yX8_cheapest) ∈ lw_tbl := tk_6 (i := 119) rfl
theorem wm_1428 : (Cond.instanceMethod yX8_cheapest) ∈ lw_tbl := tk_6 (i := 120) rfl
theorem wm_1429 : (Cond.selects "AppealsDownModel" yX8_cheapest yX8_cheapest) ∈ lw_tbl := tk_6 (i := 121) rfl
theorem wm_1431 : (Cond.methodLink "AppealsDownLaw" (133) yX8_biggest) ∈ lw_tbl := tk_6 (i := 123) rfl
theorem wm_1432 : (Cond.instanceMethod yX8_biggest) ∈ lw_tbl := tk_6 (i := 124) rfl
theorem wm_1433 : (Cond.selects "AppealsDownModel" yX8_biggest yX8_biggest) ∈ lw_tbl := tk_6 (i := 125) rfl
theorem wm_1435 : (Cond.methodLink "AppealsDownLaw" (137) yX8_swing) ∈ lw_tbl := tk_6 (i := 127) rfl
theorem wm_1436 : (Cond.instanceMethod yX8_swing) ∈ lw_tbl := tk_6 (i := 128) rfl
theorem wm_1437 : (Cond.selects "AppealsDownModel" yX8_swing yX8_swing) ∈ lw_tbl := tk_6 (i := 129) rfl
theorem wm_1439 : (Cond.methodLink "AppealsDownLaw" (145) yX8_worst) ∈ lw_tbl := tk_6 (i := 131) rfl
theorem wm_1440 : (Cond.instanceMethod yX8_worst) ∈ lw_tbl := tk_6 (i := 132) rfl
theorem wm_1441 : (Cond.selects "AppealsDownModel" yX8_worst yX8_worst) ∈ lw_tbl := tk_6 (i := 133) rfl
theorem wm_1443 : (Cond.methodLink "AppealsDownLaw" (149) yX8_same) ∈ lw_tbl := tk_6 (i := 135) rfl
theorem wm_1444 : (Cond.instanceMethod yX8_same) ∈ lw_tbl := tk_6 (i := 136) rfl
theorem wm_1445 : (Cond.selects "AppealsDownModel" yX8_same yX8_same) ∈ lw_tbl := tk_6 (i := 137) rfl
theorem wm_1447 : (Cond.methodLink "AppealsDownLaw" (153) yX8_dead) ∈ lw_tbl := tk_6 (i := 139) rfl
theorem wm_1448 : (Cond.instanceMethod yX8_dead) ∈ lw_tbl := tk_6 (i := 140) rfl
theorem wm_1449 : (Cond.selects "AppealsDownModel" yX8_dead yX8_dead) ∈ lw_tbl := tk_6 (i := 141) rfl
theorem wm_1451 : (Cond.methodLink "AppealsDownLaw" (157) yX8_flip) ∈ lw_tbl := tk_6 (i := 143) rfl
theorem wm_1452 : (Cond.instanceMethod yX8_flip) ∈ lw_tbl := tk_6 (i := 144) rfl
theorem wm_1453 : (Cond.selects "AppealsDownModel" yX8_flip yX8_flip) ∈ lw_tbl := tk_6 (i := 145) rfl
theorem wm_1455 : (Cond.methodLink "AppealsDownLaw" (161) yX8_margin) ∈ lw_tbl := tk_6 (i := 147) rfl
theorem wm_1456 : (Cond.instanceMethod yX8_margin) ∈ lw_tbl := tk_6 (i := 148) rfl
theorem wm_1457 : (Cond.selects "AppealsDownModel" yX8_margin yX8_margin) ∈ lw_tbl := tk_6 (i := 149) rfl
theorem wm_1464 : (Cond.methodLink "AppealsDownLaw" (165) yX8_beats) ∈ lw_tbl := tk_6 (i := 156) rfl
theorem wm_1465 : (Cond.instanceMethod yX8_beats) ∈ lw_tbl := tk_6 (i := 157) rfl
theorem wm_1466 : (Cond.selects "AppealsDownModel" yX8_beats yX8_beats) ∈ lw_tbl := tk_6 (i := 158) rfl
theorem wm_1468 : (Cond.methodLink "AppealsDownLaw" (169) yX8_commute) ∈ lw_tbl := tk_6 (i := 160) rfl
theorem wm_1469 : (Cond.instanceMethod yX8_commute) ∈ lw_tbl := tk_6 (i := 161) rfl
theorem wm_1470 : (Cond.selects "AppealsDownModel" yX8_commute yX8_commute) ∈ lw_tbl := tk_6 (i := 162) rfl
theorem wm_1472 : (Cond.methodLink "AppealsDownLaw" (173) yX8_again) ∈ lw_tbl := tk_6 (i := 164) rfl
theorem wm_1473 : (Cond.instanceMethod yX8_again) ∈ lw_tbl := tk_6 (i := 165) rfl
theorem wm_1474 : (Cond.selects "AppealsDownModel" yX8_again yX8_again) ∈ lw_tbl := tk_6 (i := 166) rfl
theorem wm_1480 : (Cond.methodLink "AppealsDownLaw" (177) yX8_bestLowest) ∈ lw_tbl := tk_6 (i := 172) rfl
theorem wm_1481 : (Cond.instanceMethod yX8_bestLowest) ∈ lw_tbl := tk_6 (i := 173) rfl
theorem wm_1482 : (Cond.selects "AppealsDownModel" yX8_bestLowest yX8_bestLowest) ∈ lw_tbl := tk_6 (i := 174) rfl
theorem wm_1484 : (Cond.methodLink "AppealsDownLaw" (181) yX8_peak) ∈ lw_tbl := tk_6 (i := 176) rfl
theorem wm_1485 : (Cond.instanceMethod yX8_peak) ∈ lw_tbl := tk_6 (i := 177) rfl
theorem wm_1486 : (Cond.selects "AppealsDownModel" yX8_peak yX8_peak) ∈ lw_tbl := tk_6 (i := 178) rfl
theorem wm_1488 : (Cond.methodLink "AppealsDownLaw" (185) yX8_fullStake) ∈ lw_tbl := tk_6 (i := 180) rfl
theorem wm_1489 : (Cond.instanceMethod yX8_fullStake) ∈ lw_tbl := tk_6 (i := 181) rfl
theorem wm_1490 : (Cond.selects "AppealsDownModel" yX8_fullStake yX8_fullStake) ∈ lw_tbl := tk_6 (i := 182) rfl
theorem wm_1492 : (Cond.methodLink "AppealsDownLaw" (189) yX8_heard) ∈ lw_tbl := tk_6 (i := 184) rfl
theorem wm_1493 : (Cond.instanceMethod yX8_heard) ∈ lw_tbl := tk_6 (i := 185) rfl
theorem wm_1494 : (Cond.selects "AppealsDownModel" yX8_heard yX8_heard) ∈ lw_tbl := tk_6 (i := 186) rfl
theorem wm_1496 : (Cond.methodLink "AppealsDownLaw" (193) yX8_lastSay) ∈ lw_tbl := tk_6 (i := 188) rfl
theorem wm_1497 : (Cond.instanceMethod yX8_lastSay) ∈ lw_tbl := tk_6 (i := 189) rfl
theorem wm_1498 : (Cond.selects "AppealsDownModel" yX8_lastSay yX8_lastSay) ∈ lw_tbl := tk_6 (i := 190) rfl
theorem wm_1500 : (Cond.methodLink "AppealsDownLaw" (197) yX8_row) ∈ lw_tbl := tk_6 (i := 192) rfl
theorem wm_1501 : (Cond.instanceMethod yX8_row) ∈ lw_tbl := tk_6 (i := 193) rfl
theorem wm_1502 : (Cond.selects "AppealsDownModel" yX8_row yX8_row) ∈ lw_tbl := tk_6 (i := 194) rfl
theorem wm_1504 : (Cond.methodLink "AppealsDownLaw" (201) yX8_judge) ∈ lw_tbl := tk_6 (i := 196) rfl
theorem wm_1505 : (Cond.instanceMethod yX8_judge) ∈ lw_tbl := tk_6 (i := 197) rfl
theorem wm_1506 : (Cond.selects "AppealsDownModel" yX8_judge yX8_judge) ∈ lw_tbl := tk_6 (i := 198) rfl
theorem wm_1508 : (Cond.methodLink "AppealsDownLaw" (205) yX8_clear) ∈ lw_tbl := tk_6 (i := 200) rfl
theorem wm_1509 : (Cond.instanceMethod yX8_clear) ∈ lw_tbl := tk_6 (i := 201) rfl
theorem wm_1510 : (Cond.selects "AppealsDownModel" yX8_clear yX8_clear) ∈ lw_tbl := tk_6 (i := 202) rfl
theorem wm_1512 : (Cond.methodLink "AppealsDownLaw" (209) yX8_lots) ∈ lw_tbl := tk_6 (i := 204) rfl
theorem wm_1513 : (Cond.instanceMethod yX8_lots) ∈ lw_tbl := tk_6 (i := 205) rfl
theorem wm_1514 : (Cond.selects "AppealsDownModel" yX8_lots yX8_lots) ∈ lw_tbl := tk_6 (i := 206) rfl
theorem wm_1519 : (Cond.methodLink "AppealsDownLaw" (221) yX8_count) ∈ lw_tbl := tk_6 (i := 211) rfl
theorem wm_1520 : (Cond.instanceMethod yX8_count) ∈ lw_tbl := tk_6 (i := 212) rfl
theorem wm_1521 : (Cond.selects "AppealsDownModel" yX8_count yX8_count) ∈ lw_tbl := tk_6 (i := 213) rfl
theorem wm_377 : (Cond.methodLink "java/lang/String" (335) yJ0_coder_7d493) ∈ lw_tbl := tk_2 (i := 29) rfl
theorem wm_378 : (Cond.instanceMethod yJ0_coder_7d493) ∈ lw_tbl := tk_2 (i := 30) rfl
theorem wm_379 : (Cond.selects "java/lang/String" yJ0_coder_7d493 yJ0_coder_7d493) ∈ lw_tbl := tk_2 (i := 31) rfl
theorem wm_400 : (Cond.methodLink "java/lang/String" (492) yJ0_isLatin1_aae02) ∈ lw_tbl := tk_2 (i := 52) rfl
theorem wm_401 : (Cond.instanceMethod yJ0_isLatin1_aae02) ∈ lw_tbl := tk_2 (i := 53) rfl
theorem wm_402 : (Cond.selects "java/lang/String" yJ0_isLatin1_aae02 yJ0_isLatin1_aae02) ∈ lw_tbl := tk_2 (i := 54) rfl
theorem wm_404 : (Cond.methodLink "java/lang/String" (495) yJ1_charAt_3b067) ∈ lw_tbl := tk_2 (i := 56) rfl
theorem wm_405 : (Cond.static yJ1_charAt_3b067) ∈ lw_tbl := tk_2 (i := 57) rfl
theorem wm_412 : (Cond.methodLink "java/lang/String" (1059) yJ3_checkIndex_8e157) ∈ lw_tbl := tk_2 (i := 64) rfl
theorem wm_413 : (Cond.static yJ3_checkIndex_8e157) ∈ lw_tbl := tk_2 (i := 65) rfl
theorem wm_407 : (Cond.methodLink "java/lang/StringLatin1" (9) yJ0_checkIndex_df160) ∈ lw_tbl := tk_2 (i := 59) rfl
theorem wm_408 : (Cond.static yJ0_checkIndex_df160) ∈ lw_tbl := tk_2 (i := 60) rfl
theorem wm_1525 : (Cond.fieldLink "java/lang/String" (9) "java/lang/String" "value" "[B") ∈ lw_tbl := tk_6 (i := 217) rfl
theorem wm_1526 : (Cond.fieldLink "java/lang/String" (15) "java/lang/String" "coder" "B") ∈ lw_tbl := tk_6 (i := 218) rfl
theorem wm_381 : (Cond.fieldLink "java/lang/String" (38) "java/lang/String" "COMPACT_STRINGS" "Z") ∈ lw_tbl := tk_2 (i := 33) rfl
theorem wm_410 : (Cond.fieldLink "java/lang/String" (1053) "jdk/internal/util/Preconditions" "SIOOBE_FORMATTER" "Ljava/util/function/BiFunction;") ∈ lw_tbl := tk_2 (i := 62) rfl
theorem wm_524 : (Cond.constant "AppealsDown" (241) (1000000000)) ∈ lw_tbl := tk_2 (i := 176) rfl
theorem wm_715 : (Cond.constant "java/lang/Integer" (265) (1431655765)) ∈ lw_tbl := tk_3 (i := 127) rfl
theorem wm_716 : (Cond.constant "java/lang/Integer" (266) (858993459)) ∈ lw_tbl := tk_3 (i := 128) rfl
theorem wm_717 : (Cond.constant "java/lang/Integer" (267) (252645135)) ∈ lw_tbl := tk_3 (i := 129) rfl
theorem wm_722 : (Cond.constant "AppealsDown" (240) (-1000000000)) ∈ lw_tbl := tk_3 (i := 134) rfl
theorem wm_947 : (Cond.constant "AppealsDown" (338) (1103515245)) ∈ lw_tbl := tk_4 (i := 119) rfl
theorem wm_948 : (Cond.constant "AppealsDown" (339) (2147483647)) ∈ lw_tbl := tk_4 (i := 120) rfl
theorem wm_949 : (Cond.constant "AppealsDown" (340) (65536)) ∈ lw_tbl := tk_4 (i := 121) rfl
theorem wm_1192 : (Cond.constant "AppealsDownModel" (239) (1000000000)) ∈ lw_tbl := tk_5 (i := 124) rfl
theorem wm_1516 : (Cond.constant "AppealsDownModel" (342) (1103515245)) ∈ lw_tbl := tk_6 (i := 208) rfl
theorem wm_1517 : (Cond.constant "AppealsDownModel" (343) (2147483647)) ∈ lw_tbl := tk_6 (i := 209) rfl
theorem wm_1518 : (Cond.constant "AppealsDownModel" (344) (65536)) ∈ lw_tbl := tk_6 (i := 210) rfl
theorem wm_669 : (Cond.constantLong "AppealsDown$Points" (54) (19)) ∈ lw_tbl := tk_3 (i := 81) rfl
theorem wm_670 : (Cond.constantLong "AppealsDown$Points" (56) (9)) ∈ lw_tbl := tk_3 (i := 82) rfl
theorem wm_792 : (Cond.constantLong "AppealsDown" (347) (4000000000000000000)) ∈ lw_tbl := tk_3 (i := 204) rfl
theorem wm_1138 : (Cond.constantLong "AppealsDownModel" (180) (48)) ∈ lw_tbl := tk_5 (i := 70) rfl
theorem wm_1139 : (Cond.constantLong "AppealsDownModel" (182) (57)) ∈ lw_tbl := tk_5 (i := 71) rfl
theorem wm_1159 : (Cond.constantLong "AppealsDownModel" (197) (8)) ∈ lw_tbl := tk_5 (i := 91) rfl
theorem wm_1184 : (Cond.constantLong "AppealsDownModel" (233) (2)) ∈ lw_tbl := tk_5 (i := 116) rfl
theorem wm_1201 : (Cond.constantLong "AppealsDownModel" (243) (5)) ∈ lw_tbl := tk_5 (i := 133) rfl
theorem wm_1214 : (Cond.constantLong "AppealsDownModel" (245) (9)) ∈ lw_tbl := tk_5 (i := 146) rfl
theorem wm_1215 : (Cond.constantLong "AppealsDownModel" (247) (7)) ∈ lw_tbl := tk_5 (i := 147) rfl
theorem wm_1298 : (Cond.constantLong "AppealsDownModel" (271) (3)) ∈ lw_tbl := tk_5 (i := 230) rfl
theorem wm_1396 : (Cond.constantLong "AppealsDownModel" (315) (4000000000000000000)) ∈ lw_tbl := tk_6 (i := 88) rfl
theorem wm_1463 : (Cond.constantLong "AppealsDownModel" (333) (-9)) ∈ lw_tbl := tk_6 (i := 155) rfl
theorem wm_1523 : (Cond.constantLong "AppealsDownModel" (345) (11)) ∈ lw_tbl := tk_6 (i := 215) rfl
theorem wm_1524 : (Cond.constantLong "AppealsDownModel" (347) (16)) ∈ lw_tbl := tk_6 (i := 216) rfl
theorem wm_125 : (Cond.classLink "AppealsDownLaw" (7) "AppealsDown") ∈ lw_tbl := tk_1 (i := 17) rfl
theorem wm_126 : (Cond.instantiable "AppealsDown" (17)) ∈ lw_tbl := tk_1 (i := 18) rfl
theorem wm_133 : (Cond.classLink "AppealsDown" (7) "AppealsDown$Suit") ∈ lw_tbl := tk_1 (i := 25) rfl
theorem wm_134 : (Cond.instantiable "AppealsDown$Suit" (7)) ∈ lw_tbl := tk_1 (i := 26) rfl
theorem wm_139 : (Cond.classLink "AppealsDown$Suit" (25) "AppealsDown$Points") ∈ lw_tbl := tk_1 (i := 31) rfl
theorem wm_140 : (Cond.instantiable "AppealsDown$Points" (2)) ∈ lw_tbl := tk_1 (i := 32) rfl
theorem wm_191 : (Cond.classLink "AppealsDown" (26) "AppealsDown$Letters") ∈ lw_tbl := tk_1 (i := 83) rfl
theorem wm_192 : (Cond.instantiable "AppealsDown$Letters" (2)) ∈ lw_tbl := tk_1 (i := 84) rfl
theorem wm_205 : (Cond.classLink "AppealsDown" (33) "AppealsDown$Changes") ∈ lw_tbl := tk_1 (i := 97) rfl
theorem wm_206 : (Cond.instantiable "AppealsDown$Changes" (4)) ∈ lw_tbl := tk_1 (i := 98) rfl
theorem wm_225 : (Cond.classLink "AppealsDown" (51) "AppealsDown$Points") ∈ lw_tbl := tk_1 (i := 117) rfl
theorem wm_227 : (Cond.classLink "AppealsDown" (64) "AppealsDown$Weighing") ∈ lw_tbl := tk_1 (i := 119) rfl
theorem wm_228 : (Cond.instantiable "AppealsDown$Weighing" (6)) ∈ lw_tbl := tk_1 (i := 120) rfl
theorem wm_258 : (Cond.classLink "AppealsDown" (71) "AppealsDown$Seen") ∈ lw_tbl := tk_1 (i := 150) rfl
theorem wm_259 : (Cond.instantiable "AppealsDown$Seen" (3)) ∈ lw_tbl := tk_1 (i := 151) rfl
theorem wm_277 : (Cond.classLink "AppealsDown" (78) "AppealsDown$Going") ∈ lw_tbl := tk_1 (i := 169) rfl
theorem wm_278 : (Cond.instantiable "AppealsDown$Going" (3)) ∈ lw_tbl := tk_1 (i := 170) rfl
theorem wm_963 : (Cond.classLink "AppealsDownLaw" (10) "AppealsDownModel") ∈ lw_tbl := tk_4 (i := 135) rfl
theorem wm_964 : (Cond.instantiable "AppealsDownModel" (47)) ∈ lw_tbl := tk_4 (i := 136) rfl
theorem wm_130 : (Cond.methodLink "AppealsDown" (1) Lib.objectInit) ∈ lw_tbl := tk_1 (i := 22) rfl
theorem wm_138 : (Cond.methodLink "AppealsDown$Suit" (3) Lib.objectInit) ∈ lw_tbl := tk_1 (i := 30) rfl
theorem wm_144 : (Cond.methodLink "AppealsDown$Points" (3) Lib.objectInit) ∈ lw_tbl := tk_1 (i := 36) rfl
theorem wm_196 : (Cond.methodLink "AppealsDown$Letters" (3) Lib.objectInit) ∈ lw_tbl := tk_1 (i := 88) rfl
theorem wm_210 : (Cond.methodLink "AppealsDown$Changes" (3) Lib.objectInit) ∈ lw_tbl := tk_1 (i := 102) rfl
theorem wm_232 : (Cond.methodLink "AppealsDown$Weighing" (3) Lib.objectInit) ∈ lw_tbl := tk_1 (i := 124) rfl
theorem wm_263 : (Cond.methodLink "AppealsDown$Seen" (3) Lib.objectInit) ∈ lw_tbl := tk_1 (i := 155) rfl
theorem wm_282 : (Cond.methodLink "AppealsDown$Going" (3) Lib.objectInit) ∈ lw_tbl := tk_1 (i := 174) rfl
theorem wm_968 : (Cond.methodLink "AppealsDownModel" (1) Lib.objectInit) ∈ lw_tbl := tk_4 (i := 140) rfl
theorem wm_131 : (Cond.instanceMethod Lib.objectInit) ∈ lw_tbl := tk_1 (i := 23) rfl
theorem wm_132 : (Cond.code Lib.objectInit ⟨#[0xb1]⟩ 1 none) ∈ lw_tbl := tk_1 (i := 24) rfl
theorem wm_441 : (Cond.methodLink "AppealsDown$Suit" (38) arraycopyName) ∈ lw_tbl := tk_2 (i := 93) rfl
theorem wm_448 : (Cond.methodLink "AppealsDown$Points" (40) arraycopyName) ∈ lw_tbl := tk_2 (i := 100) rfl
theorem wm_819 : (Cond.methodLink "AppealsDown" (365) arraycopyName) ∈ lw_tbl := tk_3 (i := 231) rfl
theorem wm_483 : (Cond.methodLink "AppealsDown$Points" (23) yJ9_min_7cf53) ∈ lw_tbl := tk_2 (i := 135) rfl
theorem wm_486 : (Cond.methodLink "AppealsDown$Points" (29) yJ9_max_7cf53) ∈ lw_tbl := tk_2 (i := 138) rfl
theorem wm_647 : (Cond.methodLink "AppealsDown$Suit" (70) yJ9_max_7cf53) ∈ lw_tbl := tk_3 (i := 59) rfl
theorem wm_726 : (Cond.methodLink "AppealsDown" (359) yJ9_min_7cf53) ∈ lw_tbl := tk_3 (i := 138) rfl
theorem wm_727 : (Cond.methodLink "AppealsDown" (362) yJ9_max_7cf53) ∈ lw_tbl := tk_3 (i := 139) rfl
theorem wm_844 : (Cond.methodLink "AppealsDown" (303) yJ9_abs_0f7a4) ∈ lw_tbl := tk_4 (i := 16) rfl
theorem wm_487 : (Cond.static yJ9_max_7cf53) ∈ lw_tbl := tk_2 (i := 139) rfl
theorem wm_484 : (Cond.static yJ9_min_7cf53) ∈ lw_tbl := tk_2 (i := 136) rfl
theorem wm_845 : (Cond.static yJ9_abs_0f7a4) ∈ lw_tbl := tk_4 (i := 17) rfl
theorem wm_123 : (Cond.initialized "java/lang/Math") ∈ lw_tbl := tk_1 (i := 15) rfl
theorem wm_443 : (Cond.native arraycopyName) ∈ lw_tbl := tk_2 (i := 95) rfl
theorem wm_442 : (Cond.static arraycopyName) ∈ lw_tbl := tk_2 (i := 94) rfl
theorem wm_122 : (Cond.initialized "java/lang/System") ∈ lw_tbl := tk_1 (i := 14) rfl
theorem wm_216 : (Cond.laysFinal "AppealsDown$Changes" "AppealsDown$Changes" "whats" "[I") ∈ lw_tbl := tk_1 (i := 108) rfl
theorem wm_218 : (Cond.laysFinal "AppealsDown$Changes" "AppealsDown$Changes" "wheres" "[I") ∈ lw_tbl := tk_1 (i := 110) rfl
theorem wm_220 : (Cond.laysFinal "AppealsDown$Changes" "AppealsDown$Changes" "olds" "[I") ∈ lw_tbl := tk_1 (i := 112) rfl
theorem wm_222 : (Cond.lays "AppealsDown$Changes" "AppealsDown$Changes" "many" "I") ∈ lw_tbl := tk_1 (i := 114) rfl
theorem wm_289 : (Cond.lays "AppealsDown$Going" "AppealsDown$Going" "ended" "Z") ∈ lw_tbl := tk_1 (i := 181) rfl
theorem wm_291 : (Cond.lays "AppealsDown$Going" "AppealsDown$Going" "gone" "I") ∈ lw_tbl := tk_1 (i := 183) rfl
theorem wm_293 : (Cond.lays "AppealsDown$Going" "AppealsDown$Going" "circle" "I") ∈ lw_tbl := tk_1 (i := 185) rfl
theorem wm_200 : (Cond.laysFinal "AppealsDown$Letters" "AppealsDown$Letters" "signs" "[I") ∈ lw_tbl := tk_1 (i := 92) rfl
theorem wm_202 : (Cond.lays "AppealsDown$Letters" "AppealsDown$Letters" "many" "I") ∈ lw_tbl := tk_1 (i := 94) rfl
theorem wm_148 : (Cond.laysFinal "AppealsDown$Points" "AppealsDown$Points" "numbers" "[I") ∈ lw_tbl := tk_1 (i := 40) rfl
theorem wm_150 : (Cond.lays "AppealsDown$Points" "AppealsDown$Points" "many" "I") ∈ lw_tbl := tk_1 (i := 42) rfl
theorem wm_269 : (Cond.laysFinal "AppealsDown$Seen" "AppealsDown$Seen" "all" "[J") ∈ lw_tbl := tk_1 (i := 161) rfl
theorem wm_271 : (Cond.laysFinal "AppealsDown$Seen" "AppealsDown$Seen" "whens" "[I") ∈ lw_tbl := tk_1 (i := 163) rfl
theorem wm_273 : (Cond.lays "AppealsDown$Seen" "AppealsDown$Seen" "many" "I") ∈ lw_tbl := tk_1 (i := 165) rfl
theorem wm_176 : (Cond.laysFinal "AppealsDown$Suit" "AppealsDown$Suit" "kinds" "[I") ∈ lw_tbl := tk_1 (i := 68) rfl
theorem wm_178 : (Cond.laysFinal "AppealsDown$Suit" "AppealsDown$Suit" "figures" "[I") ∈ lw_tbl := tk_1 (i := 70) rfl
theorem wm_180 : (Cond.laysFinal "AppealsDown$Suit" "AppealsDown$Suit" "costs" "[I") ∈ lw_tbl := tk_1 (i := 72) rfl
theorem wm_182 : (Cond.lays "AppealsDown$Suit" "AppealsDown$Suit" "courts" "I") ∈ lw_tbl := tk_1 (i := 74) rfl
theorem wm_184 : (Cond.laysFinal "AppealsDown$Suit" "AppealsDown$Suit" "points" "LAppealsDown$Points;") ∈ lw_tbl := tk_1 (i := 76) rfl
theorem wm_186 : (Cond.lays "AppealsDown$Suit" "AppealsDown$Suit" "stake" "I") ∈ lw_tbl := tk_1 (i := 78) rfl
theorem wm_188 : (Cond.lays "AppealsDown$Suit" "AppealsDown$Suit" "length" "I") ∈ lw_tbl := tk_1 (i := 80) rfl
theorem wm_244 : (Cond.laysFinal "AppealsDown$Weighing" "AppealsDown$Weighing" "forBehind" "[Z") ∈ lw_tbl := tk_1 (i := 136) rfl
theorem wm_246 : (Cond.laysFinal "AppealsDown$Weighing" "AppealsDown$Weighing" "goesOn" "[Z") ∈ lw_tbl := tk_1 (i := 138) rfl
theorem wm_248 : (Cond.laysFinal "AppealsDown$Weighing" "AppealsDown$Weighing" "endsFor" "[Z") ∈ lw_tbl := tk_1 (i := 140) rfl
theorem wm_250 : (Cond.laysFinal "AppealsDown$Weighing" "AppealsDown$Weighing" "paysFor" "[I") ∈ lw_tbl := tk_1 (i := 142) rfl
theorem wm_252 : (Cond.laysFinal "AppealsDown$Weighing" "AppealsDown$Weighing" "paysAgainst" "[I") ∈ lw_tbl := tk_1 (i := 144) rfl
theorem wm_254 : (Cond.lays "AppealsDown$Weighing" "AppealsDown$Weighing" "courts" "I") ∈ lw_tbl := tk_1 (i := 146) rfl
theorem wm_313 : (Cond.laysFinal "AppealsDown" "AppealsDown" "now" "LAppealsDown$Suit;") ∈ lw_tbl := tk_1 (i := 205) rfl
theorem wm_315 : (Cond.laysFinal "AppealsDown" "AppealsDown" "trial" "LAppealsDown$Suit;") ∈ lw_tbl := tk_1 (i := 207) rfl
theorem wm_317 : (Cond.laysFinal "AppealsDown" "AppealsDown" "taken" "LAppealsDown$Suit;") ∈ lw_tbl := tk_1 (i := 209) rfl
theorem wm_319 : (Cond.lays "AppealsDown" "AppealsDown" "isTaken" "Z") ∈ lw_tbl := tk_1 (i := 211) rfl
theorem wm_321 : (Cond.laysFinal "AppealsDown" "AppealsDown" "letters" "LAppealsDown$Letters;") ∈ lw_tbl := tk_1 (i := 213) rfl
theorem wm_323 : (Cond.laysFinal "AppealsDown" "AppealsDown" "changes" "LAppealsDown$Changes;") ∈ lw_tbl := tk_1 (i := 215) rfl
theorem wm_325 : (Cond.laysFinal "AppealsDown" "AppealsDown" "told" "[I") ∈ lw_tbl := tk_1 (i := 217) rfl
theorem wm_327 : (Cond.lays "AppealsDown" "AppealsDown" "toldMany" "I") ∈ lw_tbl := tk_1 (i := 219) rfl
theorem wm_329 : (Cond.laysFinal "AppealsDown" "AppealsDown" "refusals" "[I") ∈ lw_tbl := tk_1 (i := 221) rfl
theorem wm_331 : (Cond.laysFinal "AppealsDown" "AppealsDown" "stand" "LAppealsDown$Points;") ∈ lw_tbl := tk_1 (i := 223) rfl
theorem wm_333 : (Cond.laysFinal "AppealsDown" "AppealsDown" "begun" "LAppealsDown$Points;") ∈ lw_tbl := tk_1 (i := 225) rfl
theorem wm_335 : (Cond.laysFinal "AppealsDown" "AppealsDown" "other" "LAppealsDown$Points;") ∈ lw_tbl := tk_1 (i := 227) rfl
theorem wm_337 : (Cond.laysFinal "AppealsDown" "AppealsDown" "weighing" "LAppealsDown$Weighing;") ∈ lw_tbl := tk_1 (i := 229) rfl
theorem wm_339 : (Cond.laysFinal "AppealsDown" "AppealsDown" "seen" "LAppealsDown$Seen;") ∈ lw_tbl := tk_1 (i := 231) rfl
theorem wm_341 : (Cond.laysFinal "AppealsDown" "AppealsDown" "going" "LAppealsDown$Going;") ∈ lw_tbl := tk_1 (i := 233) rfl
theorem wm_343 : (Cond.laysFinal "AppealsDown" "AppealsDown" "places" "[I") ∈ lw_tbl := tk_1 (i := 235) rfl
theorem wm_345 : (Cond.laysFinal "AppealsDown" "AppealsDown" "bestPlaces" "[I") ∈ lw_tbl := tk_1 (i := 237) rfl
theorem wm_1016 : (Cond.lays "AppealsDownModel" "AppealsDownModel" "courts" "I") ∈ lw_tbl := tk_4 (i := 188) rfl
theorem wm_1018 : (Cond.laysFinal "AppealsDownModel" "AppealsDownModel" "kinds" "[I") ∈ lw_tbl := tk_4 (i := 190) rfl
theorem wm_1020 : (Cond.laysFinal "AppealsDownModel" "AppealsDownModel" "figures" "[I") ∈ lw_tbl := tk_4 (i := 192) rfl
theorem wm_1022 : (Cond.laysFinal "AppealsDownModel" "AppealsDownModel" "costs0" "[I") ∈ lw_tbl := tk_4 (i := 194) rfl
theorem wm_1024 : (Cond.lays "AppealsDownModel" "AppealsDownModel" "many" "I") ∈ lw_tbl := tk_4 (i := 196) rfl
theorem wm_1026 : (Cond.laysFinal "AppealsDownModel" "AppealsDownModel" "points" "[I") ∈ lw_tbl := tk_4 (i := 198) rfl
theorem wm_1028 : (Cond.lays "AppealsDownModel" "AppealsDownModel" "stake" "I") ∈ lw_tbl := tk_4 (i := 200) rfl
theorem wm_1030 : (Cond.lays "AppealsDownModel" "AppealsDownModel" "length" "I") ∈ lw_tbl := tk_4 (i := 202) rfl
theorem wm_1032 : (Cond.lays "AppealsDownModel" "AppealsDownModel" "thrown" "I") ∈ lw_tbl := tk_4 (i := 204) rfl
theorem wm_1034 : (Cond.laysFinal "AppealsDownModel" "AppealsDownModel" "refusals" "[I") ∈ lw_tbl := tk_4 (i := 206) rfl
theorem wm_1036 : (Cond.laysFinal "AppealsDownModel" "AppealsDownModel" "now" "[I") ∈ lw_tbl := tk_4 (i := 208) rfl
theorem wm_1038 : (Cond.lays "AppealsDownModel" "AppealsDownModel" "nowMany" "I") ∈ lw_tbl := tk_4 (i := 210) rfl
theorem wm_1040 : (Cond.laysFinal "AppealsDownModel" "AppealsDownModel" "letters" "[I") ∈ lw_tbl := tk_4 (i := 212) rfl
theorem wm_1042 : (Cond.lays "AppealsDownModel" "AppealsDownModel" "letterMany" "I") ∈ lw_tbl := tk_4 (i := 214) rfl
theorem wm_1044 : (Cond.lays "AppealsDownModel" "AppealsDownModel" "at" "I") ∈ lw_tbl := tk_4 (i := 216) rfl
theorem wm_1046 : (Cond.lays "AppealsDownModel" "AppealsDownModel" "isBad" "Z") ∈ lw_tbl := tk_4 (i := 218) rfl
theorem wm_1048 : (Cond.lays "AppealsDownModel" "AppealsDownModel" "statements" "I") ∈ lw_tbl := tk_4 (i := 220) rfl
theorem wm_1050 : (Cond.laysFinal "AppealsDownModel" "AppealsDownModel" "placeIn" "[I") ∈ lw_tbl := tk_4 (i := 222) rfl
theorem wm_1052 : (Cond.laysFinal "AppealsDownModel" "AppealsDownModel" "letterOf" "[I") ∈ lw_tbl := tk_4 (i := 224) rfl
theorem wm_1054 : (Cond.laysFinal "AppealsDownModel" "AppealsDownModel" "told" "[I") ∈ lw_tbl := tk_4 (i := 226) rfl
theorem wm_1056 : (Cond.laysFinal "AppealsDownModel" "AppealsDownModel" "kept" "[I") ∈ lw_tbl := tk_4 (i := 228) rfl
theorem wm_1058 : (Cond.laysFinal "AppealsDownModel" "AppealsDownModel" "imaged" "[I") ∈ lw_tbl := tk_4 (i := 230) rfl
theorem wm_1060 : (Cond.lays "AppealsDownModel" "AppealsDownModel" "hasImage" "Z") ∈ lw_tbl := tk_4 (i := 232) rfl
theorem wm_1062 : (Cond.lays "AppealsDownModel" "AppealsDownModel" "place0" "I") ∈ lw_tbl := tk_4 (i := 234) rfl
theorem wm_1064 : (Cond.lays "AppealsDownModel" "AppealsDownModel" "isTaking" "Z") ∈ lw_tbl := tk_4 (i := 236) rfl
theorem wm_1066 : (Cond.lays "AppealsDownModel" "AppealsDownModel" "keptIn" "[I") ∈ lw_tbl := tk_4 (i := 238) rfl
theorem wm_1068 : (Cond.laysFinal "AppealsDownModel" "AppealsDownModel" "turns0" "[I") ∈ lw_tbl := tk_5 (i := 0) rfl
theorem wm_1070 : (Cond.laysFinal "AppealsDownModel" "AppealsDownModel" "turnOf" "[I") ∈ lw_tbl := tk_5 (i := 2) rfl
theorem wm_1072 : (Cond.lays "AppealsDownModel" "AppealsDownModel" "turned" "I") ∈ lw_tbl := tk_5 (i := 4) rfl
theorem wm_1074 : (Cond.lays "AppealsDownModel" "AppealsDownModel" "roundCourts" "I") ∈ lw_tbl := tk_5 (i := 6) rfl
theorem wm_1076 : (Cond.lays "AppealsDownModel" "AppealsDownModel" "roundWhen" "I") ∈ lw_tbl := tk_5 (i := 8) rfl
theorem wm_1078 : (Cond.laysFinal "AppealsDownModel" "AppealsDownModel" "comings" "[I") ∈ lw_tbl := tk_5 (i := 10) rfl
theorem wm_1080 : (Cond.laysFinal "AppealsDownModel" "AppealsDownModel" "comingAt" "[I") ∈ lw_tbl := tk_5 (i := 12) rfl
theorem wm_1082 : (Cond.lays "AppealsDownModel" "AppealsDownModel" "comingMany" "I") ∈ lw_tbl := tk_5 (i := 14) rfl
theorem wm_1084 : (Cond.laysFinal "AppealsDownModel" "AppealsDownModel" "forBehind" "[Z") ∈ lw_tbl := tk_5 (i := 16) rfl
theorem wm_1086 : (Cond.laysFinal "AppealsDownModel" "AppealsDownModel" "goesOn" "[Z") ∈ lw_tbl := tk_5 (i := 18) rfl
theorem wm_1088 : (Cond.laysFinal "AppealsDownModel" "AppealsDownModel" "forInTheEnd" "[Z") ∈ lw_tbl := tk_5 (i := 20) rfl
theorem wm_1090 : (Cond.laysFinal "AppealsDownModel" "AppealsDownModel" "paysFor" "[I") ∈ lw_tbl := tk_5 (i := 22) rfl
theorem wm_1092 : (Cond.laysFinal "AppealsDownModel" "AppealsDownModel" "paysAgainst" "[I") ∈ lw_tbl := tk_5 (i := 24) rfl
theorem wm_1094 : (Cond.laysFinal "AppealsDownModel" "AppealsDownModel" "changes" "[I") ∈ lw_tbl := tk_5 (i := 26) rfl
theorem wm_1096 : (Cond.laysFinal "AppealsDownModel" "AppealsDownModel" "row" "[I") ∈ lw_tbl := tk_5 (i := 28) rfl
theorem wm_1098 : (Cond.lays "AppealsDownModel" "AppealsDownModel" "rowMany" "I") ∈ lw_tbl := tk_5 (i := 30) rfl
theorem wm_1100 : (Cond.laysFinal "AppealsDownModel" "AppealsDownModel" "did" "[I") ∈ lw_tbl := tk_5 (i := 32) rfl
theorem wm_1102 : (Cond.laysFinal "AppealsDownModel" "AppealsDownModel" "order0" "[I") ∈ lw_tbl := tk_5 (i := 34) rfl
theorem wm_1104 : (Cond.laysFinal "AppealsDownModel" "AppealsDownModel" "alone" "[I") ∈ lw_tbl := tk_5 (i := 36) rfl
theorem wm_1106 : (Cond.laysFinal "AppealsDownModel" "AppealsDownModel" "stepsOf" "[I") ∈ lw_tbl := tk_5 (i := 38) rfl
theorem wm_1108 : (Cond.laysFinal "AppealsDownModel" "AppealsDownModel" "times" "[I") ∈ lw_tbl := tk_5 (i := 40) rfl
theorem wm_153 : (Cond.arrayClass FieldType.int) ∈ lw_tbl := tk_1 (i := 45) rfl
theorem wm_257 : (Cond.arrayClass FieldType.boolean) ∈ lw_tbl := tk_1 (i := 149) rfl
theorem wm_276 : (Cond.arrayClass FieldType.long) ∈ lw_tbl := tk_1 (i := 168) rfl
def FLt : List (Nat × Nat × Nat × Nat × Bool) := [(3, 9, 3, 0, false), (3, 15, 3, 1, false), (7, 155, 3, 1, true), (5, 9, 5, 0, false), (1, 58, 5, 0, true), (7, 109, 5, 0, true), (5, 15, 5, 1, false), (1, 62, 5, 1, true), (7, 112, 5, 1, true), (5, 18, 5, 2, false), (6, 57, 5, 2, true), (7, 115, 5, 2, true), (5, 21, 5, 3, false), (6, 32, 5, 3, true), (1, 47, 5, 3, true), (7, 152, 5, 3, true), (5, 28, 5, 4, false), (1, 22, 5, 4, true), (6, 35, 5, 4, true), (7, 118, 5, 4, true), (5, 32, 5, 5, false), (6, 60, 5, 5, true), (7, 156, 5, 5, true), (5, 35, 5, 6, false), (7, 159, 5, 6, true), (2, 9, 2, 0, false), (2, 15, 2, 1, false), (7, 95, 2, 1, true), (0, 9, 0, 0, false), (0, 15, 0, 1, false), (0, 18, 0, 2, false), (0, 21, 0, 3, false), (7, 166, 0, 3, true), (6, 9, 6, 0, false), (7, 276, 6, 0, true), (6, 15, 6, 1, false), (7, 273, 6, 1, true), (6, 18, 6, 2, false), (7, 218, 6, 2, true), (6, 21, 6, 3, false), (7, 222, 6, 3, true), (6, 25, 6, 4, false), (7, 225, 6, 4, true), (6, 28, 6, 5, false), (4, 9, 4, 0, false), (4, 15, 4, 1, false), (4, 19, 4, 2, false), (1, 34, 4, 2, true), (7, 320, 4, 2, true), (1, 9, 1, 0, false), (7, 205, 1, 0, true), (1, 15, 1, 1, false), (7, 208, 1, 1, true), (1, 19, 1, 2, false), (7, 202, 1, 2, true), (7, 10, 7, 0, false), (7, 16, 7, 1, false), (7, 19, 7, 2, false), (7, 22, 7, 3, false), (7, 29, 7, 4, false), (7, 36, 7, 5, false), (7, 40, 7, 6, false), (7, 44, 7, 7, false), (7, 48, 7, 8, false), (7, 54, 7, 9, false), (7, 58, 7, 10, false), (7, 61, 7, 11, false), (7, 67, 7, 12, false), (7, 74, 7, 13, false), (7, 81, 7, 14, false), (7, 85, 7, 15, false), (7, 88, 7, 16, false), (8, 108, 8, 0, false), (8, 7, 8, 1, false), (8, 13, 8, 2, false), (8, 16, 8, 3, false), (8, 19, 8, 4, false), (8, 23, 8, 5, false), (8, 26, 8, 6, false), (8, 29, 8, 7, false), (8, 105, 8, 8, false), (8, 32, 8, 9, false), (8, 35, 8, 10, false), (8, 115, 8, 11, false), (8, 38, 8, 12, false), (8, 167, 8, 13, false), (8, 170, 8, 14, false), (8, 173, 8, 15, false), (8, 184, 8, 16, false), (8, 41, 8, 17, false), (8, 44, 8, 18, false), (8, 47, 8, 19, false), (8, 50, 8, 20, false), (8, 53, 8, 21, false), (8, 227, 8, 22, false), (8, 221, 8, 23, false), (8, 215, 8, 24, false), (8, 218, 8, 25, false), (8, 56, 8, 26, false), (8, 59, 8, 27, false), (8, 212, 8, 28, false), (8, 265, 8, 29, false), (8, 259, 8, 30, false), (8, 62, 8, 31, false), (8, 65, 8, 32, false), (8, 256, 8, 33, false), (8, 68, 8, 34, false), (8, 72, 8, 35, false), (8, 75, 8, 36, false), (8, 78, 8, 37, false), (8, 81, 8, 38, false), (8, 84, 8, 39, false), (8, 87, 8, 40, false), (8, 312, 8, 41, false), (8, 90, 8, 42, false), (8, 93, 8, 43, false), (8, 96, 8, 44, false), (8, 99, 8, 45, false), (8, 102, 8, 46, false)]
def flk (o idx : Nat) : Option (Nat × Nat × Bool) := (FLt.find? (fun q => Nat.beq q.1 o && Nat.beq q.2.1 idx)).map (fun q => (q.2.2.1, q.2.2.2.1, q.2.2.2.2))
def flW (q : Nat × Nat × Nat × Nat × Bool) : Cond := if q.2.2.2.2 = true then .fieldLinkNest (oNm q.1) q.2.1 (cNm q.2.2.1) (cT q.2.2.1 q.2.2.2.1).2.1 (cT q.2.2.1 q.2.2.2.1).2.2.1 "AppealsDown" else .fieldLink (oNm q.1) q.2.1 (cNm q.2.2.1) (cT q.2.2.1 q.2.2.2.1).2.1 (cT q.2.2.1 q.2.2.2.1).2.2.1
theorem FL_ok : ∀ q ∈ FLt, flW q ∈ lw_tbl ∧ q.2.2.2.1 < cN q.2.2.1 ∧ q.2.2.1 < 9 := fa_cons (⟨wm_145, by decide, by decide⟩) (fa_cons (⟨wm_146, by decide, by decide⟩) (fa_cons (⟨wm_147, by decide, by decide⟩) (fa_cons (⟨wm_154, by decide, by decide⟩) (fa_cons (⟨wm_155, by decide, by decide⟩) (fa_cons (⟨wm_156, by decide, by decide⟩) (fa_cons (⟨wm_157, by decide, by decide⟩) (fa_cons (⟨wm_158, by decide, by decide⟩) (fa_cons (⟨wm_159, by decide, by decide⟩) (fa_cons (⟨wm_160, by decide, by decide⟩) (fa_cons (⟨wm_161, by decide, by decide⟩) (fa_cons (⟨wm_162, by decide, by decide⟩) (fa_cons (⟨wm_163, by decide, by decide⟩) (fa_cons (⟨wm_164, by decide, by decide⟩) (fa_cons (⟨wm_165, by decide, by decide⟩) (fa_cons (⟨wm_166, by decide, by decide⟩) (fa_cons (⟨wm_167, by decide, by decide⟩) (fa_cons (⟨wm_168, by decide, by decide⟩) (fa_cons (⟨wm_169, by decide, by decide⟩) (fa_cons (⟨wm_170, by decide, by decide⟩) (fa_cons (⟨wm_171, by decide, by decide⟩) (fa_cons (⟨wm_172, by decide, by decide⟩) (fa_cons (⟨wm_173, by decide, by decide⟩) (fa_cons (⟨wm_174, by decide, by decide⟩) (fa_cons (⟨wm_175, by decide, by decide⟩) (fa_cons (⟨wm_197, by decide, by decide⟩) (fa_cons (⟨wm_198, by decide, by decide⟩) (fa_cons (⟨wm_199, by decide, by decide⟩) (fa_cons (⟨wm_211, by decide, by decide⟩) (fa_cons (⟨wm_212, by decide, by decide⟩) (fa_cons (⟨wm_213, by decide, by decide⟩) (fa_cons (⟨wm_214, by decide, by decide⟩) (fa_cons (⟨wm_215, by decide, by decide⟩) (fa_cons (⟨wm_233, by decide, by decide⟩) (fa_cons (⟨wm_234, by decide, by decide⟩) (fa_cons (⟨wm_235, by decide, by decide⟩) (fa_cons (⟨wm_236, by decide, by decide⟩) (fa_cons (⟨wm_237, by decide, by decide⟩) (fa_cons (⟨wm_238, by decide, by decide⟩) (fa_cons (⟨wm_239, by decide, by decide⟩) (fa_cons (⟨wm_240, by decide, by decide⟩) (fa_cons (⟨wm_241, by decide, by decide⟩) (fa_cons (⟨wm_242, by decide, by decide⟩) (fa_cons (⟨wm_243, by decide, by decide⟩) (fa_cons (⟨wm_264, by decide, by decide⟩) (fa_cons (⟨wm_265, by decide, by decide⟩) (fa_cons (⟨wm_266, by decide, by decide⟩) (fa_cons (⟨wm_267, by decide, by decide⟩) (fa_cons (⟨wm_268, by decide, by decide⟩) (fa_cons (⟨wm_283, by decide, by decide⟩) (fa_cons (⟨wm_284, by decide, by decide⟩) (fa_cons (⟨wm_285, by decide, by decide⟩) (fa_cons (⟨wm_286, by decide, by decide⟩) (fa_cons (⟨wm_287, by decide, by decide⟩) (fa_cons (⟨wm_288, by decide, by decide⟩) (fa_cons (⟨wm_296, by decide, by decide⟩) (fa_cons (⟨wm_297, by decide, by decide⟩) (fa_cons (⟨wm_298, by decide, by decide⟩) (fa_cons (⟨wm_299, by decide, by decide⟩) (fa_cons (⟨wm_300, by decide, by decide⟩) (fa_cons (⟨wm_301, by decide, by decide⟩) (fa_cons (⟨wm_302, by decide, by decide⟩) (fa_cons (⟨wm_303, by decide, by decide⟩) (fa_cons (⟨wm_304, by decide, by decide⟩) (fa_cons (⟨wm_305, by decide, by decide⟩) (fa_cons (⟨wm_306, by decide, by decide⟩) (fa_cons (⟨wm_307, by decide, by decide⟩) (fa_cons (⟨wm_308, by decide, by decide⟩) (fa_cons (⟨wm_309, by decide, by decide⟩) (fa_cons (⟨wm_310, by decide, by decide⟩) (fa_cons (⟨wm_311, by decide, by decide⟩) (fa_cons (⟨wm_312, by decide, by decide⟩) (fa_cons (⟨wm_969, by decide, by decide⟩) (fa_cons (⟨wm_970, by decide, by decide⟩) (fa_cons (⟨wm_971, by decide, by decide⟩) (fa_cons (⟨wm_972, by decide, by decide⟩) (fa_cons (⟨wm_973, by decide, by decide⟩) (fa_cons (⟨wm_974, by decide, by decide⟩) (fa_cons (⟨wm_975, by decide, by decide⟩) (fa_cons (⟨wm_976, by decide, by decide⟩) (fa_cons (⟨wm_977, by decide, by decide⟩) (fa_cons (⟨wm_978, by decide, by decide⟩) (fa_cons (⟨wm_979, by decide, by decide⟩) (fa_cons (⟨wm_980, by decide, by decide⟩) (fa_cons (⟨wm_981, by decide, by decide⟩) (fa_cons (⟨wm_982, by decide, by decide⟩) (fa_cons (⟨wm_983, by decide, by decide⟩) (fa_cons (⟨wm_984, by decide, by decide⟩) (fa_cons (⟨wm_985, by decide, by decide⟩) (fa_cons (⟨wm_986, by decide, by decide⟩) (fa_cons (⟨wm_987, by decide, by decide⟩) (fa_cons (⟨wm_988, by decide, by decide⟩) (fa_cons (⟨wm_989, by decide, by decide⟩) (fa_cons (⟨wm_990, by decide, by decide⟩) (fa_cons (⟨wm_991, by decide, by decide⟩) (fa_cons (⟨wm_992, by decide, by decide⟩) (fa_cons (⟨wm_993, by decide, by decide⟩) (fa_cons (⟨wm_994, by decide, by decide⟩) (fa_cons (⟨wm_995, by decide, by decide⟩) (fa_cons (⟨wm_996, by decide, by decide⟩) (fa_cons (⟨wm_997, by decide, by decide⟩) (fa_cons (⟨wm_998, by decide, by decide⟩) (fa_cons (⟨wm_999, by decide, by decide⟩) (fa_cons (⟨wm_1000, by decide, by decide⟩) (fa_cons (⟨wm_1001, by decide, by decide⟩) (fa_cons (⟨wm_1002, by decide, by decide⟩) (fa_cons (⟨wm_1003, by decide, by decide⟩) (fa_cons (⟨wm_1004, by decide, by decide⟩) (fa_cons (⟨wm_1005, by decide, by decide⟩) (fa_cons (⟨wm_1006, by decide, by decide⟩) (fa_cons (⟨wm_1007, by decide, by decide⟩) (fa_cons (⟨wm_1008, by decide, by decide⟩) (fa_cons (⟨wm_1009, by decide, by decide⟩) (fa_cons (⟨wm_1010, by decide, by decide⟩) (fa_cons (⟨wm_1011, by decide, by decide⟩) (fa_cons (⟨wm_1012, by decide, by decide⟩) (fa_cons (⟨wm_1013, by decide, by decide⟩) (fa_cons (⟨wm_1014, by decide, by decide⟩) (fa_cons (⟨wm_1015, by decide, by decide⟩) (fa_nil)))))))))))))))))))))))))))))))))))))))))))))))))))))))))))))))))))))))))))))))))))))))))))))))))))))))))))))))))))))))
theorem fl_3_9 : flk 3 9 = some (3, 0, false) := rfl
theorem fl_3_15 : flk 3 15 = some (3, 1, false) := rfl
theorem fl_7_155 : flk 7 155 = some (3, 1, true) := rfl
theorem fl_5_9 : flk 5 9 = some (5, 0, false) := rfl
theorem fl_1_58 : flk 1 58 = some (5, 0, true) := rfl
theorem fl_7_109 : flk 7 109 = some (5, 0, true) := rfl
theorem fl_5_15 : flk 5 15 = some (5, 1, false) := rfl
theorem fl_1_62 : flk 1 62 = some (5, 1, true) := rfl
theorem fl_7_112 : flk 7 112 = some (5, 1, true) := rfl
theorem fl_5_18 : flk 5 18 = some (5, 2, false) := rfl
theorem fl_6_57 : flk 6 57 = some (5, 2, true) := rfl
theorem fl_7_115 : flk 7 115 = some (5, 2, true) := rfl
theorem fl_5_21 : flk 5 21 = some (5, 3, false) := rfl
theorem fl_6_32 : flk 6 32 = some (5, 3, true) := rfl
theorem fl_1_47 : flk 1 47 = some (5, 3, true) := rfl
theorem fl_7_152 : flk 7 152 = some (5, 3, true) := rfl
theorem fl_5_28 : flk 5 28 = some (5, 4, false) := rfl
theorem fl_1_22 : flk 1 22 = some (5, 4, true) := rfl
theorem fl_6_35 : flk 6 35 = some (5, 4, true) := rfl
theorem fl_7_118 : flk 7 118 = some (5, 4, true) := rfl
theorem fl_5_32 : flk 5 32 = some (5, 5, false) := rfl
theorem fl_6_60 : flk 6 60 = some (5, 5, true) := rfl
theorem fl_7_156 : flk 7 156 = some (5, 5, true) := rfl
theorem fl_5_35 : flk 5 35 = some (5, 6, false) := rfl
theorem fl_7_159 : flk 7 159 = some (5, 6, true) := rfl
theorem fl_2_9 : flk 2 9 = some (2, 0, false) := rfl
theorem fl_2_15 : flk 2 15 = some (2, 1, false) := rfl
theorem fl_7_95 : flk 7 95 = some (2, 1, true) := rfl
theorem fl_0_9 : flk 0 9 = some (0, 0, false) := rfl
theorem fl_0_15 : flk 0 15 = some (0, 1, false) := rfl
theorem fl_0_18 : flk 0 18 = some (0, 2, false) := rfl
theorem fl_0_21 : flk 0 21 = some (0, 3, false) := rfl
theorem fl_7_166 : flk 7 166 = some (0, 3, true) := rfl
theorem fl_6_9 : flk 6 9 = some (6, 0, false) := rfl
theorem fl_7_276 : flk 7 276 = some (6, 0, true) := rfl
theorem fl_6_15 : flk 6 15 = some (6, 1, false) := rfl
theorem fl_7_273 : flk 7 273 = some (6, 1, true) := rfl
theorem fl_6_18 : flk 6 18 = some (6, 2, false) := rfl
theorem fl_7_218 : flk 7 218 = some (6, 2, true) := rfl
theorem fl_6_21 : flk 6 21 = some (6, 3, false) := rfl
theorem fl_7_222 : flk 7 222 = some (6, 3, true) := rfl
theorem fl_6_25 : flk 6 25 = some (6, 4, false) := rfl
theorem fl_7_225 : flk 7 225 = some (6, 4, true) := rfl
theorem fl_6_28 : flk 6 28 = some (6, 5, false) := rfl
theorem fl_4_9 : flk 4 9 = some (4, 0, false) := rfl
theorem fl_4_15 : flk 4 15 = some (4, 1, false) := rfl
theorem fl_4_19 : flk 4 19 = some (4, 2, false) := rfl
theorem fl_1_34 : flk 1 34 = some (4, 2, true) := rfl
theorem fl_7_320 : flk 7 320 = some (4, 2, true) := rfl
theorem fl_1_9 : flk 1 9 = some (1, 0, false) := rfl
theorem fl_7_205 : flk 7 205 = some (1, 0, true) := rfl
theorem fl_1_15 : flk 1 15 = some (1, 1, false) := rfl
theorem fl_7_208 : flk 7 208 = some (1, 1, true) := rfl
theorem fl_1_19 : flk 1 19 = some (1, 2, false) := rfl
theorem fl_7_202 : flk 7 202 = some (1, 2, true) := rfl
theorem fl_7_10 : flk 7 10 = some (7, 0, false) := rfl
theorem fl_7_16 : flk 7 16 = some (7, 1, false) := rfl
theorem fl_7_19 : flk 7 19 = some (7, 2, false) := rfl
theorem fl_7_22 : flk 7 22 = some (7, 3, false) := rfl
theorem fl_7_29 : flk 7 29 = some (7, 4, false) := rfl
theorem fl_7_36 : flk 7 36 = some (7, 5, false) := rfl
theorem fl_7_40 : flk 7 40 = some (7, 6, false) := rfl
theorem fl_7_44 : flk 7 44 = some (7, 7, false) := rfl
theorem fl_7_48 : flk 7 48 = some (7, 8, false) := rfl
theorem fl_7_54 : flk 7 54 = some (7, 9, false) := rfl
theorem fl_7_58 : flk 7 58 = some (7, 10, false) := rfl
theorem fl_7_61 : flk 7 61 = some (7, 11, false) := rfl
theorem fl_7_67 : flk 7 67 = some (7, 12, false) := rfl
theorem fl_7_74 : flk 7 74 = some (7, 13, false) := rfl
theorem fl_7_81 : flk 7 81 = some (7, 14, false) := rfl
theorem fl_7_85 : flk 7 85 = some (7, 15, false) := rfl
theorem fl_7_88 : flk 7 88 = some (7, 16, false) := rfl
theorem fl_8_108 : flk 8 108 = some (8, 0, false) := rfl
theorem fl_8_7 : flk 8 7 = some (8, 1, false) := rfl
theorem fl_8_13 : flk 8 13 = some (8, 2, false) := rfl
theorem fl_8_16 : flk 8 16 = some (8, 3, false) := rfl
theorem fl_8_19 : flk 8 19 = some (8, 4, false) := rfl
theorem fl_8_23 : flk 8 23 = some (8, 5, false) := rfl
theorem fl_8_26 : flk 8 26 = some (8, 6, false) := rfl
theorem fl_8_29 : flk 8 29 = some (8, 7, false) := rfl
theorem fl_8_105 : flk 8 105 = some (8, 8, false) := rfl
theorem fl_8_32 : flk 8 32 = some (8, 9, false) := rfl
theorem fl_8_35 : flk 8 35 = some (8, 10, false) := rfl
theorem fl_8_115 : flk 8 115 = some (8, 11, false) := rfl
theorem fl_8_38 : flk 8 38 = some (8, 12, false) := rfl
theorem fl_8_167 : flk 8 167 = some (8, 13, false) := rfl
theorem fl_8_170 : flk 8 170 = some (8, 14, false) := rfl
theorem fl_8_173 : flk 8 173 = some (8, 15, false) := rfl
theorem fl_8_184 : flk 8 184 = some (8, 16, false) := rfl
theorem fl_8_41 : flk 8 41 = some (8, 17, false) := rfl
theorem fl_8_44 : flk 8 44 = some (8, 18, false) := rfl
theorem fl_8_47 : flk 8 47 = some (8, 19, false) := rfl
theorem fl_8_50 : flk 8 50 = some (8, 20, false) := rfl
theorem fl_8_53 : flk 8 53 = some (8, 21, false) := rfl
theorem fl_8_227 : flk 8 227 = some (8, 22, false) := rfl
theorem fl_8_221 : flk 8 221 = some (8, 23, false) := rfl
theorem fl_8_215 : flk 8 215 = some (8, 24, false) := rfl
theorem fl_8_218 : flk 8 218 = some (8, 25, false) := rfl
theorem fl_8_56 : flk 8 56 = some (8, 26, false) := rfl
theorem fl_8_59 : flk 8 59 = some (8, 27, false) := rfl
theorem fl_8_212 : flk 8 212 = some (8, 28, false) := rfl
theorem fl_8_265 : flk 8 265 = some (8, 29, false) := rfl
theorem fl_8_259 : flk 8 259 = some (8, 30, false) := rfl
theorem fl_8_62 : flk 8 62 = some (8, 31, false) := rfl
theorem fl_8_65 : flk 8 65 = some (8, 32, false) := rfl
theorem fl_8_256 : flk 8 256 = some (8, 33, false) := rfl
theorem fl_8_68 : flk 8 68 = some (8, 34, false) := rfl
theorem fl_8_72 : flk 8 72 = some (8, 35, false) := rfl
theorem fl_8_75 : flk 8 75 = some (8, 36, false) := rfl
theorem fl_8_78 : flk 8 78 = some (8, 37, false) := rfl
theorem fl_8_81 : flk 8 81 = some (8, 38, false) := rfl
theorem fl_8_84 : flk 8 84 = some (8, 39, false) := rfl
theorem fl_8_87 : flk 8 87 = some (8, 40, false) := rfl
theorem fl_8_312 : flk 8 312 = some (8, 41, false) := rfl
theorem fl_8_90 : flk 8 90 = some (8, 42, false) := rfl
theorem fl_8_93 : flk 8 93 = some (8, 43, false) := rfl
theorem fl_8_96 : flk 8 96 = some (8, 44, false) := rfl
theorem fl_8_99 : flk 8 99 = some (8, 45, false) := rfl
theorem fl_8_102 : flk 8 102 = some (8, 46, false) := rfl
abbrev pL : Type := Nat × pM × Nat × Nat
def MLt0 : List pL := [(25, mX0_forgetOldest, 0, 0), (28, mX5_changePoint, 1, 2), (34, mX5_rename, 1, 3), (38, mX5_loseLowest, 1, 0)]
def MLt1 : List pL := [(28, mX3_copyFrom, 1, 1), (39, mX3_told, 1, 0), (43, mX4_note, 1, 2), (50, mX5_sendsBack, 1, 3), (54, mX1_comeToFirst, 0, 2), (69, mX4_find, 1, 1), (65, mX3_suffer, 1, 2)]
def MLt2 : List pL := [(37, mJ0_length_8abf5, 0, 0), (43, mX2_shape, 2, 1), (47, mJ0_isEmpty_aae02, 0, 0), (51, mJ0_charAt_5068e, 0, 1), (55, mX2_suits, 2, 2), (19, mX2_sign, 0, 1), (59, mX2_digit, 0, 1), (62, mX5_addLowest, 1, 3), (68, mX5_change, 1, 2), (71, mX5_changePoint, 1, 2), (74, mX5_loseLowest, 1, 0)]
def MLt3 : List pL := [(19, mX3_has, 0, 1), (58, mX3_surest, 0, 0), (61, mX3_halve, 0, 1), (64, mX3_turn, 0, 1), (67, mX3_lessenBehind, 0, 1), (70, mX3_bringOver, 0, 2), (73, mX3_bringOthersNearer, 0, 1), (50, mX3_sum, 0, 0), (32, mX3_number, 0, 1), (36, mX3_put, 0, 2), (46, mX3_resize, 0, 1)]
def MLt4 : List pL := []
def MLt5 : List pL := [(27, mX3_init, 5, 0), (44, mX3_copyFrom, 1, 1), (52, mX7_isKind, 3, 1), (55, mX7_outside, 3, 3), (59, mX3_resize, 1, 1), (63, mX3_has, 1, 1), (66, mX3_put, 1, 2), (48, mX5_hasCourt, 0, 1), (80, mX5_hearAs, 0, 3), (76, mX3_notZero, 1, 0), (84, mX3_suffer, 1, 2)]
def MLt6 : List pL := [(39, mX3_copyFrom, 1, 1), (45, mX5_hear, 1, 2), (49, mX3_isFor, 1, 0), (53, mX6_weighStep, 0, 2)]
def MLt7 : List pL := [(9, mX5_init, 5, 0), (28, mX2_init, 5, 0), (35, mX0_init, 5, 0), (53, mX3_init, 5, 0), (66, mX6_init, 5, 0), (73, mX4_init, 5, 0), (80, mX1_init, 5, 0), (91, mX7_refuse, 0, 1), (98, mX2_take, 1, 1), (101, mX7_tellLetters, 0, 0), (349, mX2_firstBad, 1, 0), (341, mX5_copyFrom, 1, 1), (352, mX2_beginsAt, 1, 1), (355, mX2_tellOne, 1, 2), (105, mX5_hasCourt, 1, 1), (121, mX3_has, 1, 1), (124, mX7_refuseHigh, 0, 1), (127, mX7_outside, 2, 3), (131, mX3_number, 1, 1), (134, mX0_note, 1, 3), (138, mX3_put, 1, 2), (142, mX7_isKind, 2, 1), (145, mX5_rename, 1, 3), (148, mX5_addLowest, 1, 3), (162, mX5_change, 1, 2), (167, mX0_takeBack, 1, 1), (171, mX7_goDownTo, 0, 1), (236, mX3_copyFrom, 1, 1), (269, mX5_goDown, 1, 2), (175, mX3_isFor, 1, 0), (179, mX7_bit, 2, 1), (183, mX3_sum, 1, 0), (186, mX5_hear, 1, 2), (190, mX5_costsBetween, 1, 2), (194, mX5_sendsBack, 1, 3), (198, mX1_go, 1, 4), (211, mX6_weigh, 1, 2), (215, mX6_through, 1, 0), (228, mX7_fewestPressed, 0, 0), (231, mJ6_bitCount_0f7a4, 2, 1), (242, mX7_playOn, 2, 6), (246, mX3_move, 1, 1), (249, mX7_fastCourts, 0, 0), (252, mX3_beThree, 1, 2), (255, mX7_tellsNumbers, 0, 1), (258, mX7_readTold, 0, 3), (262, mX3_suffer, 1, 2), (265, mX3_isAs, 1, 1), (279, mX7_refuseLong, 0, 1), (283, mX7_goDownAsleep, 0, 1), (286, mX7_power, 2, 2), (290, mX7_commonDivisor, 2, 2), (294, mX7_goDownSwapped, 0, 2), (297, mX7_findBestOrder, 0, 0), (371, mX7_toNextOrder, 0, 1), (374, mX7_swapPlaces, 0, 2), (300, mX7_isForBehindAll, 0, 0), (308, mX7_goDownWith, 0, 2), (331, mX5_hearAs, 1, 3), (311, mX7_changesAny, 0, 1), (314, mX7_fewestAsleep, 0, 0), (317, mX7_stepAway, 0, 2), (321, mX3_told, 1, 0), (324, mX4_note, 1, 2), (327, mX4_find, 1, 1), (335, mX7_firstNotSo, 0, 0), (344, mX3_notZero, 1, 0)]
def MLt8 : List pL := [(164, mX8_refuse, 0, 1), (202, mX8_readStatement, 0, 0), (177, mX8_here, 0, 0), (187, mX8_isLetter, 2, 1), (190, mX8_readDigits, 0, 1), (111, mX8_in, 2, 3), (205, mX8_carryAll, 0, 2), (224, mX8_carry, 0, 1), (209, mX8_comes, 0, 1), (193, mX8_courtComes, 0, 3), (199, mX8_setMany, 0, 1), (230, mX8_isCourt, 0, 1), (235, mX8_wrongNumber, 2, 3), (240, mX8_keepTurn, 0, 0), (249, mX8_downTo, 0, 1), (158, mX8_think, 0, 0), (154, mX8_pass, 0, 1), (142, mX8_sendsBack, 0, 1), (139, mX8_standing, 0, 0), (146, mX8_act, 0, 2), (126, mX8_surest, 0, 0), (122, mX8_plainly, 2, 1), (132, mX8_bench, 0, 1), (129, mX8_held, 2, 1), (136, mX8_halve, 0, 0), (118, mX8_sumNow, 0, 0), (252, mX8_isFor, 0, 0), (268, mX8_goRound, 0, 0), (262, mX8_comesAgain, 0, 1), (273, mX8_layAppeals, 0, 0), (276, mX8_goneThrough, 0, 0), (279, mX8_wrongBit, 2, 3), (285, mX8_pressBits, 0, 0), (282, mX8_onesOf, 2, 1), (150, mX8_hasBit, 2, 2), (161, mX8_passAll, 0, 1), (297, mX8_sumBehindAll, 0, 0), (300, mX8_afterOne, 0, 0), (291, mX8_lastBy, 0, 1), (288, mX8_sumByChanges, 0, 1), (303, mX8_afterOneOfFour, 0, 0), (294, mX8_afterTwo, 0, 0), (306, mX8_fastFrom, 0, 0), (309, mX8_thinkThree, 0, 2), (317, mX8_divisor, 2, 2), (321, mX8_change, 0, 2), (330, mX8_sumByOrder, 0, 1), (327, mX8_layOrder, 0, 2), (324, mX8_ordersOf, 2, 1), (335, mX8_isOtherBy, 0, 2), (339, mX8_isAsAt, 0, 1)]
def MLt9 : List pL := [(9, mX7_init, 4, 0), (13, mX7_feed, 0, 1), (18, mX7_caseOf, 0, 0), (23, mX7_court, 0, 2), (28, mX7_point, 0, 2), (32, mX7_kind, 0, 3), (37, mX7_lowest, 0, 3), (41, mX7_set, 0, 2), (45, mX7_back, 0, 0), (49, mX7_down, 0, 2), (53, mX7_turns, 0, 1), (57, mX7_costs, 0, 1), (61, mX7_up, 0, 0), (65, mX7_round, 0, 1), (69, mX7_appeals, 0, 1), (73, mX7_press, 0, 1), (77, mX7_turnsBy, 0, 2), (81, mX7_standsFast, 0, 0), (85, mX7_survive, 0, 1), (89, mX7_fits, 0, 1), (93, mX7_first, 0, 1), (97, mX7_apart, 0, 3), (101, mX7_treaty, 0, 2), (105, mX7_share, 0, 1), (109, mX7_bedtime, 0, 2), (114, mX7_order, 0, 0), (118, mX7_bestOrder, 0, 1), (122, mX7_needed, 0, 1), (126, mX7_cheapest, 0, 0), (130, mX7_biggest, 0, 1), (134, mX7_swing, 0, 0), (138, mX7_rounds, 0, 0), (142, mX7_worst, 0, 2), (146, mX7_same, 0, 0), (150, mX7_dead, 0, 0), (154, mX7_flip, 0, 1), (158, mX7_margin, 0, 0), (162, mX7_beats, 0, 0), (166, mX7_commute, 0, 2), (170, mX7_again, 0, 2), (174, mX7_bestLowest, 0, 1), (178, mX7_peak, 0, 1), (182, mX7_fullStake, 0, 0), (186, mX7_heard, 0, 0), (190, mX7_lastSay, 0, 0), (194, mX7_row, 0, 1), (198, mX7_judge, 0, 0), (202, mX7_clear, 0, 0), (206, mX7_lots, 0, 3), (210, mX7_image, 0, 0), (214, mX7_restore, 0, 0), (218, mX7_count, 0, 1), (12, mX8_init, 4, 0), (17, mX8_feed, 0, 1), (22, mX8_caseOf, 0, 0), (213, mX8_image, 0, 0), (217, mX8_restore, 0, 0), (48, mX8_back, 0, 0), (27, mX8_court, 0, 2), (31, mX8_point, 0, 2), (36, mX8_kind, 0, 3), (40, mX8_lowest, 0, 3), (44, mX8_set, 0, 2), (52, mX8_down, 0, 2), (56, mX8_turns, 0, 1), (60, mX8_costs, 0, 1), (64, mX8_up, 0, 0), (68, mX8_round, 0, 1), (141, mX8_rounds, 0, 0), (72, mX8_appeals, 0, 1), (104, mX8_treaty, 0, 2), (108, mX8_share, 0, 1), (76, mX8_press, 0, 1), (80, mX8_turnsBy, 0, 2), (84, mX8_standsFast, 0, 0), (88, mX8_survive, 0, 1), (92, mX8_fits, 0, 1), (96, mX8_first, 0, 1), (100, mX8_apart, 0, 3), (113, mX8_bedtime, 0, 2), (117, mX8_order, 0, 0), (121, mX8_bestOrder, 0, 1), (125, mX8_needed, 0, 1), (129, mX8_cheapest, 0, 0), (133, mX8_biggest, 0, 1), (137, mX8_swing, 0, 0), (145, mX8_worst, 0, 2), (149, mX8_same, 0, 0), (153, mX8_dead, 0, 0), (157, mX8_flip, 0, 1), (161, mX8_margin, 0, 0), (165, mX8_beats, 0, 0), (169, mX8_commute, 0, 2), (173, mX8_again, 0, 2), (177, mX8_bestLowest, 0, 1), (181, mX8_peak, 0, 1), (185, mX8_fullStake, 0, 0), (189, mX8_heard, 0, 0), (193, mX8_lastSay, 0, 0), (197, mX8_row, 0, 1), (201, mX8_judge, 0, 0), (205, mX8_clear, 0, 0), (209, mX8_lots, 0, 3), (221, mX8_count, 0, 1)]
def MLt10 : List pL := []
def MLt11 : List pL := []
def MLt12 : List pL := [(335, mJ0_coder_7d493, 0, 0), (492, mJ0_isLatin1_aae02, 0, 0), (495, mJ1_charAt_3b067, 2, 2), (1059, mJ3_checkIndex_8e157, 2, 3)]
def MLt13 : List pL := [(9, mJ0_checkIndex_df160, 2, 2)]
def MLt14 : List pL := []
def MLt15 : List pL := []
def MLt16 : List pL := []
def MLt (o : Nat) : List pL := match o with
  | 0 => MLt0
  | 1 => MLt1
  | 2 => MLt2
  | 3 => MLt3
  | 4 => MLt4
  | 5 => MLt5
  | 6 => MLt6
  | 7 => MLt7
  | 8 => MLt8
  | 9 => MLt9
  | 10 => MLt10
  | 11 => MLt11
  | 12 => MLt12
  | 13 => MLt13
  | 14 => MLt14
  | 15 => MLt15
  | 16 => MLt16
  | _ => []
def mlk (o idx : Nat) : Option (pM × Nat × Nat) := ((MLt o).find? (fun q => Nat.beq q.1 idx)).map (fun q => (q.2.1, q.2.2.1, q.2.2.2))
def lkW (o idx kind : Nat) (y : MethodName) : Cond := if kind = 1 ∨ kind = 3 ∨ kind = 5 then .methodLinkNest (oNm o) idx y "AppealsDown" else .methodLink (oNm o) idx y
def stW (kind : Nat) (y : MethodName) : Cond := if kind = 2 ∨ kind = 3 then .static y else .instanceMethod y
def MOK (M : pM) : Prop := (Cond.code M.2.2.2.2 M.1 M.2.1 M.2.2.1) ∈ lw_tbl ∧ M.2.2.2.2.cls = oNm M.2.2.2.1 ∧ M.2.2.2.1 < 17 ∧ M.2.2.2.1 ≠ 9 ∧ M.2.1 ≤ 40 ∧ (Cond.initialized M.2.2.2.2.cls) ∈ lw_tbl
def mlW (o : Nat) (q : pL) : Prop :=
  lkW o q.1 q.2.2.1 q.2.1.2.2.2.2 ∈ lw_tbl ∧ MOK q.2.1 ∧ stW q.2.2.1 q.2.1.2.2.2.2 ∈ lw_tbl
  ∧ (q.2.2.1 ≤ 1 → (Cond.selects q.2.1.2.2.2.2.cls q.2.1.2.2.2.2 q.2.1.2.2.2.2) ∈ lw_tbl)
  ∧ (parseMethodDescriptor q.2.1.2.2.2.2.desc).map (fun d => d.parameters.length) = some q.2.2.2
  ∧ (4 ≤ q.2.2.1 → q.2.1.2.2.2.2.name = "<init>")
theorem mk_mX7_init : MOK mX7_init := ⟨wm_129, rfl, by decide, by decide, by decide, wm_109⟩
theorem pd_mX7_init : (parseMethodDescriptor mX7_init.2.2.2.2.desc).map (fun d => d.parameters.length) = some 0 := by decide +kernel
theorem mk_mX5_init : MOK mX5_init := ⟨wm_137, rfl, by decide, by decide, by decide, wm_110⟩
theorem pd_mX5_init : (parseMethodDescriptor mX5_init.2.2.2.2.desc).map (fun d => d.parameters.length) = some 0 := by decide +kernel
theorem mk_mX3_init : MOK mX3_init := ⟨wm_143, rfl, by decide, by decide, by decide, wm_111⟩
theorem pd_mX3_init : (parseMethodDescriptor mX3_init.2.2.2.2.desc).map (fun d => d.parameters.length) = some 0 := by decide +kernel
theorem mk_mX2_init : MOK mX2_init := ⟨wm_195, rfl, by decide, by decide, by decide, wm_112⟩
theorem pd_mX2_init : (parseMethodDescriptor mX2_init.2.2.2.2.desc).map (fun d => d.parameters.length) = some 0 := by decide +kernel
theorem mk_mX0_init : MOK mX0_init := ⟨wm_209, rfl, by decide, by decide, by decide, wm_113⟩
theorem pd_mX0_init : (parseMethodDescriptor mX0_init.2.2.2.2.desc).map (fun d => d.parameters.length) = some 0 := by decide +kernel
theorem mk_mX6_init : MOK mX6_init := ⟨wm_231, rfl, by decide, by decide, by decide, wm_114⟩
theorem pd_mX6_init : (parseMethodDescriptor mX6_init.2.2.2.2.desc).map (fun d => d.parameters.length) = some 0 := by decide +kernel
theorem mk_mX4_init : MOK mX4_init := ⟨wm_262, rfl, by decide, by decide, by decide, wm_115⟩
theorem pd_mX4_init : (parseMethodDescriptor mX4_init.2.2.2.2.desc).map (fun d => d.parameters.length) = some 0 := by decide +kernel
theorem mk_mX1_init : MOK mX1_init := ⟨wm_281, rfl, by decide, by decide, by decide, wm_116⟩
theorem pd_mX1_init : (parseMethodDescriptor mX1_init.2.2.2.2.desc).map (fun d => d.parameters.length) = some 0 := by decide +kernel
theorem mk_mX7_feed : MOK mX7_feed := ⟨wm_351, rfl, by decide, by decide, by decide, wm_109⟩
theorem pd_mX7_feed : (parseMethodDescriptor mX7_feed.2.2.2.2.desc).map (fun d => d.parameters.length) = some 1 := by decide +kernel
theorem mk_mX7_refuse : MOK mX7_refuse := ⟨wm_355, rfl, by decide, by decide, by decide, wm_109⟩
theorem pd_mX7_refuse : (parseMethodDescriptor mX7_refuse.2.2.2.2.desc).map (fun d => d.parameters.length) = some 1 := by decide +kernel
theorem mk_mX2_take : MOK mX2_take := ⟨wm_359, rfl, by decide, by decide, by decide, wm_112⟩
theorem pd_mX2_take : (parseMethodDescriptor mX2_take.2.2.2.2.desc).map (fun d => d.parameters.length) = some 1 := by decide +kernel
theorem mk_mX7_caseOf : MOK mX7_caseOf := ⟨wm_363, rfl, by decide, by decide, by decide, wm_109⟩
theorem pd_mX7_caseOf : (parseMethodDescriptor mX7_caseOf.2.2.2.2.desc).map (fun d => d.parameters.length) = some 0 := by decide +kernel
theorem mk_mX7_tellLetters : MOK mX7_tellLetters := ⟨wm_367, rfl, by decide, by decide, by decide, wm_109⟩
theorem pd_mX7_tellLetters : (parseMethodDescriptor mX7_tellLetters.2.2.2.2.desc).map (fun d => d.parameters.length) = some 0 := by decide +kernel
theorem mk_mX2_firstBad : MOK mX2_firstBad := ⟨wm_371, rfl, by decide, by decide, by decide, wm_112⟩
theorem pd_mX2_firstBad : (parseMethodDescriptor mX2_firstBad.2.2.2.2.desc).map (fun d => d.parameters.length) = some 0 := by decide +kernel
theorem mk_mJ0_length_8abf5 : MOK mJ0_length_8abf5 := ⟨wm_376, rfl, by decide, by decide, by decide, wm_118⟩
theorem pd_mJ0_length_8abf5 : (parseMethodDescriptor mJ0_length_8abf5.2.2.2.2.desc).map (fun d => d.parameters.length) = some 0 := by decide +kernel
theorem mk_mJ0_coder_7d493 : MOK mJ0_coder_7d493 := ⟨wm_380, rfl, by decide, by decide, by decide, wm_118⟩
theorem pd_mJ0_coder_7d493 : (parseMethodDescriptor mJ0_coder_7d493.2.2.2.2.desc).map (fun d => d.parameters.length) = some 0 := by decide +kernel
theorem mk_mX2_shape : MOK mX2_shape := ⟨wm_385, rfl, by decide, by decide, by decide, wm_112⟩
theorem pd_mX2_shape : (parseMethodDescriptor mX2_shape.2.2.2.2.desc).map (fun d => d.parameters.length) = some 1 := by decide +kernel
theorem mk_mJ0_isEmpty_aae02 : MOK mJ0_isEmpty_aae02 := ⟨wm_395, rfl, by decide, by decide, by decide, wm_118⟩
theorem pd_mJ0_isEmpty_aae02 : (parseMethodDescriptor mJ0_isEmpty_aae02.2.2.2.2.desc).map (fun d => d.parameters.length) = some 0 := by decide +kernel
theorem mk_mJ0_charAt_5068e : MOK mJ0_charAt_5068e := ⟨wm_399, rfl, by decide, by decide, by decide, wm_118⟩
theorem pd_mJ0_charAt_5068e : (parseMethodDescriptor mJ0_charAt_5068e.2.2.2.2.desc).map (fun d => d.parameters.length) = some 1 := by decide +kernel
theorem mk_mJ0_isLatin1_aae02 : MOK mJ0_isLatin1_aae02 := ⟨wm_403, rfl, by decide, by decide, by decide, wm_118⟩
theorem pd_mJ0_isLatin1_aae02 : (parseMethodDescriptor mJ0_isLatin1_aae02.2.2.2.2.desc).map (fun d => d.parameters.length) = some 0 := by decide +kernel
theorem mk_mJ1_charAt_3b067 : MOK mJ1_charAt_3b067 := ⟨wm_406, rfl, by decide, by decide, by decide, wm_119⟩
theorem pd_mJ1_charAt_3b067 : (parseMethodDescriptor mJ1_charAt_3b067.2.2.2.2.desc).map (fun d => d.parameters.length) = some 2 := by decide +kernel
theorem mk_mJ0_checkIndex_df160 : MOK mJ0_checkIndex_df160 := ⟨wm_409, rfl, by decide, by decide, by decide, wm_118⟩
theorem pd_mJ0_checkIndex_df160 : (parseMethodDescriptor mJ0_checkIndex_df160.2.2.2.2.desc).map (fun d => d.parameters.length) = some 2 := by decide +kernel
theorem mk_mJ3_checkIndex_8e157 : MOK mJ3_checkIndex_8e157 := ⟨wm_414, rfl, by decide, by decide, by decide, wm_120⟩
theorem pd_mJ3_checkIndex_8e157 : (parseMethodDescriptor mJ3_checkIndex_8e157.2.2.2.2.desc).map (fun d => d.parameters.length) = some 3 := by decide +kernel
theorem mk_mX2_suits : MOK mX2_suits := ⟨wm_436, rfl, by decide, by decide, by decide, wm_112⟩
theorem pd_mX2_suits : (parseMethodDescriptor mX2_suits.2.2.2.2.desc).map (fun d => d.parameters.length) = some 2 := by decide +kernel
theorem mk_mX5_copyFrom : MOK mX5_copyFrom := ⟨wm_440, rfl, by decide, by decide, by decide, wm_110⟩
theorem pd_mX5_copyFrom : (parseMethodDescriptor mX5_copyFrom.2.2.2.2.desc).map (fun d => d.parameters.length) = some 1 := by decide +kernel
theorem mk_mX3_copyFrom : MOK mX3_copyFrom := ⟨wm_447, rfl, by decide, by decide, by decide, wm_111⟩
theorem pd_mX3_copyFrom : (parseMethodDescriptor mX3_copyFrom.2.2.2.2.desc).map (fun d => d.parameters.length) = some 1 := by decide +kernel
theorem mk_mX2_beginsAt : MOK mX2_beginsAt := ⟨wm_452, rfl, by decide, by decide, by decide, wm_112⟩
theorem pd_mX2_beginsAt : (parseMethodDescriptor mX2_beginsAt.2.2.2.2.desc).map (fun d => d.parameters.length) = some 1 := by decide +kernel
theorem mk_mX2_sign : MOK mX2_sign := ⟨wm_456, rfl, by decide, by decide, by decide, wm_112⟩
theorem pd_mX2_sign : (parseMethodDescriptor mX2_sign.2.2.2.2.desc).map (fun d => d.parameters.length) = some 1 := by decide +kernel
theorem mk_mX2_tellOne : MOK mX2_tellOne := ⟨wm_460, rfl, by decide, by decide, by decide, wm_112⟩
theorem pd_mX2_tellOne : (parseMethodDescriptor mX2_tellOne.2.2.2.2.desc).map (fun d => d.parameters.length) = some 2 := by decide +kernel
theorem mk_mX2_digit : MOK mX2_digit := ⟨wm_464, rfl, by decide, by decide, by decide, wm_112⟩
theorem pd_mX2_digit : (parseMethodDescriptor mX2_digit.2.2.2.2.desc).map (fun d => d.parameters.length) = some 1 := by decide +kernel
theorem mk_mX5_addLowest : MOK mX5_addLowest := ⟨wm_468, rfl, by decide, by decide, by decide, wm_110⟩
theorem pd_mX5_addLowest : (parseMethodDescriptor mX5_addLowest.2.2.2.2.desc).map (fun d => d.parameters.length) = some 3 := by decide +kernel
theorem mk_mX7_isKind : MOK mX7_isKind := ⟨wm_471, rfl, by decide, by decide, by decide, wm_109⟩
theorem pd_mX7_isKind : (parseMethodDescriptor mX7_isKind.2.2.2.2.desc).map (fun d => d.parameters.length) = some 1 := by decide +kernel
theorem mk_mX7_outside : MOK mX7_outside := ⟨wm_474, rfl, by decide, by decide, by decide, wm_109⟩
theorem pd_mX7_outside : (parseMethodDescriptor mX7_outside.2.2.2.2.desc).map (fun d => d.parameters.length) = some 3 := by decide +kernel
theorem mk_mX5_change : MOK mX5_change := ⟨wm_478, rfl, by decide, by decide, by decide, wm_110⟩
theorem pd_mX5_change : (parseMethodDescriptor mX5_change.2.2.2.2.desc).map (fun d => d.parameters.length) = some 2 := by decide +kernel
theorem mk_mX3_resize : MOK mX3_resize := ⟨wm_482, rfl, by decide, by decide, by decide, wm_111⟩
theorem pd_mX3_resize : (parseMethodDescriptor mX3_resize.2.2.2.2.desc).map (fun d => d.parameters.length) = some 1 := by decide +kernel
theorem mk_mX5_changePoint : MOK mX5_changePoint := ⟨wm_492, rfl, by decide, by decide, by decide, wm_110⟩
theorem pd_mX5_changePoint : (parseMethodDescriptor mX5_changePoint.2.2.2.2.desc).map (fun d => d.parameters.length) = some 2 := by decide +kernel
theorem mk_mX3_has : MOK mX3_has := ⟨wm_496, rfl, by decide, by decide, by decide, wm_111⟩
theorem pd_mX3_has : (parseMethodDescriptor mX3_has.2.2.2.2.desc).map (fun d => d.parameters.length) = some 1 := by decide +kernel
theorem mk_mX3_put : MOK mX3_put := ⟨wm_500, rfl, by decide, by decide, by decide, wm_111⟩
theorem pd_mX3_put : (parseMethodDescriptor mX3_put.2.2.2.2.desc).map (fun d => d.parameters.length) = some 2 := by decide +kernel
theorem mk_mX5_loseLowest : MOK mX5_loseLowest := ⟨wm_505, rfl, by decide, by decide, by decide, wm_110⟩
theorem pd_mX5_loseLowest : (parseMethodDescriptor mX5_loseLowest.2.2.2.2.desc).map (fun d => d.parameters.length) = some 0 := by decide +kernel
theorem mk_mX7_court : MOK mX7_court := ⟨wm_510, rfl, by decide, by decide, by decide, wm_109⟩
theorem pd_mX7_court : (parseMethodDescriptor mX7_court.2.2.2.2.desc).map (fun d => d.parameters.length) = some 2 := by decide +kernel
theorem mk_mX5_hasCourt : MOK mX5_hasCourt := ⟨wm_514, rfl, by decide, by decide, by decide, wm_110⟩
theorem pd_mX5_hasCourt : (parseMethodDescriptor mX5_hasCourt.2.2.2.2.desc).map (fun d => d.parameters.length) = some 1 := by decide +kernel
theorem mk_mX7_point : MOK mX7_point := ⟨wm_518, rfl, by decide, by decide, by decide, wm_109⟩
theorem pd_mX7_point : (parseMethodDescriptor mX7_point.2.2.2.2.desc).map (fun d => d.parameters.length) = some 2 := by decide +kernel
theorem mk_mX7_refuseHigh : MOK mX7_refuseHigh := ⟨wm_523, rfl, by decide, by decide, by decide, wm_109⟩
theorem pd_mX7_refuseHigh : (parseMethodDescriptor mX7_refuseHigh.2.2.2.2.desc).map (fun d => d.parameters.length) = some 1 := by decide +kernel
theorem mk_mX3_number : MOK mX3_number := ⟨wm_529, rfl, by decide, by decide, by decide, wm_111⟩
theorem pd_mX3_number : (parseMethodDescriptor mX3_number.2.2.2.2.desc).map (fun d => d.parameters.length) = some 1 := by decide +kernel
theorem mk_mX0_note : MOK mX0_note := ⟨wm_533, rfl, by decide, by decide, by decide, wm_113⟩
theorem pd_mX0_note : (parseMethodDescriptor mX0_note.2.2.2.2.desc).map (fun d => d.parameters.length) = some 3 := by decide +kernel
theorem mk_mX0_forgetOldest : MOK mX0_forgetOldest := ⟨wm_537, rfl, by decide, by decide, by decide, wm_113⟩
theorem pd_mX0_forgetOldest : (parseMethodDescriptor mX0_forgetOldest.2.2.2.2.desc).map (fun d => d.parameters.length) = some 0 := by decide +kernel
theorem mk_mX7_kind : MOK mX7_kind := ⟨wm_542, rfl, by decide, by decide, by decide, wm_109⟩
theorem pd_mX7_kind : (parseMethodDescriptor mX7_kind.2.2.2.2.desc).map (fun d => d.parameters.length) = some 3 := by decide +kernel
theorem mk_mX5_rename : MOK mX5_rename := ⟨wm_547, rfl, by decide, by decide, by decide, wm_110⟩
theorem pd_mX5_rename : (parseMethodDescriptor mX5_rename.2.2.2.2.desc).map (fun d => d.parameters.length) = some 3 := by decide +kernel
theorem mk_mX7_lowest : MOK mX7_lowest := ⟨wm_552, rfl, by decide, by decide, by decide, wm_109⟩
theorem pd_mX7_lowest : (parseMethodDescriptor mX7_lowest.2.2.2.2.desc).map (fun d => d.parameters.length) = some 3 := by decide +kernel
theorem mk_mX7_set : MOK mX7_set := ⟨wm_557, rfl, by decide, by decide, by decide, wm_109⟩
theorem pd_mX7_set : (parseMethodDescriptor mX7_set.2.2.2.2.desc).map (fun d => d.parameters.length) = some 2 := by decide +kernel
theorem mk_mX7_back : MOK mX7_back := ⟨wm_562, rfl, by decide, by decide, by decide, wm_109⟩
theorem pd_mX7_back : (parseMethodDescriptor mX7_back.2.2.2.2.desc).map (fun d => d.parameters.length) = some 0 := by decide +kernel
theorem mk_mX0_takeBack : MOK mX0_takeBack := ⟨wm_566, rfl, by decide, by decide, by decide, wm_113⟩
theorem pd_mX0_takeBack : (parseMethodDescriptor mX0_takeBack.2.2.2.2.desc).map (fun d => d.parameters.length) = some 1 := by decide +kernel
theorem mk_mX7_down : MOK mX7_down := ⟨wm_573, rfl, by decide, by decide, by decide, wm_109⟩
theorem pd_mX7_down : (parseMethodDescriptor mX7_down.2.2.2.2.desc).map (fun d => d.parameters.length) = some 2 := by decide +kernel
theorem mk_mX7_goDownTo : MOK mX7_goDownTo := ⟨wm_577, rfl, by decide, by decide, by decide, wm_109⟩
theorem pd_mX7_goDownTo : (parseMethodDescriptor mX7_goDownTo.2.2.2.2.desc).map (fun d => d.parameters.length) = some 1 := by decide +kernel
theorem mk_mX5_goDown : MOK mX5_goDown := ⟨wm_582, rfl, by decide, by decide, by decide, wm_110⟩
theorem pd_mX5_goDown : (parseMethodDescriptor mX5_goDown.2.2.2.2.desc).map (fun d => d.parameters.length) = some 2 := by decide +kernel
theorem mk_mX5_hearAs : MOK mX5_hearAs := ⟨wm_586, rfl, by decide, by decide, by decide, wm_110⟩
theorem pd_mX5_hearAs : (parseMethodDescriptor mX5_hearAs.2.2.2.2.desc).map (fun d => d.parameters.length) = some 3 := by decide +kernel
theorem mk_mX3_notZero : MOK mX3_notZero := ⟨wm_590, rfl, by decide, by decide, by decide, wm_111⟩
theorem pd_mX3_notZero : (parseMethodDescriptor mX3_notZero.2.2.2.2.desc).map (fun d => d.parameters.length) = some 0 := by decide +kernel
theorem mk_mX3_suffer : MOK mX3_suffer := ⟨wm_594, rfl, by decide, by decide, by decide, wm_111⟩
theorem pd_mX3_suffer : (parseMethodDescriptor mX3_suffer.2.2.2.2.desc).map (fun d => d.parameters.length) = some 2 := by decide +kernel
theorem mk_mX3_surest : MOK mX3_surest := ⟨wm_598, rfl, by decide, by decide, by decide, wm_111⟩
theorem pd_mX3_surest : (parseMethodDescriptor mX3_surest.2.2.2.2.desc).map (fun d => d.parameters.length) = some 0 := by decide +kernel
theorem mk_mX3_halve : MOK mX3_halve := ⟨wm_602, rfl, by decide, by decide, by decide, wm_111⟩
theorem pd_mX3_halve : (parseMethodDescriptor mX3_halve.2.2.2.2.desc).map (fun d => d.parameters.length) = some 1 := by decide +kernel
theorem mk_mX3_turn : MOK mX3_turn := ⟨wm_606, rfl, by decide, by decide, by decide, wm_111⟩
theorem pd_mX3_turn : (parseMethodDescriptor mX3_turn.2.2.2.2.desc).map (fun d => d.parameters.length) = some 1 := by decide +kernel
theorem mk_mX3_lessenBehind : MOK mX3_lessenBehind := ⟨wm_610, rfl, by decide, by decide, by decide, wm_111⟩
theorem pd_mX3_lessenBehind : (parseMethodDescriptor mX3_lessenBehind.2.2.2.2.desc).map (fun d => d.parameters.length) = some 1 := by decide +kernel
theorem mk_mX3_bringOver : MOK mX3_bringOver := ⟨wm_614, rfl, by decide, by decide, by decide, wm_111⟩
theorem pd_mX3_bringOver : (parseMethodDescriptor mX3_bringOver.2.2.2.2.desc).map (fun d => d.parameters.length) = some 2 := by decide +kernel
theorem mk_mX3_bringOthersNearer : MOK mX3_bringOthersNearer := ⟨wm_618, rfl, by decide, by decide, by decide, wm_111⟩
theorem pd_mX3_bringOthersNearer : (parseMethodDescriptor mX3_bringOthersNearer.2.2.2.2.desc).map (fun d => d.parameters.length) = some 1 := by decide +kernel
theorem mk_mX3_isFor : MOK mX3_isFor := ⟨wm_622, rfl, by decide, by decide, by decide, wm_111⟩
theorem pd_mX3_isFor : (parseMethodDescriptor mX3_isFor.2.2.2.2.desc).map (fun d => d.parameters.length) = some 0 := by decide +kernel
theorem mk_mX3_sum : MOK mX3_sum := ⟨wm_626, rfl, by decide, by decide, by decide, wm_111⟩
theorem pd_mX3_sum : (parseMethodDescriptor mX3_sum.2.2.2.2.desc).map (fun d => d.parameters.length) = some 0 := by decide +kernel
theorem mk_mX7_bit : MOK mX7_bit := ⟨wm_629, rfl, by decide, by decide, by decide, wm_109⟩
theorem pd_mX7_bit : (parseMethodDescriptor mX7_bit.2.2.2.2.desc).map (fun d => d.parameters.length) = some 1 := by decide +kernel
theorem mk_mX7_turns : MOK mX7_turns := ⟨wm_634, rfl, by decide, by decide, by decide, wm_109⟩
theorem pd_mX7_turns : (parseMethodDescriptor mX7_turns.2.2.2.2.desc).map (fun d => d.parameters.length) = some 1 := by decide +kernel
theorem mk_mX5_hear : MOK mX5_hear := ⟨wm_638, rfl, by decide, by decide, by decide, wm_110⟩
theorem pd_mX5_hear : (parseMethodDescriptor mX5_hear.2.2.2.2.desc).map (fun d => d.parameters.length) = some 2 := by decide +kernel
theorem mk_mX7_costs : MOK mX7_costs := ⟨wm_642, rfl, by decide, by decide, by decide, wm_109⟩
theorem pd_mX7_costs : (parseMethodDescriptor mX7_costs.2.2.2.2.desc).map (fun d => d.parameters.length) = some 1 := by decide +kernel
theorem mk_mX5_costsBetween : MOK mX5_costsBetween := ⟨wm_646, rfl, by decide, by decide, by decide, wm_110⟩
theorem pd_mX5_costsBetween : (parseMethodDescriptor mX5_costsBetween.2.2.2.2.desc).map (fun d => d.parameters.length) = some 2 := by decide +kernel
theorem mk_mX7_up : MOK mX7_up := ⟨wm_651, rfl, by decide, by decide, by decide, wm_109⟩
theorem pd_mX7_up : (parseMethodDescriptor mX7_up.2.2.2.2.desc).map (fun d => d.parameters.length) = some 0 := by decide +kernel
theorem mk_mX5_sendsBack : MOK mX5_sendsBack := ⟨wm_655, rfl, by decide, by decide, by decide, wm_110⟩
theorem pd_mX5_sendsBack : (parseMethodDescriptor mX5_sendsBack.2.2.2.2.desc).map (fun d => d.parameters.length) = some 3 := by decide +kernel
theorem mk_mX7_round : MOK mX7_round := ⟨wm_659, rfl, by decide, by decide, by decide, wm_109⟩
theorem pd_mX7_round : (parseMethodDescriptor mX7_round.2.2.2.2.desc).map (fun d => d.parameters.length) = some 1 := by decide +kernel
theorem mk_mX1_go : MOK mX1_go := ⟨wm_663, rfl, by decide, by decide, by decide, wm_116⟩
theorem pd_mX1_go : (parseMethodDescriptor mX1_go.2.2.2.2.desc).map (fun d => d.parameters.length) = some 4 := by decide +kernel
theorem mk_mX3_told : MOK mX3_told := ⟨wm_668, rfl, by decide, by decide, by decide, wm_111⟩
theorem pd_mX3_told : (parseMethodDescriptor mX3_told.2.2.2.2.desc).map (fun d => d.parameters.length) = some 0 := by decide +kernel
theorem mk_mX4_note : MOK mX4_note := ⟨wm_674, rfl, by decide, by decide, by decide, wm_115⟩
theorem pd_mX4_note : (parseMethodDescriptor mX4_note.2.2.2.2.desc).map (fun d => d.parameters.length) = some 2 := by decide +kernel
theorem mk_mX1_comeToFirst : MOK mX1_comeToFirst := ⟨wm_679, rfl, by decide, by decide, by decide, wm_116⟩
theorem pd_mX1_comeToFirst : (parseMethodDescriptor mX1_comeToFirst.2.2.2.2.desc).map (fun d => d.parameters.length) = some 2 := by decide +kernel
theorem mk_mX4_find : MOK mX4_find := ⟨wm_683, rfl, by decide, by decide, by decide, wm_115⟩
theorem pd_mX4_find : (parseMethodDescriptor mX4_find.2.2.2.2.desc).map (fun d => d.parameters.length) = some 1 := by decide +kernel
theorem mk_mX7_appeals : MOK mX7_appeals := ⟨wm_688, rfl, by decide, by decide, by decide, wm_109⟩
theorem pd_mX7_appeals : (parseMethodDescriptor mX7_appeals.2.2.2.2.desc).map (fun d => d.parameters.length) = some 1 := by decide +kernel
theorem mk_mX6_weigh : MOK mX6_weigh := ⟨wm_692, rfl, by decide, by decide, by decide, wm_114⟩
theorem pd_mX6_weigh : (parseMethodDescriptor mX6_weigh.2.2.2.2.desc).map (fun d => d.parameters.length) = some 2 := by decide +kernel
theorem mk_mX6_weighStep : MOK mX6_weighStep := ⟨wm_699, rfl, by decide, by decide, by decide, wm_114⟩
theorem pd_mX6_weighStep : (parseMethodDescriptor mX6_weighStep.2.2.2.2.desc).map (fun d => d.parameters.length) = some 2 := by decide +kernel
theorem mk_mX6_through : MOK mX6_through := ⟨wm_703, rfl, by decide, by decide, by decide, wm_114⟩
theorem pd_mX6_through : (parseMethodDescriptor mX6_through.2.2.2.2.desc).map (fun d => d.parameters.length) = some 0 := by decide +kernel
theorem mk_mX7_press : MOK mX7_press := ⟨wm_707, rfl, by decide, by decide, by decide, wm_109⟩
theorem pd_mX7_press : (parseMethodDescriptor mX7_press.2.2.2.2.desc).map (fun d => d.parameters.length) = some 1 := by decide +kernel
theorem mk_mX7_fewestPressed : MOK mX7_fewestPressed := ⟨wm_711, rfl, by decide, by decide, by decide, wm_109⟩
theorem pd_mX7_fewestPressed : (parseMethodDescriptor mX7_fewestPressed.2.2.2.2.desc).map (fun d => d.parameters.length) = some 0 := by decide +kernel
theorem mk_mJ6_bitCount_0f7a4 : MOK mJ6_bitCount_0f7a4 := ⟨wm_714, rfl, by decide, by decide, by decide, wm_124⟩
theorem pd_mJ6_bitCount_0f7a4 : (parseMethodDescriptor mJ6_bitCount_0f7a4.2.2.2.2.desc).map (fun d => d.parameters.length) = some 1 := by decide +kernel
theorem mk_mX7_turnsBy : MOK mX7_turnsBy := ⟨wm_721, rfl, by decide, by decide, by decide, wm_109⟩
theorem pd_mX7_turnsBy : (parseMethodDescriptor mX7_turnsBy.2.2.2.2.desc).map (fun d => d.parameters.length) = some 2 := by decide +kernel
theorem mk_mX7_playOn : MOK mX7_playOn := ⟨wm_725, rfl, by decide, by decide, by decide, wm_109⟩
theorem pd_mX7_playOn : (parseMethodDescriptor mX7_playOn.2.2.2.2.desc).map (fun d => d.parameters.length) = some 6 := by decide +kernel
theorem mk_mX3_move : MOK mX3_move := ⟨wm_731, rfl, by decide, by decide, by decide, wm_111⟩
theorem pd_mX3_move : (parseMethodDescriptor mX3_move.2.2.2.2.desc).map (fun d => d.parameters.length) = some 1 := by decide +kernel
theorem mk_mX7_standsFast : MOK mX7_standsFast := ⟨wm_737, rfl, by decide, by decide, by decide, wm_109⟩
theorem pd_mX7_standsFast : (parseMethodDescriptor mX7_standsFast.2.2.2.2.desc).map (fun d => d.parameters.length) = some 0 := by decide +kernel
theorem mk_mX7_fastCourts : MOK mX7_fastCourts := ⟨wm_741, rfl, by decide, by decide, by decide, wm_109⟩
theorem pd_mX7_fastCourts : (parseMethodDescriptor mX7_fastCourts.2.2.2.2.desc).map (fun d => d.parameters.length) = some 0 := by decide +kernel
theorem mk_mX7_survive : MOK mX7_survive := ⟨wm_745, rfl, by decide, by decide, by decide, wm_109⟩
theorem pd_mX7_survive : (parseMethodDescriptor mX7_survive.2.2.2.2.desc).map (fun d => d.parameters.length) = some 1 := by decide +kernel
theorem mk_mX3_beThree : MOK mX3_beThree := ⟨wm_749, rfl, by decide, by decide, by decide, wm_111⟩
theorem pd_mX3_beThree : (parseMethodDescriptor mX3_beThree.2.2.2.2.desc).map (fun d => d.parameters.length) = some 2 := by decide +kernel
theorem mk_mX7_fits : MOK mX7_fits := ⟨wm_754, rfl, by decide, by decide, by decide, wm_109⟩
theorem pd_mX7_fits : (parseMethodDescriptor mX7_fits.2.2.2.2.desc).map (fun d => d.parameters.length) = some 1 := by decide +kernel
theorem mk_mX7_tellsNumbers : MOK mX7_tellsNumbers := ⟨wm_758, rfl, by decide, by decide, by decide, wm_109⟩
theorem pd_mX7_tellsNumbers : (parseMethodDescriptor mX7_tellsNumbers.2.2.2.2.desc).map (fun d => d.parameters.length) = some 1 := by decide +kernel
theorem mk_mX7_readTold : MOK mX7_readTold := ⟨wm_762, rfl, by decide, by decide, by decide, wm_109⟩
theorem pd_mX7_readTold : (parseMethodDescriptor mX7_readTold.2.2.2.2.desc).map (fun d => d.parameters.length) = some 3 := by decide +kernel
theorem mk_mX3_isAs : MOK mX3_isAs := ⟨wm_767, rfl, by decide, by decide, by decide, wm_111⟩
theorem pd_mX3_isAs : (parseMethodDescriptor mX3_isAs.2.2.2.2.desc).map (fun d => d.parameters.length) = some 1 := by decide +kernel
theorem mk_mX7_first : MOK mX7_first := ⟨wm_771, rfl, by decide, by decide, by decide, wm_109⟩
theorem pd_mX7_first : (parseMethodDescriptor mX7_first.2.2.2.2.desc).map (fun d => d.parameters.length) = some 1 := by decide +kernel
theorem mk_mX7_apart : MOK mX7_apart := ⟨wm_775, rfl, by decide, by decide, by decide, wm_109⟩
theorem pd_mX7_apart : (parseMethodDescriptor mX7_apart.2.2.2.2.desc).map (fun d => d.parameters.length) = some 3 := by decide +kernel
theorem mk_mX7_treaty : MOK mX7_treaty := ⟨wm_779, rfl, by decide, by decide, by decide, wm_109⟩
theorem pd_mX7_treaty : (parseMethodDescriptor mX7_treaty.2.2.2.2.desc).map (fun d => d.parameters.length) = some 2 := by decide +kernel
theorem mk_mX7_share : MOK mX7_share := ⟨wm_783, rfl, by decide, by decide, by decide, wm_109⟩
theorem pd_mX7_share : (parseMethodDescriptor mX7_share.2.2.2.2.desc).map (fun d => d.parameters.length) = some 1 := by decide +kernel
theorem mk_mX7_bedtime : MOK mX7_bedtime := ⟨wm_787, rfl, by decide, by decide, by decide, wm_109⟩
theorem pd_mX7_bedtime : (parseMethodDescriptor mX7_bedtime.2.2.2.2.desc).map (fun d => d.parameters.length) = some 2 := by decide +kernel
theorem mk_mX7_refuseLong : MOK mX7_refuseLong := ⟨wm_791, rfl, by decide, by decide, by decide, wm_109⟩
theorem pd_mX7_refuseLong : (parseMethodDescriptor mX7_refuseLong.2.2.2.2.desc).map (fun d => d.parameters.length) = some 1 := by decide +kernel
theorem mk_mX7_goDownAsleep : MOK mX7_goDownAsleep := ⟨wm_796, rfl, by decide, by decide, by decide, wm_109⟩
theorem pd_mX7_goDownAsleep : (parseMethodDescriptor mX7_goDownAsleep.2.2.2.2.desc).map (fun d => d.parameters.length) = some 1 := by decide +kernel
theorem mk_mX7_power : MOK mX7_power := ⟨wm_799, rfl, by decide, by decide, by decide, wm_109⟩
theorem pd_mX7_power : (parseMethodDescriptor mX7_power.2.2.2.2.desc).map (fun d => d.parameters.length) = some 2 := by decide +kernel
theorem mk_mX7_commonDivisor : MOK mX7_commonDivisor := ⟨wm_802, rfl, by decide, by decide, by decide, wm_109⟩
theorem pd_mX7_commonDivisor : (parseMethodDescriptor mX7_commonDivisor.2.2.2.2.desc).map (fun d => d.parameters.length) = some 2 := by decide +kernel
theorem mk_mX7_order : MOK mX7_order := ⟨wm_806, rfl, by decide, by decide, by decide, wm_109⟩
theorem pd_mX7_order : (parseMethodDescriptor mX7_order.2.2.2.2.desc).map (fun d => d.parameters.length) = some 0 := by decide +kernel
theorem mk_mX7_goDownSwapped : MOK mX7_goDownSwapped := ⟨wm_810, rfl, by decide, by decide, by decide, wm_109⟩
theorem pd_mX7_goDownSwapped : (parseMethodDescriptor mX7_goDownSwapped.2.2.2.2.desc).map (fun d => d.parameters.length) = some 2 := by decide +kernel
theorem mk_mX7_bestOrder : MOK mX7_bestOrder := ⟨wm_814, rfl, by decide, by decide, by decide, wm_109⟩
theorem pd_mX7_bestOrder : (parseMethodDescriptor mX7_bestOrder.2.2.2.2.desc).map (fun d => d.parameters.length) = some 1 := by decide +kernel
theorem mk_mX7_findBestOrder : MOK mX7_findBestOrder := ⟨wm_818, rfl, by decide, by decide, by decide, wm_109⟩
theorem pd_mX7_findBestOrder : (parseMethodDescriptor mX7_findBestOrder.2.2.2.2.desc).map (fun d => d.parameters.length) = some 0 := by decide +kernel
theorem mk_mX7_toNextOrder : MOK mX7_toNextOrder := ⟨wm_823, rfl, by decide, by decide, by decide, wm_109⟩
theorem pd_mX7_toNextOrder : (parseMethodDescriptor mX7_toNextOrder.2.2.2.2.desc).map (fun d => d.parameters.length) = some 1 := by decide +kernel
theorem mk_mX7_swapPlaces : MOK mX7_swapPlaces := ⟨wm_827, rfl, by decide, by decide, by decide, wm_109⟩
theorem pd_mX7_swapPlaces : (parseMethodDescriptor mX7_swapPlaces.2.2.2.2.desc).map (fun d => d.parameters.length) = some 2 := by decide +kernel
theorem mk_mX7_needed : MOK mX7_needed := ⟨wm_831, rfl, by decide, by decide, by decide, wm_109⟩
theorem pd_mX7_needed : (parseMethodDescriptor mX7_needed.2.2.2.2.desc).map (fun d => d.parameters.length) = some 1 := by decide +kernel
theorem mk_mX7_cheapest : MOK mX7_cheapest := ⟨wm_835, rfl, by decide, by decide, by decide, wm_109⟩
theorem pd_mX7_cheapest : (parseMethodDescriptor mX7_cheapest.2.2.2.2.desc).map (fun d => d.parameters.length) = some 0 := by decide +kernel
theorem mk_mX7_isForBehindAll : MOK mX7_isForBehindAll := ⟨wm_839, rfl, by decide, by decide, by decide, wm_109⟩
theorem pd_mX7_isForBehindAll : (parseMethodDescriptor mX7_isForBehindAll.2.2.2.2.desc).map (fun d => d.parameters.length) = some 0 := by decide +kernel
theorem mk_mX7_biggest : MOK mX7_biggest := ⟨wm_843, rfl, by decide, by decide, by decide, wm_109⟩
theorem pd_mX7_biggest : (parseMethodDescriptor mX7_biggest.2.2.2.2.desc).map (fun d => d.parameters.length) = some 1 := by decide +kernel
theorem mk_mX7_swing : MOK mX7_swing := ⟨wm_850, rfl, by decide, by decide, by decide, wm_109⟩
theorem pd_mX7_swing : (parseMethodDescriptor mX7_swing.2.2.2.2.desc).map (fun d => d.parameters.length) = some 0 := by decide +kernel
theorem mk_mX7_rounds : MOK mX7_rounds := ⟨wm_854, rfl, by decide, by decide, by decide, wm_109⟩
theorem pd_mX7_rounds : (parseMethodDescriptor mX7_rounds.2.2.2.2.desc).map (fun d => d.parameters.length) = some 0 := by decide +kernel
theorem mk_mX7_worst : MOK mX7_worst := ⟨wm_858, rfl, by decide, by decide, by decide, wm_109⟩
theorem pd_mX7_worst : (parseMethodDescriptor mX7_worst.2.2.2.2.desc).map (fun d => d.parameters.length) = some 2 := by decide +kernel
theorem mk_mX7_goDownWith : MOK mX7_goDownWith := ⟨wm_862, rfl, by decide, by decide, by decide, wm_109⟩
theorem pd_mX7_goDownWith : (parseMethodDescriptor mX7_goDownWith.2.2.2.2.desc).map (fun d => d.parameters.length) = some 2 := by decide +kernel
theorem mk_mX7_same : MOK mX7_same := ⟨wm_867, rfl, by decide, by decide, by decide, wm_109⟩
theorem pd_mX7_same : (parseMethodDescriptor mX7_same.2.2.2.2.desc).map (fun d => d.parameters.length) = some 0 := by decide +kernel
theorem mk_mX7_dead : MOK mX7_dead := ⟨wm_871, rfl, by decide, by decide, by decide, wm_109⟩
theorem pd_mX7_dead : (parseMethodDescriptor mX7_dead.2.2.2.2.desc).map (fun d => d.parameters.length) = some 0 := by decide +kernel
theorem mk_mX7_changesAny : MOK mX7_changesAny := ⟨wm_875, rfl, by decide, by decide, by decide, wm_109⟩
theorem pd_mX7_changesAny : (parseMethodDescriptor mX7_changesAny.2.2.2.2.desc).map (fun d => d.parameters.length) = some 1 := by decide +kernel
theorem mk_mX7_flip : MOK mX7_flip := ⟨wm_879, rfl, by decide, by decide, by decide, wm_109⟩
theorem pd_mX7_flip : (parseMethodDescriptor mX7_flip.2.2.2.2.desc).map (fun d => d.parameters.length) = some 1 := by decide +kernel
theorem mk_mX7_fewestAsleep : MOK mX7_fewestAsleep := ⟨wm_883, rfl, by decide, by decide, by decide, wm_109⟩
theorem pd_mX7_fewestAsleep : (parseMethodDescriptor mX7_fewestAsleep.2.2.2.2.desc).map (fun d => d.parameters.length) = some 0 := by decide +kernel
theorem mk_mX7_margin : MOK mX7_margin := ⟨wm_887, rfl, by decide, by decide, by decide, wm_109⟩
theorem pd_mX7_margin : (parseMethodDescriptor mX7_margin.2.2.2.2.desc).map (fun d => d.parameters.length) = some 0 := by decide +kernel
theorem mk_mX7_stepAway : MOK mX7_stepAway := ⟨wm_891, rfl, by decide, by decide, by decide, wm_109⟩
theorem pd_mX7_stepAway : (parseMethodDescriptor mX7_stepAway.2.2.2.2.desc).map (fun d => d.parameters.length) = some 2 := by decide +kernel
theorem mk_mX7_beats : MOK mX7_beats := ⟨wm_895, rfl, by decide, by decide, by decide, wm_109⟩
theorem pd_mX7_beats : (parseMethodDescriptor mX7_beats.2.2.2.2.desc).map (fun d => d.parameters.length) = some 0 := by decide +kernel
theorem mk_mX7_commute : MOK mX7_commute := ⟨wm_899, rfl, by decide, by decide, by decide, wm_109⟩
theorem pd_mX7_commute : (parseMethodDescriptor mX7_commute.2.2.2.2.desc).map (fun d => d.parameters.length) = some 2 := by decide +kernel
theorem mk_mX7_again : MOK mX7_again := ⟨wm_903, rfl, by decide, by decide, by decide, wm_109⟩
theorem pd_mX7_again : (parseMethodDescriptor mX7_again.2.2.2.2.desc).map (fun d => d.parameters.length) = some 2 := by decide +kernel
theorem mk_mX7_bestLowest : MOK mX7_bestLowest := ⟨wm_910, rfl, by decide, by decide, by decide, wm_109⟩
theorem pd_mX7_bestLowest : (parseMethodDescriptor mX7_bestLowest.2.2.2.2.desc).map (fun d => d.parameters.length) = some 1 := by decide +kernel
theorem mk_mX7_peak : MOK mX7_peak := ⟨wm_914, rfl, by decide, by decide, by decide, wm_109⟩
theorem pd_mX7_peak : (parseMethodDescriptor mX7_peak.2.2.2.2.desc).map (fun d => d.parameters.length) = some 1 := by decide +kernel
theorem mk_mX7_fullStake : MOK mX7_fullStake := ⟨wm_918, rfl, by decide, by decide, by decide, wm_109⟩
theorem pd_mX7_fullStake : (parseMethodDescriptor mX7_fullStake.2.2.2.2.desc).map (fun d => d.parameters.length) = some 0 := by decide +kernel
theorem mk_mX7_heard : MOK mX7_heard := ⟨wm_922, rfl, by decide, by decide, by decide, wm_109⟩
theorem pd_mX7_heard : (parseMethodDescriptor mX7_heard.2.2.2.2.desc).map (fun d => d.parameters.length) = some 0 := by decide +kernel
theorem mk_mX7_lastSay : MOK mX7_lastSay := ⟨wm_926, rfl, by decide, by decide, by decide, wm_109⟩
theorem pd_mX7_lastSay : (parseMethodDescriptor mX7_lastSay.2.2.2.2.desc).map (fun d => d.parameters.length) = some 0 := by decide +kernel
theorem mk_mX7_row : MOK mX7_row := ⟨wm_930, rfl, by decide, by decide, by decide, wm_109⟩
theorem pd_mX7_row : (parseMethodDescriptor mX7_row.2.2.2.2.desc).map (fun d => d.parameters.length) = some 1 := by decide +kernel
theorem mk_mX7_judge : MOK mX7_judge := ⟨wm_934, rfl, by decide, by decide, by decide, wm_109⟩
theorem pd_mX7_judge : (parseMethodDescriptor mX7_judge.2.2.2.2.desc).map (fun d => d.parameters.length) = some 0 := by decide +kernel
theorem mk_mX7_firstNotSo : MOK mX7_firstNotSo := ⟨wm_938, rfl, by decide, by decide, by decide, wm_109⟩
theorem pd_mX7_firstNotSo : (parseMethodDescriptor mX7_firstNotSo.2.2.2.2.desc).map (fun d => d.parameters.length) = some 0 := by decide +kernel
theorem mk_mX7_clear : MOK mX7_clear := ⟨wm_942, rfl, by decide, by decide, by decide, wm_109⟩
theorem pd_mX7_clear : (parseMethodDescriptor mX7_clear.2.2.2.2.desc).map (fun d => d.parameters.length) = some 0 := by decide +kernel
theorem mk_mX7_lots : MOK mX7_lots := ⟨wm_946, rfl, by decide, by decide, by decide, wm_109⟩
theorem pd_mX7_lots : (parseMethodDescriptor mX7_lots.2.2.2.2.desc).map (fun d => d.parameters.length) = some 3 := by decide +kernel
theorem mk_mX7_image : MOK mX7_image := ⟨wm_953, rfl, by decide, by decide, by decide, wm_109⟩
theorem pd_mX7_image : (parseMethodDescriptor mX7_image.2.2.2.2.desc).map (fun d => d.parameters.length) = some 0 := by decide +kernel
theorem mk_mX7_restore : MOK mX7_restore := ⟨wm_957, rfl, by decide, by decide, by decide, wm_109⟩
theorem pd_mX7_restore : (parseMethodDescriptor mX7_restore.2.2.2.2.desc).map (fun d => d.parameters.length) = some 0 := by decide +kernel
theorem mk_mX7_count : MOK mX7_count := ⟨wm_961, rfl, by decide, by decide, by decide, wm_109⟩
theorem pd_mX7_count : (parseMethodDescriptor mX7_count.2.2.2.2.desc).map (fun d => d.parameters.length) = some 1 := by decide +kernel
theorem mk_mX8_init : MOK mX8_init := ⟨wm_967, rfl, by decide, by decide, by decide, wm_117⟩
theorem pd_mX8_init : (parseMethodDescriptor mX8_init.2.2.2.2.desc).map (fun d => d.parameters.length) = some 0 := by decide +kernel
theorem mk_mX8_feed : MOK mX8_feed := ⟨wm_1114, rfl, by decide, by decide, by decide, wm_117⟩
theorem pd_mX8_feed : (parseMethodDescriptor mX8_feed.2.2.2.2.desc).map (fun d => d.parameters.length) = some 1 := by decide +kernel
theorem mk_mX8_refuse : MOK mX8_refuse := ⟨wm_1118, rfl, by decide, by decide, by decide, wm_117⟩
theorem pd_mX8_refuse : (parseMethodDescriptor mX8_refuse.2.2.2.2.desc).map (fun d => d.parameters.length) = some 1 := by decide +kernel
theorem mk_mX8_caseOf : MOK mX8_caseOf := ⟨wm_1122, rfl, by decide, by decide, by decide, wm_117⟩
theorem pd_mX8_caseOf : (parseMethodDescriptor mX8_caseOf.2.2.2.2.desc).map (fun d => d.parameters.length) = some 0 := by decide +kernel
theorem mk_mX8_readStatement : MOK mX8_readStatement := ⟨wm_1126, rfl, by decide, by decide, by decide, wm_117⟩
theorem pd_mX8_readStatement : (parseMethodDescriptor mX8_readStatement.2.2.2.2.desc).map (fun d => d.parameters.length) = some 0 := by decide +kernel
theorem mk_mX8_here : MOK mX8_here := ⟨wm_1130, rfl, by decide, by decide, by decide, wm_117⟩
theorem pd_mX8_here : (parseMethodDescriptor mX8_here.2.2.2.2.desc).map (fun d => d.parameters.length) = some 0 := by decide +kernel
theorem mk_mX8_isLetter : MOK mX8_isLetter := ⟨wm_1133, rfl, by decide, by decide, by decide, wm_117⟩
theorem pd_mX8_isLetter : (parseMethodDescriptor mX8_isLetter.2.2.2.2.desc).map (fun d => d.parameters.length) = some 1 := by decide +kernel
theorem mk_mX8_readDigits : MOK mX8_readDigits := ⟨wm_1137, rfl, by decide, by decide, by decide, wm_117⟩
theorem pd_mX8_readDigits : (parseMethodDescriptor mX8_readDigits.2.2.2.2.desc).map (fun d => d.parameters.length) = some 1 := by decide +kernel
theorem mk_mX8_in : MOK mX8_in := ⟨wm_1142, rfl, by decide, by decide, by decide, wm_117⟩
theorem pd_mX8_in : (parseMethodDescriptor mX8_in.2.2.2.2.desc).map (fun d => d.parameters.length) = some 3 := by decide +kernel
theorem mk_mX8_carryAll : MOK mX8_carryAll := ⟨wm_1146, rfl, by decide, by decide, by decide, wm_117⟩
theorem pd_mX8_carryAll : (parseMethodDescriptor mX8_carryAll.2.2.2.2.desc).map (fun d => d.parameters.length) = some 2 := by decide +kernel
theorem mk_mX8_carry : MOK mX8_carry := ⟨wm_1150, rfl, by decide, by decide, by decide, wm_117⟩
theorem pd_mX8_carry : (parseMethodDescriptor mX8_carry.2.2.2.2.desc).map (fun d => d.parameters.length) = some 1 := by decide +kernel
theorem mk_mX8_comes : MOK mX8_comes := ⟨wm_1154, rfl, by decide, by decide, by decide, wm_117⟩
theorem pd_mX8_comes : (parseMethodDescriptor mX8_comes.2.2.2.2.desc).map (fun d => d.parameters.length) = some 1 := by decide +kernel
theorem mk_mX8_courtComes : MOK mX8_courtComes := ⟨wm_1158, rfl, by decide, by decide, by decide, wm_117⟩
theorem pd_mX8_courtComes : (parseMethodDescriptor mX8_courtComes.2.2.2.2.desc).map (fun d => d.parameters.length) = some 3 := by decide +kernel
theorem mk_mX8_setMany : MOK mX8_setMany := ⟨wm_1163, rfl, by decide, by decide, by decide, wm_117⟩
theorem pd_mX8_setMany : (parseMethodDescriptor mX8_setMany.2.2.2.2.desc).map (fun d => d.parameters.length) = some 1 := by decide +kernel
theorem mk_mX8_image : MOK mX8_image := ⟨wm_1167, rfl, by decide, by decide, by decide, wm_117⟩
theorem pd_mX8_image : (parseMethodDescriptor mX8_image.2.2.2.2.desc).map (fun d => d.parameters.length) = some 0 := by decide +kernel
theorem mk_mX8_restore : MOK mX8_restore := ⟨wm_1171, rfl, by decide, by decide, by decide, wm_117⟩
theorem pd_mX8_restore : (parseMethodDescriptor mX8_restore.2.2.2.2.desc).map (fun d => d.parameters.length) = some 0 := by decide +kernel
theorem mk_mX8_back : MOK mX8_back := ⟨wm_1175, rfl, by decide, by decide, by decide, wm_117⟩
theorem pd_mX8_back : (parseMethodDescriptor mX8_back.2.2.2.2.desc).map (fun d => d.parameters.length) = some 0 := by decide +kernel
theorem mk_mX8_court : MOK mX8_court := ⟨wm_1179, rfl, by decide, by decide, by decide, wm_117⟩
theorem pd_mX8_court : (parseMethodDescriptor mX8_court.2.2.2.2.desc).map (fun d => d.parameters.length) = some 2 := by decide +kernel
theorem mk_mX8_isCourt : MOK mX8_isCourt := ⟨wm_1183, rfl, by decide, by decide, by decide, wm_117⟩
theorem pd_mX8_isCourt : (parseMethodDescriptor mX8_isCourt.2.2.2.2.desc).map (fun d => d.parameters.length) = some 1 := by decide +kernel
theorem mk_mX8_point : MOK mX8_point := ⟨wm_1188, rfl, by decide, by decide, by decide, wm_117⟩
theorem pd_mX8_point : (parseMethodDescriptor mX8_point.2.2.2.2.desc).map (fun d => d.parameters.length) = some 2 := by decide +kernel
theorem mk_mX8_wrongNumber : MOK mX8_wrongNumber := ⟨wm_1191, rfl, by decide, by decide, by decide, wm_117⟩
theorem pd_mX8_wrongNumber : (parseMethodDescriptor mX8_wrongNumber.2.2.2.2.desc).map (fun d => d.parameters.length) = some 3 := by decide +kernel
theorem mk_mX8_keepTurn : MOK mX8_keepTurn := ⟨wm_1196, rfl, by decide, by decide, by decide, wm_117⟩
theorem pd_mX8_keepTurn : (parseMethodDescriptor mX8_keepTurn.2.2.2.2.desc).map (fun d => d.parameters.length) = some 0 := by decide +kernel
theorem mk_mX8_kind : MOK mX8_kind := ⟨wm_1200, rfl, by decide, by decide, by decide, wm_117⟩
theorem pd_mX8_kind : (parseMethodDescriptor mX8_kind.2.2.2.2.desc).map (fun d => d.parameters.length) = some 3 := by decide +kernel
theorem mk_mX8_lowest : MOK mX8_lowest := ⟨wm_1205, rfl, by decide, by decide, by decide, wm_117⟩
theorem pd_mX8_lowest : (parseMethodDescriptor mX8_lowest.2.2.2.2.desc).map (fun d => d.parameters.length) = some 3 := by decide +kernel
theorem mk_mX8_set : MOK mX8_set := ⟨wm_1209, rfl, by decide, by decide, by decide, wm_117⟩
theorem pd_mX8_set : (parseMethodDescriptor mX8_set.2.2.2.2.desc).map (fun d => d.parameters.length) = some 2 := by decide +kernel
theorem mk_mX8_down : MOK mX8_down := ⟨wm_1213, rfl, by decide, by decide, by decide, wm_117⟩
theorem pd_mX8_down : (parseMethodDescriptor mX8_down.2.2.2.2.desc).map (fun d => d.parameters.length) = some 2 := by decide +kernel
theorem mk_mX8_downTo : MOK mX8_downTo := ⟨wm_1219, rfl, by decide, by decide, by decide, wm_117⟩
theorem pd_mX8_downTo : (parseMethodDescriptor mX8_downTo.2.2.2.2.desc).map (fun d => d.parameters.length) = some 1 := by decide +kernel
theorem mk_mX8_think : MOK mX8_think := ⟨wm_1223, rfl, by decide, by decide, by decide, wm_117⟩
theorem pd_mX8_think : (parseMethodDescriptor mX8_think.2.2.2.2.desc).map (fun d => d.parameters.length) = some 0 := by decide +kernel
theorem mk_mX8_pass : MOK mX8_pass := ⟨wm_1227, rfl, by decide, by decide, by decide, wm_117⟩
theorem pd_mX8_pass : (parseMethodDescriptor mX8_pass.2.2.2.2.desc).map (fun d => d.parameters.length) = some 1 := by decide +kernel
theorem mk_mX8_sendsBack : MOK mX8_sendsBack := ⟨wm_1231, rfl, by decide, by decide, by decide, wm_117⟩
theorem pd_mX8_sendsBack : (parseMethodDescriptor mX8_sendsBack.2.2.2.2.desc).map (fun d => d.parameters.length) = some 1 := by decide +kernel
theorem mk_mX8_standing : MOK mX8_standing := ⟨wm_1235, rfl, by decide, by decide, by decide, wm_117⟩
theorem pd_mX8_standing : (parseMethodDescriptor mX8_standing.2.2.2.2.desc).map (fun d => d.parameters.length) = some 0 := by decide +kernel
theorem mk_mX8_act : MOK mX8_act := ⟨wm_1239, rfl, by decide, by decide, by decide, wm_117⟩
theorem pd_mX8_act : (parseMethodDescriptor mX8_act.2.2.2.2.desc).map (fun d => d.parameters.length) = some 2 := by decide +kernel
theorem mk_mX8_surest : MOK mX8_surest := ⟨wm_1243, rfl, by decide, by decide, by decide, wm_117⟩
theorem pd_mX8_surest : (parseMethodDescriptor mX8_surest.2.2.2.2.desc).map (fun d => d.parameters.length) = some 0 := by decide +kernel
theorem mk_mX8_plainly : MOK mX8_plainly := ⟨wm_1246, rfl, by decide, by decide, by decide, wm_117⟩
theorem pd_mX8_plainly : (parseMethodDescriptor mX8_plainly.2.2.2.2.desc).map (fun d => d.parameters.length) = some 1 := by decide +kernel
theorem mk_mX8_bench : MOK mX8_bench := ⟨wm_1250, rfl, by decide, by decide, by decide, wm_117⟩
theorem pd_mX8_bench : (parseMethodDescriptor mX8_bench.2.2.2.2.desc).map (fun d => d.parameters.length) = some 1 := by decide +kernel
theorem mk_mX8_held : MOK mX8_held := ⟨wm_1253, rfl, by decide, by decide, by decide, wm_117⟩
theorem pd_mX8_held : (parseMethodDescriptor mX8_held.2.2.2.2.desc).map (fun d => d.parameters.length) = some 1 := by decide +kernel
theorem mk_mX8_halve : MOK mX8_halve := ⟨wm_1257, rfl, by decide, by decide, by decide, wm_117⟩
theorem pd_mX8_halve : (parseMethodDescriptor mX8_halve.2.2.2.2.desc).map (fun d => d.parameters.length) = some 0 := by decide +kernel
theorem mk_mX8_sumNow : MOK mX8_sumNow := ⟨wm_1261, rfl, by decide, by decide, by decide, wm_117⟩
theorem pd_mX8_sumNow : (parseMethodDescriptor mX8_sumNow.2.2.2.2.desc).map (fun d => d.parameters.length) = some 0 := by decide +kernel
theorem mk_mX8_isFor : MOK mX8_isFor := ⟨wm_1265, rfl, by decide, by decide, by decide, wm_117⟩
theorem pd_mX8_isFor : (parseMethodDescriptor mX8_isFor.2.2.2.2.desc).map (fun d => d.parameters.length) = some 0 := by decide +kernel
theorem mk_mX8_turns : MOK mX8_turns := ⟨wm_1269, rfl, by decide, by decide, by decide, wm_117⟩
theorem pd_mX8_turns : (parseMethodDescriptor mX8_turns.2.2.2.2.desc).map (fun d => d.parameters.length) = some 1 := by decide +kernel
theorem mk_mX8_costs : MOK mX8_costs := ⟨wm_1273, rfl, by decide, by decide, by decide, wm_117⟩
theorem pd_mX8_costs : (parseMethodDescriptor mX8_costs.2.2.2.2.desc).map (fun d => d.parameters.length) = some 1 := by decide +kernel
theorem mk_mX8_up : MOK mX8_up := ⟨wm_1277, rfl, by decide, by decide, by decide, wm_117⟩
theorem pd_mX8_up : (parseMethodDescriptor mX8_up.2.2.2.2.desc).map (fun d => d.parameters.length) = some 0 := by decide +kernel
theorem mk_mX8_round : MOK mX8_round := ⟨wm_1281, rfl, by decide, by decide, by decide, wm_117⟩
theorem pd_mX8_round : (parseMethodDescriptor mX8_round.2.2.2.2.desc).map (fun d => d.parameters.length) = some 1 := by decide +kernel
theorem mk_mX8_goRound : MOK mX8_goRound := ⟨wm_1285, rfl, by decide, by decide, by decide, wm_117⟩
theorem pd_mX8_goRound : (parseMethodDescriptor mX8_goRound.2.2.2.2.desc).map (fun d => d.parameters.length) = some 0 := by decide +kernel
theorem mk_mX8_comesAgain : MOK mX8_comesAgain := ⟨wm_1289, rfl, by decide, by decide, by decide, wm_117⟩
theorem pd_mX8_comesAgain : (parseMethodDescriptor mX8_comesAgain.2.2.2.2.desc).map (fun d => d.parameters.length) = some 1 := by decide +kernel
theorem mk_mX8_rounds : MOK mX8_rounds := ⟨wm_1293, rfl, by decide, by decide, by decide, wm_117⟩
theorem pd_mX8_rounds : (parseMethodDescriptor mX8_rounds.2.2.2.2.desc).map (fun d => d.parameters.length) = some 0 := by decide +kernel
theorem mk_mX8_appeals : MOK mX8_appeals := ⟨wm_1297, rfl, by decide, by decide, by decide, wm_117⟩
theorem pd_mX8_appeals : (parseMethodDescriptor mX8_appeals.2.2.2.2.desc).map (fun d => d.parameters.length) = some 1 := by decide +kernel
theorem mk_mX8_layAppeals : MOK mX8_layAppeals := ⟨wm_1302, rfl, by decide, by decide, by decide, wm_117⟩
theorem pd_mX8_layAppeals : (parseMethodDescriptor mX8_layAppeals.2.2.2.2.desc).map (fun d => d.parameters.length) = some 0 := by decide +kernel
theorem mk_mX8_goneThrough : MOK mX8_goneThrough := ⟨wm_1306, rfl, by decide, by decide, by decide, wm_117⟩
theorem pd_mX8_goneThrough : (parseMethodDescriptor mX8_goneThrough.2.2.2.2.desc).map (fun d => d.parameters.length) = some 0 := by decide +kernel
theorem mk_mX8_treaty : MOK mX8_treaty := ⟨wm_1310, rfl, by decide, by decide, by decide, wm_117⟩
theorem pd_mX8_treaty : (parseMethodDescriptor mX8_treaty.2.2.2.2.desc).map (fun d => d.parameters.length) = some 2 := by decide +kernel
theorem mk_mX8_wrongBit : MOK mX8_wrongBit := ⟨wm_1313, rfl, by decide, by decide, by decide, wm_117⟩
theorem pd_mX8_wrongBit : (parseMethodDescriptor mX8_wrongBit.2.2.2.2.desc).map (fun d => d.parameters.length) = some 3 := by decide +kernel
theorem mk_mX8_share : MOK mX8_share := ⟨wm_1317, rfl, by decide, by decide, by decide, wm_117⟩
theorem pd_mX8_share : (parseMethodDescriptor mX8_share.2.2.2.2.desc).map (fun d => d.parameters.length) = some 1 := by decide +kernel
theorem mk_mX8_press : MOK mX8_press := ⟨wm_1321, rfl, by decide, by decide, by decide, wm_117⟩
theorem pd_mX8_press : (parseMethodDescriptor mX8_press.2.2.2.2.desc).map (fun d => d.parameters.length) = some 1 := by decide +kernel
theorem mk_mX8_pressBits : MOK mX8_pressBits := ⟨wm_1325, rfl, by decide, by decide, by decide, wm_117⟩
theorem pd_mX8_pressBits : (parseMethodDescriptor mX8_pressBits.2.2.2.2.desc).map (fun d => d.parameters.length) = some 0 := by decide +kernel
theorem mk_mX8_onesOf : MOK mX8_onesOf := ⟨wm_1328, rfl, by decide, by decide, by decide, wm_117⟩
theorem pd_mX8_onesOf : (parseMethodDescriptor mX8_onesOf.2.2.2.2.desc).map (fun d => d.parameters.length) = some 1 := by decide +kernel
theorem mk_mX8_hasBit : MOK mX8_hasBit := ⟨wm_1331, rfl, by decide, by decide, by decide, wm_117⟩
theorem pd_mX8_hasBit : (parseMethodDescriptor mX8_hasBit.2.2.2.2.desc).map (fun d => d.parameters.length) = some 2 := by decide +kernel
theorem mk_mX8_passAll : MOK mX8_passAll := ⟨wm_1335, rfl, by decide, by decide, by decide, wm_117⟩
theorem pd_mX8_passAll : (parseMethodDescriptor mX8_passAll.2.2.2.2.desc).map (fun d => d.parameters.length) = some 1 := by decide +kernel
theorem mk_mX8_turnsBy : MOK mX8_turnsBy := ⟨wm_1339, rfl, by decide, by decide, by decide, wm_117⟩
theorem pd_mX8_turnsBy : (parseMethodDescriptor mX8_turnsBy.2.2.2.2.desc).map (fun d => d.parameters.length) = some 2 := by decide +kernel
theorem mk_mX8_sumBehindAll : MOK mX8_sumBehindAll := ⟨wm_1343, rfl, by decide, by decide, by decide, wm_117⟩
theorem pd_mX8_sumBehindAll : (parseMethodDescriptor mX8_sumBehindAll.2.2.2.2.desc).map (fun d => d.parameters.length) = some 0 := by decide +kernel
theorem mk_mX8_afterOne : MOK mX8_afterOne := ⟨wm_1347, rfl, by decide, by decide, by decide, wm_117⟩
theorem pd_mX8_afterOne : (parseMethodDescriptor mX8_afterOne.2.2.2.2.desc).map (fun d => d.parameters.length) = some 0 := by decide +kernel
theorem mk_mX8_lastBy : MOK mX8_lastBy := ⟨wm_1351, rfl, by decide, by decide, by decide, wm_117⟩
theorem pd_mX8_lastBy : (parseMethodDescriptor mX8_lastBy.2.2.2.2.desc).map (fun d => d.parameters.length) = some 1 := by decide +kernel
theorem mk_mX8_sumByChanges : MOK mX8_sumByChanges := ⟨wm_1355, rfl, by decide, by decide, by decide, wm_117⟩
theorem pd_mX8_sumByChanges : (parseMethodDescriptor mX8_sumByChanges.2.2.2.2.desc).map (fun d => d.parameters.length) = some 1 := by decide +kernel
theorem mk_mX8_afterOneOfFour : MOK mX8_afterOneOfFour := ⟨wm_1359, rfl, by decide, by decide, by decide, wm_117⟩
theorem pd_mX8_afterOneOfFour : (parseMethodDescriptor mX8_afterOneOfFour.2.2.2.2.desc).map (fun d => d.parameters.length) = some 0 := by decide +kernel
theorem mk_mX8_afterTwo : MOK mX8_afterTwo := ⟨wm_1363, rfl, by decide, by decide, by decide, wm_117⟩
theorem pd_mX8_afterTwo : (parseMethodDescriptor mX8_afterTwo.2.2.2.2.desc).map (fun d => d.parameters.length) = some 0 := by decide +kernel
theorem mk_mX8_standsFast : MOK mX8_standsFast := ⟨wm_1367, rfl, by decide, by decide, by decide, wm_117⟩
theorem pd_mX8_standsFast : (parseMethodDescriptor mX8_standsFast.2.2.2.2.desc).map (fun d => d.parameters.length) = some 0 := by decide +kernel
theorem mk_mX8_fastFrom : MOK mX8_fastFrom := ⟨wm_1371, rfl, by decide, by decide, by decide, wm_117⟩
theorem pd_mX8_fastFrom : (parseMethodDescriptor mX8_fastFrom.2.2.2.2.desc).map (fun d => d.parameters.length) = some 0 := by decide +kernel
theorem mk_mX8_survive : MOK mX8_survive := ⟨wm_1375, rfl, by decide, by decide, by decide, wm_117⟩
theorem pd_mX8_survive : (parseMethodDescriptor mX8_survive.2.2.2.2.desc).map (fun d => d.parameters.length) = some 1 := by decide +kernel
theorem mk_mX8_thinkThree : MOK mX8_thinkThree := ⟨wm_1379, rfl, by decide, by decide, by decide, wm_117⟩
theorem pd_mX8_thinkThree : (parseMethodDescriptor mX8_thinkThree.2.2.2.2.desc).map (fun d => d.parameters.length) = some 2 := by decide +kernel
theorem mk_mX8_fits : MOK mX8_fits := ⟨wm_1383, rfl, by decide, by decide, by decide, wm_117⟩
theorem pd_mX8_fits : (parseMethodDescriptor mX8_fits.2.2.2.2.desc).map (fun d => d.parameters.length) = some 1 := by decide +kernel
theorem mk_mX8_first : MOK mX8_first := ⟨wm_1387, rfl, by decide, by decide, by decide, wm_117⟩
theorem pd_mX8_first : (parseMethodDescriptor mX8_first.2.2.2.2.desc).map (fun d => d.parameters.length) = some 1 := by decide +kernel
theorem mk_mX8_apart : MOK mX8_apart := ⟨wm_1391, rfl, by decide, by decide, by decide, wm_117⟩
theorem pd_mX8_apart : (parseMethodDescriptor mX8_apart.2.2.2.2.desc).map (fun d => d.parameters.length) = some 3 := by decide +kernel
theorem mk_mX8_bedtime : MOK mX8_bedtime := ⟨wm_1395, rfl, by decide, by decide, by decide, wm_117⟩
theorem pd_mX8_bedtime : (parseMethodDescriptor mX8_bedtime.2.2.2.2.desc).map (fun d => d.parameters.length) = some 2 := by decide +kernel
theorem mk_mX8_divisor : MOK mX8_divisor := ⟨wm_1399, rfl, by decide, by decide, by decide, wm_117⟩
theorem pd_mX8_divisor : (parseMethodDescriptor mX8_divisor.2.2.2.2.desc).map (fun d => d.parameters.length) = some 2 := by decide +kernel
theorem mk_mX8_order : MOK mX8_order := ⟨wm_1403, rfl, by decide, by decide, by decide, wm_117⟩
theorem pd_mX8_order : (parseMethodDescriptor mX8_order.2.2.2.2.desc).map (fun d => d.parameters.length) = some 0 := by decide +kernel
theorem mk_mX8_change : MOK mX8_change := ⟨wm_1407, rfl, by decide, by decide, by decide, wm_117⟩
theorem pd_mX8_change : (parseMethodDescriptor mX8_change.2.2.2.2.desc).map (fun d => d.parameters.length) = some 2 := by decide +kernel
theorem mk_mX8_bestOrder : MOK mX8_bestOrder := ⟨wm_1411, rfl, by decide, by decide, by decide, wm_117⟩
theorem pd_mX8_bestOrder : (parseMethodDescriptor mX8_bestOrder.2.2.2.2.desc).map (fun d => d.parameters.length) = some 1 := by decide +kernel
theorem mk_mX8_sumByOrder : MOK mX8_sumByOrder := ⟨wm_1415, rfl, by decide, by decide, by decide, wm_117⟩
theorem pd_mX8_sumByOrder : (parseMethodDescriptor mX8_sumByOrder.2.2.2.2.desc).map (fun d => d.parameters.length) = some 1 := by decide +kernel
theorem mk_mX8_layOrder : MOK mX8_layOrder := ⟨wm_1419, rfl, by decide, by decide, by decide, wm_117⟩
theorem pd_mX8_layOrder : (parseMethodDescriptor mX8_layOrder.2.2.2.2.desc).map (fun d => d.parameters.length) = some 2 := by decide +kernel
theorem mk_mX8_ordersOf : MOK mX8_ordersOf := ⟨wm_1422, rfl, by decide, by decide, by decide, wm_117⟩
theorem pd_mX8_ordersOf : (parseMethodDescriptor mX8_ordersOf.2.2.2.2.desc).map (fun d => d.parameters.length) = some 1 := by decide +kernel
theorem mk_mX8_needed : MOK mX8_needed := ⟨wm_1426, rfl, by decide, by decide, by decide, wm_117⟩
theorem pd_mX8_needed : (parseMethodDescriptor mX8_needed.2.2.2.2.desc).map (fun d => d.parameters.length) = some 1 := by decide +kernel
theorem mk_mX8_cheapest : MOK mX8_cheapest := ⟨wm_1430, rfl, by decide, by decide, by decide, wm_117⟩
theorem pd_mX8_cheapest : (parseMethodDescriptor mX8_cheapest.2.2.2.2.desc).map (fun d => d.parameters.length) = some 0 := by decide +kernel
theorem mk_mX8_biggest : MOK mX8_biggest := ⟨wm_1434, rfl, by decide, by decide, by decide, wm_117⟩
theorem pd_mX8_biggest : (parseMethodDescriptor mX8_biggest.2.2.2.2.desc).map (fun d => d.parameters.length) = some 1 := by decide +kernel
theorem mk_mX8_swing : MOK mX8_swing := ⟨wm_1438, rfl, by decide, by decide, by decide, wm_117⟩
theorem pd_mX8_swing : (parseMethodDescriptor mX8_swing.2.2.2.2.desc).map (fun d => d.parameters.length) = some 0 := by decide +kernel
theorem mk_mX8_worst : MOK mX8_worst := ⟨wm_1442, rfl, by decide, by decide, by decide, wm_117⟩
theorem pd_mX8_worst : (parseMethodDescriptor mX8_worst.2.2.2.2.desc).map (fun d => d.parameters.length) = some 2 := by decide +kernel
theorem mk_mX8_same : MOK mX8_same := ⟨wm_1446, rfl, by decide, by decide, by decide, wm_117⟩
theorem pd_mX8_same : (parseMethodDescriptor mX8_same.2.2.2.2.desc).map (fun d => d.parameters.length) = some 0 := by decide +kernel
theorem mk_mX8_dead : MOK mX8_dead := ⟨wm_1450, rfl, by decide, by decide, by decide, wm_117⟩
theorem pd_mX8_dead : (parseMethodDescriptor mX8_dead.2.2.2.2.desc).map (fun d => d.parameters.length) = some 0 := by decide +kernel
theorem mk_mX8_flip : MOK mX8_flip := ⟨wm_1454, rfl, by decide, by decide, by decide, wm_117⟩
theorem pd_mX8_flip : (parseMethodDescriptor mX8_flip.2.2.2.2.desc).map (fun d => d.parameters.length) = some 1 := by decide +kernel
theorem mk_mX8_margin : MOK mX8_margin := ⟨wm_1458, rfl, by decide, by decide, by decide, wm_117⟩
theorem pd_mX8_margin : (parseMethodDescriptor mX8_margin.2.2.2.2.desc).map (fun d => d.parameters.length) = some 0 := by decide +kernel
theorem mk_mX8_isOtherBy : MOK mX8_isOtherBy := ⟨wm_1462, rfl, by decide, by decide, by decide, wm_117⟩
theorem pd_mX8_isOtherBy : (parseMethodDescriptor mX8_isOtherBy.2.2.2.2.desc).map (fun d => d.parameters.length) = some 2 := by decide +kernel
theorem mk_mX8_beats : MOK mX8_beats := ⟨wm_1467, rfl, by decide, by decide, by decide, wm_117⟩
theorem pd_mX8_beats : (parseMethodDescriptor mX8_beats.2.2.2.2.desc).map (fun d => d.parameters.length) = some 0 := by decide +kernel
theorem mk_mX8_commute : MOK mX8_commute := ⟨wm_1471, rfl, by decide, by decide, by decide, wm_117⟩
theorem pd_mX8_commute : (parseMethodDescriptor mX8_commute.2.2.2.2.desc).map (fun d => d.parameters.length) = some 2 := by decide +kernel
theorem mk_mX8_again : MOK mX8_again := ⟨wm_1475, rfl, by decide, by decide, by decide, wm_117⟩
theorem pd_mX8_again : (parseMethodDescriptor mX8_again.2.2.2.2.desc).map (fun d => d.parameters.length) = some 2 := by decide +kernel
theorem mk_mX8_isAsAt : MOK mX8_isAsAt := ⟨wm_1479, rfl, by decide, by decide, by decide, wm_117⟩
theorem pd_mX8_isAsAt : (parseMethodDescriptor mX8_isAsAt.2.2.2.2.desc).map (fun d => d.parameters.length) = some 1 := by decide +kernel
theorem mk_mX8_bestLowest : MOK mX8_bestLowest := ⟨wm_1483, rfl, by decide, by decide, by decide, wm_117⟩
theorem pd_mX8_bestLowest : (parseMethodDescriptor mX8_bestLowest.2.2.2.2.desc).map (fun d => d.parameters.length) = some 1 := by decide +kernel
theorem mk_mX8_peak : MOK mX8_peak := ⟨wm_1487, rfl, by decide, by decide, by decide, wm_117⟩
theorem pd_mX8_peak : (parseMethodDescriptor mX8_peak.2.2.2.2.desc).map (fun d => d.parameters.length) = some 1 := by decide +kernel
theorem mk_mX8_fullStake : MOK mX8_fullStake := ⟨wm_1491, rfl, by decide, by decide, by decide, wm_117⟩
theorem pd_mX8_fullStake : (parseMethodDescriptor mX8_fullStake.2.2.2.2.desc).map (fun d => d.parameters.length) = some 0 := by decide +kernel
theorem mk_mX8_heard : MOK mX8_heard := ⟨wm_1495, rfl, by decide, by decide, by decide, wm_117⟩
theorem pd_mX8_heard : (parseMethodDescriptor mX8_heard.2.2.2.2.desc).map (fun d => d.parameters.length) = some 0 := by decide +kernel
theorem mk_mX8_lastSay : MOK mX8_lastSay := ⟨wm_1499, rfl, by decide, by decide, by decide, wm_117⟩
theorem pd_mX8_lastSay : (parseMethodDescriptor mX8_lastSay.2.2.2.2.desc).map (fun d => d.parameters.length) = some 0 := by decide +kernel
theorem mk_mX8_row : MOK mX8_row := ⟨wm_1503, rfl, by decide, by decide, by decide, wm_117⟩
theorem pd_mX8_row : (parseMethodDescriptor mX8_row.2.2.2.2.desc).map (fun d => d.parameters.length) = some 1 := by decide +kernel
theorem mk_mX8_judge : MOK mX8_judge := ⟨wm_1507, rfl, by decide, by decide, by decide, wm_117⟩
theorem pd_mX8_judge : (parseMethodDescriptor mX8_judge.2.2.2.2.desc).map (fun d => d.parameters.length) = some 0 := by decide +kernel
theorem mk_mX8_clear : MOK mX8_clear := ⟨wm_1511, rfl, by decide, by decide, by decide, wm_117⟩
theorem pd_mX8_clear : (parseMethodDescriptor mX8_clear.2.2.2.2.desc).map (fun d => d.parameters.length) = some 0 := by decide +kernel
theorem mk_mX8_lots : MOK mX8_lots := ⟨wm_1515, rfl, by decide, by decide, by decide, wm_117⟩
theorem pd_mX8_lots : (parseMethodDescriptor mX8_lots.2.2.2.2.desc).map (fun d => d.parameters.length) = some 3 := by decide +kernel
theorem mk_mX8_count : MOK mX8_count := ⟨wm_1522, rfl, by decide, by decide, by decide, wm_117⟩
theorem pd_mX8_count : (parseMethodDescriptor mX8_count.2.2.2.2.desc).map (fun d => d.parameters.length) = some 1 := by decide +kernel
theorem MLt0_ok : ∀ q ∈ MLt0, mlW 0 q := fa_cons (⟨wm_534, mk_mX0_forgetOldest, wm_536, fun _ => wm_21, pd_mX0_forgetOldest, fun h => absurd h (by decide)⟩) (fa_cons (⟨wm_567, mk_mX5_changePoint, wm_491, fun _ => wm_13, pd_mX5_changePoint, fun h => absurd h (by decide)⟩) (fa_cons (⟨wm_568, mk_mX5_rename, wm_546, fun _ => wm_22, pd_mX5_rename, fun h => absurd h (by decide)⟩) (fa_cons (⟨wm_569, mk_mX5_loseLowest, wm_504, fun _ => wm_16, pd_mX5_loseLowest, fun h => absurd h (by decide)⟩) (fa_nil))))
theorem MLt1_ok : ∀ q ∈ MLt1, mlW 1 q := fa_cons (⟨wm_664, mk_mX3_copyFrom, wm_446, fun _ => wm_5, pd_mX3_copyFrom, fun h => absurd h (by decide)⟩) (fa_cons (⟨wm_665, mk_mX3_told, wm_667, fun _ => wm_41, pd_mX3_told, fun h => absurd h (by decide)⟩) (fa_cons (⟨wm_671, mk_mX4_note, wm_673, fun _ => wm_42, pd_mX4_note, fun h => absurd h (by decide)⟩) (fa_cons (⟨wm_675, mk_mX5_sendsBack, wm_654, fun _ => wm_39, pd_mX5_sendsBack, fun h => absurd h (by decide)⟩) (fa_cons (⟨wm_676, mk_mX1_comeToFirst, wm_678, fun _ => wm_43, pd_mX1_comeToFirst, fun h => absurd h (by decide)⟩) (fa_cons (⟨wm_680, mk_mX4_find, wm_682, fun _ => wm_44, pd_mX4_find, fun h => absurd h (by decide)⟩) (fa_cons (⟨wm_684, mk_mX3_suffer, wm_593, fun _ => wm_28, pd_mX3_suffer, fun h => absurd h (by decide)⟩) (fa_nil)))))))
theorem MLt2_ok : ∀ q ∈ MLt2, mlW 2 q := fa_cons (⟨wm_373, mk_mJ0_length_8abf5, wm_374, fun _ => wm_375, pd_mJ0_length_8abf5, fun h => absurd h (by decide)⟩) (fa_cons (⟨wm_383, mk_mX2_shape, wm_384, fun h => absurd h (by decide), pd_mX2_shape, fun h => absurd h (by decide)⟩) (fa_cons (⟨wm_392, mk_mJ0_isEmpty_aae02, wm_393, fun _ => wm_394, pd_mJ0_isEmpty_aae02, fun h => absurd h (by decide)⟩) (fa_cons (⟨wm_396, mk_mJ0_charAt_5068e, wm_397, fun _ => wm_398, pd_mJ0_charAt_5068e, fun h => absurd h (by decide)⟩) (fa_cons (⟨wm_434, mk_mX2_suits, wm_435, fun h => absurd h (by decide), pd_mX2_suits, fun h => absurd h (by decide)⟩) (fa_cons (⟨wm_453, mk_mX2_sign, wm_455, fun _ => wm_7, pd_mX2_sign, fun h => absurd h (by decide)⟩) (fa_cons (⟨wm_461, mk_mX2_digit, wm_463, fun _ => wm_9, pd_mX2_digit, fun h => absurd h (by decide)⟩) (fa_cons (⟨wm_465, mk_mX5_addLowest, wm_467, fun _ => wm_10, pd_mX5_addLowest, fun h => absurd h (by decide)⟩) (fa_cons (⟨wm_475, mk_mX5_change, wm_477, fun _ => wm_11, pd_mX5_change, fun h => absurd h (by decide)⟩) (fa_cons (⟨wm_489, mk_mX5_changePoint, wm_491, fun _ => wm_13, pd_mX5_changePoint, fun h => absurd h (by decide)⟩) (fa_cons (⟨wm_502, mk_mX5_loseLowest, wm_504, fun _ => wm_16, pd_mX5_loseLowest, fun h => absurd h (by decide)⟩) (fa_nil)))))))))))
theorem MLt3_ok : ∀ q ∈ MLt3, mlW 3 q := fa_cons (⟨wm_501, mk_mX3_has, wm_495, fun _ => wm_14, pd_mX3_has, fun h => absurd h (by decide)⟩) (fa_cons (⟨wm_595, mk_mX3_surest, wm_597, fun _ => wm_29, pd_mX3_surest, fun h => absurd h (by decide)⟩) (fa_cons (⟨wm_599, mk_mX3_halve, wm_601, fun _ => wm_30, pd_mX3_halve, fun h => absurd h (by decide)⟩) (fa_cons (⟨wm_603, mk_mX3_turn, wm_605, fun _ => wm_31, pd_mX3_turn, fun h => absurd h (by decide)⟩) (fa_cons (⟨wm_607, mk_mX3_lessenBehind, wm_609, fun _ => wm_32, pd_mX3_lessenBehind, fun h => absurd h (by decide)⟩) (fa_cons (⟨wm_611, mk_mX3_bringOver, wm_613, fun _ => wm_33, pd_mX3_bringOver, fun h => absurd h (by decide)⟩) (fa_cons (⟨wm_615, mk_mX3_bringOthersNearer, wm_617, fun _ => wm_34, pd_mX3_bringOthersNearer, fun h => absurd h (by decide)⟩) (fa_cons (⟨wm_623, mk_mX3_sum, wm_625, fun _ => wm_36, pd_mX3_sum, fun h => absurd h (by decide)⟩) (fa_cons (⟨wm_732, mk_mX3_number, wm_528, fun _ => wm_19, pd_mX3_number, fun h => absurd h (by decide)⟩) (fa_cons (⟨wm_733, mk_mX3_put, wm_499, fun _ => wm_15, pd_mX3_put, fun h => absurd h (by decide)⟩) (fa_cons (⟨wm_750, mk_mX3_resize, wm_481, fun _ => wm_12, pd_mX3_resize, fun h => absurd h (by decide)⟩) (fa_nil)))))))))))
theorem MLt4_ok : ∀ q ∈ MLt4, mlW 4 q := fa_nil
theorem MLt5_ok : ∀ q ∈ MLt5, mlW 5 q := fa_cons (⟨wm_141, mk_mX3_init, wm_142, fun h => absurd h (by decide), pd_mX3_init, fun _ => rfl⟩) (fa_cons (⟨wm_444, mk_mX3_copyFrom, wm_446, fun _ => wm_5, pd_mX3_copyFrom, fun h => absurd h (by decide)⟩) (fa_cons (⟨wm_469, mk_mX7_isKind, wm_470, fun h => absurd h (by decide), pd_mX7_isKind, fun h => absurd h (by decide)⟩) (fa_cons (⟨wm_472, mk_mX7_outside, wm_473, fun h => absurd h (by decide), pd_mX7_outside, fun h => absurd h (by decide)⟩) (fa_cons (⟨wm_479, mk_mX3_resize, wm_481, fun _ => wm_12, pd_mX3_resize, fun h => absurd h (by decide)⟩) (fa_cons (⟨wm_493, mk_mX3_has, wm_495, fun _ => wm_14, pd_mX3_has, fun h => absurd h (by decide)⟩) (fa_cons (⟨wm_497, mk_mX3_put, wm_499, fun _ => wm_15, pd_mX3_put, fun h => absurd h (by decide)⟩) (fa_cons (⟨wm_548, mk_mX5_hasCourt, wm_513, fun _ => wm_17, pd_mX5_hasCourt, fun h => absurd h (by decide)⟩) (fa_cons (⟨wm_583, mk_mX5_hearAs, wm_585, fun _ => wm_26, pd_mX5_hearAs, fun h => absurd h (by decide)⟩) (fa_cons (⟨wm_587, mk_mX3_notZero, wm_589, fun _ => wm_27, pd_mX3_notZero, fun h => absurd h (by decide)⟩) (fa_cons (⟨wm_591, mk_mX3_suffer, wm_593, fun _ => wm_28, pd_mX3_suffer, fun h => absurd h (by decide)⟩) (fa_nil)))))))))))
theorem MLt6_ok : ∀ q ∈ MLt6, mlW 6 q := fa_cons (⟨wm_693, mk_mX3_copyFrom, wm_446, fun _ => wm_5, pd_mX3_copyFrom, fun h => absurd h (by decide)⟩) (fa_cons (⟨wm_694, mk_mX5_hear, wm_637, fun _ => wm_37, pd_mX5_hear, fun h => absurd h (by decide)⟩) (fa_cons (⟨wm_695, mk_mX3_isFor, wm_621, fun _ => wm_35, pd_mX3_isFor, fun h => absurd h (by decide)⟩) (fa_cons (⟨wm_696, mk_mX6_weighStep, wm_698, fun _ => wm_46, pd_mX6_weighStep, fun h => absurd h (by decide)⟩) (fa_nil))))
theorem MLt7_ok : ∀ q ∈ MLt7, mlW 7 q := fa_cons (⟨wm_135, mk_mX5_init, wm_136, fun h => absurd h (by decide), pd_mX5_init, fun _ => rfl⟩) (fa_cons (⟨wm_193, mk_mX2_init, wm_194, fun h => absurd h (by decide), pd_mX2_init, fun _ => rfl⟩) (fa_cons (⟨wm_207, mk_mX0_init, wm_208, fun h => absurd h (by decide), pd_mX0_init, fun _ => rfl⟩) (fa_cons (⟨wm_226, mk_mX3_init, wm_142, fun h => absurd h (by decide), pd_mX3_init, fun _ => rfl⟩) (fa_cons (⟨wm_229, mk_mX6_init, wm_230, fun h => absurd h (by decide), pd_mX6_init, fun _ => rfl⟩) (fa_cons (⟨wm_260, mk_mX4_init, wm_261, fun h => absurd h (by decide), pd_mX4_init, fun _ => rfl⟩) (fa_cons (⟨wm_279, mk_mX1_init, wm_280, fun h => absurd h (by decide), pd_mX1_init, fun _ => rfl⟩) (fa_cons (⟨wm_352, mk_mX7_refuse, wm_354, fun _ => wm_0, pd_mX7_refuse, fun h => absurd h (by decide)⟩) (fa_cons (⟨wm_356, mk_mX2_take, wm_358, fun _ => wm_1, pd_mX2_take, fun h => absurd h (by decide)⟩) (fa_cons (⟨wm_364, mk_mX7_tellLetters, wm_366, fun _ => wm_2, pd_mX7_tellLetters, fun h => absurd h (by decide)⟩) (fa_cons (⟨wm_368, mk_mX2_firstBad, wm_370, fun _ => wm_3, pd_mX2_firstBad, fun h => absurd h (by decide)⟩) (fa_cons (⟨wm_437, mk_mX5_copyFrom, wm_439, fun _ => wm_4, pd_mX5_copyFrom, fun h => absurd h (by decide)⟩) (fa_cons (⟨wm_449, mk_mX2_beginsAt, wm_451, fun _ => wm_6, pd_mX2_beginsAt, fun h => absurd h (by decide)⟩) (fa_cons (⟨wm_457, mk_mX2_tellOne, wm_459, fun _ => wm_8, pd_mX2_tellOne, fun h => absurd h (by decide)⟩) (fa_cons (⟨wm_511, mk_mX5_hasCourt, wm_513, fun _ => wm_17, pd_mX5_hasCourt, fun h => absurd h (by decide)⟩) (fa_cons (⟨wm_519, mk_mX3_has, wm_495, fun _ => wm_14, pd_mX3_has, fun h => absurd h (by decide)⟩) (fa_cons (⟨wm_520, mk_mX7_refuseHigh, wm_522, fun _ => wm_18, pd_mX7_refuseHigh, fun h => absurd h (by decide)⟩) (fa_cons (⟨wm_525, mk_mX7_outside, wm_473, fun h => absurd h (by decide), pd_mX7_outside, fun h => absurd h (by decide)⟩) (fa_cons (⟨wm_526, mk_mX3_number, wm_528, fun _ => wm_19, pd_mX3_number, fun h => absurd h (by decide)⟩) (fa_cons (⟨wm_530, mk_mX0_note, wm_532, fun _ => wm_20, pd_mX0_note, fun h => absurd h (by decide)⟩) (fa_cons (⟨wm_538, mk_mX3_put, wm_499, fun _ => wm_15, pd_mX3_put, fun h => absurd h (by decide)⟩) (fa_cons (⟨wm_543, mk_mX7_isKind, wm_470, fun h => absurd h (by decide), pd_mX7_isKind, fun h => absurd h (by decide)⟩) (fa_cons (⟨wm_544, mk_mX5_rename, wm_546, fun _ => wm_22, pd_mX5_rename, fun h => absurd h (by decide)⟩) (fa_cons (⟨wm_553, mk_mX5_addLowest, wm_467, fun _ => wm_10, pd_mX5_addLowest, fun h => absurd h (by decide)⟩) (fa_cons (⟨wm_558, mk_mX5_change, wm_477, fun _ => wm_11, pd_mX5_change, fun h => absurd h (by decide)⟩) (fa_cons (⟨wm_563, mk_mX0_takeBack, wm_565, fun _ => wm_23, pd_mX0_takeBack, fun h => absurd h (by decide)⟩) (fa_cons (⟨wm_574, mk_mX7_goDownTo, wm_576, fun _ => wm_24, pd_mX7_goDownTo, fun h => absurd h (by decide)⟩) (fa_cons (⟨wm_578, mk_mX3_copyFrom, wm_446, fun _ => wm_5, pd_mX3_copyFrom, fun h => absurd h (by decide)⟩) (fa_cons (⟨wm_579, mk_mX5_goDown, wm_581, fun _ => wm_25, pd_mX5_goDown, fun h => absurd h (by decide)⟩) (fa_cons (⟨wm_619, mk_mX3_isFor, wm_621, fun _ => wm_35, pd_mX3_isFor, fun h => absurd h (by decide)⟩) (fa_cons (⟨wm_627, mk_mX7_bit, wm_628, fun h => absurd h (by decide), pd_mX7_bit, fun h => absurd h (by decide)⟩) (fa_cons (⟨wm_630, mk_mX3_sum, wm_625, fun _ => wm_36, pd_mX3_sum, fun h => absurd h (by decide)⟩) (fa_cons (⟨wm_635, mk_mX5_hear, wm_637, fun _ => wm_37, pd_mX5_hear, fun h => absurd h (by decide)⟩) (fa_cons (⟨wm_643, mk_mX5_costsBetween, wm_645, fun _ => wm_38, pd_mX5_costsBetween, fun h => absurd h (by decide)⟩) (fa_cons (⟨wm_652, mk_mX5_sendsBack, wm_654, fun _ => wm_39, pd_mX5_sendsBack, fun h => absurd h (by decide)⟩) (fa_cons (⟨wm_660, mk_mX1_go, wm_662, fun _ => wm_40, pd_mX1_go, fun h => absurd h (by decide)⟩) (fa_cons (⟨wm_689, mk_mX6_weigh, wm_691, fun _ => wm_45, pd_mX6_weigh, fun h => absurd h (by decide)⟩) (fa_cons (⟨wm_700, mk_mX6_through, wm_702, fun _ => wm_47, pd_mX6_through, fun h => absurd h (by decide)⟩) (fa_cons (⟨wm_708, mk_mX7_fewestPressed, wm_710, fun _ => wm_48, pd_mX7_fewestPressed, fun h => absurd h (by decide)⟩) (fa_cons (⟨wm_712, mk_mJ6_bitCount_0f7a4, wm_713, fun h => absurd h (by decide), pd_mJ6_bitCount_0f7a4, fun h => absurd h (by decide)⟩) (fa_cons (⟨wm_723, mk_mX7_playOn, wm_724, fun h => absurd h (by decide), pd_mX7_playOn, fun h => absurd h (by decide)⟩) (fa_cons (⟨wm_728, mk_mX3_move, wm_730, fun _ => wm_49, pd_mX3_move, fun h => absurd h (by decide)⟩) (fa_cons (⟨wm_738, mk_mX7_fastCourts, wm_740, fun _ => wm_50, pd_mX7_fastCourts, fun h => absurd h (by decide)⟩) (fa_cons (⟨wm_746, mk_mX3_beThree, wm_748, fun _ => wm_51, pd_mX3_beThree, fun h => absurd h (by decide)⟩) (fa_cons (⟨wm_755, mk_mX7_tellsNumbers, wm_757, fun _ => wm_52, pd_mX7_tellsNumbers, fun h => absurd h (by decide)⟩) (fa_cons (⟨wm_759, mk_mX7_readTold, wm_761, fun _ => wm_53, pd_mX7_readTold, fun h => absurd h (by decide)⟩) (fa_cons (⟨wm_763, mk_mX3_suffer, wm_593, fun _ => wm_28, pd_mX3_suffer, fun h => absurd h (by decide)⟩) (fa_cons (⟨wm_764, mk_mX3_isAs, wm_766, fun _ => wm_54, pd_mX3_isAs, fun h => absurd h (by decide)⟩) (fa_cons (⟨wm_788, mk_mX7_refuseLong, wm_790, fun _ => wm_55, pd_mX7_refuseLong, fun h => absurd h (by decide)⟩) (fa_cons (⟨wm_793, mk_mX7_goDownAsleep, wm_795, fun _ => wm_56, pd_mX7_goDownAsleep, fun h => absurd h (by decide)⟩) (fa_cons (⟨wm_797, mk_mX7_power, wm_798, fun h => absurd h (by decide), pd_mX7_power, fun h => absurd h (by decide)⟩) (fa_cons (⟨wm_800, mk_mX7_commonDivisor, wm_801, fun h => absurd h (by decide), pd_mX7_commonDivisor, fun h => absurd h (by decide)⟩) (fa_cons (⟨wm_807, mk_mX7_goDownSwapped, wm_809, fun _ => wm_57, pd_mX7_goDownSwapped, fun h => absurd h (by decide)⟩) (fa_cons (⟨wm_815, mk_mX7_findBestOrder, wm_817, fun _ => wm_58, pd_mX7_findBestOrder, fun h => absurd h (by decide)⟩) (fa_cons (⟨wm_820, mk_mX7_toNextOrder, wm_822, fun _ => wm_59, pd_mX7_toNextOrder, fun h => absurd h (by decide)⟩) (fa_cons (⟨wm_824, mk_mX7_swapPlaces, wm_826, fun _ => wm_60, pd_mX7_swapPlaces, fun h => absurd h (by decide)⟩) (fa_cons (⟨wm_836, mk_mX7_isForBehindAll, wm_838, fun _ => wm_61, pd_mX7_isForBehindAll, fun h => absurd h (by decide)⟩) (fa_cons (⟨wm_859, mk_mX7_goDownWith, wm_861, fun _ => wm_62, pd_mX7_goDownWith, fun h => absurd h (by decide)⟩) (fa_cons (⟨wm_863, mk_mX5_hearAs, wm_585, fun _ => wm_26, pd_mX5_hearAs, fun h => absurd h (by decide)⟩) (fa_cons (⟨wm_872, mk_mX7_changesAny, wm_874, fun _ => wm_63, pd_mX7_changesAny, fun h => absurd h (by decide)⟩) (fa_cons (⟨wm_880, mk_mX7_fewestAsleep, wm_882, fun _ => wm_64, pd_mX7_fewestAsleep, fun h => absurd h (by decide)⟩) (fa_cons (⟨wm_888, mk_mX7_stepAway, wm_890, fun _ => wm_65, pd_mX7_stepAway, fun h => absurd h (by decide)⟩) (fa_cons (⟨wm_904, mk_mX3_told, wm_667, fun _ => wm_41, pd_mX3_told, fun h => absurd h (by decide)⟩) (fa_cons (⟨wm_905, mk_mX4_note, wm_673, fun _ => wm_42, pd_mX4_note, fun h => absurd h (by decide)⟩) (fa_cons (⟨wm_906, mk_mX4_find, wm_682, fun _ => wm_44, pd_mX4_find, fun h => absurd h (by decide)⟩) (fa_cons (⟨wm_935, mk_mX7_firstNotSo, wm_937, fun _ => wm_66, pd_mX7_firstNotSo, fun h => absurd h (by decide)⟩) (fa_cons (⟨wm_962, mk_mX3_notZero, wm_589, fun _ => wm_27, pd_mX3_notZero, fun h => absurd h (by decide)⟩) (fa_nil)))))))))))))))))))))))))))))))))))))))))))))))))))))))))))))))))))
theorem MLt8_ok : ∀ q ∈ MLt8, mlW 8 q := fa_cons (⟨wm_1115, mk_mX8_refuse, wm_1117, fun _ => wm_67, pd_mX8_refuse, fun h => absurd h (by decide)⟩) (fa_cons (⟨wm_1123, mk_mX8_readStatement, wm_1125, fun _ => wm_68, pd_mX8_readStatement, fun h => absurd h (by decide)⟩) (fa_cons (⟨wm_1127, mk_mX8_here, wm_1129, fun _ => wm_69, pd_mX8_here, fun h => absurd h (by decide)⟩) (fa_cons (⟨wm_1131, mk_mX8_isLetter, wm_1132, fun h => absurd h (by decide), pd_mX8_isLetter, fun h => absurd h (by decide)⟩) (fa_cons (⟨wm_1134, mk_mX8_readDigits, wm_1136, fun _ => wm_70, pd_mX8_readDigits, fun h => absurd h (by decide)⟩) (fa_cons (⟨wm_1140, mk_mX8_in, wm_1141, fun h => absurd h (by decide), pd_mX8_in, fun h => absurd h (by decide)⟩) (fa_cons (⟨wm_1143, mk_mX8_carryAll, wm_1145, fun _ => wm_71, pd_mX8_carryAll, fun h => absurd h (by decide)⟩) (fa_cons (⟨wm_1147, mk_mX8_carry, wm_1149, fun _ => wm_72, pd_mX8_carry, fun h => absurd h (by decide)⟩) (fa_cons (⟨wm_1151, mk_mX8_comes, wm_1153, fun _ => wm_73, pd_mX8_comes, fun h => absurd h (by decide)⟩) (fa_cons (⟨wm_1155, mk_mX8_courtComes, wm_1157, fun _ => wm_74, pd_mX8_courtComes, fun h => absurd h (by decide)⟩) (fa_cons (⟨wm_1160, mk_mX8_setMany, wm_1162, fun _ => wm_75, pd_mX8_setMany, fun h => absurd h (by decide)⟩) (fa_cons (⟨wm_1180, mk_mX8_isCourt, wm_1182, fun _ => wm_76, pd_mX8_isCourt, fun h => absurd h (by decide)⟩) (fa_cons (⟨wm_1189, mk_mX8_wrongNumber, wm_1190, fun h => absurd h (by decide), pd_mX8_wrongNumber, fun h => absurd h (by decide)⟩) (fa_cons (⟨wm_1193, mk_mX8_keepTurn, wm_1195, fun _ => wm_77, pd_mX8_keepTurn, fun h => absurd h (by decide)⟩) (fa_cons (⟨wm_1216, mk_mX8_downTo, wm_1218, fun _ => wm_78, pd_mX8_downTo, fun h => absurd h (by decide)⟩) (fa_cons (⟨wm_1220, mk_mX8_think, wm_1222, fun _ => wm_79, pd_mX8_think, fun h => absurd h (by decide)⟩) (fa_cons (⟨wm_1224, mk_mX8_pass, wm_1226, fun _ => wm_80, pd_mX8_pass, fun h => absurd h (by decide)⟩) (fa_cons (⟨wm_1228, mk_mX8_sendsBack, wm_1230, fun _ => wm_81, pd_mX8_sendsBack, fun h => absurd h (by decide)⟩) (fa_cons (⟨wm_1232, mk_mX8_standing, wm_1234, fun _ => wm_82, pd_mX8_standing, fun h => absurd h (by decide)⟩) (fa_cons (⟨wm_1236, mk_mX8_act, wm_1238, fun _ => wm_83, pd_mX8_act, fun h => absurd h (by decide)⟩) (fa_cons (⟨wm_1240, mk_mX8_surest, wm_1242, fun _ => wm_84, pd_mX8_surest, fun h => absurd h (by decide)⟩) (fa_cons (⟨wm_1244, mk_mX8_plainly, wm_1245, fun h => absurd h (by decide), pd_mX8_plainly, fun h => absurd h (by decide)⟩) (fa_cons (⟨wm_1247, mk_mX8_bench, wm_1249, fun _ => wm_85, pd_mX8_bench, fun h => absurd h (by decide)⟩) (fa_cons (⟨wm_1251, mk_mX8_held, wm_1252, fun h => absurd h (by decide), pd_mX8_held, fun h => absurd h (by decide)⟩) (fa_cons (⟨wm_1254, mk_mX8_halve, wm_1256, fun _ => wm_86, pd_mX8_halve, fun h => absurd h (by decide)⟩) (fa_cons (⟨wm_1258, mk_mX8_sumNow, wm_1260, fun _ => wm_87, pd_mX8_sumNow, fun h => absurd h (by decide)⟩) (fa_cons (⟨wm_1262, mk_mX8_isFor, wm_1264, fun _ => wm_88, pd_mX8_isFor, fun h => absurd h (by decide)⟩) (fa_cons (⟨wm_1282, mk_mX8_goRound, wm_1284, fun _ => wm_89, pd_mX8_goRound, fun h => absurd h (by decide)⟩) (fa_cons (⟨wm_1286, mk_mX8_comesAgain, wm_1288, fun _ => wm_90, pd_mX8_comesAgain, fun h => absurd h (by decide)⟩) (fa_cons (⟨wm_1299, mk_mX8_layAppeals, wm_1301, fun _ => wm_91, pd_mX8_layAppeals, fun h => absurd h (by decide)⟩) (fa_cons (⟨wm_1303, mk_mX8_goneThrough, wm_1305, fun _ => wm_92, pd_mX8_goneThrough, fun h => absurd h (by decide)⟩) (fa_cons (⟨wm_1311, mk_mX8_wrongBit, wm_1312, fun h => absurd h (by decide), pd_mX8_wrongBit, fun h => absurd h (by decide)⟩) (fa_cons (⟨wm_1322, mk_mX8_pressBits, wm_1324, fun _ => wm_93, pd_mX8_pressBits, fun h => absurd h (by decide)⟩) (fa_cons (⟨wm_1326, mk_mX8_onesOf, wm_1327, fun h => absurd h (by decide), pd_mX8_onesOf, fun h => absurd h (by decide)⟩) (fa_cons (⟨wm_1329, mk_mX8_hasBit, wm_1330, fun h => absurd h (by decide), pd_mX8_hasBit, fun h => absurd h (by decide)⟩) (fa_cons (⟨wm_1332, mk_mX8_passAll, wm_1334, fun _ => wm_94, pd_mX8_passAll, fun h => absurd h (by decide)⟩) (fa_cons (⟨wm_1340, mk_mX8_sumBehindAll, wm_1342, fun _ => wm_95, pd_mX8_sumBehindAll, fun h => absurd h (by decide)⟩) (fa_cons (⟨wm_1344, mk_mX8_afterOne, wm_1346, fun _ => wm_96, pd_mX8_afterOne, fun h => absurd h (by decide)⟩) (fa_cons (⟨wm_1348, mk_mX8_lastBy, wm_1350, fun _ => wm_97, pd_mX8_lastBy, fun h => absurd h (by decide)⟩) (fa_cons (⟨wm_1352, mk_mX8_sumByChanges, wm_1354, fun _ => wm_98, pd_mX8_sumByChanges, fun h => absurd h (by decide)⟩) (fa_cons (⟨wm_1356, mk_mX8_afterOneOfFour, wm_1358, fun _ => wm_99, pd_mX8_afterOneOfFour, fun h => absurd h (by decide)⟩) (fa_cons (⟨wm_1360, mk_mX8_afterTwo, wm_1362, fun _ => wm_100, pd_mX8_afterTwo, fun h => absurd h (by decide)⟩) (fa_cons (⟨wm_1368, mk_mX8_fastFrom, wm_1370, fun _ => wm_101, pd_mX8_fastFrom, fun h => absurd h (by decide)⟩) (fa_cons (⟨wm_1376, mk_mX8_thinkThree, wm_1378, fun _ => wm_102, pd_mX8_thinkThree, fun h => absurd h (by decide)⟩) (fa_cons (⟨wm_1397, mk_mX8_divisor, wm_1398, fun h => absurd h (by decide), pd_mX8_divisor, fun h => absurd h (by decide)⟩) (fa_cons (⟨wm_1404, mk_mX8_change, wm_1406, fun _ => wm_103, pd_mX8_change, fun h => absurd h (by decide)⟩) (fa_cons (⟨wm_1412, mk_mX8_sumByOrder, wm_1414, fun _ => wm_104, pd_mX8_sumByOrder, fun h => absurd h (by decide)⟩) (fa_cons (⟨wm_1416, mk_mX8_layOrder, wm_1418, fun _ => wm_105, pd_mX8_layOrder, fun h => absurd h (by decide)⟩) (fa_cons (⟨wm_1420, mk_mX8_ordersOf, wm_1421, fun h => absurd h (by decide), pd_mX8_ordersOf, fun h => absurd h (by decide)⟩) (fa_cons (⟨wm_1459, mk_mX8_isOtherBy, wm_1461, fun _ => wm_106, pd_mX8_isOtherBy, fun h => absurd h (by decide)⟩) (fa_cons (⟨wm_1476, mk_mX8_isAsAt, wm_1478, fun _ => wm_107, pd_mX8_isAsAt, fun h => absurd h (by decide)⟩) (fa_nil)))))))))))))))))))))))))))))))))))))))))))))))))))
theorem MLt9_ok : ∀ q ∈ MLt9, mlW 9 q := fa_cons (⟨wm_127, mk_mX7_init, wm_128, fun h => absurd h (by decide), pd_mX7_init, fun _ => rfl⟩) (fa_cons (⟨wm_348, mk_mX7_feed, wm_349, fun _ => wm_350, pd_mX7_feed, fun h => absurd h (by decide)⟩) (fa_cons (⟨wm_360, mk_mX7_caseOf, wm_361, fun _ => wm_362, pd_mX7_caseOf, fun h => absurd h (by decide)⟩) (fa_cons (⟨wm_507, mk_mX7_court, wm_508, fun _ => wm_509, pd_mX7_court, fun h => absurd h (by decide)⟩) (fa_cons (⟨wm_515, mk_mX7_point, wm_516, fun _ => wm_517, pd_mX7_point, fun h => absurd h (by decide)⟩) (fa_cons (⟨wm_539, mk_mX7_kind, wm_540, fun _ => wm_541, pd_mX7_kind, fun h => absurd h (by decide)⟩) (fa_cons (⟨wm_549, mk_mX7_lowest, wm_550, fun _ => wm_551, pd_mX7_lowest, fun h => absurd h (by decide)⟩) (fa_cons (⟨wm_554, mk_mX7_set, wm_555, fun _ => wm_556, pd_mX7_set, fun h => absurd h (by decide)⟩) (fa_cons (⟨wm_559, mk_mX7_back, wm_560, fun _ => wm_561, pd_mX7_back, fun h => absurd h (by decide)⟩) (fa_cons (⟨wm_570, mk_mX7_down, wm_571, fun _ => wm_572, pd_mX7_down, fun h => absurd h (by decide)⟩) (fa_cons (⟨wm_631, mk_mX7_turns, wm_632, fun _ => wm_633, pd_mX7_turns, fun h => absurd h (by decide)⟩) (fa_cons (⟨wm_639, mk_mX7_costs, wm_640, fun _ => wm_641, pd_mX7_costs, fun h => absurd h (by decide)⟩) (fa_cons (⟨wm_648, mk_mX7_up, wm_649, fun _ => wm_650, pd_mX7_up, fun h => absurd h (by decide)⟩) (fa_cons (⟨wm_656, mk_mX7_round, wm_657, fun _ => wm_658, pd_mX7_round, fun h => absurd h (by decide)⟩) (fa_cons (⟨wm_685, mk_mX7_appeals, wm_686, fun _ => wm_687, pd_mX7_appeals, fun h => absurd h (by decide)⟩) (fa_cons (⟨wm_704, mk_mX7_press, wm_705, fun _ => wm_706, pd_mX7_press, fun h => absurd h (by decide)⟩) (fa_cons (⟨wm_718, mk_mX7_turnsBy, wm_719, fun _ => wm_720, pd_mX7_turnsBy, fun h => absurd h (by decide)⟩) (fa_cons (⟨wm_734, mk_mX7_standsFast, wm_735, fun _ => wm_736, pd_mX7_standsFast, fun h => absurd h (by decide)⟩) (fa_cons (⟨wm_742, mk_mX7_survive, wm_743, fun _ => wm_744, pd_mX7_survive, fun h => absurd h (by decide)⟩) (fa_cons (⟨wm_751, mk_mX7_fits, wm_752, fun _ => wm_753, pd_mX7_fits, fun h => absurd h (by decide)⟩) (fa_cons (⟨wm_768, mk_mX7_first, wm_769, fun _ => wm_770, pd_mX7_first, fun h => absurd h (by decide)⟩) (fa_cons (⟨wm_772, mk_mX7_apart, wm_773, fun _ => wm_774, pd_mX7_apart, fun h => absurd h (by decide)⟩) (fa_cons (⟨wm_776, mk_mX7_treaty, wm_777, fun _ => wm_778, pd_mX7_treaty, fun h => absurd h (by decide)⟩) (fa_cons (⟨wm_780, mk_mX7_share, wm_781, fun _ => wm_782, pd_mX7_share, fun h => absurd h (by decide)⟩) (fa_cons (⟨wm_784, mk_mX7_bedtime, wm_785, fun _ => wm_786, pd_mX7_bedtime, fun h => absurd h (by decide)⟩) (fa_cons (⟨wm_803, mk_mX7_order, wm_804, fun _ => wm_805, pd_mX7_order, fun h => absurd h (by decide)⟩) (fa_cons (⟨wm_811, mk_mX7_bestOrder, wm_812, fun _ => wm_813, pd_mX7_bestOrder, fun h => absurd h (by decide)⟩) (fa_cons (⟨wm_828, mk_mX7_needed, wm_829, fun _ => wm_830, pd_mX7_needed, fun h => absurd h (by decide)⟩) (fa_cons (⟨wm_832, mk_mX7_cheapest, wm_833, fun _ => wm_834, pd_mX7_cheapest, fun h => absurd h (by decide)⟩) (fa_cons (⟨wm_840, mk_mX7_biggest, wm_841, fun _ => wm_842, pd_mX7_biggest, fun h => absurd h (by decide)⟩) (fa_cons (⟨wm_847, mk_mX7_swing, wm_848, fun _ => wm_849, pd_mX7_swing, fun h => absurd h (by decide)⟩) (fa_cons (⟨wm_851, mk_mX7_rounds, wm_852, fun _ => wm_853, pd_mX7_rounds, fun h => absurd h (by decide)⟩) (fa_cons (⟨wm_855, mk_mX7_worst, wm_856, fun _ => wm_857, pd_mX7_worst, fun h => absurd h (by decide)⟩) (fa_cons (⟨wm_864, mk_mX7_same, wm_865, fun _ => wm_866, pd_mX7_same, fun h => absurd h (by decide)⟩) (fa_cons (⟨wm_868, mk_mX7_dead, wm_869, fun _ => wm_870, pd_mX7_dead, fun h => absurd h (by decide)⟩) (fa_cons (⟨wm_876, mk_mX7_flip, wm_877, fun _ => wm_878, pd_mX7_flip, fun h => absurd h (by decide)⟩) (fa_cons (⟨wm_884, mk_mX7_margin, wm_885, fun _ => wm_886, pd_mX7_margin, fun h => absurd h (by decide)⟩) (fa_cons (⟨wm_892, mk_mX7_beats, wm_893, fun _ => wm_894, pd_mX7_beats, fun h => absurd h (by decide)⟩) (fa_cons (⟨wm_896, mk_mX7_commute, wm_897, fun _ => wm_898, pd_mX7_commute, fun h => absurd h (by decide)⟩) (fa_cons (⟨wm_900, mk_mX7_again, wm_901, fun _ => wm_902, pd_mX7_again, fun h => absurd h (by decide)⟩) (fa_cons (⟨wm_907, mk_mX7_bestLowest, wm_908, fun _ => wm_909, pd_mX7_bestLowest, fun h => absurd h (by decide)⟩) (fa_cons (⟨wm_911, mk_mX7_peak, wm_912, fun _ => wm_913, pd_mX7_peak, fun h => absurd h (by decide)⟩) (fa_cons (⟨wm_915, mk_mX7_fullStake, wm_916, fun _ => wm_917, pd_mX7_fullStake, fun h => absurd h (by decide)⟩) (fa_cons (⟨wm_919, mk_mX7_heard, wm_920, fun _ => wm_921, pd_mX7_heard, fun h => absurd h (by decide)⟩) (fa_cons (⟨wm_923, mk_mX7_lastSay, wm_924, fun _ => wm_925, pd_mX7_lastSay, fun h => absurd h (by decide)⟩) (fa_cons (⟨wm_927, mk_mX7_row, wm_928, fun _ => wm_929, pd_mX7_row, fun h => absurd h (by decide)⟩) (fa_cons (⟨wm_931, mk_mX7_judge, wm_932, fun _ => wm_933, pd_mX7_judge, fun h => absurd h (by decide)⟩) (fa_cons (⟨wm_939, mk_mX7_clear, wm_940, fun _ => wm_941, pd_mX7_clear, fun h => absurd h (by decide)⟩) (fa_cons (⟨wm_943, mk_mX7_lots, wm_944, fun _ => wm_945, pd_mX7_lots, fun h => absurd h (by decide)⟩) (fa_cons (⟨wm_950, mk_mX7_image, wm_951, fun _ => wm_952, pd_mX7_image, fun h => absurd h (by decide)⟩) (fa_cons (⟨wm_954, mk_mX7_restore, wm_955, fun _ => wm_956, pd_mX7_restore, fun h => absurd h (by decide)⟩) (fa_cons (⟨wm_958, mk_mX7_count, wm_959, fun _ => wm_960, pd_mX7_count, fun h => absurd h (by decide)⟩) (fa_cons (⟨wm_965, mk_mX8_init, wm_966, fun h => absurd h (by decide), pd_mX8_init, fun _ => rfl⟩) (fa_cons (⟨wm_1111, mk_mX8_feed, wm_1112, fun _ => wm_1113, pd_mX8_feed, fun h => absurd h (by decide)⟩) (fa_cons (⟨wm_1119, mk_mX8_caseOf, wm_1120, fun _ => wm_1121, pd_mX8_caseOf, fun h => absurd h (by decide)⟩) (fa_cons (⟨wm_1164, mk_mX8_image, wm_1165, fun _ => wm_1166, pd_mX8_image, fun h => absurd h (by decide)⟩) (fa_cons (⟨wm_1168, mk_mX8_restore, wm_1169, fun _ => wm_1170, pd_mX8_restore, fun h => absurd h (by decide)⟩) (fa_cons (⟨wm_1172, mk_mX8_back, wm_1173, fun _ => wm_1174, pd_mX8_back, fun h => absurd h (by decide)⟩) (fa_cons (⟨wm_1176, mk_mX8_court, wm_1177, fun _ => wm_1178, pd_mX8_court, fun h => absurd h (by decide)⟩) (fa_cons (⟨wm_1185, mk_mX8_point, wm_1186, fun _ => wm_1187, pd_mX8_point, fun h => absurd h (by decide)⟩) (fa_cons (⟨wm_1197, mk_mX8_kind, wm_1198, fun _ => wm_1199, pd_mX8_kind, fun h => absurd h (by decide)⟩) (fa_cons (⟨wm_1202, mk_mX8_lowest, wm_1203, fun _ => wm_1204, pd_mX8_lowest, fun h => absurd h (by decide)⟩) (fa_cons (⟨wm_1206, mk_mX8_set, wm_1207, fun _ => wm_1208, pd_mX8_set, fun h => absurd h (by decide)⟩) (fa_cons (⟨wm_1210, mk_mX8_down, wm_1211, fun _ => wm_1212, pd_mX8_down, fun h => absurd h (by decide)⟩) (fa_cons (⟨wm_1266, mk_mX8_turns, wm_1267, fun _ => wm_1268, pd_mX8_turns, fun h => absurd h (by decide)⟩) (fa_cons (⟨wm_1270, mk_mX8_costs, wm_1271, fun _ => wm_1272, pd_mX8_costs, fun h => absurd h (by decide)⟩) (fa_cons (⟨wm_1274, mk_mX8_up, wm_1275, fun _ => wm_1276, pd_mX8_up, fun h => absurd h (by decide)⟩) (fa_cons (⟨wm_1278, mk_mX8_round, wm_1279, fun _ => wm_1280, pd_mX8_round, fun h => absurd h (by decide)⟩) (fa_cons (⟨wm_1290, mk_mX8_rounds, wm_1291, fun _ => wm_1292, pd_mX8_rounds, fun h => absurd h (by decide)⟩) (fa_cons (⟨wm_1294, mk_mX8_appeals, wm_1295, fun _ => wm_1296, pd_mX8_appeals, fun h => absurd h (by decide)⟩) (fa_cons (⟨wm_1307, mk_mX8_treaty, wm_1308, fun _ => wm_1309, pd_mX8_treaty, fun h => absurd h (by decide)⟩) (fa_cons (⟨wm_1314, mk_mX8_share, wm_1315, fun _ => wm_1316, pd_mX8_share, fun h => absurd h (by decide)⟩) (fa_cons (⟨wm_1318, mk_mX8_press, wm_1319, fun _ => wm_1320, pd_mX8_press, fun h => absurd h (by decide)⟩) (fa_cons (⟨wm_1336, mk_mX8_turnsBy, wm_1337, fun _ => wm_1338, pd_mX8_turnsBy, fun h => absurd h (by decide)⟩) (fa_cons (⟨wm_1364, mk_mX8_standsFast, wm_1365, fun _ => wm_1366, pd_mX8_standsFast, fun h => absurd h (by decide)⟩) (fa_cons (⟨wm_1372, mk_mX8_survive, wm_1373, fun _ => wm_1374, pd_mX8_survive, fun h => absurd h (by decide)⟩) (fa_cons (⟨wm_1380, mk_mX8_fits, wm_1381, fun _ => wm_1382, pd_mX8_fits, fun h => absurd h (by decide)⟩) (fa_cons (⟨wm_1384, mk_mX8_first, wm_1385, fun _ => wm_1386, pd_mX8_first, fun h => absurd h (by decide)⟩) (fa_cons (⟨wm_1388, mk_mX8_apart, wm_1389, fun _ => wm_1390, pd_mX8_apart, fun h => absurd h (by decide)⟩) (fa_cons (⟨wm_1392, mk_mX8_bedtime, wm_1393, fun _ => wm_1394, pd_mX8_bedtime, fun h => absurd h (by decide)⟩) (fa_cons (⟨wm_1400, mk_mX8_order, wm_1401, fun _ => wm_1402, pd_mX8_order, fun h => absurd h (by decide)⟩) (fa_cons (⟨wm_1408, mk_mX8_bestOrder, wm_1409, fun _ => wm_1410, pd_mX8_bestOrder, fun h => absurd h (by decide)⟩) (fa_cons (⟨wm_1423, mk_mX8_needed, wm_1424, fun _ => wm_1425, pd_mX8_needed, fun h => absurd h (by decide)⟩) (fa_cons (⟨wm_1427, mk_mX8_cheapest, wm_1428, fun _ => wm_1429, pd_mX8_cheapest, fun h => absurd h (by decide)⟩) (fa_cons (⟨wm_1431, mk_mX8_biggest, wm_1432, fun _ => wm_1433, pd_mX8_biggest, fun h => absurd h (by decide)⟩) (fa_cons (⟨wm_1435, mk_mX8_swing, wm_1436, fun _ => wm_1437, pd_mX8_swing, fun h => absurd h (by decide)⟩) (fa_cons (⟨wm_1439, mk_mX8_worst, wm_1440, fun _ => wm_1441, pd_mX8_worst, fun h => absurd h (by decide)⟩) (fa_cons (⟨wm_1443, mk_mX8_same, wm_1444, fun _ => wm_1445, pd_mX8_same, fun h => absurd h (by decide)⟩) (fa_cons (⟨wm_1447, mk_mX8_dead, wm_1448, fun _ => wm_1449, pd_mX8_dead, fun h => absurd h (by decide)⟩) (fa_cons (⟨wm_1451, mk_mX8_flip, wm_1452, fun _ => wm_1453, pd_mX8_flip, fun h => absurd h (by decide)⟩) (fa_cons (⟨wm_1455, mk_mX8_margin, wm_1456, fun _ => wm_1457, pd_mX8_margin, fun h => absurd h (by decide)⟩) (fa_cons (⟨wm_1464, mk_mX8_beats, wm_1465, fun _ => wm_1466, pd_mX8_beats, fun h => absurd h (by decide)⟩) (fa_cons (⟨wm_1468, mk_mX8_commute, wm_1469, fun _ => wm_1470, pd_mX8_commute, fun h => absurd h (by decide)⟩) (fa_cons (⟨wm_1472, mk_mX8_again, wm_1473, fun _ => wm_1474, pd_mX8_again, fun h => absurd h (by decide)⟩) (fa_cons (⟨wm_1480, mk_mX8_bestLowest, wm_1481, fun _ => wm_1482, pd_mX8_bestLowest, fun h => absurd h (by decide)⟩) (fa_cons (⟨wm_1484, mk_mX8_peak, wm_1485, fun _ => wm_1486, pd_mX8_peak, fun h => absurd h (by decide)⟩) (fa_cons (⟨wm_1488, mk_mX8_fullStake, wm_1489, fun _ => wm_1490, pd_mX8_fullStake, fun h => absurd h (by decide)⟩) (fa_cons (⟨wm_1492, mk_mX8_heard, wm_1493, fun _ => wm_1494, pd_mX8_heard, fun h => absurd h (by decide)⟩) (fa_cons (⟨wm_1496, mk_mX8_lastSay, wm_1497, fun _ => wm_1498, pd_mX8_lastSay, fun h => absurd h (by decide)⟩) (fa_cons (⟨wm_1500, mk_mX8_row, wm_1501, fun _ => wm_1502, pd_mX8_row, fun h => absurd h (by decide)⟩) (fa_cons (⟨wm_1504, mk_mX8_judge, wm_1505, fun _ => wm_1506, pd_mX8_judge, fun h => absurd h (by decide)⟩) (fa_cons (⟨wm_1508, mk_mX8_clear, wm_1509, fun _ => wm_1510, pd_mX8_clear, fun h => absurd h (by decide)⟩) (fa_cons (⟨wm_1512, mk_mX8_lots, wm_1513, fun _ => wm_1514, pd_mX8_lots, fun h => absurd h (by decide)⟩) (fa_cons (⟨wm_1519, mk_mX8_count, wm_1520, fun _ => wm_1521, pd_mX8_count, fun h => absurd h (by decide)⟩) (fa_nil))))))))))))))))))))))))))))))))))))))))))))))))))))))))))))))))))))))))))))))))))))))))))))))))))))))))
theorem MLt10_ok : ∀ q ∈ MLt10, mlW 10 q := fa_nil
theorem MLt11_ok : ∀ q ∈ MLt11, mlW 11 q := fa_nil
theorem MLt12_ok : ∀ q ∈ MLt12, mlW 12 q := fa_cons (⟨wm_377, mk_mJ0_coder_7d493, wm_378, fun _ => wm_379, pd_mJ0_coder_7d493, fun h => absurd h (by decide)⟩) (fa_cons (⟨wm_400, mk_mJ0_isLatin1_aae02, wm_401, fun _ => wm_402, pd_mJ0_isLatin1_aae02, fun h => absurd h (by decide)⟩) (fa_cons (⟨wm_404, mk_mJ1_charAt_3b067, wm_405, fun h => absurd h (by decide), pd_mJ1_charAt_3b067, fun h => absurd h (by decide)⟩) (fa_cons (⟨wm_412, mk_mJ3_checkIndex_8e157, wm_413, fun h => absurd h (by decide), pd_mJ3_checkIndex_8e157, fun h => absurd h (by decide)⟩) (fa_nil))))
theorem MLt13_ok : ∀ q ∈ MLt13, mlW 13 q := fa_cons (⟨wm_407, mk_mJ0_checkIndex_df160, wm_408, fun h => absurd h (by decide), pd_mJ0_checkIndex_df160, fun h => absurd h (by decide)⟩) (fa_nil)
theorem MLt14_ok : ∀ q ∈ MLt14, mlW 14 q := fa_nil
theorem MLt15_ok : ∀ q ∈ MLt15, mlW 15 q := fa_nil
theorem MLt16_ok : ∀ q ∈ MLt16, mlW 16 q := fa_nil
theorem ML_ok (o : Nat) : ∀ q ∈ MLt o, mlW o q := by
  unfold MLt
  split
  · exact MLt0_ok
  · exact MLt1_ok
  · exact MLt2_ok
  · exact MLt3_ok
  · exact MLt4_ok
  · exact MLt5_ok
  · exact MLt6_ok
  · exact MLt7_ok
  · exact MLt8_ok
  · exact MLt9_ok
  · exact MLt10_ok
  · exact MLt11_ok
  · exact MLt12_ok
  · exact MLt13_ok
  · exact MLt14_ok
  · exact MLt15_ok
  · exact MLt16_ok
  · exact fun q h => absurd h List.not_mem_nil
theorem ml_9_9 : mlk 9 9 = some (mX7_init, 4, 0) := rfl
theorem ml_7_9 : mlk 7 9 = some (mX5_init, 5, 0) := rfl
theorem ml_5_27 : mlk 5 27 = some (mX3_init, 5, 0) := rfl
theorem ml_7_28 : mlk 7 28 = some (mX2_init, 5, 0) := rfl
theorem ml_7_35 : mlk 7 35 = some (mX0_init, 5, 0) := rfl
theorem ml_7_53 : mlk 7 53 = some (mX3_init, 5, 0) := rfl
theorem ml_7_66 : mlk 7 66 = some (mX6_init, 5, 0) := rfl
theorem ml_7_73 : mlk 7 73 = some (mX4_init, 5, 0) := rfl
theorem ml_7_80 : mlk 7 80 = some (mX1_init, 5, 0) := rfl
theorem ml_9_13 : mlk 9 13 = some (mX7_feed, 0, 1) := rfl
theorem ml_7_91 : mlk 7 91 = some (mX7_refuse, 0, 1) := rfl
theorem ml_7_98 : mlk 7 98 = some (mX2_take, 1, 1) := rfl
theorem ml_9_18 : mlk 9 18 = some (mX7_caseOf, 0, 0) := rfl
theorem ml_7_101 : mlk 7 101 = some (mX7_tellLetters, 0, 0) := rfl
theorem ml_7_349 : mlk 7 349 = some (mX2_firstBad, 1, 0) := rfl
theorem ml_2_37 : mlk 2 37 = some (mJ0_length_8abf5, 0, 0) := rfl
theorem ml_12_335 : mlk 12 335 = some (mJ0_coder_7d493, 0, 0) := rfl
theorem ml_2_43 : mlk 2 43 = some (mX2_shape, 2, 1) := rfl
theorem ml_2_47 : mlk 2 47 = some (mJ0_isEmpty_aae02, 0, 0) := rfl
theorem ml_2_51 : mlk 2 51 = some (mJ0_charAt_5068e, 0, 1) := rfl
theorem ml_12_492 : mlk 12 492 = some (mJ0_isLatin1_aae02, 0, 0) := rfl
theorem ml_12_495 : mlk 12 495 = some (mJ1_charAt_3b067, 2, 2) := rfl
theorem ml_13_9 : mlk 13 9 = some (mJ0_checkIndex_df160, 2, 2) := rfl
theorem ml_12_1059 : mlk 12 1059 = some (mJ3_checkIndex_8e157, 2, 3) := rfl
theorem ml_2_55 : mlk 2 55 = some (mX2_suits, 2, 2) := rfl
theorem ml_7_341 : mlk 7 341 = some (mX5_copyFrom, 1, 1) := rfl
theorem ml_5_44 : mlk 5 44 = some (mX3_copyFrom, 1, 1) := rfl
theorem ml_7_352 : mlk 7 352 = some (mX2_beginsAt, 1, 1) := rfl
theorem ml_2_19 : mlk 2 19 = some (mX2_sign, 0, 1) := rfl
theorem ml_7_355 : mlk 7 355 = some (mX2_tellOne, 1, 2) := rfl
theorem ml_2_59 : mlk 2 59 = some (mX2_digit, 0, 1) := rfl
theorem ml_2_62 : mlk 2 62 = some (mX5_addLowest, 1, 3) := rfl
theorem ml_5_52 : mlk 5 52 = some (mX7_isKind, 3, 1) := rfl
theorem ml_5_55 : mlk 5 55 = some (mX7_outside, 3, 3) := rfl
theorem ml_2_68 : mlk 2 68 = some (mX5_change, 1, 2) := rfl
theorem ml_5_59 : mlk 5 59 = some (mX3_resize, 1, 1) := rfl
theorem ml_2_71 : mlk 2 71 = some (mX5_changePoint, 1, 2) := rfl
theorem ml_5_63 : mlk 5 63 = some (mX3_has, 1, 1) := rfl
theorem ml_5_66 : mlk 5 66 = some (mX3_put, 1, 2) := rfl
theorem ml_3_19 : mlk 3 19 = some (mX3_has, 0, 1) := rfl
theorem ml_2_74 : mlk 2 74 = some (mX5_loseLowest, 1, 0) := rfl
theorem ml_9_23 : mlk 9 23 = some (mX7_court, 0, 2) := rfl
theorem ml_7_105 : mlk 7 105 = some (mX5_hasCourt, 1, 1) := rfl
theorem ml_9_28 : mlk 9 28 = some (mX7_point, 0, 2) := rfl
theorem ml_7_121 : mlk 7 121 = some (mX3_has, 1, 1) := rfl
theorem ml_7_124 : mlk 7 124 = some (mX7_refuseHigh, 0, 1) := rfl
theorem ml_7_127 : mlk 7 127 = some (mX7_outside, 2, 3) := rfl
theorem ml_7_131 : mlk 7 131 = some (mX3_number, 1, 1) := rfl
theorem ml_7_134 : mlk 7 134 = some (mX0_note, 1, 3) := rfl
theorem ml_0_25 : mlk 0 25 = some (mX0_forgetOldest, 0, 0) := rfl
theorem ml_7_138 : mlk 7 138 = some (mX3_put, 1, 2) := rfl
theorem ml_9_32 : mlk 9 32 = some (mX7_kind, 0, 3) := rfl
theorem ml_7_142 : mlk 7 142 = some (mX7_isKind, 2, 1) := rfl
theorem ml_7_145 : mlk 7 145 = some (mX5_rename, 1, 3) := rfl
theorem ml_5_48 : mlk 5 48 = some (mX5_hasCourt, 0, 1) := rfl
theorem ml_9_37 : mlk 9 37 = some (mX7_lowest, 0, 3) := rfl
theorem ml_7_148 : mlk 7 148 = some (mX5_addLowest, 1, 3) := rfl
theorem ml_9_41 : mlk 9 41 = some (mX7_set, 0, 2) := rfl
theorem ml_7_162 : mlk 7 162 = some (mX5_change, 1, 2) := rfl
theorem ml_9_45 : mlk 9 45 = some (mX7_back, 0, 0) := rfl
theorem ml_7_167 : mlk 7 167 = some (mX0_takeBack, 1, 1) := rfl
theorem ml_0_28 : mlk 0 28 = some (mX5_changePoint, 1, 2) := rfl
theorem ml_0_34 : mlk 0 34 = some (mX5_rename, 1, 3) := rfl
theorem ml_0_38 : mlk 0 38 = some (mX5_loseLowest, 1, 0) := rfl
theorem ml_9_49 : mlk 9 49 = some (mX7_down, 0, 2) := rfl
theorem ml_7_171 : mlk 7 171 = some (mX7_goDownTo, 0, 1) := rfl
theorem ml_7_236 : mlk 7 236 = some (mX3_copyFrom, 1, 1) := rfl
theorem ml_7_269 : mlk 7 269 = some (mX5_goDown, 1, 2) := rfl
theorem ml_5_80 : mlk 5 80 = some (mX5_hearAs, 0, 3) := rfl
theorem ml_5_76 : mlk 5 76 = some (mX3_notZero, 1, 0) := rfl
theorem ml_5_84 : mlk 5 84 = some (mX3_suffer, 1, 2) := rfl
theorem ml_3_58 : mlk 3 58 = some (mX3_surest, 0, 0) := rfl
theorem ml_3_61 : mlk 3 61 = some (mX3_halve, 0, 1) := rfl
theorem ml_3_64 : mlk 3 64 = some (mX3_turn, 0, 1) := rfl
theorem ml_3_67 : mlk 3 67 = some (mX3_lessenBehind, 0, 1) := rfl
theorem ml_3_70 : mlk 3 70 = some (mX3_bringOver, 0, 2) := rfl
theorem ml_3_73 : mlk 3 73 = some (mX3_bringOthersNearer, 0, 1) := rfl
theorem ml_7_175 : mlk 7 175 = some (mX3_isFor, 1, 0) := rfl
theorem ml_3_50 : mlk 3 50 = some (mX3_sum, 0, 0) := rfl
theorem ml_7_179 : mlk 7 179 = some (mX7_bit, 2, 1) := rfl
theorem ml_7_183 : mlk 7 183 = some (mX3_sum, 1, 0) := rfl
theorem ml_9_53 : mlk 9 53 = some (mX7_turns, 0, 1) := rfl
theorem ml_7_186 : mlk 7 186 = some (mX5_hear, 1, 2) := rfl
theorem ml_9_57 : mlk 9 57 = some (mX7_costs, 0, 1) := rfl
theorem ml_7_190 : mlk 7 190 = some (mX5_costsBetween, 1, 2) := rfl
theorem ml_9_61 : mlk 9 61 = some (mX7_up, 0, 0) := rfl
theorem ml_7_194 : mlk 7 194 = some (mX5_sendsBack, 1, 3) := rfl
theorem ml_9_65 : mlk 9 65 = some (mX7_round, 0, 1) := rfl
theorem ml_7_198 : mlk 7 198 = some (mX1_go, 1, 4) := rfl
theorem ml_1_28 : mlk 1 28 = some (mX3_copyFrom, 1, 1) := rfl
theorem ml_1_39 : mlk 1 39 = some (mX3_told, 1, 0) := rfl
theorem ml_1_43 : mlk 1 43 = some (mX4_note, 1, 2) := rfl
theorem ml_1_50 : mlk 1 50 = some (mX5_sendsBack, 1, 3) := rfl
theorem ml_1_54 : mlk 1 54 = some (mX1_comeToFirst, 0, 2) := rfl
theorem ml_1_69 : mlk 1 69 = some (mX4_find, 1, 1) := rfl
theorem ml_1_65 : mlk 1 65 = some (mX3_suffer, 1, 2) := rfl
theorem ml_9_69 : mlk 9 69 = some (mX7_appeals, 0, 1) := rfl
theorem ml_7_211 : mlk 7 211 = some (mX6_weigh, 1, 2) := rfl
theorem ml_6_39 : mlk 6 39 = some (mX3_copyFrom, 1, 1) := rfl
theorem ml_6_45 : mlk 6 45 = some (mX5_hear, 1, 2) := rfl
theorem ml_6_49 : mlk 6 49 = some (mX3_isFor, 1, 0) := rfl
theorem ml_6_53 : mlk 6 53 = some (mX6_weighStep, 0, 2) := rfl
theorem ml_7_215 : mlk 7 215 = some (mX6_through, 1, 0) := rfl
theorem ml_9_73 : mlk 9 73 = some (mX7_press, 0, 1) := rfl
theorem ml_7_228 : mlk 7 228 = some (mX7_fewestPressed, 0, 0) := rfl
theorem ml_7_231 : mlk 7 231 = some (mJ6_bitCount_0f7a4, 2, 1) := rfl
theorem ml_9_77 : mlk 9 77 = some (mX7_turnsBy, 0, 2) := rfl
theorem ml_7_242 : mlk 7 242 = some (mX7_playOn, 2, 6) := rfl
theorem ml_7_246 : mlk 7 246 = some (mX3_move, 1, 1) := rfl
theorem ml_3_32 : mlk 3 32 = some (mX3_number, 0, 1) := rfl
theorem ml_3_36 : mlk 3 36 = some (mX3_put, 0, 2) := rfl
theorem ml_9_81 : mlk 9 81 = some (mX7_standsFast, 0, 0) := rfl
theorem ml_7_249 : mlk 7 249 = some (mX7_fastCourts, 0, 0) := rfl
theorem ml_9_85 : mlk 9 85 = some (mX7_survive, 0, 1) := rfl
theorem ml_7_252 : mlk 7 252 = some (mX3_beThree, 1, 2) := rfl
theorem ml_3_46 : mlk 3 46 = some (mX3_resize, 0, 1) := rfl
theorem ml_9_89 : mlk 9 89 = some (mX7_fits, 0, 1) := rfl
theorem ml_7_255 : mlk 7 255 = some (mX7_tellsNumbers, 0, 1) := rfl
theorem ml_7_258 : mlk 7 258 = some (mX7_readTold, 0, 3) := rfl
theorem ml_7_262 : mlk 7 262 = some (mX3_suffer, 1, 2) := rfl
theorem ml_7_265 : mlk 7 265 = some (mX3_isAs, 1, 1) := rfl
theorem ml_9_93 : mlk 9 93 = some (mX7_first, 0, 1) := rfl
theorem ml_9_97 : mlk 9 97 = some (mX7_apart, 0, 3) := rfl
theorem ml_9_101 : mlk 9 101 = some (mX7_treaty, 0, 2) := rfl
theorem ml_9_105 : mlk 9 105 = some (mX7_share, 0, 1) := rfl
theorem ml_9_109 : mlk 9 109 = some (mX7_bedtime, 0, 2) := rfl
theorem ml_7_279 : mlk 7 279 = some (mX7_refuseLong, 0, 1) := rfl
theorem ml_7_283 : mlk 7 283 = some (mX7_goDownAsleep, 0, 1) := rfl
theorem ml_7_286 : mlk 7 286 = some (mX7_power, 2, 2) := rfl
theorem ml_7_290 : mlk 7 290 = some (mX7_commonDivisor, 2, 2) := rfl
theorem ml_9_114 : mlk 9 114 = some (mX7_order, 0, 0) := rfl
theorem ml_7_294 : mlk 7 294 = some (mX7_goDownSwapped, 0, 2) := rfl
theorem ml_9_118 : mlk 9 118 = some (mX7_bestOrder, 0, 1) := rfl
theorem ml_7_297 : mlk 7 297 = some (mX7_findBestOrder, 0, 0) := rfl
theorem ml_7_371 : mlk 7 371 = some (mX7_toNextOrder, 0, 1) := rfl
theorem ml_7_374 : mlk 7 374 = some (mX7_swapPlaces, 0, 2) := rfl
theorem ml_9_122 : mlk 9 122 = some (mX7_needed, 0, 1) := rfl
theorem ml_9_126 : mlk 9 126 = some (mX7_cheapest, 0, 0) := rfl
theorem ml_7_300 : mlk 7 300 = some (mX7_isForBehindAll, 0, 0) := rfl
theorem ml_9_130 : mlk 9 130 = some (mX7_biggest, 0, 1) := rfl
theorem ml_9_134 : mlk 9 134 = some (mX7_swing, 0, 0) := rfl
theorem ml_9_138 : mlk 9 138 = some (mX7_rounds, 0, 0) := rfl
theorem ml_9_142 : mlk 9 142 = some (mX7_worst, 0, 2) := rfl
theorem ml_7_308 : mlk 7 308 = some (mX7_goDownWith, 0, 2) := rfl
theorem ml_7_331 : mlk 7 331 = some (mX5_hearAs, 1, 3) := rfl
theorem ml_9_146 : mlk 9 146 = some (mX7_same, 0, 0) := rfl
theorem ml_9_150 : mlk 9 150 = some (mX7_dead, 0, 0) := rfl
theorem ml_7_311 : mlk 7 311 = some (mX7_changesAny, 0, 1) := rfl
theorem ml_9_154 : mlk 9 154 = some (mX7_flip, 0, 1) := rfl
theorem ml_7_314 : mlk 7 314 = some (mX7_fewestAsleep, 0, 0) := rfl
theorem ml_9_158 : mlk 9 158 = some (mX7_margin, 0, 0) := rfl
theorem ml_7_317 : mlk 7 317 = some (mX7_stepAway, 0, 2) := rfl
theorem ml_9_162 : mlk 9 162 = some (mX7_beats, 0, 0) := rfl
theorem ml_9_166 : mlk 9 166 = some (mX7_commute, 0, 2) := rfl
theorem ml_9_170 : mlk 9 170 = some (mX7_again, 0, 2) := rfl
theorem ml_7_321 : mlk 7 321 = some (mX3_told, 1, 0) := rfl
theorem ml_7_324 : mlk 7 324 = some (mX4_note, 1, 2) := rfl
theorem ml_7_327 : mlk 7 327 = some (mX4_find, 1, 1) := rfl
theorem ml_9_174 : mlk 9 174 = some (mX7_bestLowest, 0, 1) := rfl
theorem ml_9_178 : mlk 9 178 = some (mX7_peak, 0, 1) := rfl
theorem ml_9_182 : mlk 9 182 = some (mX7_fullStake, 0, 0) := rfl
theorem ml_9_186 : mlk 9 186 = some (mX7_heard, 0, 0) := rfl
theorem ml_9_190 : mlk 9 190 = some (mX7_lastSay, 0, 0) := rfl
theorem ml_9_194 : mlk 9 194 = some (mX7_row, 0, 1) := rfl
theorem ml_9_198 : mlk 9 198 = some (mX7_judge, 0, 0) := rfl
theorem ml_7_335 : mlk 7 335 = some (mX7_firstNotSo, 0, 0) := rfl
theorem ml_9_202 : mlk 9 202 = some (mX7_clear, 0, 0) := rfl
theorem ml_9_206 : mlk 9 206 = some (mX7_lots, 0, 3) := rfl
theorem ml_9_210 : mlk 9 210 = some (mX7_image, 0, 0) := rfl
theorem ml_9_214 : mlk 9 214 = some (mX7_restore, 0, 0) := rfl
theorem ml_9_218 : mlk 9 218 = some (mX7_count, 0, 1) := rfl
theorem ml_7_344 : mlk 7 344 = some (mX3_notZero, 1, 0) := rfl
theorem ml_9_12 : mlk 9 12 = some (mX8_init, 4, 0) := rfl
theorem ml_9_17 : mlk 9 17 = some (mX8_feed, 0, 1) := rfl
theorem ml_8_164 : mlk 8 164 = some (mX8_refuse, 0, 1) := rfl
theorem ml_9_22 : mlk 9 22 = some (mX8_caseOf, 0, 0) := rfl
theorem ml_8_202 : mlk 8 202 = some (mX8_readStatement, 0, 0) := rfl
theorem ml_8_177 : mlk 8 177 = some (mX8_here, 0, 0) := rfl
theorem ml_8_187 : mlk 8 187 = some (mX8_isLetter, 2, 1) := rfl
theorem ml_8_190 : mlk 8 190 = some (mX8_readDigits, 0, 1) := rfl
theorem ml_8_111 : mlk 8 111 = some (mX8_in, 2, 3) := rfl
theorem ml_8_205 : mlk 8 205 = some (mX8_carryAll, 0, 2) := rfl
theorem ml_8_224 : mlk 8 224 = some (mX8_carry, 0, 1) := rfl
theorem ml_8_209 : mlk 8 209 = some (mX8_comes, 0, 1) := rfl
theorem ml_8_193 : mlk 8 193 = some (mX8_courtComes, 0, 3) := rfl
theorem ml_8_199 : mlk 8 199 = some (mX8_setMany, 0, 1) := rfl
theorem ml_9_213 : mlk 9 213 = some (mX8_image, 0, 0) := rfl
theorem ml_9_217 : mlk 9 217 = some (mX8_restore, 0, 0) := rfl
theorem ml_9_48 : mlk 9 48 = some (mX8_back, 0, 0) := rfl
theorem ml_9_27 : mlk 9 27 = some (mX8_court, 0, 2) := rfl
theorem ml_8_230 : mlk 8 230 = some (mX8_isCourt, 0, 1) := rfl
theorem ml_9_31 : mlk 9 31 = some (mX8_point, 0, 2) := rfl
theorem ml_8_235 : mlk 8 235 = some (mX8_wrongNumber, 2, 3) := rfl
theorem ml_8_240 : mlk 8 240 = some (mX8_keepTurn, 0, 0) := rfl
theorem ml_9_36 : mlk 9 36 = some (mX8_kind, 0, 3) := rfl
theorem ml_9_40 : mlk 9 40 = some (mX8_lowest, 0, 3) := rfl
theorem ml_9_44 : mlk 9 44 = some (mX8_set, 0, 2) := rfl
theorem ml_9_52 : mlk 9 52 = some (mX8_down, 0, 2) := rfl
theorem ml_8_249 : mlk 8 249 = some (mX8_downTo, 0, 1) := rfl
theorem ml_8_158 : mlk 8 158 = some (mX8_think, 0, 0) := rfl
theorem ml_8_154 : mlk 8 154 = some (mX8_pass, 0, 1) := rfl
theorem ml_8_142 : mlk 8 142 = some (mX8_sendsBack, 0, 1) := rfl
theorem ml_8_139 : mlk 8 139 = some (mX8_standing, 0, 0) := rfl
theorem ml_8_146 : mlk 8 146 = some (mX8_act, 0, 2) := rfl
theorem ml_8_126 : mlk 8 126 = some (mX8_surest, 0, 0) := rfl
theorem ml_8_122 : mlk 8 122 = some (mX8_plainly, 2, 1) := rfl
theorem ml_8_132 : mlk 8 132 = some (mX8_bench, 0, 1) := rfl
theorem ml_8_129 : mlk 8 129 = some (mX8_held, 2, 1) := rfl
theorem ml_8_136 : mlk 8 136 = some (mX8_halve, 0, 0) := rfl
theorem ml_8_118 : mlk 8 118 = some (mX8_sumNow, 0, 0) := rfl
theorem ml_8_252 : mlk 8 252 = some (mX8_isFor, 0, 0) := rfl
theorem ml_9_56 : mlk 9 56 = some (mX8_turns, 0, 1) := rfl
theorem ml_9_60 : mlk 9 60 = some (mX8_costs, 0, 1) := rfl
theorem ml_9_64 : mlk 9 64 = some (mX8_up, 0, 0) := rfl
theorem ml_9_68 : mlk 9 68 = some (mX8_round, 0, 1) := rfl
theorem ml_8_268 : mlk 8 268 = some (mX8_goRound, 0, 0) := rfl
theorem ml_8_262 : mlk 8 262 = some (mX8_comesAgain, 0, 1) := rfl
theorem ml_9_141 : mlk 9 141 = some (mX8_rounds, 0, 0) := rfl
theorem ml_9_72 : mlk 9 72 = some (mX8_appeals, 0, 1) := rfl
theorem ml_8_273 : mlk 8 273 = some (mX8_layAppeals, 0, 0) := rfl
theorem ml_8_276 : mlk 8 276 = some (mX8_goneThrough, 0, 0) := rfl
theorem ml_9_104 : mlk 9 104 = some (mX8_treaty, 0, 2) := rfl
theorem ml_8_279 : mlk 8 279 = some (mX8_wrongBit, 2, 3) := rfl
theorem ml_9_108 : mlk 9 108 = some (mX8_share, 0, 1) := rfl
theorem ml_9_76 : mlk 9 76 = some (mX8_press, 0, 1) := rfl
theorem ml_8_285 : mlk 8 285 = some (mX8_pressBits, 0, 0) := rfl
theorem ml_8_282 : mlk 8 282 = some (mX8_onesOf, 2, 1) := rfl
theorem ml_8_150 : mlk 8 150 = some (mX8_hasBit, 2, 2) := rfl
theorem ml_8_161 : mlk 8 161 = some (mX8_passAll, 0, 1) := rfl
theorem ml_9_80 : mlk 9 80 = some (mX8_turnsBy, 0, 2) := rfl
theorem ml_8_297 : mlk 8 297 = some (mX8_sumBehindAll, 0, 0) := rfl
theorem ml_8_300 : mlk 8 300 = some (mX8_afterOne, 0, 0) := rfl
theorem ml_8_291 : mlk 8 291 = some (mX8_lastBy, 0, 1) := rfl
theorem ml_8_288 : mlk 8 288 = some (mX8_sumByChanges, 0, 1) := rfl
theorem ml_8_303 : mlk 8 303 = some (mX8_afterOneOfFour, 0, 0) := rfl
theorem ml_8_294 : mlk 8 294 = some (mX8_afterTwo, 0, 0) := rfl
theorem ml_9_84 : mlk 9 84 = some (mX8_standsFast, 0, 0) := rfl
theorem ml_8_306 : mlk 8 306 = some (mX8_fastFrom, 0, 0) := rfl
theorem ml_9_88 : mlk 9 88 = some (mX8_survive, 0, 1) := rfl
theorem ml_8_309 : mlk 8 309 = some (mX8_thinkThree, 0, 2) := rfl
theorem ml_9_92 : mlk 9 92 = some (mX8_fits, 0, 1) := rfl
theorem ml_9_96 : mlk 9 96 = some (mX8_first, 0, 1) := rfl
theorem ml_9_100 : mlk 9 100 = some (mX8_apart, 0, 3) := rfl
theorem ml_9_113 : mlk 9 113 = some (mX8_bedtime, 0, 2) := rfl
theorem ml_8_317 : mlk 8 317 = some (mX8_divisor, 2, 2) := rfl
theorem ml_9_117 : mlk 9 117 = some (mX8_order, 0, 0) := rfl
theorem ml_8_321 : mlk 8 321 = some (mX8_change, 0, 2) := rfl
theorem ml_9_121 : mlk 9 121 = some (mX8_bestOrder, 0, 1) := rfl
theorem ml_8_330 : mlk 8 330 = some (mX8_sumByOrder, 0, 1) := rfl
theorem ml_8_327 : mlk 8 327 = some (mX8_layOrder, 0, 2) := rfl
theorem ml_8_324 : mlk 8 324 = some (mX8_ordersOf, 2, 1) := rfl
theorem ml_9_125 : mlk 9 125 = some (mX8_needed, 0, 1) := rfl
theorem ml_9_129 : mlk 9 129 = some (mX8_cheapest, 0, 0) := rfl
theorem ml_9_133 : mlk 9 133 = some (mX8_biggest, 0, 1) := rfl
theorem ml_9_137 : mlk 9 137 = some (mX8_swing, 0, 0) := rfl
theorem ml_9_145 : mlk 9 145 = some (mX8_worst, 0, 2) := rfl
theorem ml_9_149 : mlk 9 149 = some (mX8_same, 0, 0) := rfl
theorem ml_9_153 : mlk 9 153 = some (mX8_dead, 0, 0) := rfl
theorem ml_9_157 : mlk 9 157 = some (mX8_flip, 0, 1) := rfl
theorem ml_9_161 : mlk 9 161 = some (mX8_margin, 0, 0) := rfl
theorem ml_8_335 : mlk 8 335 = some (mX8_isOtherBy, 0, 2) := rfl
theorem ml_9_165 : mlk 9 165 = some (mX8_beats, 0, 0) := rfl
theorem ml_9_169 : mlk 9 169 = some (mX8_commute, 0, 2) := rfl
theorem ml_9_173 : mlk 9 173 = some (mX8_again, 0, 2) := rfl
theorem ml_8_339 : mlk 8 339 = some (mX8_isAsAt, 0, 1) := rfl
theorem ml_9_177 : mlk 9 177 = some (mX8_bestLowest, 0, 1) := rfl
theorem ml_9_181 : mlk 9 181 = some (mX8_peak, 0, 1) := rfl
theorem ml_9_185 : mlk 9 185 = some (mX8_fullStake, 0, 0) := rfl
theorem ml_9_189 : mlk 9 189 = some (mX8_heard, 0, 0) := rfl
theorem ml_9_193 : mlk 9 193 = some (mX8_lastSay, 0, 0) := rfl
theorem ml_9_197 : mlk 9 197 = some (mX8_row, 0, 1) := rfl
theorem ml_9_201 : mlk 9 201 = some (mX8_judge, 0, 0) := rfl
theorem ml_9_205 : mlk 9 205 = some (mX8_clear, 0, 0) := rfl
theorem ml_9_209 : mlk 9 209 = some (mX8_lots, 0, 3) := rfl
theorem ml_9_221 : mlk 9 221 = some (mX8_count, 0, 1) := rfl
def sBs : List (List Int) := [[], [99, 48, 48, 48, 48, 59], [110, 48, 59], [112, 48, 43, 48, 59], [115, 48, 48, 48, 59], [108, 48, 59], [117, 59]]
def sLen (q : Nat) : Nat := (sBs.getD q []).length
def sCh (q j : Nat) : Int := (sBs.getD q []).getD j 0
def slk (o i : Nat) : Option Nat := if Nat.beq o 2 then (match i with
  | 35 => some 3
  | 23 => some 4
  | 25 => some 5
  | 27 => some 6
  | 29 => some 7
  | 31 => some 8
  | 33 => some 9
  | _ => none) else none
theorem sl_2_35 : slk 2 35 = some 3 := rfl
theorem sl_2_23 : slk 2 23 = some 4 := rfl
theorem sl_2_25 : slk 2 25 = some 5 := rfl
theorem sl_2_27 : slk 2 27 = some 6 := rfl
theorem sl_2_29 : slk 2 29 = some 7 := rfl
theorem sl_2_31 : slk 2 31 = some 8 := rfl
theorem sl_2_33 : slk 2 33 = some 9 := rfl
theorem SF_9 : (Cond.fieldLink "java/lang/String" (9) "java/lang/String" "value" "[B") ∈ lw_tbl := wm_1525
theorem SF_15 : (Cond.fieldLink "java/lang/String" (15) "java/lang/String" "coder" "B") ∈ lw_tbl := wm_1526
theorem SF_38 : (Cond.fieldLink "java/lang/String" (38) "java/lang/String" "COMPACT_STRINGS" "Z") ∈ lw_tbl := wm_381
theorem SF_1053 : (Cond.fieldLink "java/lang/String" (1053) "jdk/internal/util/Preconditions" "SIOOBE_FORMATTER" "Ljava/util/function/BiFunction;") ∈ lw_tbl := wm_410
def KLt : List (Nat × Nat × Int) := [(7, 241, 1000000000), (10, 265, 1431655765), (10, 266, 858993459), (10, 267, 252645135), (7, 240, -1000000000), (7, 338, 1103515245), (7, 339, 2147483647), (7, 340, 65536), (8, 239, 1000000000), (8, 342, 1103515245), (8, 343, 2147483647), (8, 344, 65536)]
def KL2t : List (Nat × Nat × Int) := [(3, 54, 19), (3, 56, 9), (7, 347, 4000000000000000000), (8, 180, 48), (8, 182, 57), (8, 197, 8), (8, 233, 2), (8, 243, 5), (8, 245, 9), (8, 247, 7), (8, 271, 3), (8, 315, 4000000000000000000), (8, 333, -9), (8, 345, 11), (8, 347, 16)]
def NLt : List (Nat × Nat × Nat) := [(9, 7, 7), (7, 7, 5), (5, 25, 3), (7, 26, 2), (7, 33, 0), (7, 51, 3), (7, 64, 6), (7, 71, 4), (7, 78, 1), (9, 10, 8)]
def klk (o idx : Nat) : Option Int := (KLt.find? (fun q => Nat.beq q.1 o && Nat.beq q.2.1 idx)).map (fun q => q.2.2)
def kl2 (o idx : Nat) : Option Int := (KL2t.find? (fun q => Nat.beq q.1 o && Nat.beq q.2.1 idx)).map (fun q => q.2.2)
def nlk (o idx : Nat) : Option Nat := (NLt.find? (fun q => Nat.beq q.1 o && Nat.beq q.2.1 idx)).map (fun q => q.2.2)
theorem KL_ok : ∀ q ∈ KLt, (Cond.constant (oNm q.1) q.2.1 (Int32.ofInt q.2.2)) ∈ lw_tbl ∧ w32 q.2.2 = q.2.2 := fa_cons (⟨wm_524, by decide +kernel⟩) (fa_cons (⟨wm_715, by decide +kernel⟩) (fa_cons (⟨wm_716, by decide +kernel⟩) (fa_cons (⟨wm_717, by decide +kernel⟩) (fa_cons (⟨wm_722, by decide +kernel⟩) (fa_cons (⟨wm_947, by decide +kernel⟩) (fa_cons (⟨wm_948, by decide +kernel⟩) (fa_cons (⟨wm_949, by decide +kernel⟩) (fa_cons (⟨wm_1192, by decide +kernel⟩) (fa_cons (⟨wm_1516, by decide +kernel⟩) (fa_cons (⟨wm_1517, by decide +kernel⟩) (fa_cons (⟨wm_1518, by decide +kernel⟩) (fa_nil))))))))))))
theorem KL2_ok : ∀ q ∈ KL2t, (Cond.constantLong (oNm q.1) q.2.1 (Int64.ofInt q.2.2)) ∈ lw_tbl ∧ w64 q.2.2 = q.2.2 := fa_cons (⟨wm_669, by decide +kernel⟩) (fa_cons (⟨wm_670, by decide +kernel⟩) (fa_cons (⟨wm_792, by decide +kernel⟩) (fa_cons (⟨wm_1138, by decide +kernel⟩) (fa_cons (⟨wm_1139, by decide +kernel⟩) (fa_cons (⟨wm_1159, by decide +kernel⟩) (fa_cons (⟨wm_1184, by decide +kernel⟩) (fa_cons (⟨wm_1201, by decide +kernel⟩) (fa_cons (⟨wm_1214, by decide +kernel⟩) (fa_cons (⟨wm_1215, by decide +kernel⟩) (fa_cons (⟨wm_1298, by decide +kernel⟩) (fa_cons (⟨wm_1396, by decide +kernel⟩) (fa_cons (⟨wm_1463, by decide +kernel⟩) (fa_cons (⟨wm_1523, by decide +kernel⟩) (fa_cons (⟨wm_1524, by decide +kernel⟩) (fa_nil)))))))))))))))
theorem NL_ok : ∀ q ∈ NLt, (Cond.classLink (oNm q.1) q.2.1 (cNm q.2.2)) ∈ lw_tbl ∧ (Cond.initialized (cNm q.2.2)) ∈ lw_tbl ∧ (Cond.instantiable (cNm q.2.2) (cN q.2.2)) ∈ lw_tbl ∧ q.2.2 < 9 := fa_cons (⟨wm_125, wm_109, wm_126, by decide⟩) (fa_cons (⟨wm_133, wm_110, wm_134, by decide⟩) (fa_cons (⟨wm_139, wm_111, wm_140, by decide⟩) (fa_cons (⟨wm_191, wm_112, wm_192, by decide⟩) (fa_cons (⟨wm_205, wm_113, wm_206, by decide⟩) (fa_cons (⟨wm_225, wm_111, wm_140, by decide⟩) (fa_cons (⟨wm_227, wm_114, wm_228, by decide⟩) (fa_cons (⟨wm_258, wm_115, wm_259, by decide⟩) (fa_cons (⟨wm_277, wm_116, wm_278, by decide⟩) (fa_cons (⟨wm_963, wm_117, wm_964, by decide⟩) (fa_nil))))))))))
theorem kl_7_241 : klk 7 241 = some (1000000000) := rfl
theorem kl_10_265 : klk 10 265 = some (1431655765) := rfl
theorem kl_10_266 : klk 10 266 = some (858993459) := rfl
theorem kl_10_267 : klk 10 267 = some (252645135) := rfl
theorem kl_7_240 : klk 7 240 = some (-1000000000) := rfl
theorem kl_7_338 : klk 7 338 = some (1103515245) := rfl
theorem kl_7_339 : klk 7 339 = some (2147483647) := rfl
theorem kl_7_340 : klk 7 340 = some (65536) := rfl
theorem kl_8_239 : klk 8 239 = some (1000000000) := rfl
theorem kl_8_342 : klk 8 342 = some (1103515245) := rfl
theorem kl_8_343 : klk 8 343 = some (2147483647) := rfl
theorem kl_8_344 : klk 8 344 = some (65536) := rfl
theorem k2_3_54 : kl2 3 54 = some (19) := rfl
theorem k2_3_56 : kl2 3 56 = some (9) := rfl
theorem k2_7_347 : kl2 7 347 = some (4000000000000000000) := rfl
theorem k2_8_180 : kl2 8 180 = some (48) := rfl
theorem k2_8_182 : kl2 8 182 = some (57) := rfl
theorem k2_8_197 : kl2 8 197 = some (8) := rfl
theorem k2_8_233 : kl2 8 233 = some (2) := rfl
theorem k2_8_243 : kl2 8 243 = some (5) := rfl
theorem k2_8_245 : kl2 8 245 = some (9) := rfl
theorem k2_8_247 : kl2 8 247 = some (7) := rfl
theorem k2_8_271 : kl2 8 271 = some (3) := rfl
theorem k2_8_315 : kl2 8 315 = some (4000000000000000000) := rfl
theorem k2_8_333 : kl2 8 333 = some (-9) := rfl
theorem k2_8_345 : kl2 8 345 = some (11) := rfl
theorem k2_8_347 : kl2 8 347 = some (16) := rfl
theorem nl_9_7 : nlk 9 7 = some (7) := rfl
theorem nl_7_7 : nlk 7 7 = some (5) := rfl
theorem nl_5_25 : nlk 5 25 = some (3) := rfl
theorem nl_7_26 : nlk 7 26 = some (2) := rfl
theorem nl_7_33 : nlk 7 33 = some (0) := rfl
theorem nl_7_51 : nlk 7 51 = some (3) := rfl
theorem nl_7_64 : nlk 7 64 = some (6) := rfl
theorem nl_7_71 : nlk 7 71 = some (4) := rfl
theorem nl_7_78 : nlk 7 78 = some (1) := rfl
theorem nl_9_10 : nlk 9 10 = some (8) := rfl
def OLt : List (Nat × Nat) := [(7, 1), (5, 3), (3, 3), (2, 3), (0, 3), (6, 3), (4, 3), (1, 3), (8, 1)]
def olk (o idx : Nat) : Bool := (OLt.find? (fun q => Nat.beq q.1 o && Nat.beq q.2 idx)).isSome
theorem OL_ok : ∀ q ∈ OLt, (Cond.methodLink (oNm q.1) q.2 Lib.objectInit) ∈ lw_tbl := fa_cons (wm_130) (fa_cons (wm_138) (fa_cons (wm_144) (fa_cons (wm_196) (fa_cons (wm_210) (fa_cons (wm_232) (fa_cons (wm_263) (fa_cons (wm_282) (fa_cons (wm_968) (fa_nil)))))))))
theorem ol_7_1 : olk 7 1 = true := rfl
theorem ol_5_3 : olk 5 3 = true := rfl
theorem ol_3_3 : olk 3 3 = true := rfl
theorem ol_2_3 : olk 2 3 = true := rfl
theorem ol_0_3 : olk 0 3 = true := rfl
theorem ol_6_3 : olk 6 3 = true := rfl
theorem ol_4_3 : olk 4 3 = true := rfl
theorem ol_1_3 : olk 1 3 = true := rfl
theorem ol_8_1 : olk 8 1 = true := rfl
theorem OI_ok : (Cond.instanceMethod Lib.objectInit) ∈ lw_tbl ∧ (Cond.code Lib.objectInit ⟨#[0xb1]⟩ 1 none) ∈ lw_tbl := ⟨wm_131, wm_132⟩
def ALt : List (Nat × Nat) := [(5, 38), (3, 40), (7, 365)]
def alk (o idx : Nat) : Bool := (ALt.find? (fun q => Nat.beq q.1 o && Nat.beq q.2 idx)).isSome
theorem AL_ok : ∀ q ∈ ALt, (Cond.methodLink (oNm q.1) q.2 arraycopyName) ∈ lw_tbl := fa_cons (wm_441) (fa_cons (wm_448) (fa_cons (wm_819) (fa_nil)))
theorem al_5_38 : alk 5 38 = true := rfl
theorem al_3_40 : alk 3 40 = true := rfl
theorem al_7_365 : alk 7 365 = true := rfl
def XLt : List (Nat × Nat × Nat) := [(3, 23, 1), (3, 29, 0), (5, 70, 0), (7, 359, 1), (7, 362, 0), (7, 303, 2)]
def xlk (o idx : Nat) : Option Nat := (XLt.find? (fun q => Nat.beq q.1 o && Nat.beq q.2.1 idx)).map (fun q => q.2.2)
def xNm (k : Nat) : MethodName := match k with
  | 0 => Lib.Math.max.name
  | 1 => Lib.Math.min.name
  | _ => Lib.Math.abs.name
theorem XL_ok : ∀ q ∈ XLt, (Cond.methodLink (oNm q.1) q.2.1 (xNm q.2.2)) ∈ lw_tbl := fa_cons (wm_483) (fa_cons (wm_486) (fa_cons (wm_647) (fa_cons (wm_726) (fa_cons (wm_727) (fa_cons (wm_844) (fa_nil))))))
theorem xl_3_23 : xlk 3 23 = some 1 := rfl
theorem xl_3_29 : xlk 3 29 = some 0 := rfl
theorem xl_5_70 : xlk 5 70 = some 0 := rfl
theorem xl_7_359 : xlk 7 359 = some 1 := rfl
theorem xl_7_362 : xlk 7 362 = some 0 := rfl
theorem xl_7_303 : xlk 7 303 = some 2 := rfl
theorem XM_0 : (Cond.code Lib.Math.max.name Lib.Math.max.code 2 (some .int)) ∈ lw_tbl ∧ (Cond.static Lib.Math.max.name) ∈ lw_tbl := ⟨tk_2 (i := 140) rfl, wm_487⟩
theorem XM_1 : (Cond.code Lib.Math.min.name Lib.Math.min.code 2 (some .int)) ∈ lw_tbl ∧ (Cond.static Lib.Math.min.name) ∈ lw_tbl := ⟨tk_2 (i := 137) rfl, wm_484⟩
theorem XM_2 : (Cond.code Lib.Math.abs.name Lib.Math.abs.code 1 (some .int)) ∈ lw_tbl ∧ (Cond.static Lib.Math.abs.name) ∈ lw_tbl := ⟨tk_4 (i := 18) rfl, wm_845⟩
theorem XM_i : (Cond.initialized "java/lang/Math") ∈ lw_tbl := wm_123
theorem AC_ok : (Cond.native arraycopyName) ∈ lw_tbl ∧ (Cond.static arraycopyName) ∈ lw_tbl ∧ (Cond.initialized "java/lang/System") ∈ lw_tbl := ⟨wm_443, wm_442, wm_122⟩
theorem LY_0 : ∀ w ∈ u_ws RX0 TX0 4, w ∈ lw_tbl := fa_cons (wm_216) (fa_cons (wm_218) (fa_cons (wm_220) (fa_cons (wm_222) (fa_nil))))
theorem LY_1 : ∀ w ∈ u_ws RX1 TX1 3, w ∈ lw_tbl := fa_cons (wm_289) (fa_cons (wm_291) (fa_cons (wm_293) (fa_nil)))
theorem LY_2 : ∀ w ∈ u_ws RX2 TX2 2, w ∈ lw_tbl := fa_cons (wm_200) (fa_cons (wm_202) (fa_nil))
theorem LY_3 : ∀ w ∈ u_ws RX3 TX3 2, w ∈ lw_tbl := fa_cons (wm_148) (fa_cons (wm_150) (fa_nil))
theorem LY_4 : ∀ w ∈ u_ws RX4 TX4 3, w ∈ lw_tbl := fa_cons (wm_269) (fa_cons (wm_271) (fa_cons (wm_273) (fa_nil)))
theorem LY_5 : ∀ w ∈ u_ws RX5 TX5 7, w ∈ lw_tbl := fa_cons (wm_176) (fa_cons (wm_178) (fa_cons (wm_180) (fa_cons (wm_182) (fa_cons (wm_184) (fa_cons (wm_186) (fa_cons (wm_188) (fa_nil)))))))
theorem LY_6 : ∀ w ∈ u_ws RX6 TX6 6, w ∈ lw_tbl := fa_cons (wm_244) (fa_cons (wm_246) (fa_cons (wm_248) (fa_cons (wm_250) (fa_cons (wm_252) (fa_cons (wm_254) (fa_nil))))))
theorem LY_7 : ∀ w ∈ u_ws RX7 TX7 17, w ∈ lw_tbl := fa_cons (wm_313) (fa_cons (wm_315) (fa_cons (wm_317) (fa_cons (wm_319) (fa_cons (wm_321) (fa_cons (wm_323) (fa_cons (wm_325) (fa_cons (wm_327) (fa_cons (wm_329) (fa_cons (wm_331) (fa_cons (wm_333) (fa_cons (wm_335) (fa_cons (wm_337) (fa_cons (wm_339) (fa_cons (wm_341) (fa_cons (wm_343) (fa_cons (wm_345) (fa_nil)))))))))))))))))
theorem LY_8 : ∀ w ∈ u_ws RX8 TX8 47, w ∈ lw_tbl := fa_cons (wm_1016) (fa_cons (wm_1018) (fa_cons (wm_1020) (fa_cons (wm_1022) (fa_cons (wm_1024) (fa_cons (wm_1026) (fa_cons (wm_1028) (fa_cons (wm_1030) (fa_cons (wm_1032) (fa_cons (wm_1034) (fa_cons (wm_1036) (fa_cons (wm_1038) (fa_cons (wm_1040) (fa_cons (wm_1042) (fa_cons (wm_1044) (fa_cons (wm_1046) (fa_cons (wm_1048) (fa_cons (wm_1050) (fa_cons (wm_1052) (fa_cons (wm_1054) (fa_cons (wm_1056) (fa_cons (wm_1058) (fa_cons (wm_1060) (fa_cons (wm_1062) (fa_cons (wm_1064) (fa_cons (wm_1066) (fa_cons (wm_1068) (fa_cons (wm_1070) (fa_cons (wm_1072) (fa_cons (wm_1074) (fa_cons (wm_1076) (fa_cons (wm_1078) (fa_cons (wm_1080) (fa_cons (wm_1082) (fa_cons (wm_1084) (fa_cons (wm_1086) (fa_cons (wm_1088) (fa_cons (wm_1090) (fa_cons (wm_1092) (fa_cons (wm_1094) (fa_cons (wm_1096) (fa_cons (wm_1098) (fa_cons (wm_1100) (fa_cons (wm_1102) (fa_cons (wm_1104) (fa_cons (wm_1106) (fa_cons (wm_1108) (fa_nil)))))))))))))))))))))))))))))))))))))))))))))))
theorem AR_ok : (Cond.arrayClass .int) ∈ lw_tbl ∧ (Cond.arrayClass .boolean) ∈ lw_tbl ∧ (Cond.arrayClass .long) ∈ lw_tbl := ⟨wm_153, wm_257, wm_276⟩
theorem IN_0 : (Cond.instantiable RX0 4) ∈ lw_tbl := wm_206
theorem IN_1 : (Cond.instantiable RX1 3) ∈ lw_tbl := wm_278
theorem IN_2 : (Cond.instantiable RX2 2) ∈ lw_tbl := wm_192
theorem IN_3 : (Cond.instantiable RX3 2) ∈ lw_tbl := wm_140
theorem IN_4 : (Cond.instantiable RX4 3) ∈ lw_tbl := wm_259
theorem IN_5 : (Cond.instantiable RX5 7) ∈ lw_tbl := wm_134
theorem IN_6 : (Cond.instantiable RX6 6) ∈ lw_tbl := wm_228
theorem IN_7 : (Cond.instantiable RX7 17) ∈ lw_tbl := wm_126
theorem IN_8 : (Cond.instantiable RX8 47) ∈ lw_tbl := wm_964
