abbrev mX0_weigh : MI := (yX0_weigh, cX0_weigh, 4, some .int, 0)
abbrev mJ7_fill_53178 : MI := (yJ7_fill_53178, cJ7_fill_53178, 4, none, 0)
abbrev mX8_within : MI := (yX8_within, cX8_within, 3, some .boolean, 0)
abbrev mX0_canWeigh : MI := (yX0_canWeigh, cX0_canWeigh, 2, some .boolean, 0)
abbrev mJ6_bitCount_0f7a4 : MI := (yJ6_bitCount_0f7a4, cJ6_bitCount_0f7a4, 1, some .int, 0)
abbrev mX0_fewestPieces : MI := (yX0_fewestPieces, cX0_fewestPieces, 2, some .int, 1)
abbrev mX0_offer : MI := (yX0_offer, cX0_offer, 5, none, 2)
abbrev mX0_layOut : MI := (yX0_layOut, cX0_layOut, 5, none, 3)
abbrev mX0_heavierPan : MI := (yX0_heavierPan, cX0_heavierPan, 2, some .int, 0)
abbrev mX0_otherPan : MI := (yX0_otherPan, cX0_otherPan, 2, some .int, 0)
abbrev mX0_range : MI := (yX0_range, cX0_range, 2, some .int, 1)
abbrev mX1_dropRecords : MI := (yX1_dropRecords, cX1_dropRecords, 1, none, 0)
abbrev mX1_begin : MI := (yX1_begin, cX1_begin, 1, none, 1)
abbrev mX1_addShown : MI := (yX1_addShown, cX1_addShown, 4, some .boolean, 0)
abbrev mX1_addSeen : MI := (yX1_addSeen, cX1_addSeen, 3, some .boolean, 0)
abbrev mX1_prepareWays : MI := (yX1_prepareWays, cX1_prepareWays, 7, none, 1)
abbrev mX1_lowestOf : MI := (yX1_lowestOf, cX1_lowestOf, 5, some .int, 1)
abbrev mX1_highestOf : MI := (yX1_highestOf, cX1_highestOf, 5, some .int, 1)
abbrev mX1_waysBetween : MI := (yX1_waysBetween, cX1_waysBetween, 5, some .int, 0)
abbrev mX1_leastBetween : MI := (yX1_leastBetween, cX1_leastBetween, 4, some .int, 0)
abbrev mX1_greatestBetween : MI := (yX1_greatestBetween, cX1_greatestBetween, 4, some .int, 0)
abbrev mX1_gainOf : MI := (yX1_gainOf, cX1_gainOf, 5, some .int, 0)
abbrev mX1_fits : MI := (yX1_fits, cX1_fits, 4, some .boolean, 0)
abbrev mX1_lawsOf : MI := (yX1_lawsOf, cX1_lawsOf, 5, some .int, 1)
abbrev mX1_figuresOf : MI := (yX1_figuresOf, cX1_figuresOf, 5, some .int, 0)
abbrev mX1_firstLawOf : MI := (yX1_firstLawOf, cX1_firstLawOf, 4, some .int, 1)
abbrev mX4_copyFrom : MI := (yX4_copyFrom, cX4_copyFrom, 2, none, 1)
abbrev mX2_push : MI := (yX2_push, cX2_push, 2, none, 2)
abbrev mX2_popInto : MI := (yX2_popInto, cX2_popInto, 2, none, 2)
abbrev mX3_offerBundle : MI := (yX3_offerBundle, cX3_offerBundle, 6, none, 0)
abbrev mX3_countFewest : MI := (yX3_countFewest, cX3_countFewest, 9, some .int, 1)
abbrev mX3_find : MI := (yX3_find, cX3_find, 9, none, 2)
abbrev mX3_firstWay : MI := (yX3_firstWay, cX3_firstWay, 11, some .int, 1)
abbrev mX3_figureOf : MI := (yX3_figureOf, cX3_figureOf, 4, some .int, 0)
abbrev mX3_firstSays : MI := (yX3_firstSays, cX3_firstSays, 6, some .int, 2)
abbrev mX3_secondSays : MI := (yX3_secondSays, cX3_secondSays, 6, some .int, 2)
abbrev mX4_begin : MI := (yX4_begin, cX4_begin, 2, none, 1)
abbrev mX4_add : MI := (yX4_add, cX4_add, 3, none, 1)
abbrev mX8_foundOf : MI := (yX8_foundOf, cX8_foundOf, 2, some .int, 0)
abbrev mX8_withFound : MI := (yX8_withFound, cX8_withFound, 4, some .int, 0)
abbrev mX5_ordersLeft : MI := (yX5_ordersLeft, cX5_ordersLeft, 2, some .int, 0)
abbrev mX5_countHeavierOnes : MI := (yX5_countHeavierOnes, cX5_countHeavierOnes, 6, none, 1)
abbrev mX5_dueFinding : MI := (yX5_dueFinding, cX5_dueFinding, 2, some .int, 0)
abbrev mX5_isOrder : MI := (yX5_isOrder, cX5_isOrder, 6, some .boolean, 2)
abbrev mX5_countOrders : MI := (yX5_countOrders, cX5_countOrders, 3, some .int, 3)
abbrev mX5_worstOf : MI := (yX5_worstOf, cX5_worstOf, 2, some .int, 0)
abbrev mX5_worstBehind : MI := (yX5_worstBehind, cX5_worstBehind, 6, some .int, 1)
abbrev mX5_leastBehind : MI := (yX5_leastBehind, cX5_leastBehind, 4, some .int, 2)
abbrev mX5_prepare : MI := (yX5_prepare, cX5_prepare, 5, none, 4)
abbrev mX8_pairOf : MI := (yX8_pairOf, cX8_pairOf, 4, some .int, 1)
abbrev mX5_nextPair : MI := (yX5_nextPair, cX5_nextPair, 6, some .int, 2)
abbrev mX6_append : MI := (yX6_append, cX6_append, 2, some .boolean, 0)
abbrev mX6_hasFault : MI := (yX6_hasFault, cX6_hasFault, 1, some .boolean, 0)
abbrev mX7_makeEmpty : MI := (yX7_makeEmpty, cX7_makeEmpty, 1, none, 1)
abbrev mX6_skipBlanks : MI := (yX6_skipBlanks, cX6_skipBlanks, 1, none, 0)
abbrev mX6_isFigure : MI := (yX6_isFigure, cX6_isFigure, 1, some .boolean, 0)
abbrev mX6_readNumber : MI := (yX6_readNumber, cX6_readNumber, 7, some .int, 1)
abbrev mX6_readEnd : MI := (yX6_readEnd, cX6_readEnd, 1, none, 1)
abbrev mX6_readWeight : MI := (yX6_readWeight, cX6_readWeight, 4, none, 2)
abbrev mX6_readPerson : MI := (yX6_readPerson, cX6_readPerson, 4, none, 2)
abbrev mX6_readGrowth : MI := (yX6_readGrowth, cX6_readGrowth, 5, none, 2)
abbrev mX6_readPiece : MI := (yX6_readPiece, cX6_readPiece, 3, none, 2)
abbrev mX6_readItem : MI := (yX6_readItem, cX6_readItem, 4, none, 3)
abbrev mX6_readInto : MI := (yX6_readInto, cX6_readInto, 3, some .int, 4)
abbrev mX7_copyFrom : MI := (yX7_copyFrom, cX7_copyFrom, 2, none, 1)
abbrev mX8_type : MI := (yX8_type, cX8_type, 2, some .int, 1)
abbrev mX8_clear : MI := (yX8_clear, cX8_clear, 2, some .int, 0)
abbrev mX8_beginAnew : MI := (yX8_beginAnew, cX8_beginAnew, 2, none, 4)
abbrev mX8_shop : MI := (yX8_shop, cX8_shop, 2, some .int, 5)
abbrev mX8_isPerson : MI := (yX8_isPerson, cX8_isPerson, 2, some .boolean, 1)
abbrev mX8_isSort : MI := (yX8_isSort, cX8_isSort, 1, some .boolean, 1)
abbrev mX8_holds : MI := (yX8_holds, cX8_holds, 3, some .int, 2)
abbrev mX8_grows : MI := (yX8_grows, cX8_grows, 3, some .int, 2)
abbrev mX8_weight : MI := (yX8_weight, cX8_weight, 3, some .int, 2)
abbrev mX8_heavinessAhead : MI := (yX8_heavinessAhead, cX8_heavinessAhead, 7, some .int, 1)
abbrev mX8_heavinessOf : MI := (yX8_heavinessOf, cX8_heavinessOf, 2, some .int, 2)
abbrev mX8_heavy : MI := (yX8_heavy, cX8_heavy, 2, some .int, 3)
abbrev mX8_isPair : MI := (yX8_isPair, cX8_isPair, 3, some .boolean, 2)
abbrev mX8_knownOf : MI := (yX8_knownOf, cX8_knownOf, 4, some .int, 2)
abbrev mX8_known : MI := (yX8_known, cX8_known, 3, some .int, 3)
abbrev mX8_knownPairs : MI := (yX8_knownPairs, cX8_knownPairs, 3, some .int, 1)
abbrev mX8_planned : MI := (yX8_planned, cX8_planned, 2, some .int, 5)
abbrev mX8_now : MI := (yX8_now, cX8_now, 2, some .int, 6)
abbrev mX8_tells : MI := (yX8_tells, cX8_tells, 5, some .int, 3)
abbrev mX8_keeps : MI := (yX8_keeps, cX8_keeps, 4, some .int, 3)
abbrev mX8_day : MI := (yX8_day, cX8_day, 2, some .int, 3)
abbrev mX8_compareLower : MI := (yX8_compareLower, cX8_compareLower, 4, some .int, 3)
abbrev mX8_weighs : MI := (yX8_weighs, cX8_weighs, 3, some .int, 4)
abbrev mX8_forgets : MI := (yX8_forgets, cX8_forgets, 2, some .int, 3)
abbrev mX8_undo : MI := (yX8_undo, cX8_undo, 1, some .int, 3)
abbrev mX8_beam : MI := (yX8_beam, cX8_beam, 3, some .int, 3)
abbrev mX8_level : MI := (yX8_level, cX8_level, 4, some .int, 3)
abbrev mX8_when : MI := (yX8_when, cX8_when, 4, some .int, 3)
abbrev mX8_power : MI := (yX8_power, cX8_power, 5, some .long, 0)
abbrev mX8_lighterWays : MI := (yX8_lighterWays, cX8_lighterWays, 12, some .long, 3)
abbrev mX8_commonDivisor : MI := (yX8_commonDivisor, cX8_commonDivisor, 11, some .long, 0)
abbrev mX8_odds : MI := (yX8_odds, cX8_odds, 12, some .long, 4)
abbrev mX8_brass : MI := (yX8_brass, cX8_brass, 3, some .int, 2)
abbrev mX8_shows : MI := (yX8_shows, cX8_shows, 4, some .int, 2)
abbrev mX8_can : MI := (yX8_can, cX8_can, 5, some .int, 2)
abbrev mX8_saw : MI := (yX8_saw, cX8_saw, 3, some .int, 2)
abbrev mX8_laws : MI := (yX8_laws, cX8_laws, 3, some .int, 2)
abbrev mX8_clean : MI := (yX8_clean, cX8_clean, 2, some .int, 1)
abbrev mX8_asPerson : MI := (yX8_asPerson, cX8_asPerson, 2, some .int, 3)
abbrev mX8_sumOfSorts : MI := (yX8_sumOfSorts, cX8_sumOfSorts, 4, some .int, 0)
abbrev mX8_asBride : MI := (yX8_asBride, cX8_asBride, 2, some .int, 4)
abbrev mX8_asPartner : MI := (yX8_asPartner, cX8_asPartner, 2, some .int, 4)
abbrev mX8_asBrother : MI := (yX8_asBrother, cX8_asBrother, 2, some .int, 5)
abbrev mX8_asBankrupt : MI := (yX8_asBankrupt, cX8_asBankrupt, 2, some .int, 5)
abbrev mX8_asStranger : MI := (yX8_asStranger, cX8_asStranger, 2, some .int, 4)
abbrev mX8_rate : MI := (yX8_rate, cX8_rate, 3, some .int, 6)
abbrev mX8_keep : MI := (yX8_keep, cX8_keep, 2, some .int, 2)
abbrev mX8_back : MI := (yX8_back, cX8_back, 2, some .int, 2)
abbrev mX8_count : MI := (yX8_count, cX8_count, 2, some .int, 0)
abbrev mX8_trace : MI := (yX8_trace, cX8_trace, 1, some .long, 0)
abbrev mX9_in : MI := (yX9_in, cX9_in, 3, some .boolean, 0)
abbrev mX9_type : MI := (yX9_type, cX9_type, 2, some .int, 1)
abbrev mX9_clear : MI := (yX9_clear, cX9_clear, 2, some .int, 0)
abbrev mX9_letterAt : MI := (yX9_letterAt, cX9_letterAt, 2, some .int, 0)
abbrev mX9_advances : MI := (yX9_advances, cX9_advances, 2, none, 1)
abbrev mX9_isWell : MI := (yX9_isWell, cX9_isWell, 1, some .boolean, 0)
abbrev mX9_takes : MI := (yX9_takes, cX9_takes, 3, some .int, 2)
abbrev mX9_number : MI := (yX9_number, cX9_number, 3, some .int, 3)
abbrev mX9_begins : MI := (yX9_begins, cX9_begins, 2, none, 0)
abbrev mX9_readsItem : MI := (yX9_readsItem, cX9_readsItem, 5, none, 4)
abbrev mX9_mayBegin : MI := (yX9_mayBegin, cX9_mayBegin, 1, some .boolean, 0)
abbrev mX9_lowerOf : MI := (yX9_lowerOf, cX9_lowerOf, 1, some .int, 0)
abbrev mX9_upperOf : MI := (yX9_upperOf, cX9_upperOf, 1, some .int, 0)
abbrev mX9_isPairNumber : MI := (yX9_isPairNumber, cX9_isPairNumber, 2, some .boolean, 1)
abbrev mX9_orders : MI := (yX9_orders, cX9_orders, 10, none, 2)
abbrev mX9_worstBehind : MI := (yX9_worstBehind, cX9_worstBehind, 6, some .int, 2)
abbrev mX9_worsts : MI := (yX9_worsts, cX9_worsts, 7, none, 3)
abbrev mX9_settles : MI := (yX9_settles, cX9_settles, 2, none, 4)
abbrev mX9_shop : MI := (yX9_shop, cX9_shop, 3, some .int, 5)
abbrev mX9_isPerson : MI := (yX9_isPerson, cX9_isPerson, 2, some .boolean, 1)
abbrev mX9_isSort : MI := (yX9_isSort, cX9_isSort, 1, some .boolean, 1)
abbrev mX9_isPair : MI := (yX9_isPair, cX9_isPair, 3, some .boolean, 2)
abbrev mX9_heaviness : MI := (yX9_heaviness, cX9_heaviness, 4, some .int, 0)
abbrev mX9_holds : MI := (yX9_holds, cX9_holds, 3, some .int, 2)
abbrev mX9_grows : MI := (yX9_grows, cX9_grows, 3, some .int, 2)
abbrev mX9_weight : MI := (yX9_weight, cX9_weight, 2, some .int, 1)
abbrev mX9_heavy : MI := (yX9_heavy, cX9_heavy, 2, some .int, 2)
abbrev mX9_pairOf : MI := (yX9_pairOf, cX9_pairOf, 4, some .int, 0)
abbrev mX9_turned : MI := (yX9_turned, cX9_turned, 1, some .int, 0)
abbrev mX9_known : MI := (yX9_known, cX9_known, 4, some .int, 3)
abbrev mX9_codeNow : MI := (yX9_codeNow, cX9_codeNow, 3, some .int, 0)
abbrev mX9_nextPair : MI := (yX9_nextPair, cX9_nextPair, 6, some .int, 3)
abbrev mX9_knownMany : MI := (yX9_knownMany, cX9_knownMany, 3, some .int, 0)
abbrev mX9_sumOf : MI := (yX9_sumOf, cX9_sumOf, 4, some .int, 0)
abbrev mX9_range : MI := (yX9_range, cX9_range, 4, some .int, 1)
abbrev mX9_now : MI := (yX9_now, cX9_now, 2, some .int, 4)
abbrev mX9_notes : MI := (yX9_notes, cX9_notes, 2, none, 0)
abbrev mX9_gets : MI := (yX9_gets, cX9_gets, 5, none, 0)
abbrev mX9_tells : MI := (yX9_tells, cX9_tells, 4, some .int, 3)
abbrev mX9_keeps : MI := (yX9_keeps, cX9_keeps, 3, some .int, 2)
abbrev mX9_day : MI := (yX9_day, cX9_day, 2, some .int, 1)
abbrev mX9_weighs : MI := (yX9_weighs, cX9_weighs, 5, some .int, 3)
abbrev mX9_forgets : MI := (yX9_forgets, cX9_forgets, 3, some .int, 1)
abbrev mX9_undo : MI := (yX9_undo, cX9_undo, 2, some .int, 0)
abbrev mX9_beam : MI := (yX9_beam, cX9_beam, 3, some .int, 3)
abbrev mX9_canSay : MI := (yX9_canSay, cX9_canSay, 4, some .boolean, 0)
abbrev mX9_weighsOf : MI := (yX9_weighsOf, cX9_weighsOf, 2, some .int, 0)
abbrev mX9_sheds : MI := (yX9_sheds, cX9_sheds, 7, none, 1)
abbrev mX9_wayOf : MI := (yX9_wayOf, cX9_wayOf, 6, some .int, 1)
abbrev mX9_level : MI := (yX9_level, cX9_level, 7, some .int, 3)
abbrev mX9_heavinessThen : MI := (yX9_heavinessThen, cX9_heavinessThen, 6, some .int, 0)
abbrev mX9_when : MI := (yX9_when, cX9_when, 4, some .int, 3)
abbrev mX9_gcd : MI := (yX9_gcd, cX9_gcd, 10, some .long, 0)
abbrev mX9_odds : MI := (yX9_odds, cX9_odds, 17, some .long, 3)
abbrev mX9_pieces : MI := (yX9_pieces, cX9_pieces, 7, some .int, 1)
abbrev mX9_brass : MI := (yX9_brass, cX9_brass, 4, some .int, 2)
abbrev mX9_shows : MI := (yX9_shows, cX9_shows, 4, some .int, 2)
abbrev mX9_isAsShown : MI := (yX9_isAsShown, cX9_isAsShown, 6, some .boolean, 0)
abbrev mX9_can : MI := (yX9_can, cX9_can, 8, some .int, 2)
abbrev mX9_saw : MI := (yX9_saw, cX9_saw, 3, some .int, 2)
abbrev mX9_laws : MI := (yX9_laws, cX9_laws, 9, some .int, 2)
abbrev mX9_clean : MI := (yX9_clean, cX9_clean, 2, some .int, 0)
abbrev mX9_rate : MI := (yX9_rate, cX9_rate, 7, some .int, 2)
abbrev mX9_keep : MI := (yX9_keep, cX9_keep, 3, some .int, 1)
abbrev mX9_back : MI := (yX9_back, cX9_back, 3, some .int, 1)
abbrev mX9_count : MI := (yX9_count, cX9_count, 2, some .int, 1)
abbrev mX9_trace : MI := (yX9_trace, cX9_trace, 1, some .long, 0)
theorem kq0 : (kd 0).1 = 8 := by decide +kernel
theorem kq1 : (kd 1).1 = 6 := by decide +kernel
theorem kq2 : kd 2 = (11, 150) := by decide +kernel
theorem kq3 : (kd 3).1 = 7 := by decide +kernel
theorem kq4 : kd 4 = (10, 4) := by decide +kernel
theorem kq5 : kd 5 = (10, 16) := by decide +kernel
theorem kq6 : kd 6 = (10, 16) := by decide +kernel
theorem kq7 : kd 7 = (10, 5) := by decide +kernel
theorem kq8 : (kd 8).1 = 7 := by decide +kernel
theorem kq9 : kd 9 = (10, 4) := by decide +kernel
theorem kq10 : kd 10 = (10, 16) := by decide +kernel
theorem kq11 : kd 11 = (10, 16) := by decide +kernel
theorem kq12 : kd 12 = (10, 5) := by decide +kernel
theorem kq13 : (kd 13).1 = 4 := by decide +kernel
theorem kq14 : kd 14 = (10, 16) := by decide +kernel
theorem kq15 : (kd 15).1 = 2 := by decide +kernel
theorem kq16 : kd 16 = (14, 10) := by decide +kernel
theorem kq37 : kd 37 = (14, 2) := by decide +kernel
theorem kq42 : kd 42 = (13, 2) := by decide +kernel
theorem kq43 : (kd 43).1 = 5 := by decide +kernel
theorem kq44 : kd 44 = (12, 4096) := by decide +kernel
theorem kq45 : kd 45 = (10, 4) := by decide +kernel
theorem kq46 : (kd 46).1 = 0 := by decide +kernel
theorem kq47 : kd 47 = (10, 32) := by decide +kernel
theorem kq48 : kd 48 = (10, 301) := by decide +kernel
theorem kq49 : (kd 49).1 = 3 := by decide +kernel
theorem kq50 : kd 50 = (10, 721) := by decide +kernel
theorem kq51 : kd 51 = (10, 721) := by decide +kernel
theorem kq52 : (kd 52).1 = 1 := by decide +kernel
theorem kq53 : kd 53 = (10, 6) := by decide +kernel
theorem kq54 : kd 54 = (10, 6) := by decide +kernel
theorem kq55 : kd 55 = (10, 6) := by decide +kernel
theorem kq56 : kd 56 = (10, 6) := by decide +kernel
theorem kq57 : kd 57 = (10, 6) := by decide +kernel
theorem kq58 : kd 58 = (10, 721) := by decide +kernel
theorem kq59 : (kd 59).1 = 9 := by decide +kernel
theorem kq60 : kd 60 = (10, 150) := by decide +kernel
theorem kq61 : kd 61 = (10, 4) := by decide +kernel
theorem kq62 : kd 62 = (10, 8) := by decide +kernel
theorem kq63 : kd 63 = (10, 16) := by decide +kernel
theorem kq64 : kd 64 = (10, 32) := by decide +kernel
theorem kq65 : kd 65 = (10, 10) := by decide +kernel
theorem kq66 : kd 66 = (10, 23) := by decide +kernel
theorem kq67 : kd 67 = (10, 46) := by decide +kernel
theorem kq68 : kd 68 = (13, 2) := by decide +kernel
theorem kq69 : kd 69 = (10, 230) := by decide +kernel
theorem kq70 : kd 70 = (10, 6) := by decide +kernel
theorem kq71 : kd 71 = (10, 6) := by decide +kernel
theorem kq72 : kd 72 = (10, 6) := by decide +kernel
theorem kq73 : kd 73 = (10, 6) := by decide +kernel
theorem kq74 : kd 74 = (10, 6) := by decide +kernel
theorem kq75 : kd 75 = (10, 75) := by decide +kernel
theorem kq76 : kd 76 = (10, 4096) := by decide +kernel
theorem kq77 : kd 77 = (10, 4096) := by decide +kernel
theorem kq78 : kd 78 = (10, 1442) := by decide +kernel
theorem kq79 : kd 79 = (13, 301) := by decide +kernel
theorem ty_1_6 : tyOf 1 6 = .boolean := rfl
theorem fi_1_6 : (cT 1 6).2.2.2 = false := rfl
theorem ty_1_7 : tyOf 1 7 = .int := rfl
theorem fi_1_7 : (cT 1 7).2.2.2 = false := rfl
theorem ty_1_8 : tyOf 1 8 = .int := rfl
theorem fi_1_8 : (cT 1 8).2.2.2 = false := rfl
theorem ty_2_1 : tyOf 2 1 = .int := rfl
theorem fi_2_1 : (cT 2 1).2.2.2 = false := rfl
theorem ty_2_2 : tyOf 2 2 = .int := rfl
theorem fi_2_2 : (cT 2 2).2.2.2 = false := rfl
theorem ty_3_2 : tyOf 3 2 = .int := rfl
theorem fi_3_2 : (cT 3 2).2.2.2 = false := rfl
theorem ty_3_3 : tyOf 3 3 = .int := rfl
theorem fi_3_3 : (cT 3 3).2.2.2 = false := rfl
theorem ty_3_4 : tyOf 3 4 = .int := rfl
theorem fi_3_4 : (cT 3 4).2.2.2 = false := rfl
theorem ty_3_5 : tyOf 3 5 = .int := rfl
theorem fi_3_5 : (cT 3 5).2.2.2 = false := rfl
theorem ty_4_1 : tyOf 4 1 = .int := rfl
theorem fi_4_1 : (cT 4 1).2.2.2 = false := rfl
theorem ty_4_2 : tyOf 4 2 = .int := rfl
theorem fi_4_2 : (cT 4 2).2.2.2 = false := rfl
theorem ty_5_2 : tyOf 5 2 = .int := rfl
theorem fi_5_2 : (cT 5 2).2.2.2 = false := rfl
theorem ty_5_3 : tyOf 5 3 = .int := rfl
theorem fi_5_3 : (cT 5 3).2.2.2 = false := rfl
theorem ty_6_1 : tyOf 6 1 = .int := rfl
theorem fi_6_1 : (cT 6 1).2.2.2 = false := rfl
theorem ty_6_2 : tyOf 6 2 = .int := rfl
theorem fi_6_2 : (cT 6 2).2.2.2 = false := rfl
theorem ty_6_3 : tyOf 6 3 = .int := rfl
theorem fi_6_3 : (cT 6 3).2.2.2 = false := rfl
theorem ty_7_4 : tyOf 7 4 = .int := rfl
theorem fi_7_4 : (cT 7 4).2.2.2 = false := rfl
theorem ty_7_5 : tyOf 7 5 = .int := rfl
theorem fi_7_5 : (cT 7 5).2.2.2 = false := rfl
theorem ty_8_11 : tyOf 8 11 = .long := rfl
theorem fi_8_11 : (cT 8 11).2.2.2 = false := rfl
theorem ty_9_0 : tyOf 9 0 = .int := rfl
theorem fi_9_0 : (cT 9 0).2.2.2 = false := rfl
theorem ty_9_1 : tyOf 9 1 = .long := rfl
theorem fi_9_1 : (cT 9 1).2.2.2 = false := rfl
theorem ty_9_3 : tyOf 9 3 = .int := rfl
theorem fi_9_3 : (cT 9 3).2.2.2 = false := rfl
theorem ty_9_4 : tyOf 9 4 = .int := rfl
theorem fi_9_4 : (cT 9 4).2.2.2 = false := rfl
theorem ty_9_5 : tyOf 9 5 = .int := rfl
theorem fi_9_5 : (cT 9 5).2.2.2 = false := rfl
theorem ty_9_6 : tyOf 9 6 = .int := rfl
theorem fi_9_6 : (cT 9 6).2.2.2 = false := rfl
theorem ty_9_7 : tyOf 9 7 = .int := rfl
theorem fi_9_7 : (cT 9 7).2.2.2 = false := rfl
theorem ty_9_8 : tyOf 9 8 = .int := rfl
theorem fi_9_8 : (cT 9 8).2.2.2 = false := rfl
theorem ty_9_18 : tyOf 9 18 = .int := rfl
theorem fi_9_18 : (cT 9 18).2.2.2 = false := rfl
theorem ty_9_22 : tyOf 9 22 = .int := rfl
theorem fi_9_22 : (cT 9 22).2.2.2 = false := rfl
theorem ty_9_25 : tyOf 9 25 = .int := rfl
theorem fi_9_25 : (cT 9 25).2.2.2 = false := rfl
theorem ty_9_27 : tyOf 9 27 = .int := rfl
theorem fi_9_27 : (cT 9 27).2.2.2 = false := rfl
theorem ty_9_32 : tyOf 9 32 = .int := rfl
theorem fi_9_32 : (cT 9 32).2.2.2 = false := rfl
theorem ty_9_33 : tyOf 9 33 = .int := rfl
theorem fi_9_33 : (cT 9 33).2.2.2 = false := rfl
theorem lfRX8_12 : Lf RX8 12 8 0 := ⟨by decide, by decide, Or.inl (List.mem_filter.mpr ⟨List.mem_of_getElem? (i := 340) (by decide +kernel), by decide +kernel⟩)⟩
theorem lfRX8_19 : Lf RX8 19 8 1 := ⟨by decide, by decide, Or.inl (List.mem_filter.mpr ⟨List.mem_of_getElem? (i := 341) (by decide +kernel), by decide +kernel⟩)⟩
theorem lfRX8_23 : Lf RX8 23 8 2 := ⟨by decide, by decide, Or.inl (List.mem_filter.mpr ⟨List.mem_of_getElem? (i := 342) (by decide +kernel), by decide +kernel⟩)⟩
theorem lfRX8_29 : Lf RX8 29 8 3 := ⟨by decide, by decide, Or.inl (List.mem_filter.mpr ⟨List.mem_of_getElem? (i := 343) (by decide +kernel), by decide +kernel⟩)⟩
theorem lfRX8_36 : Lf RX8 36 8 4 := ⟨by decide, by decide, Or.inl (List.mem_filter.mpr ⟨List.mem_of_getElem? (i := 344) (by decide +kernel), by decide +kernel⟩)⟩
theorem lfRX8_40 : Lf RX8 40 8 5 := ⟨by decide, by decide, Or.inl (List.mem_filter.mpr ⟨List.mem_of_getElem? (i := 345) (by decide +kernel), by decide +kernel⟩)⟩
theorem lfRX8_44 : Lf RX8 44 8 6 := ⟨by decide, by decide, Or.inl (List.mem_filter.mpr ⟨List.mem_of_getElem? (i := 346) (by decide +kernel), by decide +kernel⟩)⟩
theorem lfRX8_51 : Lf RX8 51 8 7 := ⟨by decide, by decide, Or.inl (List.mem_filter.mpr ⟨List.mem_of_getElem? (i := 347) (by decide +kernel), by decide +kernel⟩)⟩
theorem lfRX8_58 : Lf RX8 58 8 8 := ⟨by decide, by decide, Or.inl (List.mem_filter.mpr ⟨List.mem_of_getElem? (i := 348) (by decide +kernel), by decide +kernel⟩)⟩
theorem lfRX8_65 : Lf RX8 65 8 9 := ⟨by decide, by decide, Or.inl (List.mem_filter.mpr ⟨List.mem_of_getElem? (i := 349) (by decide +kernel), by decide +kernel⟩)⟩
theorem lfRX8_72 : Lf RX8 72 8 10 := ⟨by decide, by decide, Or.inl (List.mem_filter.mpr ⟨List.mem_of_getElem? (i := 350) (by decide +kernel), by decide +kernel⟩)⟩
theorem lfRX8_90 : Lf RX8 90 6 1 := ⟨by decide, by decide, Or.inr ⟨"UnsaidScales", (List.mem_of_getElem? (i := 92) (by decide +kernel))⟩⟩
theorem lfRX8_102 : Lf RX8 102 6 3 := ⟨by decide, by decide, Or.inr ⟨"UnsaidScales", (List.mem_of_getElem? (i := 95) (by decide +kernel))⟩⟩
theorem lfRX8_116 : Lf RX8 116 4 0 := ⟨by decide, by decide, Or.inl (List.mem_filter.mpr ⟨List.mem_of_getElem? (i := 153) (by decide +kernel), by decide +kernel⟩)⟩
theorem lfRX8_120 : Lf RX8 120 7 2 := ⟨by decide, by decide, Or.inl (List.mem_filter.mpr ⟨List.mem_of_getElem? (i := 119) (by decide +kernel), by decide +kernel⟩)⟩
theorem lfRX8_123 : Lf RX8 123 7 0 := ⟨by decide, by decide, Or.inl (List.mem_filter.mpr ⟨List.mem_of_getElem? (i := 114) (by decide +kernel), by decide +kernel⟩)⟩
theorem lfRX8_126 : Lf RX8 126 7 5 := ⟨by decide, by decide, Or.inl (List.mem_filter.mpr ⟨List.mem_of_getElem? (i := 131) (by decide +kernel), by decide +kernel⟩)⟩
theorem lfRX8_129 : Lf RX8 129 7 3 := ⟨by decide, by decide, Or.inl (List.mem_filter.mpr ⟨List.mem_of_getElem? (i := 122) (by decide +kernel), by decide +kernel⟩)⟩
theorem lfRX8_144 : Lf RX8 144 4 1 := ⟨by decide, by decide, Or.inl (List.mem_filter.mpr ⟨List.mem_of_getElem? (i := 155) (by decide +kernel), by decide +kernel⟩)⟩
theorem lfRX8_157 : Lf RX8 157 2 2 := ⟨by decide, by decide, Or.inr ⟨"UnsaidScales", (List.mem_of_getElem? (i := 177) (by decide +kernel))⟩⟩
theorem lfRX8_168 : Lf RX8 168 7 4 := ⟨by decide, by decide, Or.inl (List.mem_filter.mpr ⟨List.mem_of_getElem? (i := 127) (by decide +kernel), by decide +kernel⟩)⟩
theorem lfRX8_171 : Lf RX8 171 4 2 := ⟨by decide, by decide, Or.inl (List.mem_filter.mpr ⟨List.mem_of_getElem? (i := 157) (by decide +kernel), by decide +kernel⟩)⟩
theorem lfRX8_192 : Lf RX8 192 3 2 := ⟨by decide, by decide, Or.inr ⟨"UnsaidScales", (List.mem_of_getElem? (i := 228) (by decide +kernel))⟩⟩
theorem lfRX8_195 : Lf RX8 195 3 3 := ⟨by decide, by decide, Or.inr ⟨"UnsaidScales", (List.mem_of_getElem? (i := 230) (by decide +kernel))⟩⟩
theorem lfRX8_237 : Lf RX8 237 1 7 := ⟨by decide, by decide, Or.inr ⟨"UnsaidScales", (List.mem_of_getElem? (i := 260) (by decide +kernel))⟩⟩
theorem lfRX8_262 : Lf RX8 262 1 8 := ⟨by decide, by decide, Or.inr ⟨"UnsaidScales", (List.mem_of_getElem? (i := 262) (by decide +kernel))⟩⟩
theorem lfRX8_295 : Lf RX8 295 8 11 := ⟨by decide, by decide, Or.inl (List.mem_filter.mpr ⟨List.mem_of_getElem? (i := 351) (by decide +kernel), by decide +kernel⟩)⟩
theorem lfRX0_11 : Lf RX0 11 0 0 := ⟨by decide, by decide, Or.inl (List.mem_filter.mpr ⟨List.mem_of_getElem? (i := 212) (by decide +kernel), by decide +kernel⟩)⟩
theorem lfRX0_15 : Lf RX0 15 0 1 := ⟨by decide, by decide, Or.inl (List.mem_filter.mpr ⟨List.mem_of_getElem? (i := 213) (by decide +kernel), by decide +kernel⟩)⟩
theorem lfRX0_18 : Lf RX0 18 7 5 := ⟨by decide, by decide, Or.inl (List.mem_filter.mpr ⟨List.mem_of_getElem? (i := 128) (by decide +kernel), by decide +kernel⟩)⟩
theorem lfRX0_55 : Lf RX0 55 7 3 := ⟨by decide, by decide, Or.inl (List.mem_filter.mpr ⟨List.mem_of_getElem? (i := 124) (by decide +kernel), by decide +kernel⟩)⟩
theorem lfRX1_11 : Lf RX1 11 1 0 := ⟨by decide, by decide, Or.inl (List.mem_filter.mpr ⟨List.mem_of_getElem? (i := 252) (by decide +kernel), by decide +kernel⟩)⟩
theorem lfRX1_15 : Lf RX1 15 1 1 := ⟨by decide, by decide, Or.inl (List.mem_filter.mpr ⟨List.mem_of_getElem? (i := 253) (by decide +kernel), by decide +kernel⟩)⟩
theorem lfRX1_18 : Lf RX1 18 1 2 := ⟨by decide, by decide, Or.inl (List.mem_filter.mpr ⟨List.mem_of_getElem? (i := 254) (by decide +kernel), by decide +kernel⟩)⟩
theorem lfRX1_21 : Lf RX1 21 1 3 := ⟨by decide, by decide, Or.inl (List.mem_filter.mpr ⟨List.mem_of_getElem? (i := 255) (by decide +kernel), by decide +kernel⟩)⟩
theorem lfRX1_24 : Lf RX1 24 1 4 := ⟨by decide, by decide, Or.inl (List.mem_filter.mpr ⟨List.mem_of_getElem? (i := 256) (by decide +kernel), by decide +kernel⟩)⟩
theorem lfRX1_27 : Lf RX1 27 1 5 := ⟨by decide, by decide, Or.inl (List.mem_filter.mpr ⟨List.mem_of_getElem? (i := 257) (by decide +kernel), by decide +kernel⟩)⟩
theorem lfRX1_33 : Lf RX1 33 1 6 := ⟨by decide, by decide, Or.inl (List.mem_filter.mpr ⟨List.mem_of_getElem? (i := 258) (by decide +kernel), by decide +kernel⟩)⟩
theorem lfRX1_37 : Lf RX1 37 1 7 := ⟨by decide, by decide, Or.inl (List.mem_filter.mpr ⟨List.mem_of_getElem? (i := 259) (by decide +kernel), by decide +kernel⟩)⟩
theorem lfRX1_41 : Lf RX1 41 1 8 := ⟨by decide, by decide, Or.inl (List.mem_filter.mpr ⟨List.mem_of_getElem? (i := 261) (by decide +kernel), by decide +kernel⟩)⟩
theorem lfRX2_11 : Lf RX2 11 2 0 := ⟨by decide, by decide, Or.inl (List.mem_filter.mpr ⟨List.mem_of_getElem? (i := 174) (by decide +kernel), by decide +kernel⟩)⟩
theorem lfRX2_18 : Lf RX2 18 2 1 := ⟨by decide, by decide, Or.inl (List.mem_filter.mpr ⟨List.mem_of_getElem? (i := 175) (by decide +kernel), by decide +kernel⟩)⟩
theorem lfRX2_26 : Lf RX2 26 2 2 := ⟨by decide, by decide, Or.inl (List.mem_filter.mpr ⟨List.mem_of_getElem? (i := 176) (by decide +kernel), by decide +kernel⟩)⟩
theorem lfRX3_9 : Lf RX3 9 3 0 := ⟨by decide, by decide, Or.inl (List.mem_filter.mpr ⟨List.mem_of_getElem? (i := 225) (by decide +kernel), by decide +kernel⟩)⟩
theorem lfRX3_15 : Lf RX3 15 3 1 := ⟨by decide, by decide, Or.inl (List.mem_filter.mpr ⟨List.mem_of_getElem? (i := 226) (by decide +kernel), by decide +kernel⟩)⟩
theorem lfRX3_22 : Lf RX3 22 3 2 := ⟨by decide, by decide, Or.inl (List.mem_filter.mpr ⟨List.mem_of_getElem? (i := 227) (by decide +kernel), by decide +kernel⟩)⟩
theorem lfRX3_26 : Lf RX3 26 3 3 := ⟨by decide, by decide, Or.inl (List.mem_filter.mpr ⟨List.mem_of_getElem? (i := 229) (by decide +kernel), by decide +kernel⟩)⟩
theorem lfRX3_35 : Lf RX3 35 3 4 := ⟨by decide, by decide, Or.inl (List.mem_filter.mpr ⟨List.mem_of_getElem? (i := 231) (by decide +kernel), by decide +kernel⟩)⟩
theorem lfRX3_38 : Lf RX3 38 3 5 := ⟨by decide, by decide, Or.inl (List.mem_filter.mpr ⟨List.mem_of_getElem? (i := 232) (by decide +kernel), by decide +kernel⟩)⟩
theorem lfRX4_9 : Lf RX4 9 4 0 := ⟨by decide, by decide, Or.inl (List.mem_filter.mpr ⟨List.mem_of_getElem? (i := 152) (by decide +kernel), by decide +kernel⟩)⟩
theorem lfRX4_15 : Lf RX4 15 7 1 := ⟨by decide, by decide, Or.inl (List.mem_filter.mpr ⟨List.mem_of_getElem? (i := 116) (by decide +kernel), by decide +kernel⟩)⟩
theorem lfRX4_26 : Lf RX4 26 4 1 := ⟨by decide, by decide, Or.inl (List.mem_filter.mpr ⟨List.mem_of_getElem? (i := 154) (by decide +kernel), by decide +kernel⟩)⟩
theorem lfRX4_30 : Lf RX4 30 4 2 := ⟨by decide, by decide, Or.inl (List.mem_filter.mpr ⟨List.mem_of_getElem? (i := 156) (by decide +kernel), by decide +kernel⟩)⟩
theorem lfRX5_9 : Lf RX5 9 5 0 := ⟨by decide, by decide, Or.inl (List.mem_filter.mpr ⟨List.mem_of_getElem? (i := 191) (by decide +kernel), by decide +kernel⟩)⟩
theorem lfRX5_15 : Lf RX5 15 5 1 := ⟨by decide, by decide, Or.inl (List.mem_filter.mpr ⟨List.mem_of_getElem? (i := 192) (by decide +kernel), by decide +kernel⟩)⟩
theorem lfRX5_19 : Lf RX5 19 5 2 := ⟨by decide, by decide, Or.inl (List.mem_filter.mpr ⟨List.mem_of_getElem? (i := 193) (by decide +kernel), by decide +kernel⟩)⟩
theorem lfRX5_23 : Lf RX5 23 5 3 := ⟨by decide, by decide, Or.inl (List.mem_filter.mpr ⟨List.mem_of_getElem? (i := 194) (by decide +kernel), by decide +kernel⟩)⟩
theorem lfRX6_9 : Lf RX6 9 6 0 := ⟨by decide, by decide, Or.inl (List.mem_filter.mpr ⟨List.mem_of_getElem? (i := 90) (by decide +kernel), by decide +kernel⟩)⟩
theorem lfRX6_15 : Lf RX6 15 6 3 := ⟨by decide, by decide, Or.inl (List.mem_filter.mpr ⟨List.mem_of_getElem? (i := 94) (by decide +kernel), by decide +kernel⟩)⟩
theorem lfRX6_19 : Lf RX6 19 6 1 := ⟨by decide, by decide, Or.inl (List.mem_filter.mpr ⟨List.mem_of_getElem? (i := 91) (by decide +kernel), by decide +kernel⟩)⟩
theorem lfRX6_27 : Lf RX6 27 6 2 := ⟨by decide, by decide, Or.inl (List.mem_filter.mpr ⟨List.mem_of_getElem? (i := 93) (by decide +kernel), by decide +kernel⟩)⟩
theorem lfRX6_41 : Lf RX6 41 7 4 := ⟨by decide, by decide, Or.inl (List.mem_filter.mpr ⟨List.mem_of_getElem? (i := 126) (by decide +kernel), by decide +kernel⟩)⟩
theorem lfRX6_44 : Lf RX6 44 7 5 := ⟨by decide, by decide, Or.inl (List.mem_filter.mpr ⟨List.mem_of_getElem? (i := 130) (by decide +kernel), by decide +kernel⟩)⟩
theorem lfRX6_66 : Lf RX6 66 7 0 := ⟨by decide, by decide, Or.inl (List.mem_filter.mpr ⟨List.mem_of_getElem? (i := 113) (by decide +kernel), by decide +kernel⟩)⟩
theorem lfRX6_70 : Lf RX6 70 7 1 := ⟨by decide, by decide, Or.inl (List.mem_filter.mpr ⟨List.mem_of_getElem? (i := 117) (by decide +kernel), by decide +kernel⟩)⟩
theorem lfRX6_73 : Lf RX6 73 7 2 := ⟨by decide, by decide, Or.inl (List.mem_filter.mpr ⟨List.mem_of_getElem? (i := 120) (by decide +kernel), by decide +kernel⟩)⟩
theorem lfRX6_76 : Lf RX6 76 7 3 := ⟨by decide, by decide, Or.inl (List.mem_filter.mpr ⟨List.mem_of_getElem? (i := 123) (by decide +kernel), by decide +kernel⟩)⟩
theorem lfRX7_9 : Lf RX7 9 7 0 := ⟨by decide, by decide, Or.inl (List.mem_filter.mpr ⟨List.mem_of_getElem? (i := 112) (by decide +kernel), by decide +kernel⟩)⟩
theorem lfRX7_15 : Lf RX7 15 7 1 := ⟨by decide, by decide, Or.inl (List.mem_filter.mpr ⟨List.mem_of_getElem? (i := 115) (by decide +kernel), by decide +kernel⟩)⟩
theorem lfRX7_18 : Lf RX7 18 7 2 := ⟨by decide, by decide, Or.inl (List.mem_filter.mpr ⟨List.mem_of_getElem? (i := 118) (by decide +kernel), by decide +kernel⟩)⟩
theorem lfRX7_21 : Lf RX7 21 7 3 := ⟨by decide, by decide, Or.inl (List.mem_filter.mpr ⟨List.mem_of_getElem? (i := 121) (by decide +kernel), by decide +kernel⟩)⟩
theorem lfRX7_39 : Lf RX7 39 7 4 := ⟨by decide, by decide, Or.inl (List.mem_filter.mpr ⟨List.mem_of_getElem? (i := 125) (by decide +kernel), by decide +kernel⟩)⟩
theorem lfRX7_43 : Lf RX7 43 7 5 := ⟨by decide, by decide, Or.inl (List.mem_filter.mpr ⟨List.mem_of_getElem? (i := 129) (by decide +kernel), by decide +kernel⟩)⟩
theorem lfRX9_7 : Lf RX9 7 9 2 := ⟨by decide, by decide, Or.inl (List.mem_filter.mpr ⟨List.mem_of_getElem? (i := 846) (by decide +kernel), by decide +kernel⟩)⟩
theorem lfRX9_13 : Lf RX9 13 9 9 := ⟨by decide, by decide, Or.inl (List.mem_filter.mpr ⟨List.mem_of_getElem? (i := 853) (by decide +kernel), by decide +kernel⟩)⟩
theorem lfRX9_16 : Lf RX9 16 9 10 := ⟨by decide, by decide, Or.inl (List.mem_filter.mpr ⟨List.mem_of_getElem? (i := 854) (by decide +kernel), by decide +kernel⟩)⟩
theorem lfRX9_19 : Lf RX9 19 9 11 := ⟨by decide, by decide, Or.inl (List.mem_filter.mpr ⟨List.mem_of_getElem? (i := 855) (by decide +kernel), by decide +kernel⟩)⟩
theorem lfRX9_22 : Lf RX9 22 9 12 := ⟨by decide, by decide, Or.inl (List.mem_filter.mpr ⟨List.mem_of_getElem? (i := 856) (by decide +kernel), by decide +kernel⟩)⟩
theorem lfRX9_25 : Lf RX9 25 9 13 := ⟨by decide, by decide, Or.inl (List.mem_filter.mpr ⟨List.mem_of_getElem? (i := 857) (by decide +kernel), by decide +kernel⟩)⟩
theorem lfRX9_28 : Lf RX9 28 9 14 := ⟨by decide, by decide, Or.inl (List.mem_filter.mpr ⟨List.mem_of_getElem? (i := 858) (by decide +kernel), by decide +kernel⟩)⟩
theorem lfRX9_31 : Lf RX9 31 9 15 := ⟨by decide, by decide, Or.inl (List.mem_filter.mpr ⟨List.mem_of_getElem? (i := 859) (by decide +kernel), by decide +kernel⟩)⟩
theorem lfRX9_34 : Lf RX9 34 9 16 := ⟨by decide, by decide, Or.inl (List.mem_filter.mpr ⟨List.mem_of_getElem? (i := 860) (by decide +kernel), by decide +kernel⟩)⟩
theorem lfRX9_38 : Lf RX9 38 9 17 := ⟨by decide, by decide, Or.inl (List.mem_filter.mpr ⟨List.mem_of_getElem? (i := 861) (by decide +kernel), by decide +kernel⟩)⟩
theorem lfRX9_41 : Lf RX9 41 9 19 := ⟨by decide, by decide, Or.inl (List.mem_filter.mpr ⟨List.mem_of_getElem? (i := 863) (by decide +kernel), by decide +kernel⟩)⟩
theorem lfRX9_44 : Lf RX9 44 9 20 := ⟨by decide, by decide, Or.inl (List.mem_filter.mpr ⟨List.mem_of_getElem? (i := 864) (by decide +kernel), by decide +kernel⟩)⟩
theorem lfRX9_47 : Lf RX9 47 9 21 := ⟨by decide, by decide, Or.inl (List.mem_filter.mpr ⟨List.mem_of_getElem? (i := 865) (by decide +kernel), by decide +kernel⟩)⟩
theorem lfRX9_50 : Lf RX9 50 9 23 := ⟨by decide, by decide, Or.inl (List.mem_filter.mpr ⟨List.mem_of_getElem? (i := 867) (by decide +kernel), by decide +kernel⟩)⟩
theorem lfRX9_53 : Lf RX9 53 9 24 := ⟨by decide, by decide, Or.inl (List.mem_filter.mpr ⟨List.mem_of_getElem? (i := 868) (by decide +kernel), by decide +kernel⟩)⟩
theorem lfRX9_56 : Lf RX9 56 9 26 := ⟨by decide, by decide, Or.inl (List.mem_filter.mpr ⟨List.mem_of_getElem? (i := 870) (by decide +kernel), by decide +kernel⟩)⟩
theorem lfRX9_59 : Lf RX9 59 9 28 := ⟨by decide, by decide, Or.inl (List.mem_filter.mpr ⟨List.mem_of_getElem? (i := 872) (by decide +kernel), by decide +kernel⟩)⟩
theorem lfRX9_62 : Lf RX9 62 9 29 := ⟨by decide, by decide, Or.inl (List.mem_filter.mpr ⟨List.mem_of_getElem? (i := 873) (by decide +kernel), by decide +kernel⟩)⟩
theorem lfRX9_65 : Lf RX9 65 9 30 := ⟨by decide, by decide, Or.inl (List.mem_filter.mpr ⟨List.mem_of_getElem? (i := 874) (by decide +kernel), by decide +kernel⟩)⟩
theorem lfRX9_68 : Lf RX9 68 9 31 := ⟨by decide, by decide, Or.inl (List.mem_filter.mpr ⟨List.mem_of_getElem? (i := 875) (by decide +kernel), by decide +kernel⟩)⟩
theorem lfRX9_77 : Lf RX9 77 9 0 := ⟨by decide, by decide, Or.inl (List.mem_filter.mpr ⟨List.mem_of_getElem? (i := 844) (by decide +kernel), by decide +kernel⟩)⟩
theorem lfRX9_85 : Lf RX9 85 9 3 := ⟨by decide, by decide, Or.inl (List.mem_filter.mpr ⟨List.mem_of_getElem? (i := 847) (by decide +kernel), by decide +kernel⟩)⟩
theorem lfRX9_88 : Lf RX9 88 9 4 := ⟨by decide, by decide, Or.inl (List.mem_filter.mpr ⟨List.mem_of_getElem? (i := 848) (by decide +kernel), by decide +kernel⟩)⟩
theorem lfRX9_95 : Lf RX9 95 9 6 := ⟨by decide, by decide, Or.inl (List.mem_filter.mpr ⟨List.mem_of_getElem? (i := 850) (by decide +kernel), by decide +kernel⟩)⟩
theorem lfRX9_98 : Lf RX9 98 9 5 := ⟨by decide, by decide, Or.inl (List.mem_filter.mpr ⟨List.mem_of_getElem? (i := 849) (by decide +kernel), by decide +kernel⟩)⟩
theorem lfRX9_101 : Lf RX9 101 9 7 := ⟨by decide, by decide, Or.inl (List.mem_filter.mpr ⟨List.mem_of_getElem? (i := 851) (by decide +kernel), by decide +kernel⟩)⟩
theorem lfRX9_104 : Lf RX9 104 9 8 := ⟨by decide, by decide, Or.inl (List.mem_filter.mpr ⟨List.mem_of_getElem? (i := 852) (by decide +kernel), by decide +kernel⟩)⟩
theorem lfRX9_129 : Lf RX9 129 9 22 := ⟨by decide, by decide, Or.inl (List.mem_filter.mpr ⟨List.mem_of_getElem? (i := 866) (by decide +kernel), by decide +kernel⟩)⟩
theorem lfRX9_132 : Lf RX9 132 9 25 := ⟨by decide, by decide, Or.inl (List.mem_filter.mpr ⟨List.mem_of_getElem? (i := 869) (by decide +kernel), by decide +kernel⟩)⟩
theorem lfRX9_135 : Lf RX9 135 9 18 := ⟨by decide, by decide, Or.inl (List.mem_filter.mpr ⟨List.mem_of_getElem? (i := 862) (by decide +kernel), by decide +kernel⟩)⟩
theorem lfRX9_166 : Lf RX9 166 9 27 := ⟨by decide, by decide, Or.inl (List.mem_filter.mpr ⟨List.mem_of_getElem? (i := 871) (by decide +kernel), by decide +kernel⟩)⟩
theorem lfRX9_228 : Lf RX9 228 9 32 := ⟨by decide, by decide, Or.inl (List.mem_filter.mpr ⟨List.mem_of_getElem? (i := 876) (by decide +kernel), by decide +kernel⟩)⟩
theorem lfRX9_231 : Lf RX9 231 9 33 := ⟨by decide, by decide, Or.inl (List.mem_filter.mpr ⟨List.mem_of_getElem? (i := 877) (by decide +kernel), by decide +kernel⟩)⟩
theorem lfRX9_240 : Lf RX9 240 9 1 := ⟨by decide, by decide, Or.inl (List.mem_filter.mpr ⟨List.mem_of_getElem? (i := 845) (by decide +kernel), by decide +kernel⟩)⟩
theorem ctRX8_187 : Cond.constant RX8 187 (-1000000) ∈ gtb := (List.mem_filter.mpr ⟨List.mem_of_getElem? (i := 615) (by decide +kernel), by decide +kernel⟩)
theorem ctRX8_208 : Cond.constantLong RX8 208 (-1) ∈ gtb := (List.mem_filter.mpr ⟨List.mem_of_getElem? (i := 655) (by decide +kernel), by decide +kernel⟩)
theorem ctRX8_331 : Cond.constantLong RX8 331 10 ∈ gtb := (List.mem_filter.mpr ⟨List.mem_of_getElem? (i := 766) (by decide +kernel), by decide +kernel⟩)
theorem ctRX8_337 : Cond.constantLong RX8 337 100 ∈ gtb := (List.mem_filter.mpr ⟨List.mem_of_getElem? (i := 774) (by decide +kernel), by decide +kernel⟩)
theorem ctRX8_339 : Cond.constantLong RX8 339 1000 ∈ gtb := (List.mem_filter.mpr ⟨List.mem_of_getElem? (i := 779) (by decide +kernel), by decide +kernel⟩)
theorem ctRX8_341 : Cond.constantLong RX8 341 10000 ∈ gtb := (List.mem_filter.mpr ⟨List.mem_of_getElem? (i := 784) (by decide +kernel), by decide +kernel⟩)
theorem ctRX8_343 : Cond.constantLong RX8 343 100000 ∈ gtb := (List.mem_filter.mpr ⟨List.mem_of_getElem? (i := 789) (by decide +kernel), by decide +kernel⟩)
theorem ctRX9_175 : Cond.constant RX9 175 1000000 ∈ gtb := (List.mem_filter.mpr ⟨List.mem_of_getElem? (i := 839) (by decide +kernel), by decide +kernel⟩)
theorem ctRX9_202 : Cond.constant RX9 202 (-1000000) ∈ gtb := (List.mem_filter.mpr ⟨List.mem_of_getElem? (i := 1091) (by decide +kernel), by decide +kernel⟩)
theorem ctRX9_220 : Cond.constantLong RX9 220 (-1) ∈ gtb := (List.mem_filter.mpr ⟨List.mem_of_getElem? (i := 1124) (by decide +kernel), by decide +kernel⟩)
theorem ctRX9_222 : Cond.constantLong RX9 222 10 ∈ gtb := (List.mem_filter.mpr ⟨List.mem_of_getElem? (i := 1125) (by decide +kernel), by decide +kernel⟩)
theorem ctRX9_244 : Cond.constantLong RX9 244 11 ∈ gtb := (List.mem_filter.mpr ⟨List.mem_of_getElem? (i := 1165) (by decide +kernel), by decide +kernel⟩)
theorem ctRX9_246 : Cond.constantLong RX9 246 101 ∈ gtb := (List.mem_filter.mpr ⟨List.mem_of_getElem? (i := 1166) (by decide +kernel), by decide +kernel⟩)
theorem ctRX9_248 : Cond.constantLong RX9 248 1011 ∈ gtb := (List.mem_filter.mpr ⟨List.mem_of_getElem? (i := 1167) (by decide +kernel), by decide +kernel⟩)
theorem ctRX9_250 : Cond.constantLong RX9 250 10101 ∈ gtb := (List.mem_filter.mpr ⟨List.mem_of_getElem? (i := 1168) (by decide +kernel), by decide +kernel⟩)
theorem ctRX9_252 : Cond.constantLong RX9 252 100001 ∈ gtb := (List.mem_filter.mpr ⟨List.mem_of_getElem? (i := 1169) (by decide +kernel), by decide +kernel⟩)
theorem ctRJ6_265 : Cond.constant RJ6 265 1431655765 ∈ gtb := (List.mem_filter.mpr ⟨List.mem_of_getElem? (i := 325) (by decide +kernel), by decide +kernel⟩)
theorem ctRJ6_266 : Cond.constant RJ6 266 858993459 ∈ gtb := (List.mem_filter.mpr ⟨List.mem_of_getElem? (i := 326) (by decide +kernel), by decide +kernel⟩)
theorem ctRJ6_267 : Cond.constant RJ6 267 252645135 ∈ gtb := (List.mem_filter.mpr ⟨List.mem_of_getElem? (i := 327) (by decide +kernel), by decide +kernel⟩)
theorem lcRX4_20 : LkC RX4 20 := ⟨(List.mem_filter.mpr ⟨List.mem_of_getElem? (i := 302) (by decide +kernel), by decide +kernel⟩), (List.mem_filter.mpr ⟨List.mem_of_getElem? (i := 290) (by decide +kernel), by decide +kernel⟩), (List.mem_filter.mpr ⟨List.mem_of_getElem? (i := 289) (by decide +kernel), by decide +kernel⟩), (List.mem_filter.mpr ⟨List.mem_of_getElem? (i := 71) (by decide +kernel), by decide +kernel⟩)⟩
theorem lcRX7_27 : LkC RX7 27 := ⟨(List.mem_filter.mpr ⟨List.mem_of_getElem? (i := 288) (by decide +kernel), by decide +kernel⟩), (List.mem_filter.mpr ⟨List.mem_of_getElem? (i := 290) (by decide +kernel), by decide +kernel⟩), (List.mem_filter.mpr ⟨List.mem_of_getElem? (i := 289) (by decide +kernel), by decide +kernel⟩), (List.mem_filter.mpr ⟨List.mem_of_getElem? (i := 71) (by decide +kernel), by decide +kernel⟩)⟩
theorem mmRX8_307 : Lkmin RX8 307 := ⟨(List.mem_filter.mpr ⟨List.mem_of_getElem? (i := 475) (by decide +kernel), by decide +kernel⟩), (List.mem_filter.mpr ⟨List.mem_of_getElem? (i := 476) (by decide +kernel), by decide +kernel⟩), (List.mem_filter.mpr ⟨List.mem_of_getElem? (i := 75) (by decide +kernel), by decide +kernel⟩), (List.mem_filter.mpr ⟨List.mem_of_getElem? (i := 477) (by decide +kernel), by decide +kernel⟩)⟩
theorem mmRX8_312 : Lkmax RX8 312 := ⟨(List.mem_filter.mpr ⟨List.mem_of_getElem? (i := 493) (by decide +kernel), by decide +kernel⟩), (List.mem_filter.mpr ⟨List.mem_of_getElem? (i := 494) (by decide +kernel), by decide +kernel⟩), (List.mem_filter.mpr ⟨List.mem_of_getElem? (i := 75) (by decide +kernel), by decide +kernel⟩), (List.mem_filter.mpr ⟨List.mem_of_getElem? (i := 495) (by decide +kernel), by decide +kernel⟩)⟩
theorem mmRX1_50 : Lkmax RX1 50 := ⟨(List.mem_filter.mpr ⟨List.mem_of_getElem? (i := 701) (by decide +kernel), by decide +kernel⟩), (List.mem_filter.mpr ⟨List.mem_of_getElem? (i := 494) (by decide +kernel), by decide +kernel⟩), (List.mem_filter.mpr ⟨List.mem_of_getElem? (i := 75) (by decide +kernel), by decide +kernel⟩), (List.mem_filter.mpr ⟨List.mem_of_getElem? (i := 495) (by decide +kernel), by decide +kernel⟩)⟩
theorem mmRX1_56 : Lkmin RX1 56 := ⟨(List.mem_filter.mpr ⟨List.mem_of_getElem? (i := 706) (by decide +kernel), by decide +kernel⟩), (List.mem_filter.mpr ⟨List.mem_of_getElem? (i := 476) (by decide +kernel), by decide +kernel⟩), (List.mem_filter.mpr ⟨List.mem_of_getElem? (i := 75) (by decide +kernel), by decide +kernel⟩), (List.mem_filter.mpr ⟨List.mem_of_getElem? (i := 477) (by decide +kernel), by decide +kernel⟩)⟩
theorem mmRX2_29 : Lkmin RX2 29 := ⟨(List.mem_filter.mpr ⟨List.mem_of_getElem? (i := 576) (by decide +kernel), by decide +kernel⟩), (List.mem_filter.mpr ⟨List.mem_of_getElem? (i := 476) (by decide +kernel), by decide +kernel⟩), (List.mem_filter.mpr ⟨List.mem_of_getElem? (i := 75) (by decide +kernel), by decide +kernel⟩), (List.mem_filter.mpr ⟨List.mem_of_getElem? (i := 477) (by decide +kernel), by decide +kernel⟩)⟩
theorem mmRX3_29 : Lkmin RX3 29 := ⟨(List.mem_filter.mpr ⟨List.mem_of_getElem? (i := 628) (by decide +kernel), by decide +kernel⟩), (List.mem_filter.mpr ⟨List.mem_of_getElem? (i := 476) (by decide +kernel), by decide +kernel⟩), (List.mem_filter.mpr ⟨List.mem_of_getElem? (i := 75) (by decide +kernel), by decide +kernel⟩), (List.mem_filter.mpr ⟨List.mem_of_getElem? (i := 477) (by decide +kernel), by decide +kernel⟩)⟩
theorem mmRX4_33 : Lkmin RX4 33 := ⟨(List.mem_filter.mpr ⟨List.mem_of_getElem? (i := 581) (by decide +kernel), by decide +kernel⟩), (List.mem_filter.mpr ⟨List.mem_of_getElem? (i := 476) (by decide +kernel), by decide +kernel⟩), (List.mem_filter.mpr ⟨List.mem_of_getElem? (i := 75) (by decide +kernel), by decide +kernel⟩), (List.mem_filter.mpr ⟨List.mem_of_getElem? (i := 477) (by decide +kernel), by decide +kernel⟩)⟩
theorem mmRX5_57 : Lkmin RX5 57 := ⟨(List.mem_filter.mpr ⟨List.mem_of_getElem? (i := 552) (by decide +kernel), by decide +kernel⟩), (List.mem_filter.mpr ⟨List.mem_of_getElem? (i := 476) (by decide +kernel), by decide +kernel⟩), (List.mem_filter.mpr ⟨List.mem_of_getElem? (i := 75) (by decide +kernel), by decide +kernel⟩), (List.mem_filter.mpr ⟨List.mem_of_getElem? (i := 477) (by decide +kernel), by decide +kernel⟩)⟩
theorem mmRX5_62 : Lkmax RX5 62 := ⟨(List.mem_filter.mpr ⟨List.mem_of_getElem? (i := 551) (by decide +kernel), by decide +kernel⟩), (List.mem_filter.mpr ⟨List.mem_of_getElem? (i := 494) (by decide +kernel), by decide +kernel⟩), (List.mem_filter.mpr ⟨List.mem_of_getElem? (i := 75) (by decide +kernel), by decide +kernel⟩), (List.mem_filter.mpr ⟨List.mem_of_getElem? (i := 495) (by decide +kernel), by decide +kernel⟩)⟩
theorem gsRX7_24 : Cond.fieldLinkNest RX7 24 RX8 "FIRST_WEIGHTS" "[I" "UnsaidScales" ∈ lw_tbl := (List.mem_of_getElem? (i := 286) (by decide +kernel))
theorem lb_X8_beginAnew : LkB mX8_beginAnew 0 := ⟨(List.mem_filter.mpr ⟨List.mem_of_getElem? (i := 62) (by decide +kernel), by decide +kernel⟩), (List.mem_filter.mpr ⟨List.mem_of_getElem? (i := 297) (by decide +kernel), by decide +kernel⟩), by decide, by decide, by decide +kernel⟩
theorem lkRX8_79 : LkV RX8 79 mX8_beginAnew 0 := ⟨lb_X8_beginAnew, Or.inl (List.mem_filter.mpr ⟨List.mem_of_getElem? (i := 294) (by decide +kernel), by decide +kernel⟩), (List.mem_filter.mpr ⟨List.mem_of_getElem? (i := 296) (by decide +kernel), by decide +kernel⟩), (List.mem_filter.mpr ⟨List.mem_of_getElem? (i := 0) (by decide +kernel), by decide +kernel⟩)⟩
theorem lb_X8_within : LkB mX8_within 3 := ⟨(List.mem_filter.mpr ⟨List.mem_of_getElem? (i := 62) (by decide +kernel), by decide +kernel⟩), (List.mem_filter.mpr ⟨List.mem_of_getElem? (i := 317) (by decide +kernel), by decide +kernel⟩), by decide, by decide, by decide +kernel⟩
theorem lkRX8_82 : LkS RX8 82 mX8_within 3 := ⟨lb_X8_within, Or.inl (List.mem_filter.mpr ⟨List.mem_of_getElem? (i := 381) (by decide +kernel), by decide +kernel⟩), (List.mem_filter.mpr ⟨List.mem_of_getElem? (i := 316) (by decide +kernel), by decide +kernel⟩)⟩
theorem lb_X6_append : LkB mX6_append 1 := ⟨(List.mem_filter.mpr ⟨List.mem_of_getElem? (i := 63) (by decide +kernel), by decide +kernel⟩), (List.mem_filter.mpr ⟨List.mem_of_getElem? (i := 385) (by decide +kernel), by decide +kernel⟩), by decide, by decide, by decide +kernel⟩
theorem lkRX8_86 : LkV RX8 86 mX6_append 1 := ⟨lb_X6_append, Or.inl (List.mem_filter.mpr ⟨List.mem_of_getElem? (i := 382) (by decide +kernel), by decide +kernel⟩), (List.mem_filter.mpr ⟨List.mem_of_getElem? (i := 383) (by decide +kernel), by decide +kernel⟩), (List.mem_filter.mpr ⟨List.mem_of_getElem? (i := 384) (by decide +kernel), by decide +kernel⟩)⟩
theorem lb_X6_readInto : LkB mX6_readInto 1 := ⟨(List.mem_filter.mpr ⟨List.mem_of_getElem? (i := 63) (by decide +kernel), by decide +kernel⟩), (List.mem_filter.mpr ⟨List.mem_of_getElem? (i := 397) (by decide +kernel), by decide +kernel⟩), by decide, by decide, by decide +kernel⟩
theorem lkRX8_94 : LkV RX8 94 mX6_readInto 1 := ⟨lb_X6_readInto, Or.inl (List.mem_filter.mpr ⟨List.mem_of_getElem? (i := 394) (by decide +kernel), by decide +kernel⟩), (List.mem_filter.mpr ⟨List.mem_of_getElem? (i := 395) (by decide +kernel), by decide +kernel⟩), (List.mem_filter.mpr ⟨List.mem_of_getElem? (i := 396) (by decide +kernel), by decide +kernel⟩)⟩
theorem lb_X6_hasFault : LkB mX6_hasFault 0 := ⟨(List.mem_filter.mpr ⟨List.mem_of_getElem? (i := 63) (by decide +kernel), by decide +kernel⟩), (List.mem_filter.mpr ⟨List.mem_of_getElem? (i := 406) (by decide +kernel), by decide +kernel⟩), by decide, by decide, by decide +kernel⟩
theorem lkRX8_98 : LkV RX8 98 mX6_hasFault 0 := ⟨lb_X6_hasFault, Or.inl (List.mem_filter.mpr ⟨List.mem_of_getElem? (i := 439) (by decide +kernel), by decide +kernel⟩), (List.mem_filter.mpr ⟨List.mem_of_getElem? (i := 404) (by decide +kernel), by decide +kernel⟩), (List.mem_filter.mpr ⟨List.mem_of_getElem? (i := 405) (by decide +kernel), by decide +kernel⟩)⟩
theorem lb_X7_copyFrom : LkB mX7_copyFrom 1 := ⟨(List.mem_filter.mpr ⟨List.mem_of_getElem? (i := 64) (by decide +kernel), by decide +kernel⟩), (List.mem_filter.mpr ⟨List.mem_of_getElem? (i := 443) (by decide +kernel), by decide +kernel⟩), by decide, by decide, by decide +kernel⟩
theorem lkRX8_105 : LkV RX8 105 mX7_copyFrom 1 := ⟨lb_X7_copyFrom, Or.inl (List.mem_filter.mpr ⟨List.mem_of_getElem? (i := 440) (by decide +kernel), by decide +kernel⟩), (List.mem_filter.mpr ⟨List.mem_of_getElem? (i := 441) (by decide +kernel), by decide +kernel⟩), (List.mem_filter.mpr ⟨List.mem_of_getElem? (i := 442) (by decide +kernel), by decide +kernel⟩)⟩
theorem lb_X8_isPerson : LkB mX8_isPerson 1 := ⟨(List.mem_filter.mpr ⟨List.mem_of_getElem? (i := 62) (by decide +kernel), by decide +kernel⟩), (List.mem_filter.mpr ⟨List.mem_of_getElem? (i := 451) (by decide +kernel), by decide +kernel⟩), by decide, by decide, by decide +kernel⟩
theorem lkRX8_109 : LkV RX8 109 mX8_isPerson 1 := ⟨lb_X8_isPerson, Or.inl (List.mem_filter.mpr ⟨List.mem_of_getElem? (i := 448) (by decide +kernel), by decide +kernel⟩), (List.mem_filter.mpr ⟨List.mem_of_getElem? (i := 450) (by decide +kernel), by decide +kernel⟩), (List.mem_filter.mpr ⟨List.mem_of_getElem? (i := 10) (by decide +kernel), by decide +kernel⟩)⟩
theorem lb_X8_isSort : LkB mX8_isSort 1 := ⟨(List.mem_filter.mpr ⟨List.mem_of_getElem? (i := 62) (by decide +kernel), by decide +kernel⟩), (List.mem_filter.mpr ⟨List.mem_of_getElem? (i := 454) (by decide +kernel), by decide +kernel⟩), by decide, by decide, by decide +kernel⟩
theorem lkRX8_113 : LkS RX8 113 mX8_isSort 1 := ⟨lb_X8_isSort, Or.inl (List.mem_filter.mpr ⟨List.mem_of_getElem? (i := 452) (by decide +kernel), by decide +kernel⟩), (List.mem_filter.mpr ⟨List.mem_of_getElem? (i := 453) (by decide +kernel), by decide +kernel⟩)⟩
theorem lb_X8_heavinessOf : LkB mX8_heavinessOf 1 := ⟨(List.mem_filter.mpr ⟨List.mem_of_getElem? (i := 62) (by decide +kernel), by decide +kernel⟩), (List.mem_filter.mpr ⟨List.mem_of_getElem? (i := 470) (by decide +kernel), by decide +kernel⟩), by decide, by decide, by decide +kernel⟩
theorem lkRX8_132 : LkV RX8 132 mX8_heavinessOf 1 := ⟨lb_X8_heavinessOf, Or.inl (List.mem_filter.mpr ⟨List.mem_of_getElem? (i := 467) (by decide +kernel), by decide +kernel⟩), (List.mem_filter.mpr ⟨List.mem_of_getElem? (i := 469) (by decide +kernel), by decide +kernel⟩), (List.mem_filter.mpr ⟨List.mem_of_getElem? (i := 11) (by decide +kernel), by decide +kernel⟩)⟩
theorem lb_X8_isPair : LkB mX8_isPair 2 := ⟨(List.mem_filter.mpr ⟨List.mem_of_getElem? (i := 62) (by decide +kernel), by decide +kernel⟩), (List.mem_filter.mpr ⟨List.mem_of_getElem? (i := 485) (by decide +kernel), by decide +kernel⟩), by decide, by decide, by decide +kernel⟩
theorem lkRX8_136 : LkV RX8 136 mX8_isPair 2 := ⟨lb_X8_isPair, Or.inl (List.mem_filter.mpr ⟨List.mem_of_getElem? (i := 482) (by decide +kernel), by decide +kernel⟩), (List.mem_filter.mpr ⟨List.mem_of_getElem? (i := 484) (by decide +kernel), by decide +kernel⟩), (List.mem_filter.mpr ⟨List.mem_of_getElem? (i := 13) (by decide +kernel), by decide +kernel⟩)⟩
theorem lb_X8_knownOf : LkB mX8_knownOf 2 := ⟨(List.mem_filter.mpr ⟨List.mem_of_getElem? (i := 62) (by decide +kernel), by decide +kernel⟩), (List.mem_filter.mpr ⟨List.mem_of_getElem? (i := 489) (by decide +kernel), by decide +kernel⟩), by decide, by decide, by decide +kernel⟩
theorem lkRX8_140 : LkV RX8 140 mX8_knownOf 2 := ⟨lb_X8_knownOf, Or.inl (List.mem_filter.mpr ⟨List.mem_of_getElem? (i := 486) (by decide +kernel), by decide +kernel⟩), (List.mem_filter.mpr ⟨List.mem_of_getElem? (i := 488) (by decide +kernel), by decide +kernel⟩), (List.mem_filter.mpr ⟨List.mem_of_getElem? (i := 14) (by decide +kernel), by decide +kernel⟩)⟩
theorem lb_X8_knownPairs : LkB mX8_knownPairs 0 := ⟨(List.mem_filter.mpr ⟨List.mem_of_getElem? (i := 62) (by decide +kernel), by decide +kernel⟩), (List.mem_filter.mpr ⟨List.mem_of_getElem? (i := 506) (by decide +kernel), by decide +kernel⟩), by decide, by decide, by decide +kernel⟩
theorem lkRX8_147 : LkV RX8 147 mX8_knownPairs 0 := ⟨lb_X8_knownPairs, Or.inl (List.mem_filter.mpr ⟨List.mem_of_getElem? (i := 503) (by decide +kernel), by decide +kernel⟩), (List.mem_filter.mpr ⟨List.mem_of_getElem? (i := 505) (by decide +kernel), by decide +kernel⟩), (List.mem_filter.mpr ⟨List.mem_of_getElem? (i := 15) (by decide +kernel), by decide +kernel⟩)⟩
theorem lb_X8_planned : LkB mX8_planned 1 := ⟨(List.mem_filter.mpr ⟨List.mem_of_getElem? (i := 62) (by decide +kernel), by decide +kernel⟩), (List.mem_filter.mpr ⟨List.mem_of_getElem? (i := 510) (by decide +kernel), by decide +kernel⟩), by decide, by decide, by decide +kernel⟩
theorem lkRX8_151 : LkV RX8 151 mX8_planned 1 := ⟨lb_X8_planned, Or.inl (List.mem_filter.mpr ⟨List.mem_of_getElem? (i := 507) (by decide +kernel), by decide +kernel⟩), (List.mem_filter.mpr ⟨List.mem_of_getElem? (i := 509) (by decide +kernel), by decide +kernel⟩), (List.mem_filter.mpr ⟨List.mem_of_getElem? (i := 16) (by decide +kernel), by decide +kernel⟩)⟩
theorem lb_X0_range : LkB mX0_range 0 := ⟨(List.mem_filter.mpr ⟨List.mem_of_getElem? (i := 68) (by decide +kernel), by decide +kernel⟩), (List.mem_filter.mpr ⟨List.mem_of_getElem? (i := 563) (by decide +kernel), by decide +kernel⟩), by decide, by decide, by decide +kernel⟩
theorem lkRX8_154 : LkV RX8 154 mX0_range 0 := ⟨lb_X0_range, Or.inl (List.mem_filter.mpr ⟨List.mem_of_getElem? (i := 560) (by decide +kernel), by decide +kernel⟩), (List.mem_filter.mpr ⟨List.mem_of_getElem? (i := 561) (by decide +kernel), by decide +kernel⟩), (List.mem_filter.mpr ⟨List.mem_of_getElem? (i := 562) (by decide +kernel), by decide +kernel⟩)⟩
theorem lb_X2_push : LkB mX2_push 1 := ⟨(List.mem_filter.mpr ⟨List.mem_of_getElem? (i := 66) (by decide +kernel), by decide +kernel⟩), (List.mem_filter.mpr ⟨List.mem_of_getElem? (i := 571) (by decide +kernel), by decide +kernel⟩), by decide, by decide, by decide +kernel⟩
theorem lkRX8_160 : LkV RX8 160 mX2_push 1 := ⟨lb_X2_push, Or.inl (List.mem_filter.mpr ⟨List.mem_of_getElem? (i := 568) (by decide +kernel), by decide +kernel⟩), (List.mem_filter.mpr ⟨List.mem_of_getElem? (i := 569) (by decide +kernel), by decide +kernel⟩), (List.mem_filter.mpr ⟨List.mem_of_getElem? (i := 570) (by decide +kernel), by decide +kernel⟩)⟩
theorem lb_X4_add : LkB mX4_add 2 := ⟨(List.mem_filter.mpr ⟨List.mem_of_getElem? (i := 65) (by decide +kernel), by decide +kernel⟩), (List.mem_filter.mpr ⟨List.mem_of_getElem? (i := 580) (by decide +kernel), by decide +kernel⟩), by decide, by decide, by decide +kernel⟩
theorem lkRX8_164 : LkV RX8 164 mX4_add 2 := ⟨lb_X4_add, Or.inl (List.mem_filter.mpr ⟨List.mem_of_getElem? (i := 577) (by decide +kernel), by decide +kernel⟩), (List.mem_filter.mpr ⟨List.mem_of_getElem? (i := 578) (by decide +kernel), by decide +kernel⟩), (List.mem_filter.mpr ⟨List.mem_of_getElem? (i := 579) (by decide +kernel), by decide +kernel⟩)⟩
theorem lb_X8_pairOf : LkB mX8_pairOf 2 := ⟨(List.mem_filter.mpr ⟨List.mem_of_getElem? (i := 62) (by decide +kernel), by decide +kernel⟩), (List.mem_filter.mpr ⟨List.mem_of_getElem? (i := 492) (by decide +kernel), by decide +kernel⟩), by decide, by decide, by decide +kernel⟩
theorem lkRX8_174 : LkS RX8 174 mX8_pairOf 2 := ⟨lb_X8_pairOf, Or.inl (List.mem_filter.mpr ⟨List.mem_of_getElem? (i := 490) (by decide +kernel), by decide +kernel⟩), (List.mem_filter.mpr ⟨List.mem_of_getElem? (i := 491) (by decide +kernel), by decide +kernel⟩)⟩
theorem lb_X8_compareLower : LkB mX8_compareLower 2 := ⟨(List.mem_filter.mpr ⟨List.mem_of_getElem? (i := 62) (by decide +kernel), by decide +kernel⟩), (List.mem_filter.mpr ⟨List.mem_of_getElem? (i := 597) (by decide +kernel), by decide +kernel⟩), by decide, by decide, by decide +kernel⟩
theorem lkRX8_177 : LkV RX8 177 mX8_compareLower 2 := ⟨lb_X8_compareLower, Or.inl (List.mem_filter.mpr ⟨List.mem_of_getElem? (i := 594) (by decide +kernel), by decide +kernel⟩), (List.mem_filter.mpr ⟨List.mem_of_getElem? (i := 596) (by decide +kernel), by decide +kernel⟩), (List.mem_filter.mpr ⟨List.mem_of_getElem? (i := 22) (by decide +kernel), by decide +kernel⟩)⟩
theorem lb_X8_withFound : LkB mX8_withFound 3 := ⟨(List.mem_filter.mpr ⟨List.mem_of_getElem? (i := 62) (by decide +kernel), by decide +kernel⟩), (List.mem_filter.mpr ⟨List.mem_of_getElem? (i := 522) (by decide +kernel), by decide +kernel⟩), by decide, by decide, by decide +kernel⟩
theorem lkRX8_180 : LkS RX8 180 mX8_withFound 3 := ⟨lb_X8_withFound, Or.inl (List.mem_filter.mpr ⟨List.mem_of_getElem? (i := 598) (by decide +kernel), by decide +kernel⟩), (List.mem_filter.mpr ⟨List.mem_of_getElem? (i := 521) (by decide +kernel), by decide +kernel⟩)⟩
theorem lb_X2_popInto : LkB mX2_popInto 1 := ⟨(List.mem_filter.mpr ⟨List.mem_of_getElem? (i := 66) (by decide +kernel), by decide +kernel⟩), (List.mem_filter.mpr ⟨List.mem_of_getElem? (i := 610) (by decide +kernel), by decide +kernel⟩), by decide, by decide, by decide +kernel⟩
theorem lkRX8_184 : LkV RX8 184 mX2_popInto 1 := ⟨lb_X2_popInto, Or.inl (List.mem_filter.mpr ⟨List.mem_of_getElem? (i := 607) (by decide +kernel), by decide +kernel⟩), (List.mem_filter.mpr ⟨List.mem_of_getElem? (i := 608) (by decide +kernel), by decide +kernel⟩), (List.mem_filter.mpr ⟨List.mem_of_getElem? (i := 609) (by decide +kernel), by decide +kernel⟩)⟩
theorem lb_X3_find : LkB mX3_find 4 := ⟨(List.mem_filter.mpr ⟨List.mem_of_getElem? (i := 69) (by decide +kernel), by decide +kernel⟩), (List.mem_filter.mpr ⟨List.mem_of_getElem? (i := 623) (by decide +kernel), by decide +kernel⟩), by decide, by decide, by decide +kernel⟩
theorem lkRX8_188 : LkV RX8 188 mX3_find 4 := ⟨lb_X3_find, Or.inl (List.mem_filter.mpr ⟨List.mem_of_getElem? (i := 620) (by decide +kernel), by decide +kernel⟩), (List.mem_filter.mpr ⟨List.mem_of_getElem? (i := 621) (by decide +kernel), by decide +kernel⟩), (List.mem_filter.mpr ⟨List.mem_of_getElem? (i := 622) (by decide +kernel), by decide +kernel⟩)⟩
theorem lb_X3_firstSays : LkB mX3_firstSays 4 := ⟨(List.mem_filter.mpr ⟨List.mem_of_getElem? (i := 69) (by decide +kernel), by decide +kernel⟩), (List.mem_filter.mpr ⟨List.mem_of_getElem? (i := 635) (by decide +kernel), by decide +kernel⟩), by decide, by decide, by decide +kernel⟩
theorem lkRX8_198 : LkV RX8 198 mX3_firstSays 4 := ⟨lb_X3_firstSays, Or.inl (List.mem_filter.mpr ⟨List.mem_of_getElem? (i := 632) (by decide +kernel), by decide +kernel⟩), (List.mem_filter.mpr ⟨List.mem_of_getElem? (i := 633) (by decide +kernel), by decide +kernel⟩), (List.mem_filter.mpr ⟨List.mem_of_getElem? (i := 634) (by decide +kernel), by decide +kernel⟩)⟩
theorem lb_X3_secondSays : LkB mX3_secondSays 4 := ⟨(List.mem_filter.mpr ⟨List.mem_of_getElem? (i := 69) (by decide +kernel), by decide +kernel⟩), (List.mem_filter.mpr ⟨List.mem_of_getElem? (i := 646) (by decide +kernel), by decide +kernel⟩), by decide, by decide, by decide +kernel⟩
theorem lkRX8_202 : LkV RX8 202 mX3_secondSays 4 := ⟨lb_X3_secondSays, Or.inl (List.mem_filter.mpr ⟨List.mem_of_getElem? (i := 643) (by decide +kernel), by decide +kernel⟩), (List.mem_filter.mpr ⟨List.mem_of_getElem? (i := 644) (by decide +kernel), by decide +kernel⟩), (List.mem_filter.mpr ⟨List.mem_of_getElem? (i := 645) (by decide +kernel), by decide +kernel⟩)⟩
theorem lb_X8_heavinessAhead : LkB mX8_heavinessAhead 2 := ⟨(List.mem_filter.mpr ⟨List.mem_of_getElem? (i := 62) (by decide +kernel), by decide +kernel⟩), (List.mem_filter.mpr ⟨List.mem_of_getElem? (i := 474) (by decide +kernel), by decide +kernel⟩), by decide, by decide, by decide +kernel⟩
theorem lkRX8_205 : LkV RX8 205 mX8_heavinessAhead 2 := ⟨lb_X8_heavinessAhead, Or.inl (List.mem_filter.mpr ⟨List.mem_of_getElem? (i := 471) (by decide +kernel), by decide +kernel⟩), (List.mem_filter.mpr ⟨List.mem_of_getElem? (i := 473) (by decide +kernel), by decide +kernel⟩), (List.mem_filter.mpr ⟨List.mem_of_getElem? (i := 12) (by decide +kernel), by decide +kernel⟩)⟩
theorem lb_X8_lighterWays : LkB mX8_lighterWays 4 := ⟨(List.mem_filter.mpr ⟨List.mem_of_getElem? (i := 62) (by decide +kernel), by decide +kernel⟩), (List.mem_filter.mpr ⟨List.mem_of_getElem? (i := 659) (by decide +kernel), by decide +kernel⟩), by decide, by decide, by decide +kernel⟩
theorem lkRX8_210 : LkV RX8 210 mX8_lighterWays 4 := ⟨lb_X8_lighterWays, Or.inl (List.mem_filter.mpr ⟨List.mem_of_getElem? (i := 656) (by decide +kernel), by decide +kernel⟩), (List.mem_filter.mpr ⟨List.mem_of_getElem? (i := 658) (by decide +kernel), by decide +kernel⟩), (List.mem_filter.mpr ⟨List.mem_of_getElem? (i := 23) (by decide +kernel), by decide +kernel⟩)⟩
theorem lb_X8_power : LkB mX8_power 2 := ⟨(List.mem_filter.mpr ⟨List.mem_of_getElem? (i := 62) (by decide +kernel), by decide +kernel⟩), (List.mem_filter.mpr ⟨List.mem_of_getElem? (i := 662) (by decide +kernel), by decide +kernel⟩), by decide, by decide, by decide +kernel⟩
theorem lkRX8_214 : LkS RX8 214 mX8_power 2 := ⟨lb_X8_power, Or.inl (List.mem_filter.mpr ⟨List.mem_of_getElem? (i := 660) (by decide +kernel), by decide +kernel⟩), (List.mem_filter.mpr ⟨List.mem_of_getElem? (i := 661) (by decide +kernel), by decide +kernel⟩)⟩
theorem lb_X8_commonDivisor : LkB mX8_commonDivisor 2 := ⟨(List.mem_filter.mpr ⟨List.mem_of_getElem? (i := 62) (by decide +kernel), by decide +kernel⟩), (List.mem_filter.mpr ⟨List.mem_of_getElem? (i := 665) (by decide +kernel), by decide +kernel⟩), by decide, by decide, by decide +kernel⟩
theorem lkRX8_218 : LkS RX8 218 mX8_commonDivisor 2 := ⟨lb_X8_commonDivisor, Or.inl (List.mem_filter.mpr ⟨List.mem_of_getElem? (i := 663) (by decide +kernel), by decide +kernel⟩), (List.mem_filter.mpr ⟨List.mem_of_getElem? (i := 664) (by decide +kernel), by decide +kernel⟩)⟩
theorem lb_X0_canWeigh : LkB mX0_canWeigh 1 := ⟨(List.mem_filter.mpr ⟨List.mem_of_getElem? (i := 68) (by decide +kernel), by decide +kernel⟩), (List.mem_filter.mpr ⟨List.mem_of_getElem? (i := 321) (by decide +kernel), by decide +kernel⟩), by decide, by decide, by decide +kernel⟩
theorem lkRX8_222 : LkV RX8 222 mX0_canWeigh 1 := ⟨lb_X0_canWeigh, Or.inl (List.mem_filter.mpr ⟨List.mem_of_getElem? (i := 670) (by decide +kernel), by decide +kernel⟩), (List.mem_filter.mpr ⟨List.mem_of_getElem? (i := 319) (by decide +kernel), by decide +kernel⟩), (List.mem_filter.mpr ⟨List.mem_of_getElem? (i := 320) (by decide +kernel), by decide +kernel⟩)⟩
theorem lb_X0_fewestPieces : LkB mX0_fewestPieces 1 := ⟨(List.mem_filter.mpr ⟨List.mem_of_getElem? (i := 68) (by decide +kernel), by decide +kernel⟩), (List.mem_filter.mpr ⟨List.mem_of_getElem? (i := 331) (by decide +kernel), by decide +kernel⟩), by decide, by decide, by decide +kernel⟩
theorem lkRX8_225 : LkV RX8 225 mX0_fewestPieces 1 := ⟨lb_X0_fewestPieces, Or.inl (List.mem_filter.mpr ⟨List.mem_of_getElem? (i := 671) (by decide +kernel), by decide +kernel⟩), (List.mem_filter.mpr ⟨List.mem_of_getElem? (i := 329) (by decide +kernel), by decide +kernel⟩), (List.mem_filter.mpr ⟨List.mem_of_getElem? (i := 330) (by decide +kernel), by decide +kernel⟩)⟩
theorem lb_X0_heavierPan : LkB mX0_heavierPan 1 := ⟨(List.mem_filter.mpr ⟨List.mem_of_getElem? (i := 68) (by decide +kernel), by decide +kernel⟩), (List.mem_filter.mpr ⟨List.mem_of_getElem? (i := 675) (by decide +kernel), by decide +kernel⟩), by decide, by decide, by decide +kernel⟩
theorem lkRX8_228 : LkV RX8 228 mX0_heavierPan 1 := ⟨lb_X0_heavierPan, Or.inl (List.mem_filter.mpr ⟨List.mem_of_getElem? (i := 672) (by decide +kernel), by decide +kernel⟩), (List.mem_filter.mpr ⟨List.mem_of_getElem? (i := 673) (by decide +kernel), by decide +kernel⟩), (List.mem_filter.mpr ⟨List.mem_of_getElem? (i := 674) (by decide +kernel), by decide +kernel⟩)⟩
theorem lb_X0_otherPan : LkB mX0_otherPan 1 := ⟨(List.mem_filter.mpr ⟨List.mem_of_getElem? (i := 68) (by decide +kernel), by decide +kernel⟩), (List.mem_filter.mpr ⟨List.mem_of_getElem? (i := 679) (by decide +kernel), by decide +kernel⟩), by decide, by decide, by decide +kernel⟩
theorem lkRX8_231 : LkV RX8 231 mX0_otherPan 1 := ⟨lb_X0_otherPan, Or.inl (List.mem_filter.mpr ⟨List.mem_of_getElem? (i := 676) (by decide +kernel), by decide +kernel⟩), (List.mem_filter.mpr ⟨List.mem_of_getElem? (i := 677) (by decide +kernel), by decide +kernel⟩), (List.mem_filter.mpr ⟨List.mem_of_getElem? (i := 678) (by decide +kernel), by decide +kernel⟩)⟩
theorem lb_X1_addShown : LkB mX1_addShown 3 := ⟨(List.mem_filter.mpr ⟨List.mem_of_getElem? (i := 70) (by decide +kernel), by decide +kernel⟩), (List.mem_filter.mpr ⟨List.mem_of_getElem? (i := 687) (by decide +kernel), by decide +kernel⟩), by decide, by decide, by decide +kernel⟩
theorem lkRX8_234 : LkV RX8 234 mX1_addShown 3 := ⟨lb_X1_addShown, Or.inl (List.mem_filter.mpr ⟨List.mem_of_getElem? (i := 684) (by decide +kernel), by decide +kernel⟩), (List.mem_filter.mpr ⟨List.mem_of_getElem? (i := 685) (by decide +kernel), by decide +kernel⟩), (List.mem_filter.mpr ⟨List.mem_of_getElem? (i := 686) (by decide +kernel), by decide +kernel⟩)⟩
theorem lb_X1_prepareWays : LkB mX1_prepareWays 1 := ⟨(List.mem_filter.mpr ⟨List.mem_of_getElem? (i := 70) (by decide +kernel), by decide +kernel⟩), (List.mem_filter.mpr ⟨List.mem_of_getElem? (i := 695) (by decide +kernel), by decide +kernel⟩), by decide, by decide, by decide +kernel⟩
theorem lkRX8_240 : LkV RX8 240 mX1_prepareWays 1 := ⟨lb_X1_prepareWays, Or.inl (List.mem_filter.mpr ⟨List.mem_of_getElem? (i := 692) (by decide +kernel), by decide +kernel⟩), (List.mem_filter.mpr ⟨List.mem_of_getElem? (i := 693) (by decide +kernel), by decide +kernel⟩), (List.mem_filter.mpr ⟨List.mem_of_getElem? (i := 694) (by decide +kernel), by decide +kernel⟩)⟩
theorem lb_X1_lowestOf : LkB mX1_lowestOf 1 := ⟨(List.mem_filter.mpr ⟨List.mem_of_getElem? (i := 70) (by decide +kernel), by decide +kernel⟩), (List.mem_filter.mpr ⟨List.mem_of_getElem? (i := 700) (by decide +kernel), by decide +kernel⟩), by decide, by decide, by decide +kernel⟩
theorem lkRX8_244 : LkV RX8 244 mX1_lowestOf 1 := ⟨lb_X1_lowestOf, Or.inl (List.mem_filter.mpr ⟨List.mem_of_getElem? (i := 697) (by decide +kernel), by decide +kernel⟩), (List.mem_filter.mpr ⟨List.mem_of_getElem? (i := 698) (by decide +kernel), by decide +kernel⟩), (List.mem_filter.mpr ⟨List.mem_of_getElem? (i := 699) (by decide +kernel), by decide +kernel⟩)⟩
theorem lb_X1_highestOf : LkB mX1_highestOf 1 := ⟨(List.mem_filter.mpr ⟨List.mem_of_getElem? (i := 70) (by decide +kernel), by decide +kernel⟩), (List.mem_filter.mpr ⟨List.mem_of_getElem? (i := 705) (by decide +kernel), by decide +kernel⟩), by decide, by decide, by decide +kernel⟩
theorem lkRX8_247 : LkV RX8 247 mX1_highestOf 1 := ⟨lb_X1_highestOf, Or.inl (List.mem_filter.mpr ⟨List.mem_of_getElem? (i := 702) (by decide +kernel), by decide +kernel⟩), (List.mem_filter.mpr ⟨List.mem_of_getElem? (i := 703) (by decide +kernel), by decide +kernel⟩), (List.mem_filter.mpr ⟨List.mem_of_getElem? (i := 704) (by decide +kernel), by decide +kernel⟩)⟩
theorem lb_X1_waysBetween : LkB mX1_waysBetween 2 := ⟨(List.mem_filter.mpr ⟨List.mem_of_getElem? (i := 70) (by decide +kernel), by decide +kernel⟩), (List.mem_filter.mpr ⟨List.mem_of_getElem? (i := 710) (by decide +kernel), by decide +kernel⟩), by decide, by decide, by decide +kernel⟩
theorem lkRX8_250 : LkV RX8 250 mX1_waysBetween 2 := ⟨lb_X1_waysBetween, Or.inl (List.mem_filter.mpr ⟨List.mem_of_getElem? (i := 707) (by decide +kernel), by decide +kernel⟩), (List.mem_filter.mpr ⟨List.mem_of_getElem? (i := 708) (by decide +kernel), by decide +kernel⟩), (List.mem_filter.mpr ⟨List.mem_of_getElem? (i := 709) (by decide +kernel), by decide +kernel⟩)⟩
theorem lb_X1_leastBetween : LkB mX1_leastBetween 2 := ⟨(List.mem_filter.mpr ⟨List.mem_of_getElem? (i := 70) (by decide +kernel), by decide +kernel⟩), (List.mem_filter.mpr ⟨List.mem_of_getElem? (i := 714) (by decide +kernel), by decide +kernel⟩), by decide, by decide, by decide +kernel⟩
theorem lkRX8_253 : LkV RX8 253 mX1_leastBetween 2 := ⟨lb_X1_leastBetween, Or.inl (List.mem_filter.mpr ⟨List.mem_of_getElem? (i := 711) (by decide +kernel), by decide +kernel⟩), (List.mem_filter.mpr ⟨List.mem_of_getElem? (i := 712) (by decide +kernel), by decide +kernel⟩), (List.mem_filter.mpr ⟨List.mem_of_getElem? (i := 713) (by decide +kernel), by decide +kernel⟩)⟩
theorem lb_X1_greatestBetween : LkB mX1_greatestBetween 2 := ⟨(List.mem_filter.mpr ⟨List.mem_of_getElem? (i := 70) (by decide +kernel), by decide +kernel⟩), (List.mem_filter.mpr ⟨List.mem_of_getElem? (i := 718) (by decide +kernel), by decide +kernel⟩), by decide, by decide, by decide +kernel⟩
theorem lkRX8_256 : LkV RX8 256 mX1_greatestBetween 2 := ⟨lb_X1_greatestBetween, Or.inl (List.mem_filter.mpr ⟨List.mem_of_getElem? (i := 715) (by decide +kernel), by decide +kernel⟩), (List.mem_filter.mpr ⟨List.mem_of_getElem? (i := 716) (by decide +kernel), by decide +kernel⟩), (List.mem_filter.mpr ⟨List.mem_of_getElem? (i := 717) (by decide +kernel), by decide +kernel⟩)⟩
theorem lb_X1_addSeen : LkB mX1_addSeen 2 := ⟨(List.mem_filter.mpr ⟨List.mem_of_getElem? (i := 70) (by decide +kernel), by decide +kernel⟩), (List.mem_filter.mpr ⟨List.mem_of_getElem? (i := 726) (by decide +kernel), by decide +kernel⟩), by decide, by decide, by decide +kernel⟩
theorem lkRX8_259 : LkV RX8 259 mX1_addSeen 2 := ⟨lb_X1_addSeen, Or.inl (List.mem_filter.mpr ⟨List.mem_of_getElem? (i := 723) (by decide +kernel), by decide +kernel⟩), (List.mem_filter.mpr ⟨List.mem_of_getElem? (i := 724) (by decide +kernel), by decide +kernel⟩), (List.mem_filter.mpr ⟨List.mem_of_getElem? (i := 725) (by decide +kernel), by decide +kernel⟩)⟩
theorem lb_X1_lawsOf : LkB mX1_lawsOf 2 := ⟨(List.mem_filter.mpr ⟨List.mem_of_getElem? (i := 70) (by decide +kernel), by decide +kernel⟩), (List.mem_filter.mpr ⟨List.mem_of_getElem? (i := 734) (by decide +kernel), by decide +kernel⟩), by decide, by decide, by decide +kernel⟩
theorem lkRX8_265 : LkV RX8 265 mX1_lawsOf 2 := ⟨lb_X1_lawsOf, Or.inl (List.mem_filter.mpr ⟨List.mem_of_getElem? (i := 731) (by decide +kernel), by decide +kernel⟩), (List.mem_filter.mpr ⟨List.mem_of_getElem? (i := 732) (by decide +kernel), by decide +kernel⟩), (List.mem_filter.mpr ⟨List.mem_of_getElem? (i := 733) (by decide +kernel), by decide +kernel⟩)⟩
theorem lb_X1_firstLawOf : LkB mX1_firstLawOf 2 := ⟨(List.mem_filter.mpr ⟨List.mem_of_getElem? (i := 70) (by decide +kernel), by decide +kernel⟩), (List.mem_filter.mpr ⟨List.mem_of_getElem? (i := 745) (by decide +kernel), by decide +kernel⟩), by decide, by decide, by decide +kernel⟩
theorem lkRX8_269 : LkV RX8 269 mX1_firstLawOf 2 := ⟨lb_X1_firstLawOf, Or.inl (List.mem_filter.mpr ⟨List.mem_of_getElem? (i := 742) (by decide +kernel), by decide +kernel⟩), (List.mem_filter.mpr ⟨List.mem_of_getElem? (i := 743) (by decide +kernel), by decide +kernel⟩), (List.mem_filter.mpr ⟨List.mem_of_getElem? (i := 744) (by decide +kernel), by decide +kernel⟩)⟩
theorem lb_X1_dropRecords : LkB mX1_dropRecords 0 := ⟨(List.mem_filter.mpr ⟨List.mem_of_getElem? (i := 70) (by decide +kernel), by decide +kernel⟩), (List.mem_filter.mpr ⟨List.mem_of_getElem? (i := 339) (by decide +kernel), by decide +kernel⟩), by decide, by decide, by decide +kernel⟩
theorem lkRX8_272 : LkV RX8 272 mX1_dropRecords 0 := ⟨lb_X1_dropRecords, Or.inl (List.mem_filter.mpr ⟨List.mem_of_getElem? (i := 753) (by decide +kernel), by decide +kernel⟩), (List.mem_filter.mpr ⟨List.mem_of_getElem? (i := 337) (by decide +kernel), by decide +kernel⟩), (List.mem_filter.mpr ⟨List.mem_of_getElem? (i := 338) (by decide +kernel), by decide +kernel⟩)⟩
theorem lb_X8_asPerson : LkB mX8_asPerson 1 := ⟨(List.mem_filter.mpr ⟨List.mem_of_getElem? (i := 62) (by decide +kernel), by decide +kernel⟩), (List.mem_filter.mpr ⟨List.mem_of_getElem? (i := 761) (by decide +kernel), by decide +kernel⟩), by decide, by decide, by decide +kernel⟩
theorem lkRX8_275 : LkV RX8 275 mX8_asPerson 1 := ⟨lb_X8_asPerson, Or.inl (List.mem_filter.mpr ⟨List.mem_of_getElem? (i := 758) (by decide +kernel), by decide +kernel⟩), (List.mem_filter.mpr ⟨List.mem_of_getElem? (i := 760) (by decide +kernel), by decide +kernel⟩), (List.mem_filter.mpr ⟨List.mem_of_getElem? (i := 25) (by decide +kernel), by decide +kernel⟩)⟩
theorem lb_X8_asBride : LkB mX8_asBride 1 := ⟨(List.mem_filter.mpr ⟨List.mem_of_getElem? (i := 62) (by decide +kernel), by decide +kernel⟩), (List.mem_filter.mpr ⟨List.mem_of_getElem? (i := 765) (by decide +kernel), by decide +kernel⟩), by decide, by decide, by decide +kernel⟩
theorem lkRX8_278 : LkV RX8 278 mX8_asBride 1 := ⟨lb_X8_asBride, Or.inl (List.mem_filter.mpr ⟨List.mem_of_getElem? (i := 762) (by decide +kernel), by decide +kernel⟩), (List.mem_filter.mpr ⟨List.mem_of_getElem? (i := 764) (by decide +kernel), by decide +kernel⟩), (List.mem_filter.mpr ⟨List.mem_of_getElem? (i := 26) (by decide +kernel), by decide +kernel⟩)⟩
theorem lb_X8_asPartner : LkB mX8_asPartner 1 := ⟨(List.mem_filter.mpr ⟨List.mem_of_getElem? (i := 62) (by decide +kernel), by decide +kernel⟩), (List.mem_filter.mpr ⟨List.mem_of_getElem? (i := 773) (by decide +kernel), by decide +kernel⟩), by decide, by decide, by decide +kernel⟩
theorem lkRX8_281 : LkV RX8 281 mX8_asPartner 1 := ⟨lb_X8_asPartner, Or.inl (List.mem_filter.mpr ⟨List.mem_of_getElem? (i := 770) (by decide +kernel), by decide +kernel⟩), (List.mem_filter.mpr ⟨List.mem_of_getElem? (i := 772) (by decide +kernel), by decide +kernel⟩), (List.mem_filter.mpr ⟨List.mem_of_getElem? (i := 27) (by decide +kernel), by decide +kernel⟩)⟩
theorem lb_X8_asBrother : LkB mX8_asBrother 1 := ⟨(List.mem_filter.mpr ⟨List.mem_of_getElem? (i := 62) (by decide +kernel), by decide +kernel⟩), (List.mem_filter.mpr ⟨List.mem_of_getElem? (i := 778) (by decide +kernel), by decide +kernel⟩), by decide, by decide, by decide +kernel⟩
theorem lkRX8_284 : LkV RX8 284 mX8_asBrother 1 := ⟨lb_X8_asBrother, Or.inl (List.mem_filter.mpr ⟨List.mem_of_getElem? (i := 775) (by decide +kernel), by decide +kernel⟩), (List.mem_filter.mpr ⟨List.mem_of_getElem? (i := 777) (by decide +kernel), by decide +kernel⟩), (List.mem_filter.mpr ⟨List.mem_of_getElem? (i := 28) (by decide +kernel), by decide +kernel⟩)⟩
theorem lb_X8_asBankrupt : LkB mX8_asBankrupt 1 := ⟨(List.mem_filter.mpr ⟨List.mem_of_getElem? (i := 62) (by decide +kernel), by decide +kernel⟩), (List.mem_filter.mpr ⟨List.mem_of_getElem? (i := 783) (by decide +kernel), by decide +kernel⟩), by decide, by decide, by decide +kernel⟩
theorem lkRX8_287 : LkV RX8 287 mX8_asBankrupt 1 := ⟨lb_X8_asBankrupt, Or.inl (List.mem_filter.mpr ⟨List.mem_of_getElem? (i := 780) (by decide +kernel), by decide +kernel⟩), (List.mem_filter.mpr ⟨List.mem_of_getElem? (i := 782) (by decide +kernel), by decide +kernel⟩), (List.mem_filter.mpr ⟨List.mem_of_getElem? (i := 29) (by decide +kernel), by decide +kernel⟩)⟩
theorem lb_X8_asStranger : LkB mX8_asStranger 1 := ⟨(List.mem_filter.mpr ⟨List.mem_of_getElem? (i := 62) (by decide +kernel), by decide +kernel⟩), (List.mem_filter.mpr ⟨List.mem_of_getElem? (i := 788) (by decide +kernel), by decide +kernel⟩), by decide, by decide, by decide +kernel⟩
theorem lkRX8_290 : LkV RX8 290 mX8_asStranger 1 := ⟨lb_X8_asStranger, Or.inl (List.mem_filter.mpr ⟨List.mem_of_getElem? (i := 785) (by decide +kernel), by decide +kernel⟩), (List.mem_filter.mpr ⟨List.mem_of_getElem? (i := 787) (by decide +kernel), by decide +kernel⟩), (List.mem_filter.mpr ⟨List.mem_of_getElem? (i := 30) (by decide +kernel), by decide +kernel⟩)⟩
theorem lb_X4_copyFrom : LkB mX4_copyFrom 1 := ⟨(List.mem_filter.mpr ⟨List.mem_of_getElem? (i := 65) (by decide +kernel), by decide +kernel⟩), (List.mem_filter.mpr ⟨List.mem_of_getElem? (i := 575) (by decide +kernel), by decide +kernel⟩), by decide, by decide, by decide +kernel⟩
theorem lkRX8_293 : LkV RX8 293 mX4_copyFrom 1 := ⟨lb_X4_copyFrom, Or.inl (List.mem_filter.mpr ⟨List.mem_of_getElem? (i := 794) (by decide +kernel), by decide +kernel⟩), (List.mem_filter.mpr ⟨List.mem_of_getElem? (i := 573) (by decide +kernel), by decide +kernel⟩), (List.mem_filter.mpr ⟨List.mem_of_getElem? (i := 574) (by decide +kernel), by decide +kernel⟩)⟩
theorem lb_X4_begin : LkB mX4_begin 1 := ⟨(List.mem_filter.mpr ⟨List.mem_of_getElem? (i := 65) (by decide +kernel), by decide +kernel⟩), (List.mem_filter.mpr ⟨List.mem_of_getElem? (i := 301) (by decide +kernel), by decide +kernel⟩), by decide, by decide, by decide +kernel⟩
theorem lkRX8_299 : LkV RX8 299 mX4_begin 1 := ⟨lb_X4_begin, Or.inl (List.mem_filter.mpr ⟨List.mem_of_getElem? (i := 298) (by decide +kernel), by decide +kernel⟩), (List.mem_filter.mpr ⟨List.mem_of_getElem? (i := 299) (by decide +kernel), by decide +kernel⟩), (List.mem_filter.mpr ⟨List.mem_of_getElem? (i := 300) (by decide +kernel), by decide +kernel⟩)⟩
theorem lb_X0_layOut : LkB mX0_layOut 1 := ⟨(List.mem_filter.mpr ⟨List.mem_of_getElem? (i := 68) (by decide +kernel), by decide +kernel⟩), (List.mem_filter.mpr ⟨List.mem_of_getElem? (i := 306) (by decide +kernel), by decide +kernel⟩), by decide, by decide, by decide +kernel⟩
theorem lkRX8_302 : LkV RX8 302 mX0_layOut 1 := ⟨lb_X0_layOut, Or.inl (List.mem_filter.mpr ⟨List.mem_of_getElem? (i := 303) (by decide +kernel), by decide +kernel⟩), (List.mem_filter.mpr ⟨List.mem_of_getElem? (i := 304) (by decide +kernel), by decide +kernel⟩), (List.mem_filter.mpr ⟨List.mem_of_getElem? (i := 305) (by decide +kernel), by decide +kernel⟩)⟩
theorem lb_X1_begin : LkB mX1_begin 0 := ⟨(List.mem_filter.mpr ⟨List.mem_of_getElem? (i := 70) (by decide +kernel), by decide +kernel⟩), (List.mem_filter.mpr ⟨List.mem_of_getElem? (i := 335) (by decide +kernel), by decide +kernel⟩), by decide, by decide, by decide +kernel⟩
theorem lkRX8_305 : LkV RX8 305 mX1_begin 0 := ⟨lb_X1_begin, Or.inl (List.mem_filter.mpr ⟨List.mem_of_getElem? (i := 332) (by decide +kernel), by decide +kernel⟩), (List.mem_filter.mpr ⟨List.mem_of_getElem? (i := 333) (by decide +kernel), by decide +kernel⟩), (List.mem_filter.mpr ⟨List.mem_of_getElem? (i := 334) (by decide +kernel), by decide +kernel⟩)⟩
theorem lb_X8_foundOf : LkB mX8_foundOf 2 := ⟨(List.mem_filter.mpr ⟨List.mem_of_getElem? (i := 62) (by decide +kernel), by decide +kernel⟩), (List.mem_filter.mpr ⟨List.mem_of_getElem? (i := 498) (by decide +kernel), by decide +kernel⟩), by decide, by decide, by decide +kernel⟩
theorem lkRX8_315 : LkS RX8 315 mX8_foundOf 2 := ⟨lb_X8_foundOf, Or.inl (List.mem_filter.mpr ⟨List.mem_of_getElem? (i := 496) (by decide +kernel), by decide +kernel⟩), (List.mem_filter.mpr ⟨List.mem_of_getElem? (i := 497) (by decide +kernel), by decide +kernel⟩)⟩
theorem lb_X5_prepare : LkB mX5_prepare 1 := ⟨(List.mem_filter.mpr ⟨List.mem_of_getElem? (i := 67) (by decide +kernel), by decide +kernel⟩), (List.mem_filter.mpr ⟨List.mem_of_getElem? (i := 514) (by decide +kernel), by decide +kernel⟩), by decide, by decide, by decide +kernel⟩
theorem lkRX8_318 : LkV RX8 318 mX5_prepare 1 := ⟨lb_X5_prepare, Or.inl (List.mem_filter.mpr ⟨List.mem_of_getElem? (i := 511) (by decide +kernel), by decide +kernel⟩), (List.mem_filter.mpr ⟨List.mem_of_getElem? (i := 512) (by decide +kernel), by decide +kernel⟩), (List.mem_filter.mpr ⟨List.mem_of_getElem? (i := 513) (by decide +kernel), by decide +kernel⟩)⟩
theorem lb_X5_ordersLeft : LkB mX5_ordersLeft 1 := ⟨(List.mem_filter.mpr ⟨List.mem_of_getElem? (i := 67) (by decide +kernel), by decide +kernel⟩), (List.mem_filter.mpr ⟨List.mem_of_getElem? (i := 526) (by decide +kernel), by decide +kernel⟩), by decide, by decide, by decide +kernel⟩
theorem lkRX8_322 : LkV RX8 322 mX5_ordersLeft 1 := ⟨lb_X5_ordersLeft, Or.inl (List.mem_filter.mpr ⟨List.mem_of_getElem? (i := 553) (by decide +kernel), by decide +kernel⟩), (List.mem_filter.mpr ⟨List.mem_of_getElem? (i := 524) (by decide +kernel), by decide +kernel⟩), (List.mem_filter.mpr ⟨List.mem_of_getElem? (i := 525) (by decide +kernel), by decide +kernel⟩)⟩
theorem lb_X5_worstOf : LkB mX5_worstOf 1 := ⟨(List.mem_filter.mpr ⟨List.mem_of_getElem? (i := 67) (by decide +kernel), by decide +kernel⟩), (List.mem_filter.mpr ⟨List.mem_of_getElem? (i := 550) (by decide +kernel), by decide +kernel⟩), by decide, by decide, by decide +kernel⟩
theorem lkRX8_325 : LkV RX8 325 mX5_worstOf 1 := ⟨lb_X5_worstOf, Or.inl (List.mem_filter.mpr ⟨List.mem_of_getElem? (i := 554) (by decide +kernel), by decide +kernel⟩), (List.mem_filter.mpr ⟨List.mem_of_getElem? (i := 548) (by decide +kernel), by decide +kernel⟩), (List.mem_filter.mpr ⟨List.mem_of_getElem? (i := 549) (by decide +kernel), by decide +kernel⟩)⟩
theorem lb_X5_nextPair : LkB mX5_nextPair 1 := ⟨(List.mem_filter.mpr ⟨List.mem_of_getElem? (i := 67) (by decide +kernel), by decide +kernel⟩), (List.mem_filter.mpr ⟨List.mem_of_getElem? (i := 558) (by decide +kernel), by decide +kernel⟩), by decide, by decide, by decide +kernel⟩
theorem lkRX8_328 : LkV RX8 328 mX5_nextPair 1 := ⟨lb_X5_nextPair, Or.inl (List.mem_filter.mpr ⟨List.mem_of_getElem? (i := 555) (by decide +kernel), by decide +kernel⟩), (List.mem_filter.mpr ⟨List.mem_of_getElem? (i := 556) (by decide +kernel), by decide +kernel⟩), (List.mem_filter.mpr ⟨List.mem_of_getElem? (i := 557) (by decide +kernel), by decide +kernel⟩)⟩
theorem lb_X8_sumOfSorts : LkB mX8_sumOfSorts 2 := ⟨(List.mem_filter.mpr ⟨List.mem_of_getElem? (i := 62) (by decide +kernel), by decide +kernel⟩), (List.mem_filter.mpr ⟨List.mem_of_getElem? (i := 769) (by decide +kernel), by decide +kernel⟩), by decide, by decide, by decide +kernel⟩
theorem lkRX8_333 : LkS RX8 333 mX8_sumOfSorts 2 := ⟨lb_X8_sumOfSorts, Or.inl (List.mem_filter.mpr ⟨List.mem_of_getElem? (i := 767) (by decide +kernel), by decide +kernel⟩), (List.mem_filter.mpr ⟨List.mem_of_getElem? (i := 768) (by decide +kernel), by decide +kernel⟩)⟩
theorem lb_X0_weigh : LkB mX0_weigh 2 := ⟨(List.mem_filter.mpr ⟨List.mem_of_getElem? (i := 68) (by decide +kernel), by decide +kernel⟩), (List.mem_filter.mpr ⟨List.mem_of_getElem? (i := 309) (by decide +kernel), by decide +kernel⟩), by decide, by decide, by decide +kernel⟩
theorem lkRX0_24 : LkS RX0 24 mX0_weigh 2 := ⟨lb_X0_weigh, Or.inl (List.mem_filter.mpr ⟨List.mem_of_getElem? (i := 307) (by decide +kernel), by decide +kernel⟩), (List.mem_filter.mpr ⟨List.mem_of_getElem? (i := 308) (by decide +kernel), by decide +kernel⟩)⟩
theorem lb_J7_fill_53178 : LkB mJ7_fill_53178 2 := ⟨(List.mem_filter.mpr ⟨List.mem_of_getElem? (i := 72) (by decide +kernel), by decide +kernel⟩), (List.mem_filter.mpr ⟨List.mem_of_getElem? (i := 293) (by decide +kernel), by decide +kernel⟩), by decide, by decide, by decide +kernel⟩
theorem lkRX0_28 : LkS RX0 28 mJ7_fill_53178 2 := ⟨lb_J7_fill_53178, Or.inl (List.mem_filter.mpr ⟨List.mem_of_getElem? (i := 310) (by decide +kernel), by decide +kernel⟩), (List.mem_filter.mpr ⟨List.mem_of_getElem? (i := 292) (by decide +kernel), by decide +kernel⟩)⟩
theorem lb_X0_offer : LkB mX0_offer 2 := ⟨(List.mem_filter.mpr ⟨List.mem_of_getElem? (i := 68) (by decide +kernel), by decide +kernel⟩), (List.mem_filter.mpr ⟨List.mem_of_getElem? (i := 314) (by decide +kernel), by decide +kernel⟩), by decide, by decide, by decide +kernel⟩
theorem lkRX0_34 : LkV RX0 34 mX0_offer 2 := ⟨lb_X0_offer, Or.inl (List.mem_filter.mpr ⟨List.mem_of_getElem? (i := 311) (by decide +kernel), by decide +kernel⟩), (List.mem_filter.mpr ⟨List.mem_of_getElem? (i := 313) (by decide +kernel), by decide +kernel⟩), (List.mem_filter.mpr ⟨List.mem_of_getElem? (i := 1) (by decide +kernel), by decide +kernel⟩)⟩
theorem lb_J6_bitCount_0f7a4 : LkB mJ6_bitCount_0f7a4 1 := ⟨(List.mem_filter.mpr ⟨List.mem_of_getElem? (i := 73) (by decide +kernel), by decide +kernel⟩), (List.mem_filter.mpr ⟨List.mem_of_getElem? (i := 324) (by decide +kernel), by decide +kernel⟩), by decide, by decide, by decide +kernel⟩
theorem lkRX0_38 : LkS RX0 38 mJ6_bitCount_0f7a4 1 := ⟨lb_J6_bitCount_0f7a4, Or.inl (List.mem_filter.mpr ⟨List.mem_of_getElem? (i := 322) (by decide +kernel), by decide +kernel⟩), (List.mem_filter.mpr ⟨List.mem_of_getElem? (i := 323) (by decide +kernel), by decide +kernel⟩)⟩
theorem lkRX0_44 : LkV RX0 44 mX0_canWeigh 1 := ⟨lb_X0_canWeigh, Or.inl (List.mem_filter.mpr ⟨List.mem_of_getElem? (i := 318) (by decide +kernel), by decide +kernel⟩), (List.mem_filter.mpr ⟨List.mem_of_getElem? (i := 319) (by decide +kernel), by decide +kernel⟩), (List.mem_filter.mpr ⟨List.mem_of_getElem? (i := 320) (by decide +kernel), by decide +kernel⟩)⟩
theorem lkRX0_48 : LkS RX0 48 mX8_within 3 := ⟨lb_X8_within, Or.inr ⟨"UnsaidScales", (List.mem_of_getElem? (i := 315) (by decide +kernel))⟩, (List.mem_filter.mpr ⟨List.mem_of_getElem? (i := 316) (by decide +kernel), by decide +kernel⟩)⟩
theorem lkRX0_52 : LkV RX0 52 mX0_fewestPieces 1 := ⟨lb_X0_fewestPieces, Or.inl (List.mem_filter.mpr ⟨List.mem_of_getElem? (i := 328) (by decide +kernel), by decide +kernel⟩), (List.mem_filter.mpr ⟨List.mem_of_getElem? (i := 329) (by decide +kernel), by decide +kernel⟩), (List.mem_filter.mpr ⟨List.mem_of_getElem? (i := 330) (by decide +kernel), by decide +kernel⟩)⟩
theorem lkRX1_30 : LkV RX1 30 mX1_dropRecords 0 := ⟨lb_X1_dropRecords, Or.inl (List.mem_filter.mpr ⟨List.mem_of_getElem? (i := 336) (by decide +kernel), by decide +kernel⟩), (List.mem_filter.mpr ⟨List.mem_of_getElem? (i := 337) (by decide +kernel), by decide +kernel⟩), (List.mem_filter.mpr ⟨List.mem_of_getElem? (i := 338) (by decide +kernel), by decide +kernel⟩)⟩
theorem lkRX1_44 : LkS RX1 44 mJ7_fill_53178 2 := ⟨lb_J7_fill_53178, Or.inl (List.mem_filter.mpr ⟨List.mem_of_getElem? (i := 696) (by decide +kernel), by decide +kernel⟩), (List.mem_filter.mpr ⟨List.mem_of_getElem? (i := 292) (by decide +kernel), by decide +kernel⟩)⟩
theorem lb_X1_gainOf : LkB mX1_gainOf 2 := ⟨(List.mem_filter.mpr ⟨List.mem_of_getElem? (i := 70) (by decide +kernel), by decide +kernel⟩), (List.mem_filter.mpr ⟨List.mem_of_getElem? (i := 737) (by decide +kernel), by decide +kernel⟩), by decide, by decide, by decide +kernel⟩
theorem lkRX1_59 : LkS RX1 59 mX1_gainOf 2 := ⟨lb_X1_gainOf, Or.inl (List.mem_filter.mpr ⟨List.mem_of_getElem? (i := 735) (by decide +kernel), by decide +kernel⟩), (List.mem_filter.mpr ⟨List.mem_of_getElem? (i := 736) (by decide +kernel), by decide +kernel⟩)⟩
theorem lb_X1_fits : LkB mX1_fits 2 := ⟨(List.mem_filter.mpr ⟨List.mem_of_getElem? (i := 70) (by decide +kernel), by decide +kernel⟩), (List.mem_filter.mpr ⟨List.mem_of_getElem? (i := 741) (by decide +kernel), by decide +kernel⟩), by decide, by decide, by decide +kernel⟩
theorem lkRX1_63 : LkV RX1 63 mX1_fits 2 := ⟨lb_X1_fits, Or.inl (List.mem_filter.mpr ⟨List.mem_of_getElem? (i := 738) (by decide +kernel), by decide +kernel⟩), (List.mem_filter.mpr ⟨List.mem_of_getElem? (i := 740) (by decide +kernel), by decide +kernel⟩), (List.mem_filter.mpr ⟨List.mem_of_getElem? (i := 24) (by decide +kernel), by decide +kernel⟩)⟩
theorem lb_X1_figuresOf : LkB mX1_figuresOf 1 := ⟨(List.mem_filter.mpr ⟨List.mem_of_getElem? (i := 70) (by decide +kernel), by decide +kernel⟩), (List.mem_filter.mpr ⟨List.mem_of_getElem? (i := 748) (by decide +kernel), by decide +kernel⟩), by decide, by decide, by decide +kernel⟩
theorem lkRX1_67 : LkS RX1 67 mX1_figuresOf 1 := ⟨lb_X1_figuresOf, Or.inl (List.mem_filter.mpr ⟨List.mem_of_getElem? (i := 746) (by decide +kernel), by decide +kernel⟩), (List.mem_filter.mpr ⟨List.mem_of_getElem? (i := 747) (by decide +kernel), by decide +kernel⟩)⟩
theorem lkRX2_22 : LkV RX2 22 mX4_copyFrom 1 := ⟨lb_X4_copyFrom, Or.inl (List.mem_filter.mpr ⟨List.mem_of_getElem? (i := 572) (by decide +kernel), by decide +kernel⟩), (List.mem_filter.mpr ⟨List.mem_of_getElem? (i := 573) (by decide +kernel), by decide +kernel⟩), (List.mem_filter.mpr ⟨List.mem_of_getElem? (i := 574) (by decide +kernel), by decide +kernel⟩)⟩
theorem lb_X3_countFewest : LkB mX3_countFewest 4 := ⟨(List.mem_filter.mpr ⟨List.mem_of_getElem? (i := 69) (by decide +kernel), by decide +kernel⟩), (List.mem_filter.mpr ⟨List.mem_of_getElem? (i := 626) (by decide +kernel), by decide +kernel⟩), by decide, by decide, by decide +kernel⟩
theorem lkRX3_18 : LkS RX3 18 mX3_countFewest 4 := ⟨lb_X3_countFewest, Or.inl (List.mem_filter.mpr ⟨List.mem_of_getElem? (i := 624) (by decide +kernel), by decide +kernel⟩), (List.mem_filter.mpr ⟨List.mem_of_getElem? (i := 625) (by decide +kernel), by decide +kernel⟩)⟩
theorem lb_X3_firstWay : LkB mX3_firstWay 5 := ⟨(List.mem_filter.mpr ⟨List.mem_of_getElem? (i := 69) (by decide +kernel), by decide +kernel⟩), (List.mem_filter.mpr ⟨List.mem_of_getElem? (i := 638) (by decide +kernel), by decide +kernel⟩), by decide, by decide, by decide +kernel⟩
theorem lkRX3_41 : LkS RX3 41 mX3_firstWay 5 := ⟨lb_X3_firstWay, Or.inl (List.mem_filter.mpr ⟨List.mem_of_getElem? (i := 636) (by decide +kernel), by decide +kernel⟩), (List.mem_filter.mpr ⟨List.mem_of_getElem? (i := 637) (by decide +kernel), by decide +kernel⟩)⟩
theorem lb_X3_figureOf : LkB mX3_figureOf 2 := ⟨(List.mem_filter.mpr ⟨List.mem_of_getElem? (i := 69) (by decide +kernel), by decide +kernel⟩), (List.mem_filter.mpr ⟨List.mem_of_getElem? (i := 642) (by decide +kernel), by decide +kernel⟩), by decide, by decide, by decide +kernel⟩
theorem lkRX3_45 : LkS RX3 45 mX3_figureOf 2 := ⟨lb_X3_figureOf, Or.inl (List.mem_filter.mpr ⟨List.mem_of_getElem? (i := 640) (by decide +kernel), by decide +kernel⟩), (List.mem_filter.mpr ⟨List.mem_of_getElem? (i := 641) (by decide +kernel), by decide +kernel⟩)⟩
theorem lkRX3_48 : LkS RX3 48 mJ7_fill_53178 2 := ⟨lb_J7_fill_53178, Or.inl (List.mem_filter.mpr ⟨List.mem_of_getElem? (i := 627) (by decide +kernel), by decide +kernel⟩), (List.mem_filter.mpr ⟨List.mem_of_getElem? (i := 292) (by decide +kernel), by decide +kernel⟩)⟩
theorem lb_X3_offerBundle : LkB mX3_offerBundle 4 := ⟨(List.mem_filter.mpr ⟨List.mem_of_getElem? (i := 69) (by decide +kernel), by decide +kernel⟩), (List.mem_filter.mpr ⟨List.mem_of_getElem? (i := 631) (by decide +kernel), by decide +kernel⟩), by decide, by decide, by decide +kernel⟩
theorem lkRX3_54 : LkS RX3 54 mX3_offerBundle 4 := ⟨lb_X3_offerBundle, Or.inl (List.mem_filter.mpr ⟨List.mem_of_getElem? (i := 629) (by decide +kernel), by decide +kernel⟩), (List.mem_filter.mpr ⟨List.mem_of_getElem? (i := 630) (by decide +kernel), by decide +kernel⟩)⟩
theorem lkRX3_58 : LkS RX3 58 mX8_within 3 := ⟨lb_X8_within, Or.inr ⟨"UnsaidScales", (List.mem_of_getElem? (i := 639) (by decide +kernel))⟩, (List.mem_filter.mpr ⟨List.mem_of_getElem? (i := 316) (by decide +kernel), by decide +kernel⟩)⟩
theorem lb_X5_countOrders : LkB mX5_countOrders 1 := ⟨(List.mem_filter.mpr ⟨List.mem_of_getElem? (i := 67) (by decide +kernel), by decide +kernel⟩), (List.mem_filter.mpr ⟨List.mem_of_getElem? (i := 518) (by decide +kernel), by decide +kernel⟩), by decide, by decide, by decide +kernel⟩
theorem lkRX5_26 : LkV RX5 26 mX5_countOrders 1 := ⟨lb_X5_countOrders, Or.inl (List.mem_filter.mpr ⟨List.mem_of_getElem? (i := 515) (by decide +kernel), by decide +kernel⟩), (List.mem_filter.mpr ⟨List.mem_of_getElem? (i := 517) (by decide +kernel), by decide +kernel⟩), (List.mem_filter.mpr ⟨List.mem_of_getElem? (i := 17) (by decide +kernel), by decide +kernel⟩)⟩
theorem lb_X5_leastBehind : LkB mX5_leastBehind 1 := ⟨(List.mem_filter.mpr ⟨List.mem_of_getElem? (i := 67) (by decide +kernel), by decide +kernel⟩), (List.mem_filter.mpr ⟨List.mem_of_getElem? (i := 542) (by decide +kernel), by decide +kernel⟩), by decide, by decide, by decide +kernel⟩
theorem lkRX5_30 : LkV RX5 30 mX5_leastBehind 1 := ⟨lb_X5_leastBehind, Or.inl (List.mem_filter.mpr ⟨List.mem_of_getElem? (i := 539) (by decide +kernel), by decide +kernel⟩), (List.mem_filter.mpr ⟨List.mem_of_getElem? (i := 541) (by decide +kernel), by decide +kernel⟩), (List.mem_filter.mpr ⟨List.mem_of_getElem? (i := 20) (by decide +kernel), by decide +kernel⟩)⟩
theorem lkRX5_33 : LkV RX5 33 mX5_worstOf 1 := ⟨lb_X5_worstOf, Or.inl (List.mem_filter.mpr ⟨List.mem_of_getElem? (i := 547) (by decide +kernel), by decide +kernel⟩), (List.mem_filter.mpr ⟨List.mem_of_getElem? (i := 548) (by decide +kernel), by decide +kernel⟩), (List.mem_filter.mpr ⟨List.mem_of_getElem? (i := 549) (by decide +kernel), by decide +kernel⟩)⟩
theorem lkRX5_36 : LkS RX5 36 mX8_pairOf 2 := ⟨lb_X8_pairOf, Or.inr ⟨"UnsaidScales", (List.mem_of_getElem? (i := 559) (by decide +kernel))⟩, (List.mem_filter.mpr ⟨List.mem_of_getElem? (i := 491) (by decide +kernel), by decide +kernel⟩)⟩
theorem lkRX5_40 : LkS RX5 40 mX8_foundOf 2 := ⟨lb_X8_foundOf, Or.inr ⟨"UnsaidScales", (List.mem_of_getElem? (i := 519) (by decide +kernel))⟩, (List.mem_filter.mpr ⟨List.mem_of_getElem? (i := 497) (by decide +kernel), by decide +kernel⟩)⟩
theorem lb_X5_worstBehind : LkB mX5_worstBehind 2 := ⟨(List.mem_filter.mpr ⟨List.mem_of_getElem? (i := 67) (by decide +kernel), by decide +kernel⟩), (List.mem_filter.mpr ⟨List.mem_of_getElem? (i := 546) (by decide +kernel), by decide +kernel⟩), by decide, by decide, by decide +kernel⟩
theorem lkRX5_43 : LkV RX5 43 mX5_worstBehind 2 := ⟨lb_X5_worstBehind, Or.inl (List.mem_filter.mpr ⟨List.mem_of_getElem? (i := 543) (by decide +kernel), by decide +kernel⟩), (List.mem_filter.mpr ⟨List.mem_of_getElem? (i := 545) (by decide +kernel), by decide +kernel⟩), (List.mem_filter.mpr ⟨List.mem_of_getElem? (i := 21) (by decide +kernel), by decide +kernel⟩)⟩
theorem lkRX5_46 : LkS RX5 46 mX8_withFound 3 := ⟨lb_X8_withFound, Or.inr ⟨"UnsaidScales", (List.mem_of_getElem? (i := 520) (by decide +kernel))⟩, (List.mem_filter.mpr ⟨List.mem_of_getElem? (i := 521) (by decide +kernel), by decide +kernel⟩)⟩
theorem lkRX5_50 : LkV RX5 50 mX5_ordersLeft 1 := ⟨lb_X5_ordersLeft, Or.inl (List.mem_filter.mpr ⟨List.mem_of_getElem? (i := 523) (by decide +kernel), by decide +kernel⟩), (List.mem_filter.mpr ⟨List.mem_of_getElem? (i := 524) (by decide +kernel), by decide +kernel⟩), (List.mem_filter.mpr ⟨List.mem_of_getElem? (i := 525) (by decide +kernel), by decide +kernel⟩)⟩
theorem lb_X5_isOrder : LkB mX5_isOrder 1 := ⟨(List.mem_filter.mpr ⟨List.mem_of_getElem? (i := 67) (by decide +kernel), by decide +kernel⟩), (List.mem_filter.mpr ⟨List.mem_of_getElem? (i := 530) (by decide +kernel), by decide +kernel⟩), by decide, by decide, by decide +kernel⟩
theorem lkRX5_53 : LkV RX5 53 mX5_isOrder 1 := ⟨lb_X5_isOrder, Or.inl (List.mem_filter.mpr ⟨List.mem_of_getElem? (i := 527) (by decide +kernel), by decide +kernel⟩), (List.mem_filter.mpr ⟨List.mem_of_getElem? (i := 529) (by decide +kernel), by decide +kernel⟩), (List.mem_filter.mpr ⟨List.mem_of_getElem? (i := 18) (by decide +kernel), by decide +kernel⟩)⟩
theorem lb_X5_countHeavierOnes : LkB mX5_countHeavierOnes 1 := ⟨(List.mem_filter.mpr ⟨List.mem_of_getElem? (i := 67) (by decide +kernel), by decide +kernel⟩), (List.mem_filter.mpr ⟨List.mem_of_getElem? (i := 534) (by decide +kernel), by decide +kernel⟩), by decide, by decide, by decide +kernel⟩
theorem lkRX5_65 : LkV RX5 65 mX5_countHeavierOnes 1 := ⟨lb_X5_countHeavierOnes, Or.inl (List.mem_filter.mpr ⟨List.mem_of_getElem? (i := 531) (by decide +kernel), by decide +kernel⟩), (List.mem_filter.mpr ⟨List.mem_of_getElem? (i := 533) (by decide +kernel), by decide +kernel⟩), (List.mem_filter.mpr ⟨List.mem_of_getElem? (i := 19) (by decide +kernel), by decide +kernel⟩)⟩
theorem lb_X5_dueFinding : LkB mX5_dueFinding 2 := ⟨(List.mem_filter.mpr ⟨List.mem_of_getElem? (i := 67) (by decide +kernel), by decide +kernel⟩), (List.mem_filter.mpr ⟨List.mem_of_getElem? (i := 538) (by decide +kernel), by decide +kernel⟩), by decide, by decide, by decide +kernel⟩
theorem lkRX5_69 : LkS RX5 69 mX5_dueFinding 2 := ⟨lb_X5_dueFinding, Or.inl (List.mem_filter.mpr ⟨List.mem_of_getElem? (i := 536) (by decide +kernel), by decide +kernel⟩), (List.mem_filter.mpr ⟨List.mem_of_getElem? (i := 537) (by decide +kernel), by decide +kernel⟩)⟩
theorem lkRX5_72 : LkS RX5 72 mJ7_fill_53178 2 := ⟨lb_J7_fill_53178, Or.inl (List.mem_filter.mpr ⟨List.mem_of_getElem? (i := 535) (by decide +kernel), by decide +kernel⟩), (List.mem_filter.mpr ⟨List.mem_of_getElem? (i := 292) (by decide +kernel), by decide +kernel⟩)⟩
theorem lb_X7_makeEmpty : LkB mX7_makeEmpty 0 := ⟨(List.mem_filter.mpr ⟨List.mem_of_getElem? (i := 64) (by decide +kernel), by decide +kernel⟩), (List.mem_filter.mpr ⟨List.mem_of_getElem? (i := 285) (by decide +kernel), by decide +kernel⟩), by decide, by decide, by decide +kernel⟩
theorem lkRX6_22 : LkV RX6 22 mX7_makeEmpty 0 := ⟨lb_X7_makeEmpty, Or.inl (List.mem_filter.mpr ⟨List.mem_of_getElem? (i := 398) (by decide +kernel), by decide +kernel⟩), (List.mem_filter.mpr ⟨List.mem_of_getElem? (i := 283) (by decide +kernel), by decide +kernel⟩), (List.mem_filter.mpr ⟨List.mem_of_getElem? (i := 284) (by decide +kernel), by decide +kernel⟩)⟩
theorem lb_X6_skipBlanks : LkB mX6_skipBlanks 0 := ⟨(List.mem_filter.mpr ⟨List.mem_of_getElem? (i := 63) (by decide +kernel), by decide +kernel⟩), (List.mem_filter.mpr ⟨List.mem_of_getElem? (i := 402) (by decide +kernel), by decide +kernel⟩), by decide, by decide, by decide +kernel⟩
theorem lkRX6_30 : LkV RX6 30 mX6_skipBlanks 0 := ⟨lb_X6_skipBlanks, Or.inl (List.mem_filter.mpr ⟨List.mem_of_getElem? (i := 399) (by decide +kernel), by decide +kernel⟩), (List.mem_filter.mpr ⟨List.mem_of_getElem? (i := 401) (by decide +kernel), by decide +kernel⟩), (List.mem_filter.mpr ⟨List.mem_of_getElem? (i := 2) (by decide +kernel), by decide +kernel⟩)⟩
theorem lkRX6_33 : LkV RX6 33 mX6_hasFault 0 := ⟨lb_X6_hasFault, Or.inl (List.mem_filter.mpr ⟨List.mem_of_getElem? (i := 403) (by decide +kernel), by decide +kernel⟩), (List.mem_filter.mpr ⟨List.mem_of_getElem? (i := 404) (by decide +kernel), by decide +kernel⟩), (List.mem_filter.mpr ⟨List.mem_of_getElem? (i := 405) (by decide +kernel), by decide +kernel⟩)⟩
theorem lb_X6_readItem : LkB mX6_readItem 1 := ⟨(List.mem_filter.mpr ⟨List.mem_of_getElem? (i := 63) (by decide +kernel), by decide +kernel⟩), (List.mem_filter.mpr ⟨List.mem_of_getElem? (i := 410) (by decide +kernel), by decide +kernel⟩), by decide, by decide, by decide +kernel⟩
theorem lkRX6_37 : LkV RX6 37 mX6_readItem 1 := ⟨lb_X6_readItem, Or.inl (List.mem_filter.mpr ⟨List.mem_of_getElem? (i := 407) (by decide +kernel), by decide +kernel⟩), (List.mem_filter.mpr ⟨List.mem_of_getElem? (i := 409) (by decide +kernel), by decide +kernel⟩), (List.mem_filter.mpr ⟨List.mem_of_getElem? (i := 3) (by decide +kernel), by decide +kernel⟩)⟩
theorem lb_X6_readWeight : LkB mX6_readWeight 1 := ⟨(List.mem_filter.mpr ⟨List.mem_of_getElem? (i := 63) (by decide +kernel), by decide +kernel⟩), (List.mem_filter.mpr ⟨List.mem_of_getElem? (i := 414) (by decide +kernel), by decide +kernel⟩), by decide, by decide, by decide +kernel⟩
theorem lkRX6_47 : LkV RX6 47 mX6_readWeight 1 := ⟨lb_X6_readWeight, Or.inl (List.mem_filter.mpr ⟨List.mem_of_getElem? (i := 411) (by decide +kernel), by decide +kernel⟩), (List.mem_filter.mpr ⟨List.mem_of_getElem? (i := 413) (by decide +kernel), by decide +kernel⟩), (List.mem_filter.mpr ⟨List.mem_of_getElem? (i := 4) (by decide +kernel), by decide +kernel⟩)⟩
theorem lb_X6_readPerson : LkB mX6_readPerson 1 := ⟨(List.mem_filter.mpr ⟨List.mem_of_getElem? (i := 63) (by decide +kernel), by decide +kernel⟩), (List.mem_filter.mpr ⟨List.mem_of_getElem? (i := 430) (by decide +kernel), by decide +kernel⟩), by decide, by decide, by decide +kernel⟩
theorem lkRX6_50 : LkV RX6 50 mX6_readPerson 1 := ⟨lb_X6_readPerson, Or.inl (List.mem_filter.mpr ⟨List.mem_of_getElem? (i := 427) (by decide +kernel), by decide +kernel⟩), (List.mem_filter.mpr ⟨List.mem_of_getElem? (i := 429) (by decide +kernel), by decide +kernel⟩), (List.mem_filter.mpr ⟨List.mem_of_getElem? (i := 7) (by decide +kernel), by decide +kernel⟩)⟩
theorem lb_X6_readGrowth : LkB mX6_readGrowth 1 := ⟨(List.mem_filter.mpr ⟨List.mem_of_getElem? (i := 63) (by decide +kernel), by decide +kernel⟩), (List.mem_filter.mpr ⟨List.mem_of_getElem? (i := 434) (by decide +kernel), by decide +kernel⟩), by decide, by decide, by decide +kernel⟩
theorem lkRX6_53 : LkV RX6 53 mX6_readGrowth 1 := ⟨lb_X6_readGrowth, Or.inl (List.mem_filter.mpr ⟨List.mem_of_getElem? (i := 431) (by decide +kernel), by decide +kernel⟩), (List.mem_filter.mpr ⟨List.mem_of_getElem? (i := 433) (by decide +kernel), by decide +kernel⟩), (List.mem_filter.mpr ⟨List.mem_of_getElem? (i := 8) (by decide +kernel), by decide +kernel⟩)⟩
theorem lb_X6_readPiece : LkB mX6_readPiece 1 := ⟨(List.mem_filter.mpr ⟨List.mem_of_getElem? (i := 63) (by decide +kernel), by decide +kernel⟩), (List.mem_filter.mpr ⟨List.mem_of_getElem? (i := 438) (by decide +kernel), by decide +kernel⟩), by decide, by decide, by decide +kernel⟩
theorem lkRX6_56 : LkV RX6 56 mX6_readPiece 1 := ⟨lb_X6_readPiece, Or.inl (List.mem_filter.mpr ⟨List.mem_of_getElem? (i := 435) (by decide +kernel), by decide +kernel⟩), (List.mem_filter.mpr ⟨List.mem_of_getElem? (i := 437) (by decide +kernel), by decide +kernel⟩), (List.mem_filter.mpr ⟨List.mem_of_getElem? (i := 9) (by decide +kernel), by decide +kernel⟩)⟩
theorem lb_X6_readNumber : LkB mX6_readNumber 2 := ⟨(List.mem_filter.mpr ⟨List.mem_of_getElem? (i := 63) (by decide +kernel), by decide +kernel⟩), (List.mem_filter.mpr ⟨List.mem_of_getElem? (i := 418) (by decide +kernel), by decide +kernel⟩), by decide, by decide, by decide +kernel⟩
theorem lkRX6_59 : LkV RX6 59 mX6_readNumber 2 := ⟨lb_X6_readNumber, Or.inl (List.mem_filter.mpr ⟨List.mem_of_getElem? (i := 415) (by decide +kernel), by decide +kernel⟩), (List.mem_filter.mpr ⟨List.mem_of_getElem? (i := 417) (by decide +kernel), by decide +kernel⟩), (List.mem_filter.mpr ⟨List.mem_of_getElem? (i := 5) (by decide +kernel), by decide +kernel⟩)⟩
theorem lb_X6_readEnd : LkB mX6_readEnd 0 := ⟨(List.mem_filter.mpr ⟨List.mem_of_getElem? (i := 63) (by decide +kernel), by decide +kernel⟩), (List.mem_filter.mpr ⟨List.mem_of_getElem? (i := 426) (by decide +kernel), by decide +kernel⟩), by decide, by decide, by decide +kernel⟩
theorem lkRX6_63 : LkV RX6 63 mX6_readEnd 0 := ⟨lb_X6_readEnd, Or.inl (List.mem_filter.mpr ⟨List.mem_of_getElem? (i := 423) (by decide +kernel), by decide +kernel⟩), (List.mem_filter.mpr ⟨List.mem_of_getElem? (i := 425) (by decide +kernel), by decide +kernel⟩), (List.mem_filter.mpr ⟨List.mem_of_getElem? (i := 6) (by decide +kernel), by decide +kernel⟩)⟩
theorem lb_X6_isFigure : LkB mX6_isFigure 1 := ⟨(List.mem_filter.mpr ⟨List.mem_of_getElem? (i := 63) (by decide +kernel), by decide +kernel⟩), (List.mem_filter.mpr ⟨List.mem_of_getElem? (i := 421) (by decide +kernel), by decide +kernel⟩), by decide, by decide, by decide +kernel⟩
theorem lkRX6_79 : LkS RX6 79 mX6_isFigure 1 := ⟨lb_X6_isFigure, Or.inl (List.mem_filter.mpr ⟨List.mem_of_getElem? (i := 419) (by decide +kernel), by decide +kernel⟩), (List.mem_filter.mpr ⟨List.mem_of_getElem? (i := 420) (by decide +kernel), by decide +kernel⟩)⟩
theorem lkRX6_83 : LkS RX6 83 mX8_within 3 := ⟨lb_X8_within, Or.inr ⟨"UnsaidScales", (List.mem_of_getElem? (i := 422) (by decide +kernel))⟩, (List.mem_filter.mpr ⟨List.mem_of_getElem? (i := 316) (by decide +kernel), by decide +kernel⟩)⟩
theorem lkRX7_33 : LkS RX7 33 mJ7_fill_53178 2 := ⟨lb_J7_fill_53178, Or.inl (List.mem_filter.mpr ⟨List.mem_of_getElem? (i := 291) (by decide +kernel), by decide +kernel⟩), (List.mem_filter.mpr ⟨List.mem_of_getElem? (i := 292) (by decide +kernel), by decide +kernel⟩)⟩
theorem lb_X9_begins : LkB mX9_begins 0 := ⟨(List.mem_filter.mpr ⟨List.mem_of_getElem? (i := 74) (by decide +kernel), by decide +kernel⟩), (List.mem_filter.mpr ⟨List.mem_of_getElem? (i := 816) (by decide +kernel), by decide +kernel⟩), by decide, by decide, by decide +kernel⟩
theorem lkRX9_71 : LkV RX9 71 mX9_begins 0 := ⟨lb_X9_begins, Or.inl (List.mem_filter.mpr ⟨List.mem_of_getElem? (i := 813) (by decide +kernel), by decide +kernel⟩), (List.mem_filter.mpr ⟨List.mem_of_getElem? (i := 815) (by decide +kernel), by decide +kernel⟩), (List.mem_filter.mpr ⟨List.mem_of_getElem? (i := 31) (by decide +kernel), by decide +kernel⟩)⟩
theorem lb_X9_settles : LkB mX9_settles 0 := ⟨(List.mem_filter.mpr ⟨List.mem_of_getElem? (i := 74) (by decide +kernel), by decide +kernel⟩), (List.mem_filter.mpr ⟨List.mem_of_getElem? (i := 820) (by decide +kernel), by decide +kernel⟩), by decide, by decide, by decide +kernel⟩
theorem lkRX9_74 : LkV RX9 74 mX9_settles 0 := ⟨lb_X9_settles, Or.inl (List.mem_filter.mpr ⟨List.mem_of_getElem? (i := 817) (by decide +kernel), by decide +kernel⟩), (List.mem_filter.mpr ⟨List.mem_of_getElem? (i := 819) (by decide +kernel), by decide +kernel⟩), (List.mem_filter.mpr ⟨List.mem_of_getElem? (i := 32) (by decide +kernel), by decide +kernel⟩)⟩
theorem lb_X9_in : LkB mX9_in 3 := ⟨(List.mem_filter.mpr ⟨List.mem_of_getElem? (i := 74) (by decide +kernel), by decide +kernel⟩), (List.mem_filter.mpr ⟨List.mem_of_getElem? (i := 953) (by decide +kernel), by decide +kernel⟩), by decide, by decide, by decide +kernel⟩
theorem lkRX9_81 : LkS RX9 81 mX9_in 3 := ⟨lb_X9_in, Or.inl (List.mem_filter.mpr ⟨List.mem_of_getElem? (i := 951) (by decide +kernel), by decide +kernel⟩), (List.mem_filter.mpr ⟨List.mem_of_getElem? (i := 952) (by decide +kernel), by decide +kernel⟩)⟩
theorem lb_X9_letterAt : LkB mX9_letterAt 1 := ⟨(List.mem_filter.mpr ⟨List.mem_of_getElem? (i := 74) (by decide +kernel), by decide +kernel⟩), (List.mem_filter.mpr ⟨List.mem_of_getElem? (i := 969) (by decide +kernel), by decide +kernel⟩), by decide, by decide, by decide +kernel⟩
theorem lkRX9_91 : LkV RX9 91 mX9_letterAt 1 := ⟨lb_X9_letterAt, Or.inl (List.mem_filter.mpr ⟨List.mem_of_getElem? (i := 966) (by decide +kernel), by decide +kernel⟩), (List.mem_filter.mpr ⟨List.mem_of_getElem? (i := 968) (by decide +kernel), by decide +kernel⟩), (List.mem_filter.mpr ⟨List.mem_of_getElem? (i := 38) (by decide +kernel), by decide +kernel⟩)⟩
theorem lb_X9_isWell : LkB mX9_isWell 0 := ⟨(List.mem_filter.mpr ⟨List.mem_of_getElem? (i := 74) (by decide +kernel), by decide +kernel⟩), (List.mem_filter.mpr ⟨List.mem_of_getElem? (i := 973) (by decide +kernel), by decide +kernel⟩), by decide, by decide, by decide +kernel⟩
theorem lkRX9_107 : LkV RX9 107 mX9_isWell 0 := ⟨lb_X9_isWell, Or.inl (List.mem_filter.mpr ⟨List.mem_of_getElem? (i := 970) (by decide +kernel), by decide +kernel⟩), (List.mem_filter.mpr ⟨List.mem_of_getElem? (i := 972) (by decide +kernel), by decide +kernel⟩), (List.mem_filter.mpr ⟨List.mem_of_getElem? (i := 39) (by decide +kernel), by decide +kernel⟩)⟩
theorem lb_X9_advances : LkB mX9_advances 0 := ⟨(List.mem_filter.mpr ⟨List.mem_of_getElem? (i := 74) (by decide +kernel), by decide +kernel⟩), (List.mem_filter.mpr ⟨List.mem_of_getElem? (i := 965) (by decide +kernel), by decide +kernel⟩), by decide, by decide, by decide +kernel⟩
theorem lkRX9_111 : LkV RX9 111 mX9_advances 0 := ⟨lb_X9_advances, Or.inl (List.mem_filter.mpr ⟨List.mem_of_getElem? (i := 962) (by decide +kernel), by decide +kernel⟩), (List.mem_filter.mpr ⟨List.mem_of_getElem? (i := 964) (by decide +kernel), by decide +kernel⟩), (List.mem_filter.mpr ⟨List.mem_of_getElem? (i := 37) (by decide +kernel), by decide +kernel⟩)⟩
theorem lb_X9_takes : LkB mX9_takes 1 := ⟨(List.mem_filter.mpr ⟨List.mem_of_getElem? (i := 74) (by decide +kernel), by decide +kernel⟩), (List.mem_filter.mpr ⟨List.mem_of_getElem? (i := 981) (by decide +kernel), by decide +kernel⟩), by decide, by decide, by decide +kernel⟩
theorem lkRX9_114 : LkV RX9 114 mX9_takes 1 := ⟨lb_X9_takes, Or.inl (List.mem_filter.mpr ⟨List.mem_of_getElem? (i := 978) (by decide +kernel), by decide +kernel⟩), (List.mem_filter.mpr ⟨List.mem_of_getElem? (i := 980) (by decide +kernel), by decide +kernel⟩), (List.mem_filter.mpr ⟨List.mem_of_getElem? (i := 41) (by decide +kernel), by decide +kernel⟩)⟩
theorem lb_X9_number : LkB mX9_number 2 := ⟨(List.mem_filter.mpr ⟨List.mem_of_getElem? (i := 74) (by decide +kernel), by decide +kernel⟩), (List.mem_filter.mpr ⟨List.mem_of_getElem? (i := 989) (by decide +kernel), by decide +kernel⟩), by decide, by decide, by decide +kernel⟩
theorem lkRX9_118 : LkV RX9 118 mX9_number 2 := ⟨lb_X9_number, Or.inl (List.mem_filter.mpr ⟨List.mem_of_getElem? (i := 986) (by decide +kernel), by decide +kernel⟩), (List.mem_filter.mpr ⟨List.mem_of_getElem? (i := 988) (by decide +kernel), by decide +kernel⟩), (List.mem_filter.mpr ⟨List.mem_of_getElem? (i := 43) (by decide +kernel), by decide +kernel⟩)⟩
theorem lb_X9_mayBegin : LkB mX9_mayBegin 0 := ⟨(List.mem_filter.mpr ⟨List.mem_of_getElem? (i := 74) (by decide +kernel), by decide +kernel⟩), (List.mem_filter.mpr ⟨List.mem_of_getElem? (i := 977) (by decide +kernel), by decide +kernel⟩), by decide, by decide, by decide +kernel⟩
theorem lkRX9_122 : LkV RX9 122 mX9_mayBegin 0 := ⟨lb_X9_mayBegin, Or.inl (List.mem_filter.mpr ⟨List.mem_of_getElem? (i := 974) (by decide +kernel), by decide +kernel⟩), (List.mem_filter.mpr ⟨List.mem_of_getElem? (i := 976) (by decide +kernel), by decide +kernel⟩), (List.mem_filter.mpr ⟨List.mem_of_getElem? (i := 40) (by decide +kernel), by decide +kernel⟩)⟩
theorem lb_X9_readsItem : LkB mX9_readsItem 1 := ⟨(List.mem_filter.mpr ⟨List.mem_of_getElem? (i := 74) (by decide +kernel), by decide +kernel⟩), (List.mem_filter.mpr ⟨List.mem_of_getElem? (i := 985) (by decide +kernel), by decide +kernel⟩), by decide, by decide, by decide +kernel⟩
theorem lkRX9_125 : LkV RX9 125 mX9_readsItem 1 := ⟨lb_X9_readsItem, Or.inl (List.mem_filter.mpr ⟨List.mem_of_getElem? (i := 982) (by decide +kernel), by decide +kernel⟩), (List.mem_filter.mpr ⟨List.mem_of_getElem? (i := 984) (by decide +kernel), by decide +kernel⟩), (List.mem_filter.mpr ⟨List.mem_of_getElem? (i := 42) (by decide +kernel), by decide +kernel⟩)⟩
theorem lb_X9_orders : LkB mX9_orders 0 := ⟨(List.mem_filter.mpr ⟨List.mem_of_getElem? (i := 74) (by decide +kernel), by decide +kernel⟩), (List.mem_filter.mpr ⟨List.mem_of_getElem? (i := 824) (by decide +kernel), by decide +kernel⟩), by decide, by decide, by decide +kernel⟩
theorem lkRX9_138 : LkV RX9 138 mX9_orders 0 := ⟨lb_X9_orders, Or.inl (List.mem_filter.mpr ⟨List.mem_of_getElem? (i := 821) (by decide +kernel), by decide +kernel⟩), (List.mem_filter.mpr ⟨List.mem_of_getElem? (i := 823) (by decide +kernel), by decide +kernel⟩), (List.mem_filter.mpr ⟨List.mem_of_getElem? (i := 33) (by decide +kernel), by decide +kernel⟩)⟩
theorem lb_X9_worsts : LkB mX9_worsts 0 := ⟨(List.mem_filter.mpr ⟨List.mem_of_getElem? (i := 74) (by decide +kernel), by decide +kernel⟩), (List.mem_filter.mpr ⟨List.mem_of_getElem? (i := 838) (by decide +kernel), by decide +kernel⟩), by decide, by decide, by decide +kernel⟩
theorem lkRX9_140 : LkV RX9 140 mX9_worsts 0 := ⟨lb_X9_worsts, Or.inl (List.mem_filter.mpr ⟨List.mem_of_getElem? (i := 835) (by decide +kernel), by decide +kernel⟩), (List.mem_filter.mpr ⟨List.mem_of_getElem? (i := 837) (by decide +kernel), by decide +kernel⟩), (List.mem_filter.mpr ⟨List.mem_of_getElem? (i := 35) (by decide +kernel), by decide +kernel⟩)⟩
theorem lb_X9_isPerson : LkB mX9_isPerson 1 := ⟨(List.mem_filter.mpr ⟨List.mem_of_getElem? (i := 74) (by decide +kernel), by decide +kernel⟩), (List.mem_filter.mpr ⟨List.mem_of_getElem? (i := 997) (by decide +kernel), by decide +kernel⟩), by decide, by decide, by decide +kernel⟩
theorem lkRX9_143 : LkV RX9 143 mX9_isPerson 1 := ⟨lb_X9_isPerson, Or.inl (List.mem_filter.mpr ⟨List.mem_of_getElem? (i := 994) (by decide +kernel), by decide +kernel⟩), (List.mem_filter.mpr ⟨List.mem_of_getElem? (i := 996) (by decide +kernel), by decide +kernel⟩), (List.mem_filter.mpr ⟨List.mem_of_getElem? (i := 44) (by decide +kernel), by decide +kernel⟩)⟩
theorem lb_X9_isSort : LkB mX9_isSort 1 := ⟨(List.mem_filter.mpr ⟨List.mem_of_getElem? (i := 74) (by decide +kernel), by decide +kernel⟩), (List.mem_filter.mpr ⟨List.mem_of_getElem? (i := 1000) (by decide +kernel), by decide +kernel⟩), by decide, by decide, by decide +kernel⟩
theorem lkRX9_147 : LkS RX9 147 mX9_isSort 1 := ⟨lb_X9_isSort, Or.inl (List.mem_filter.mpr ⟨List.mem_of_getElem? (i := 998) (by decide +kernel), by decide +kernel⟩), (List.mem_filter.mpr ⟨List.mem_of_getElem? (i := 999) (by decide +kernel), by decide +kernel⟩)⟩
theorem lb_X9_heaviness : LkB mX9_heaviness 1 := ⟨(List.mem_filter.mpr ⟨List.mem_of_getElem? (i := 74) (by decide +kernel), by decide +kernel⟩), (List.mem_filter.mpr ⟨List.mem_of_getElem? (i := 1016) (by decide +kernel), by decide +kernel⟩), by decide, by decide, by decide +kernel⟩
theorem lkRX9_150 : LkV RX9 150 mX9_heaviness 1 := ⟨lb_X9_heaviness, Or.inl (List.mem_filter.mpr ⟨List.mem_of_getElem? (i := 1013) (by decide +kernel), by decide +kernel⟩), (List.mem_filter.mpr ⟨List.mem_of_getElem? (i := 1015) (by decide +kernel), by decide +kernel⟩), (List.mem_filter.mpr ⟨List.mem_of_getElem? (i := 45) (by decide +kernel), by decide +kernel⟩)⟩
theorem lb_X9_upperOf : LkB mX9_upperOf 1 := ⟨(List.mem_filter.mpr ⟨List.mem_of_getElem? (i := 74) (by decide +kernel), by decide +kernel⟩), (List.mem_filter.mpr ⟨List.mem_of_getElem? (i := 830) (by decide +kernel), by decide +kernel⟩), by decide, by decide, by decide +kernel⟩
theorem lkRX9_153 : LkS RX9 153 mX9_upperOf 1 := ⟨lb_X9_upperOf, Or.inl (List.mem_filter.mpr ⟨List.mem_of_getElem? (i := 828) (by decide +kernel), by decide +kernel⟩), (List.mem_filter.mpr ⟨List.mem_of_getElem? (i := 829) (by decide +kernel), by decide +kernel⟩)⟩
theorem lb_X9_isPair : LkB mX9_isPair 2 := ⟨(List.mem_filter.mpr ⟨List.mem_of_getElem? (i := 74) (by decide +kernel), by decide +kernel⟩), (List.mem_filter.mpr ⟨List.mem_of_getElem? (i := 1024) (by decide +kernel), by decide +kernel⟩), by decide, by decide, by decide +kernel⟩
theorem lkRX9_156 : LkV RX9 156 mX9_isPair 2 := ⟨lb_X9_isPair, Or.inl (List.mem_filter.mpr ⟨List.mem_of_getElem? (i := 1021) (by decide +kernel), by decide +kernel⟩), (List.mem_filter.mpr ⟨List.mem_of_getElem? (i := 1023) (by decide +kernel), by decide +kernel⟩), (List.mem_filter.mpr ⟨List.mem_of_getElem? (i := 46) (by decide +kernel), by decide +kernel⟩)⟩
theorem lb_X9_pairOf : LkB mX9_pairOf 2 := ⟨(List.mem_filter.mpr ⟨List.mem_of_getElem? (i := 74) (by decide +kernel), by decide +kernel⟩), (List.mem_filter.mpr ⟨List.mem_of_getElem? (i := 1027) (by decide +kernel), by decide +kernel⟩), by decide, by decide, by decide +kernel⟩
theorem lkRX9_160 : LkS RX9 160 mX9_pairOf 2 := ⟨lb_X9_pairOf, Or.inl (List.mem_filter.mpr ⟨List.mem_of_getElem? (i := 1025) (by decide +kernel), by decide +kernel⟩), (List.mem_filter.mpr ⟨List.mem_of_getElem? (i := 1026) (by decide +kernel), by decide +kernel⟩)⟩
theorem lb_X9_turned : LkB mX9_turned 1 := ⟨(List.mem_filter.mpr ⟨List.mem_of_getElem? (i := 74) (by decide +kernel), by decide +kernel⟩), (List.mem_filter.mpr ⟨List.mem_of_getElem? (i := 1030) (by decide +kernel), by decide +kernel⟩), by decide, by decide, by decide +kernel⟩
theorem lkRX9_163 : LkS RX9 163 mX9_turned 1 := ⟨lb_X9_turned, Or.inl (List.mem_filter.mpr ⟨List.mem_of_getElem? (i := 1028) (by decide +kernel), by decide +kernel⟩), (List.mem_filter.mpr ⟨List.mem_of_getElem? (i := 1029) (by decide +kernel), by decide +kernel⟩)⟩
theorem lb_X9_lowerOf : LkB mX9_lowerOf 1 := ⟨(List.mem_filter.mpr ⟨List.mem_of_getElem? (i := 74) (by decide +kernel), by decide +kernel⟩), (List.mem_filter.mpr ⟨List.mem_of_getElem? (i := 827) (by decide +kernel), by decide +kernel⟩), by decide, by decide, by decide +kernel⟩
theorem lkRX9_169 : LkS RX9 169 mX9_lowerOf 1 := ⟨lb_X9_lowerOf, Or.inl (List.mem_filter.mpr ⟨List.mem_of_getElem? (i := 825) (by decide +kernel), by decide +kernel⟩), (List.mem_filter.mpr ⟨List.mem_of_getElem? (i := 826) (by decide +kernel), by decide +kernel⟩)⟩
theorem lb_X9_isPairNumber : LkB mX9_isPairNumber 1 := ⟨(List.mem_filter.mpr ⟨List.mem_of_getElem? (i := 74) (by decide +kernel), by decide +kernel⟩), (List.mem_filter.mpr ⟨List.mem_of_getElem? (i := 834) (by decide +kernel), by decide +kernel⟩), by decide, by decide, by decide +kernel⟩
theorem lkRX9_172 : LkV RX9 172 mX9_isPairNumber 1 := ⟨lb_X9_isPairNumber, Or.inl (List.mem_filter.mpr ⟨List.mem_of_getElem? (i := 831) (by decide +kernel), by decide +kernel⟩), (List.mem_filter.mpr ⟨List.mem_of_getElem? (i := 833) (by decide +kernel), by decide +kernel⟩), (List.mem_filter.mpr ⟨List.mem_of_getElem? (i := 34) (by decide +kernel), by decide +kernel⟩)⟩
theorem lb_X9_worstBehind : LkB mX9_worstBehind 2 := ⟨(List.mem_filter.mpr ⟨List.mem_of_getElem? (i := 74) (by decide +kernel), by decide +kernel⟩), (List.mem_filter.mpr ⟨List.mem_of_getElem? (i := 843) (by decide +kernel), by decide +kernel⟩), by decide, by decide, by decide +kernel⟩
theorem lkRX9_176 : LkV RX9 176 mX9_worstBehind 2 := ⟨lb_X9_worstBehind, Or.inl (List.mem_filter.mpr ⟨List.mem_of_getElem? (i := 840) (by decide +kernel), by decide +kernel⟩), (List.mem_filter.mpr ⟨List.mem_of_getElem? (i := 842) (by decide +kernel), by decide +kernel⟩), (List.mem_filter.mpr ⟨List.mem_of_getElem? (i := 36) (by decide +kernel), by decide +kernel⟩)⟩
theorem lb_X9_codeNow : LkB mX9_codeNow 0 := ⟨(List.mem_filter.mpr ⟨List.mem_of_getElem? (i := 74) (by decide +kernel), by decide +kernel⟩), (List.mem_filter.mpr ⟨List.mem_of_getElem? (i := 1042) (by decide +kernel), by decide +kernel⟩), by decide, by decide, by decide +kernel⟩
theorem lkRX9_179 : LkV RX9 179 mX9_codeNow 0 := ⟨lb_X9_codeNow, Or.inl (List.mem_filter.mpr ⟨List.mem_of_getElem? (i := 1039) (by decide +kernel), by decide +kernel⟩), (List.mem_filter.mpr ⟨List.mem_of_getElem? (i := 1041) (by decide +kernel), by decide +kernel⟩), (List.mem_filter.mpr ⟨List.mem_of_getElem? (i := 48) (by decide +kernel), by decide +kernel⟩)⟩
theorem lb_X9_sumOf : LkB mX9_sumOf 1 := ⟨(List.mem_filter.mpr ⟨List.mem_of_getElem? (i := 74) (by decide +kernel), by decide +kernel⟩), (List.mem_filter.mpr ⟨List.mem_of_getElem? (i := 1054) (by decide +kernel), by decide +kernel⟩), by decide, by decide, by decide +kernel⟩
theorem lkRX9_183 : LkV RX9 183 mX9_sumOf 1 := ⟨lb_X9_sumOf, Or.inl (List.mem_filter.mpr ⟨List.mem_of_getElem? (i := 1051) (by decide +kernel), by decide +kernel⟩), (List.mem_filter.mpr ⟨List.mem_of_getElem? (i := 1053) (by decide +kernel), by decide +kernel⟩), (List.mem_filter.mpr ⟨List.mem_of_getElem? (i := 51) (by decide +kernel), by decide +kernel⟩)⟩
theorem lb_X9_knownMany : LkB mX9_knownMany 0 := ⟨(List.mem_filter.mpr ⟨List.mem_of_getElem? (i := 74) (by decide +kernel), by decide +kernel⟩), (List.mem_filter.mpr ⟨List.mem_of_getElem? (i := 1038) (by decide +kernel), by decide +kernel⟩), by decide, by decide, by decide +kernel⟩
theorem lkRX9_186 : LkV RX9 186 mX9_knownMany 0 := ⟨lb_X9_knownMany, Or.inl (List.mem_filter.mpr ⟨List.mem_of_getElem? (i := 1035) (by decide +kernel), by decide +kernel⟩), (List.mem_filter.mpr ⟨List.mem_of_getElem? (i := 1037) (by decide +kernel), by decide +kernel⟩), (List.mem_filter.mpr ⟨List.mem_of_getElem? (i := 47) (by decide +kernel), by decide +kernel⟩)⟩
theorem lb_X9_nextPair : LkB mX9_nextPair 0 := ⟨(List.mem_filter.mpr ⟨List.mem_of_getElem? (i := 74) (by decide +kernel), by decide +kernel⟩), (List.mem_filter.mpr ⟨List.mem_of_getElem? (i := 1046) (by decide +kernel), by decide +kernel⟩), by decide, by decide, by decide +kernel⟩
theorem lkRX9_189 : LkV RX9 189 mX9_nextPair 0 := ⟨lb_X9_nextPair, Or.inl (List.mem_filter.mpr ⟨List.mem_of_getElem? (i := 1043) (by decide +kernel), by decide +kernel⟩), (List.mem_filter.mpr ⟨List.mem_of_getElem? (i := 1045) (by decide +kernel), by decide +kernel⟩), (List.mem_filter.mpr ⟨List.mem_of_getElem? (i := 49) (by decide +kernel), by decide +kernel⟩)⟩
theorem lb_X9_range : LkB mX9_range 0 := ⟨(List.mem_filter.mpr ⟨List.mem_of_getElem? (i := 74) (by decide +kernel), by decide +kernel⟩), (List.mem_filter.mpr ⟨List.mem_of_getElem? (i := 1050) (by decide +kernel), by decide +kernel⟩), by decide, by decide, by decide +kernel⟩
theorem lkRX9_192 : LkV RX9 192 mX9_range 0 := ⟨lb_X9_range, Or.inl (List.mem_filter.mpr ⟨List.mem_of_getElem? (i := 1047) (by decide +kernel), by decide +kernel⟩), (List.mem_filter.mpr ⟨List.mem_of_getElem? (i := 1049) (by decide +kernel), by decide +kernel⟩), (List.mem_filter.mpr ⟨List.mem_of_getElem? (i := 50) (by decide +kernel), by decide +kernel⟩)⟩
theorem lb_X9_notes : LkB mX9_notes 0 := ⟨(List.mem_filter.mpr ⟨List.mem_of_getElem? (i := 74) (by decide +kernel), by decide +kernel⟩), (List.mem_filter.mpr ⟨List.mem_of_getElem? (i := 1062) (by decide +kernel), by decide +kernel⟩), by decide, by decide, by decide +kernel⟩
theorem lkRX9_195 : LkV RX9 195 mX9_notes 0 := ⟨lb_X9_notes, Or.inl (List.mem_filter.mpr ⟨List.mem_of_getElem? (i := 1059) (by decide +kernel), by decide +kernel⟩), (List.mem_filter.mpr ⟨List.mem_of_getElem? (i := 1061) (by decide +kernel), by decide +kernel⟩), (List.mem_filter.mpr ⟨List.mem_of_getElem? (i := 52) (by decide +kernel), by decide +kernel⟩)⟩
theorem lb_X9_gets : LkB mX9_gets 3 := ⟨(List.mem_filter.mpr ⟨List.mem_of_getElem? (i := 74) (by decide +kernel), by decide +kernel⟩), (List.mem_filter.mpr ⟨List.mem_of_getElem? (i := 1066) (by decide +kernel), by decide +kernel⟩), by decide, by decide, by decide +kernel⟩
theorem lkRX9_198 : LkV RX9 198 mX9_gets 3 := ⟨lb_X9_gets, Or.inl (List.mem_filter.mpr ⟨List.mem_of_getElem? (i := 1063) (by decide +kernel), by decide +kernel⟩), (List.mem_filter.mpr ⟨List.mem_of_getElem? (i := 1065) (by decide +kernel), by decide +kernel⟩), (List.mem_filter.mpr ⟨List.mem_of_getElem? (i := 53) (by decide +kernel), by decide +kernel⟩)⟩
theorem lb_X9_canSay : LkB mX9_canSay 2 := ⟨(List.mem_filter.mpr ⟨List.mem_of_getElem? (i := 74) (by decide +kernel), by decide +kernel⟩), (List.mem_filter.mpr ⟨List.mem_of_getElem? (i := 1103) (by decide +kernel), by decide +kernel⟩), by decide, by decide, by decide +kernel⟩
theorem lkRX9_203 : LkV RX9 203 mX9_canSay 2 := ⟨lb_X9_canSay, Or.inl (List.mem_filter.mpr ⟨List.mem_of_getElem? (i := 1100) (by decide +kernel), by decide +kernel⟩), (List.mem_filter.mpr ⟨List.mem_of_getElem? (i := 1102) (by decide +kernel), by decide +kernel⟩), (List.mem_filter.mpr ⟨List.mem_of_getElem? (i := 55) (by decide +kernel), by decide +kernel⟩)⟩
theorem lb_X9_weighsOf : LkB mX9_weighsOf 1 := ⟨(List.mem_filter.mpr ⟨List.mem_of_getElem? (i := 74) (by decide +kernel), by decide +kernel⟩), (List.mem_filter.mpr ⟨List.mem_of_getElem? (i := 1107) (by decide +kernel), by decide +kernel⟩), by decide, by decide, by decide +kernel⟩
theorem lkRX9_206 : LkV RX9 206 mX9_weighsOf 1 := ⟨lb_X9_weighsOf, Or.inl (List.mem_filter.mpr ⟨List.mem_of_getElem? (i := 1104) (by decide +kernel), by decide +kernel⟩), (List.mem_filter.mpr ⟨List.mem_of_getElem? (i := 1106) (by decide +kernel), by decide +kernel⟩), (List.mem_filter.mpr ⟨List.mem_of_getElem? (i := 56) (by decide +kernel), by decide +kernel⟩)⟩
theorem lb_X9_sheds : LkB mX9_sheds 2 := ⟨(List.mem_filter.mpr ⟨List.mem_of_getElem? (i := 74) (by decide +kernel), by decide +kernel⟩), (List.mem_filter.mpr ⟨List.mem_of_getElem? (i := 1099) (by decide +kernel), by decide +kernel⟩), by decide, by decide, by decide +kernel⟩
theorem lkRX9_209 : LkV RX9 209 mX9_sheds 2 := ⟨lb_X9_sheds, Or.inl (List.mem_filter.mpr ⟨List.mem_of_getElem? (i := 1096) (by decide +kernel), by decide +kernel⟩), (List.mem_filter.mpr ⟨List.mem_of_getElem? (i := 1098) (by decide +kernel), by decide +kernel⟩), (List.mem_filter.mpr ⟨List.mem_of_getElem? (i := 54) (by decide +kernel), by decide +kernel⟩)⟩
theorem lb_X9_wayOf : LkB mX9_wayOf 3 := ⟨(List.mem_filter.mpr ⟨List.mem_of_getElem? (i := 74) (by decide +kernel), by decide +kernel⟩), (List.mem_filter.mpr ⟨List.mem_of_getElem? (i := 1111) (by decide +kernel), by decide +kernel⟩), by decide, by decide, by decide +kernel⟩
theorem lkRX9_213 : LkV RX9 213 mX9_wayOf 3 := ⟨lb_X9_wayOf, Or.inl (List.mem_filter.mpr ⟨List.mem_of_getElem? (i := 1108) (by decide +kernel), by decide +kernel⟩), (List.mem_filter.mpr ⟨List.mem_of_getElem? (i := 1110) (by decide +kernel), by decide +kernel⟩), (List.mem_filter.mpr ⟨List.mem_of_getElem? (i := 57) (by decide +kernel), by decide +kernel⟩)⟩
theorem lb_X9_heavinessThen : LkB mX9_heavinessThen 2 := ⟨(List.mem_filter.mpr ⟨List.mem_of_getElem? (i := 74) (by decide +kernel), by decide +kernel⟩), (List.mem_filter.mpr ⟨List.mem_of_getElem? (i := 1119) (by decide +kernel), by decide +kernel⟩), by decide, by decide, by decide +kernel⟩
theorem lkRX9_217 : LkV RX9 217 mX9_heavinessThen 2 := ⟨lb_X9_heavinessThen, Or.inl (List.mem_filter.mpr ⟨List.mem_of_getElem? (i := 1116) (by decide +kernel), by decide +kernel⟩), (List.mem_filter.mpr ⟨List.mem_of_getElem? (i := 1118) (by decide +kernel), by decide +kernel⟩), (List.mem_filter.mpr ⟨List.mem_of_getElem? (i := 58) (by decide +kernel), by decide +kernel⟩)⟩
theorem lb_X9_gcd : LkB mX9_gcd 2 := ⟨(List.mem_filter.mpr ⟨List.mem_of_getElem? (i := 74) (by decide +kernel), by decide +kernel⟩), (List.mem_filter.mpr ⟨List.mem_of_getElem? (i := 1128) (by decide +kernel), by decide +kernel⟩), by decide, by decide, by decide +kernel⟩
theorem lkRX9_224 : LkS RX9 224 mX9_gcd 2 := ⟨lb_X9_gcd, Or.inl (List.mem_filter.mpr ⟨List.mem_of_getElem? (i := 1126) (by decide +kernel), by decide +kernel⟩), (List.mem_filter.mpr ⟨List.mem_of_getElem? (i := 1127) (by decide +kernel), by decide +kernel⟩)⟩
theorem lb_X9_pieces : LkB mX9_pieces 1 := ⟨(List.mem_filter.mpr ⟨List.mem_of_getElem? (i := 74) (by decide +kernel), by decide +kernel⟩), (List.mem_filter.mpr ⟨List.mem_of_getElem? (i := 1136) (by decide +kernel), by decide +kernel⟩), by decide, by decide, by decide +kernel⟩
theorem lkRX9_234 : LkV RX9 234 mX9_pieces 1 := ⟨lb_X9_pieces, Or.inl (List.mem_filter.mpr ⟨List.mem_of_getElem? (i := 1133) (by decide +kernel), by decide +kernel⟩), (List.mem_filter.mpr ⟨List.mem_of_getElem? (i := 1135) (by decide +kernel), by decide +kernel⟩), (List.mem_filter.mpr ⟨List.mem_of_getElem? (i := 59) (by decide +kernel), by decide +kernel⟩)⟩
theorem lb_X9_isAsShown : LkB mX9_isAsShown 2 := ⟨(List.mem_filter.mpr ⟨List.mem_of_getElem? (i := 74) (by decide +kernel), by decide +kernel⟩), (List.mem_filter.mpr ⟨List.mem_of_getElem? (i := 1148) (by decide +kernel), by decide +kernel⟩), by decide, by decide, by decide +kernel⟩
theorem lkRX9_237 : LkV RX9 237 mX9_isAsShown 2 := ⟨lb_X9_isAsShown, Or.inl (List.mem_filter.mpr ⟨List.mem_of_getElem? (i := 1145) (by decide +kernel), by decide +kernel⟩), (List.mem_filter.mpr ⟨List.mem_of_getElem? (i := 1147) (by decide +kernel), by decide +kernel⟩), (List.mem_filter.mpr ⟨List.mem_of_getElem? (i := 60) (by decide +kernel), by decide +kernel⟩)⟩
