/-! ===== the methods, and what the tables say of their pools: written by program (wip/whole/gen) ===== -/
def mX10_init : kw_M := (yX10_init, cX10_init, 3, none, 1, 22)
def mX4_init : kw_M := (yX4_init, cX4_init, 3, none, 2, 44)
def mX0_init : kw_M := (yX0_init, cX0_init, 3, none, 3, 66)
def mX0_ownKind : kw_M := (yX0_ownKind, cX0_ownKind, 1, some .int, 0, 0)
def mX11_rest : kw_M := (yX11_rest, cX11_rest, 3, some .int, 0, 0)
def mX0_howFar : kw_M := (yX0_howFar, cX0_howFar, 2, some .int, 1, 22)
def mX9_add : kw_M := (yX9_add, cX9_add, 2, none, 0, 0)
def mX10_mark : kw_M := (yX10_mark, cX10_mark, 4, some .int, 1, 21)
def mX4_mark : kw_M := (yX4_mark, cX4_mark, 4, some .int, 2, 44)
def mX0_mark : kw_M := (yX0_mark, cX0_mark, 4, some .int, 3, 67)
def mX2_init : kw_M := (yX2_init, cX2_init, 1, none, 1, 22)
def mX1_init : kw_M := (yX1_init, cX1_init, 1, none, 2, 42)
def mX2_awayBehind : kw_M := (yX2_awayBehind, cX2_awayBehind, 2, some .int, 0, 0)
def mX11_holds : kw_M := (yX11_holds, cX11_holds, 2, some .boolean, 0, 0)
def mX2_jobIn : kw_M := (yX2_jobIn, cX2_jobIn, 2, some .int, 0, 0)
def mX2_nameIn : kw_M := (yX2_nameIn, cX2_nameIn, 2, some .int, 0, 0)
def mX2_jobHad : kw_M := (yX2_jobHad, cX2_jobHad, 3, some .int, 1, 22)
def mX2_doerIn : kw_M := (yX2_doerIn, cX2_doerIn, 6, some .int, 2, 44)
def mX2_turnerAt : kw_M := (yX2_turnerAt, cX2_turnerAt, 2, some (.object "KitchenWheels$Turner"), 0, 0)
def mX3_howFar : kw_M := (yX3_howFar, cX3_howFar, 2, some .int, 0, 0)
def mX4_howFar : kw_M := (yX4_howFar, cX4_howFar, 2, some .int, 0, 0)
def mX5_howFar : kw_M := (yX5_howFar, cX5_howFar, 2, some .int, 1, 22)
def mX7_howFar : kw_M := (yX7_howFar, cX7_howFar, 2, some .int, 0, 0)
def mX2_turnedNext : kw_M := (yX2_turnedNext, cX2_turnedNext, 4, some .int, 2, 43)
def mX1_timesIn : kw_M := (yX1_timesIn, cX1_timesIn, 10, some .int, 3, 69)
def mX2_doersOf : kw_M := (yX2_doersOf, cX2_doersOf, 7, some .int, 3, 69)
def mX1_firstMeeting : kw_M := (yX1_firstMeeting, cX1_firstMeeting, 6, some .int, 4, 95)
def mJ7_fill_53178 : kw_M := (yJ7_fill_53178, cJ7_fill_53178, 4, none, 0, 0)
def mX2_jobsOf : kw_M := (yX2_jobsOf, cX2_jobsOf, 6, some .int, 3, 69)
def mX2_bitsOf : kw_M := (yX2_bitsOf, cX2_bitsOf, 4, some .int, 0, 0)
def mX2_jobsOnIt : kw_M := (yX2_jobsOnIt, cX2_jobsOnIt, 1, some .int, 1, 23)
def mX2_peopleOnIt : kw_M := (yX2_peopleOnIt, cX2_peopleOnIt, 1, some .int, 1, 23)
def mX1_weeksUntilAllMet : kw_M := (yX1_weeksUntilAllMet, cX1_weeksUntilAllMet, 8, some .int, 4, 94)
def mX1_weeksUntilAnew : kw_M := (yX1_weeksUntilAnew, cX1_weeksUntilAnew, 5, some .int, 3, 66)
def mX11_within : kw_M := (yX11_within, cX11_within, 3, some .boolean, 0, 0)
def mX11_isPerson : kw_M := (yX11_isPerson, cX11_isPerson, 1, some .boolean, 1, 22)
def mX1_countWeek : kw_M := (yX1_countWeek, cX1_countWeek, 6, none, 3, 69)
def mX1_spreadOver : kw_M := (yX1_spreadOver, cX1_spreadOver, 5, some .int, 1, 22)
def mX1_spreadTurnedBy : kw_M := (yX1_spreadTurnedBy, cX1_spreadTurnedBy, 5, some .int, 4, 94)
def mX1_fairestTurn : kw_M := (yX1_fairestTurn, cX1_fairestTurn, 7, some .int, 5, 118)
def mX1_spreadAsTurned : kw_M := (yX1_spreadAsTurned, cX1_spreadAsTurned, 5, some .int, 4, 94)
def mX1_swapNames : kw_M := (yX1_swapNames, cX1_swapNames, 4, none, 1, 22)
def mX2_become : kw_M := (yX2_become, cX2_become, 3, none, 1, 60)
def mX2_turnedBehind : kw_M := (yX2_turnedBehind, cX2_turnedBehind, 4, some .int, 3, 66)
def mX1_swapFor : kw_M := (yX1_swapFor, cX1_swapFor, 10, some .int, 4, 95)
def mX2_firstEmptySlot : kw_M := (yX2_firstEmptySlot, cX2_firstEmptySlot, 2, some .int, 0, 0)
def mX1_nameToWrite : kw_M := (yX1_nameToWrite, cX1_nameToWrite, 7, some .int, 5, 118)
def mX1_leastOf : kw_M := (yX1_leastOf, cX1_leastOf, 2, some .int, 1, 21)
def mX6_isRow : kw_M := (yX6_isRow, cX6_isRow, 1, some .boolean, 1, 22)
def mX6_isMissing : kw_M := (yX6_isMissing, cX6_isMissing, 2, some .boolean, 2, 42)
def mX6_findingAt : kw_M := (yX6_findingAt, cX6_findingAt, 5, some .int, 3, 63)
def mX6_itemAt : kw_M := (yX6_itemAt, cX6_itemAt, 3, some .int, 4, 87)
def mX1_turnedSeen : kw_M := (yX1_turnedSeen, cX1_turnedSeen, 13, some .int, 5, 109)
def mX3_init : kw_M := (yX3_init, cX3_init, 3, none, 2, 44)
def mX5_init : kw_M := (yX5_init, cX5_init, 3, none, 3, 66)
def mX7_init : kw_M := (yX7_init, cX7_init, 3, none, 3, 66)
def mX10_made : kw_M := (yX10_made, cX10_made, 3, some (.object "KitchenWheels$Turner"), 4, 88)
def mX1_kindsSeen : kw_M := (yX1_kindsSeen, cX1_kindsSeen, 13, some .int, 5, 110)
def mJ6_bitCount_0f7a4 : kw_M := (yJ6_bitCount_0f7a4, cJ6_bitCount_0f7a4, 1, some .int, 0, 0)
def mX1_pairsIn : kw_M := (yX1_pairsIn, cX1_pairsIn, 8, some .int, 4, 95)
def mJ7_fill_d0a16 : kw_M := (yJ7_fill_d0a16, cJ7_fill_d0a16, 5, none, 0, 0)
def mX1_passForgetful : kw_M := (yX1_passForgetful, cX1_passForgetful, 6, none, 3, 66)
def mX1_casesOf : kw_M := (yX1_casesOf, cX1_casesOf, 9, some .long, 4, 95)
def mX1_doneByDraws : kw_M := (yX1_doneByDraws, cX1_doneByDraws, 9, some .int, 4, 94)
def mX2_isThere : kw_M := (yX2_isThere, cX2_isThere, 1, some .boolean, 0, 0)
def mX11_isJob : kw_M := (yX11_isJob, cX11_isJob, 1, some .boolean, 1, 22)
def mX2_passWeek : kw_M := (yX2_passWeek, cX2_passWeek, 4, none, 3, 69)
def mX2_allTimesOf : kw_M := (yX2_allTimesOf, cX2_allTimesOf, 4, some .int, 2, 42)
def mX2_allTimes : kw_M := (yX2_allTimes, cX2_allTimes, 3, some .int, 3, 65)
def mX3_ownKind : kw_M := (yX3_ownKind, cX3_ownKind, 1, some .int, 0, 0)
def mX10_size : kw_M := (yX10_size, cX10_size, 4, some .int, 1, 21)
def mX3_size : kw_M := (yX3_size, cX3_size, 4, some .int, 2, 44)
def mX5_size : kw_M := (yX5_size, cX5_size, 4, some .int, 3, 67)
def mX3_mark : kw_M := (yX3_mark, cX3_mark, 5, some .int, 4, 90)
def mX4_ownKind : kw_M := (yX4_ownKind, cX4_ownKind, 1, some .int, 0, 0)
def mX7_mark : kw_M := (yX7_mark, cX7_mark, 4, some .int, 3, 67)
def mX4_size : kw_M := (yX4_size, cX4_size, 5, some .int, 4, 90)
def mX5_ownKind : kw_M := (yX5_ownKind, cX5_ownKind, 1, some .int, 0, 0)
def mX6_init : kw_M := (yX6_init, cX6_init, 1, none, 1, 23)
def mX6_laneOf : kw_M := (yX6_laneOf, cX6_laneOf, 2, some .int, 2, 42)
def mX6_lay : kw_M := (yX6_lay, cX6_lay, 4, none, 2, 42)
def mX6_put : kw_M := (yX6_put, cX6_put, 5, some .int, 4, 87)
def mX6_move : kw_M := (yX6_move, cX6_move, 6, none, 4, 87)
def mX6_lose : kw_M := (yX6_lose, cX6_lose, 3, some .int, 3, 63)
def mX6_present : kw_M := (yX6_present, cX6_present, 3, some .int, 3, 63)
def mX7_ownKind : kw_M := (yX7_ownKind, cX7_ownKind, 1, some .int, 0, 0)
def mX7_size : kw_M := (yX7_size, cX7_size, 4, some .int, 5, 114)
def mX8_init : kw_M := (yX8_init, cX8_init, 1, none, 2, 42)
def mX8_take : kw_M := (yX8_take, cX8_take, 2, some .boolean, 0, 0)
def mX8_byteAt : kw_M := (yX8_byteAt, cX8_byteAt, 2, some .int, 0, 0)
def mX8_kindOf : kw_M := (yX8_kindOf, cX8_kindOf, 1, some .int, 0, 0)
def mX8_passes : kw_M := (yX8_passes, cX8_passes, 2, some .boolean, 1, 21)
def mX8_readBy : kw_M := (yX8_readBy, cX8_readBy, 3, some .int, 1, 22)
def mX8_readTurner : kw_M := (yX8_readTurner, cX8_readTurner, 4, none, 5, 110)
def mX8_nameOf : kw_M := (yX8_nameOf, cX8_nameOf, 1, some .int, 1, 22)
def mX8_readWheel : kw_M := (yX8_readWheel, cX8_readWheel, 4, some .int, 2, 42)
def mX8_read : kw_M := (yX8_read, cX8_read, 2, some .boolean, 6, 133)
def mX9_init : kw_M := (yX9_init, cX9_init, 1, none, 1, 22)
def mX9_numberAt : kw_M := (yX9_numberAt, cX9_numberAt, 2, some .int, 0, 0)
def mX10_isOfKind : kw_M := (yX10_isOfKind, cX10_isOfKind, 2, some .boolean, 0, 0)
def mX11_init : kw_M := (yX11_init, cX11_init, 1, none, 3, 62)
def mX11_finding : kw_M := (yX11_finding, cX11_finding, 2, some .int, 0, 0)
def mX11_unfound : kw_M := (yX11_unfound, cX11_unfound, 2, some .int, 0, 0)
def mX11_row : kw_M := (yX11_row, cX11_row, 4, some .int, 3, 65)
def mX11_set : kw_M := (yX11_set, cX11_set, 5, some .int, 5, 111)
def mX11_copy : kw_M := (yX11_copy, cX11_copy, 6, some .int, 5, 112)
def mX11_drop : kw_M := (yX11_drop, cX11_drop, 2, some .int, 4, 85)
def mX11_feed : kw_M := (yX11_feed, cX11_feed, 2, some .int, 1, 22)
def mX11_forgetActs : kw_M := (yX11_forgetActs, cX11_forgetActs, 1, none, 0, 0)
def mX11_kitchen : kw_M := (yX11_kitchen, cX11_kitchen, 2, some .int, 7, 154)
def mX11_fault : kw_M := (yX11_fault, cX11_fault, 1, some .int, 0, 0)
def mX11_undo : kw_M := (yX11_undo, cX11_undo, 2, some .int, 2, 82)
def mX11_keepIn : kw_M := (yX11_keepIn, cX11_keepIn, 4, none, 2, 82)
def mX11_keepAct : kw_M := (yX11_keepAct, cX11_keepAct, 1, none, 3, 105)
def mX11_weeks : kw_M := (yX11_weeks, cX11_weeks, 3, some .int, 4, 125)
def mX11_leave : kw_M := (yX11_leave, cX11_leave, 2, some .int, 4, 125)
def mX11_write : kw_M := (yX11_write, cX11_write, 6, some .int, 4, 125)
def mX11_name : kw_M := (yX11_name, cX11_name, 3, some .int, 5, 150)
def mX11_job : kw_M := (yX11_job, cX11_job, 3, some .int, 5, 150)
def mX11_turn : kw_M := (yX11_turn, cX11_turn, 2, some .int, 4, 125)
def mX11_done : kw_M := (yX11_done, cX11_done, 3, some .int, 2, 42)
def mX11_slot : kw_M := (yX11_slot, cX11_slot, 3, some .int, 2, 44)
def mX11_turner : kw_M := (yX11_turner, cX11_turner, 4, some .int, 2, 43)
def mX11_hasJobs : kw_M := (yX11_hasJobs, cX11_hasJobs, 3, some .int, 4, 94)
def mX11_whoDoes : kw_M := (yX11_whoDoes, cX11_whoDoes, 3, some .int, 4, 95)
def mX11_often : kw_M := (yX11_often, cX11_often, 4, some .int, 4, 98)
def mX11_meets : kw_M := (yX11_meets, cX11_meets, 3, some .int, 5, 120)
def mX11_allMet : kw_M := (yX11_allMet, cX11_allMet, 1, some .int, 5, 121)
def mX11_round : kw_M := (yX11_round, cX11_round, 1, some .int, 4, 90)
def mX11_fairest : kw_M := (yX11_fairest, cX11_fairest, 4, some .int, 6, 144)
def mX11_owed : kw_M := (yX11_owed, cX11_owed, 4, some .int, 3, 65)
def mX11_right : kw_M := (yX11_right, cX11_right, 7, some .int, 5, 124)
def mX11_twice : kw_M := (yX11_twice, cX11_twice, 1, some .int, 6, 144)
def mX11_seen : kw_M := (yX11_seen, cX11_seen, 6, some .int, 6, 141)
def mX11_who : kw_M := (yX11_who, cX11_who, 6, some .int, 6, 142)
def mX11_pairs : kw_M := (yX11_pairs, cX11_pairs, 2, some .int, 5, 122)
def mX11_commonPart : kw_M := (yX11_commonPart, cX11_commonPart, 11, some .long, 0, 0)
def mX11_forgets : kw_M := (yX11_forgets, cX11_forgets, 12, some .long, 5, 123)
def mX11_drawn : kw_M := (yX11_drawn, cX11_drawn, 4, some .int, 5, 122)
def mX11_image : kw_M := (yX11_image, cX11_image, 2, some .int, 3, 105)
def mX11_restore : kw_M := (yX11_restore, cX11_restore, 3, some .int, 2, 82)
def mX11_kind : kw_M := (yX11_kind, cX11_kind, 3, some .int, 1, 21)
def mX11_as : kw_M := (yX11_as, cX11_as, 4, some .int, 1, 22)
def mX11_ask : kw_M := (yX11_ask, cX11_ask, 4, some .int, 6, 137)
def mX11_trace : kw_M := (yX11_trace, cX11_trace, 2, some .int, 1, 21)
def mX11_count : kw_M := (yX11_count, cX11_count, 2, some .int, 4, 87)
def mX11_status : kw_M := (yX11_status, cX11_status, 1, some .int, 0, 0)
def mX12_init : kw_M := (yX12_init, cX12_init, 1, none, 1, 22)
def mX12_in : kw_M := (yX12_in, cX12_in, 6, some .boolean, 0, 0)
def mX12_has : kw_M := (yX12_has, cX12_has, 2, some .boolean, 0, 0)
def mX12_find : kw_M := (yX12_find, cX12_find, 2, some .int, 0, 0)
def mX12_well : kw_M := (yX12_well, cX12_well, 2, some .int, 0, 0)
def mX12_isRow : kw_M := (yX12_isRow, cX12_isRow, 1, some .boolean, 1, 25)
def mX12_row : kw_M := (yX12_row, cX12_row, 5, some .int, 2, 45)
def mX12_narrow : kw_M := (yX12_narrow, cX12_narrow, 2, some .int, 0, 0)
def mX12_set : kw_M := (yX12_set, cX12_set, 4, some .int, 2, 45)
def mX12_isSpan : kw_M := (yX12_isSpan, cX12_isSpan, 4, some .boolean, 0, 0)
def mX12_copy : kw_M := (yX12_copy, cX12_copy, 9, some .int, 2, 45)
def mX12_drop : kw_M := (yX12_drop, cX12_drop, 3, some .int, 2, 45)
def mX12_feed : kw_M := (yX12_feed, cX12_feed, 2, some .int, 1, 25)
def mX12_isLetter : kw_M := (yX12_isLetter, cX12_isLetter, 2, some .boolean, 0, 0)
def mX12_isFigure : kw_M := (yX12_isFigure, cX12_isFigure, 2, some .boolean, 1, 25)
def mX12_refuse : kw_M := (yX12_refuse, cX12_refuse, 2, some .boolean, 0, 0)
def mX12_sign : kw_M := (yX12_sign, cX12_sign, 2, some .boolean, 1, 21)
def mX12_readsNumber : kw_M := (yX12_readsNumber, cX12_readsNumber, 4, some .boolean, 2, 46)
def mX12_readsWheel : kw_M := (yX12_readsWheel, cX12_readsWheel, 4, some .int, 2, 42)
def mX12_kindOfLetter : kw_M := (yX12_kindOfLetter, cX12_kindOfLetter, 1, some .int, 0, 0)
def mX12_readsTurner : kw_M := (yX12_readsTurner, cX12_readsTurner, 2, some .boolean, 3, 69)
def mX12_isSort : kw_M := (yX12_isSort, cX12_isSort, 1, some .boolean, 1, 20)
def mX12_reads : kw_M := (yX12_reads, cX12_reads, 2, some .boolean, 4, 90)
def mX12_copyTown : kw_M := (yX12_copyTown, cX12_copyTown, 4, none, 0, 0)
def mX12_kitchen : kw_M := (yX12_kitchen, cX12_kitchen, 2, some .int, 5, 111)
def mX12_fault : kw_M := (yX12_fault, cX12_fault, 1, some .int, 0, 0)
def mX12_keepPast : kw_M := (yX12_keepPast, cX12_keepPast, 2, none, 1, 23)
def mX12_undo : kw_M := (yX12_undo, cX12_undo, 1, some .int, 1, 23)
def mX12_isSix : kw_M := (yX12_isSix, cX12_isSix, 1, some .boolean, 1, 25)
def mX12_nameAt : kw_M := (yX12_nameAt, cX12_nameAt, 3, some .int, 0, 0)
def mX12_jobOf : kw_M := (yX12_jobOf, cX12_jobOf, 4, some .int, 1, 22)
def mX12_doerOf : kw_M := (yX12_doerOf, cX12_doerOf, 6, some .int, 2, 45)
def mX12_far : kw_M := (yX12_far, cX12_far, 3, some .int, 0, 0)
def mX12_farOf : kw_M := (yX12_farOf, cX12_farOf, 3, some .int, 1, 22)
def mX12_turnBy : kw_M := (yX12_turnBy, cX12_turnBy, 4, none, 0, 0)
def mX12_pass : kw_M := (yX12_pass, cX12_pass, 5, none, 3, 70)
def mX12_passAsTold : kw_M := (yX12_passAsTold, cX12_passAsTold, 2, none, 4, 94)
def mX12_layTried : kw_M := (yX12_layTried, cX12_layTried, 3, none, 5, 115)
def mX12_weeks : kw_M := (yX12_weeks, cX12_weeks, 3, some .int, 5, 115)
def mX12_leave : kw_M := (yX12_leave, cX12_leave, 2, some .int, 2, 45)
def mX12_name : kw_M := (yX12_name, cX12_name, 4, some .int, 2, 44)
def mX12_job : kw_M := (yX12_job, cX12_job, 4, some .int, 2, 44)
def mX12_turn : kw_M := (yX12_turn, cX12_turn, 2, some .int, 2, 44)
def mX12_done : kw_M := (yX12_done, cX12_done, 3, some .int, 2, 45)
def mX12_slot : kw_M := (yX12_slot, cX12_slot, 4, some .int, 2, 45)
def mX12_isTurner : kw_M := (yX12_isTurner, cX12_isTurner, 2, some .boolean, 1, 25)
def mX12_turner : kw_M := (yX12_turner, cX12_turner, 3, some .int, 2, 46)
def mX12_doesTried : kw_M := (yX12_doesTried, cX12_doesTried, 5, some .boolean, 3, 70)
def mX12_hasJobs : kw_M := (yX12_hasJobs, cX12_hasJobs, 5, some .int, 6, 137)
def mX12_doersTried : kw_M := (yX12_doersTried, cX12_doersTried, 4, some .int, 4, 94)
def mX12_whoDoes : kw_M := (yX12_whoDoes, cX12_whoDoes, 3, some .int, 6, 137)
def mX12_often : kw_M := (yX12_often, cX12_often, 4, some .int, 6, 137)
def mX12_meets : kw_M := (yX12_meets, cX12_meets, 4, some .int, 6, 137)
def mX12_onWheel : kw_M := (yX12_onWheel, cX12_onWheel, 7, some .int, 0, 0)
def mX12_haveAllMet : kw_M := (yX12_haveAllMet, cX12_haveAllMet, 6, some .boolean, 1, 26)
def mX12_allMet : kw_M := (yX12_allMet, cX12_allMet, 2, some .int, 6, 137)
def mX12_round : kw_M := (yX12_round, cX12_round, 2, some .int, 6, 137)
def mX12_doneBy : kw_M := (yX12_doneBy, cX12_doneBy, 5, some .int, 0, 0)
def mX12_differenceTried : kw_M := (yX12_differenceTried, cX12_differenceTried, 6, some .int, 1, 26)
def mX12_fairest : kw_M := (yX12_fairest, cX12_fairest, 7, some .int, 6, 137)
def mX12_owed : kw_M := (yX12_owed, cX12_owed, 4, some .int, 2, 45)
def mX12_isRight : kw_M := (yX12_isRight, cX12_isRight, 7, some .boolean, 5, 115)
def mX12_right : kw_M := (yX12_right, cX12_right, 7, some .int, 6, 141)
def mX12_twice : kw_M := (yX12_twice, cX12_twice, 6, some .int, 5, 115)
def mX12_noItems : kw_M := (yX12_noItems, cX12_noItems, 4, some .int, 1, 23)
def mX12_firstDoer : kw_M := (yX12_firstDoer, cX12_firstDoer, 4, some .int, 5, 117)
def mX12_isSeenSo : kw_M := (yX12_isSeenSo, cX12_isSeenSo, 7, some .boolean, 6, 140)
def mX12_seen : kw_M := (yX12_seen, cX12_seen, 8, some .int, 7, 166)
def mX12_isTurnedSo : kw_M := (yX12_isTurnedSo, cX12_isTurnedSo, 7, some .boolean, 6, 137)
def mX12_who : kw_M := (yX12_who, cX12_who, 8, some .int, 7, 163)
def mX12_areTogether : kw_M := (yX12_areTogether, cX12_areTogether, 6, some .boolean, 1, 21)
def mX12_pairs : kw_M := (yX12_pairs, cX12_pairs, 5, some .int, 6, 137)
def mX12_forgets : kw_M := (yX12_forgets, cX12_forgets, 16, some .long, 4, 94)
def mX12_doneInAll : kw_M := (yX12_doneInAll, cX12_doneInAll, 4, some .int, 1, 24)
def mX12_drawn : kw_M := (yX12_drawn, cX12_drawn, 7, some .int, 5, 115)
def mX12_image : kw_M := (yX12_image, cX12_image, 2, some .int, 1, 25)
def mX12_restore : kw_M := (yX12_restore, cX12_restore, 2, some .int, 1, 25)
def mX12_kind : kw_M := (yX12_kind, cX12_kind, 2, some .int, 2, 46)
def mX12_isOf : kw_M := (yX12_isOf, cX12_isOf, 4, some .boolean, 0, 0)
def mX12_as : kw_M := (yX12_as, cX12_as, 3, some .int, 2, 46)
def mX12_begin : kw_M := (yX12_begin, cX12_begin, 2, none, 0, 0)
def mX12_lentSize : kw_M := (yX12_lentSize, cX12_lentSize, 2, some .int, 1, 21)
def mX12_lentMark : kw_M := (yX12_lentMark, cX12_lentMark, 2, some .int, 1, 21)
def mX12_onesMark : kw_M := (yX12_onesMark, cX12_onesMark, 2, some .int, 2, 42)
def mX12_mark : kw_M := (yX12_mark, cX12_mark, 2, some .int, 3, 63)
def mX12_onesSize : kw_M := (yX12_onesSize, cX12_onesSize, 3, some .int, 4, 84)
def mX12_lawsSize : kw_M := (yX12_lawsSize, cX12_lawsSize, 2, some .int, 2, 42)
def mX12_sizeOf : kw_M := (yX12_sizeOf, cX12_sizeOf, 2, some .int, 5, 106)
def mX12_lawsMark : kw_M := (yX12_lawsMark, cX12_lawsMark, 3, some .int, 6, 127)
def mX12_ask : kw_M := (yX12_ask, cX12_ask, 3, some .int, 7, 149)
def mX12_trace : kw_M := (yX12_trace, cX12_trace, 2, some .int, 1, 25)
def mX12_count : kw_M := (yX12_count, cX12_count, 4, some .int, 2, 47)
def mX12_status : kw_M := (yX12_status, cX12_status, 1, some .int, 0, 0)
theorem im_obj : Cond.instanceMethod Lib.objectInit ∈ kw_T := kw_in 88 (by decide +kernel) rfl
theorem cd_obj : Cond.code Lib.objectInit ⟨#[0xb1]⟩ 1 none ∈ kw_T := kw_in 89 (by decide +kernel) rfl
theorem lkX10_1 : Cond.methodLink RX10 1 Lib.objectInit ∈ kw_T := kw_in 398 (by decide +kernel) rfl
theorem kcX0 : kw_cls 0 RX0 TX0 2 := kw_cls_of rfl inX0
theorem kcX3 : kw_cls 3 RX3 TX3 2 := kw_cls_of rfl inX3
theorem kcX4 : kw_cls 4 RX4 TX4 2 := kw_cls_of rfl inX4
theorem kcX5 : kw_cls 5 RX5 TX5 2 := kw_cls_of rfl inX5
theorem kcX7 : kw_cls 7 RX7 TX7 2 := kw_cls_of rfl inX7
theorem pfX10_init_7 : kw_pok mX10_init 7 [0, 3, 4, 5, 7] 0 (.int) := by
  intro ci h
  simp only [List.mem_cons, List.not_mem_nil, or_false] at h
  rcases h with rfl | rfl | rfl | rfl | rfl
  · exact ⟨_, _, _, tyX0, kcX0, tyX0_ok, nmX0, by decide, ⟨"KitchenWheels$Turner", kw_in 399 (by decide +kernel) rfl, Or.inl rfl⟩, rfl, Or.inr ⟨rfl, rfl, rfl⟩⟩
  · exact ⟨_, _, _, tyX3, kcX3, tyX3_ok, nmX3, by decide, ⟨"KitchenWheels$Turner", kw_in 399 (by decide +kernel) rfl, Or.inl rfl⟩, rfl, Or.inr ⟨rfl, rfl, rfl⟩⟩
  · exact ⟨_, _, _, tyX4, kcX4, tyX4_ok, nmX4, by decide, ⟨"KitchenWheels$Turner", kw_in 399 (by decide +kernel) rfl, Or.inl rfl⟩, rfl, Or.inr ⟨rfl, rfl, rfl⟩⟩
  · exact ⟨_, _, _, tyX5, kcX5, tyX5_ok, nmX5, by decide, ⟨"KitchenWheels$Turner", kw_in 399 (by decide +kernel) rfl, Or.inl rfl⟩, rfl, Or.inr ⟨rfl, rfl, rfl⟩⟩
  · exact ⟨_, _, _, tyX7, kcX7, tyX7_ok, nmX7, by decide, ⟨"KitchenWheels$Turner", kw_in 399 (by decide +kernel) rfl, Or.inl rfl⟩, rfl, Or.inr ⟨rfl, rfl, rfl⟩⟩

theorem pfX10_init_13 : kw_pok mX10_init 13 [0, 3, 4, 5, 7] 1 (.int) := by
  intro ci h
  simp only [List.mem_cons, List.not_mem_nil, or_false] at h
  rcases h with rfl | rfl | rfl | rfl | rfl
  · exact ⟨_, _, _, tyX0, kcX0, tyX0_ok, nmX0, by decide, ⟨"KitchenWheels$Turner", kw_in 401 (by decide +kernel) rfl, Or.inl rfl⟩, rfl, Or.inr ⟨rfl, rfl, rfl⟩⟩
  · exact ⟨_, _, _, tyX3, kcX3, tyX3_ok, nmX3, by decide, ⟨"KitchenWheels$Turner", kw_in 401 (by decide +kernel) rfl, Or.inl rfl⟩, rfl, Or.inr ⟨rfl, rfl, rfl⟩⟩
  · exact ⟨_, _, _, tyX4, kcX4, tyX4_ok, nmX4, by decide, ⟨"KitchenWheels$Turner", kw_in 401 (by decide +kernel) rfl, Or.inl rfl⟩, rfl, Or.inr ⟨rfl, rfl, rfl⟩⟩
  · exact ⟨_, _, _, tyX5, kcX5, tyX5_ok, nmX5, by decide, ⟨"KitchenWheels$Turner", kw_in 401 (by decide +kernel) rfl, Or.inl rfl⟩, rfl, Or.inr ⟨rfl, rfl, rfl⟩⟩
  · exact ⟨_, _, _, tyX7, kcX7, tyX7_ok, nmX7, by decide, ⟨"KitchenWheels$Turner", kw_in 401 (by decide +kernel) rfl, Or.inl rfl⟩, rfl, Or.inr ⟨rfl, rfl, rfl⟩⟩

theorem cdX10_init : Cond.code mX10_init.1 mX10_init.2.1 mX10_init.2.2.1 mX10_init.2.2.2.1 ∈ kw_T := kw_in 397 (by decide +kernel) rfl
theorem in_X10 : Cond.initialized RX10 ∈ kw_T := kw_in 75 (by decide +kernel) rfl
theorem cbX4_init_X10_init : kw_cb mX4_init mX10_init 2 := ⟨cdX10_init, in_X10, ⟨by decide +kernel, by decide +kernel, by decide +kernel⟩, by decide, by decide⟩
theorem lkX4_1 : Cond.methodLink RX4 1 yX10_init ∈ kw_T := kw_in 395 (by decide +kernel) rfl
theorem imX10_init : Cond.instanceMethod yX10_init ∈ kw_T := kw_in 396 (by decide +kernel) rfl
theorem cdX4_init : Cond.code mX4_init.1 mX4_init.2.1 mX4_init.2.2.1 mX4_init.2.2.2.1 ∈ kw_T := kw_in 394 (by decide +kernel) rfl
theorem in_X4 : Cond.initialized RX4 ∈ kw_T := kw_in 76 (by decide +kernel) rfl
theorem cbX0_init_X4_init : kw_cb mX0_init mX4_init 2 := ⟨cdX4_init, in_X4, ⟨by decide +kernel, by decide +kernel, by decide +kernel⟩, by decide, by decide⟩
theorem lkX0_1 : Cond.methodLink RX0 1 yX4_init ∈ kw_T := kw_in 429 (by decide +kernel) rfl
theorem imX4_init : Cond.instanceMethod yX4_init ∈ kw_T := kw_in 393 (by decide +kernel) rfl
theorem cdX11_rest : Cond.code mX11_rest.1 mX11_rest.2.1 mX11_rest.2.2.1 mX11_rest.2.2.2.1 ∈ kw_T := kw_in 472 (by decide +kernel) rfl
theorem in_X11 : Cond.initialized RX11 ∈ kw_T := kw_in 65 (by decide +kernel) rfl
theorem cbX0_howFar_X11_rest : kw_cb mX0_howFar mX11_rest 2 := ⟨cdX11_rest, in_X11, ⟨by decide +kernel, by decide +kernel, by decide +kernel⟩, by decide, by decide⟩
theorem lnX0_7 : lw_tbl[533]? = some (.methodLinkNest RX0 7 yX11_rest "KitchenWheels") := by decide +kernel
theorem stX11_rest : Cond.static yX11_rest ∈ kw_T := kw_in 471 (by decide +kernel) rfl
theorem gfX0_13 : kw_gok RX0 13 [0] 1 := by
  intro ci h
  simp only [List.mem_cons, List.not_mem_nil, or_false] at h
  subst h
  exact ⟨_, _, _, kcX0, by decide, "KitchenWheels$Both", kw_in 406 (by decide +kernel) rfl, Or.inr (kw_in 407 (by decide +kernel) rfl)⟩

theorem kcX9 : kw_cls 9 RX9 TX9 2 := kw_cls_of rfl inX9
theorem gfX9_15 : kw_gok RX9 15 [9] 1 := by
  intro ci h
  simp only [List.mem_cons, List.not_mem_nil, or_false] at h
  subst h
  exact ⟨_, _, _, kcX9, by decide, "KitchenWheels$Trace", kw_in 230 (by decide +kernel) rfl, Or.inl rfl⟩

theorem gfX9_11 : kw_gok RX9 11 [9] 0 := by
  intro ci h
  simp only [List.mem_cons, List.not_mem_nil, or_false] at h
  subst h
  exact ⟨_, _, _, kcX9, by decide, "KitchenWheels$Trace", kw_in 229 (by decide +kernel) rfl, Or.inl rfl⟩

theorem pfX9_add_15 : kw_pok mX9_add 15 [9] 1 (.int) := by
  intro ci h
  simp only [List.mem_cons, List.not_mem_nil, or_false] at h
  subst h
  exact ⟨_, _, _, tyX9, kcX9, tyX9_ok, nmX9, by decide, ⟨"KitchenWheels$Trace", kw_in 230 (by decide +kernel) rfl, Or.inl rfl⟩, rfl, Or.inl rfl⟩

theorem cdX9_add : Cond.code mX9_add.1 mX9_add.2.1 mX9_add.2.2.1 mX9_add.2.2.2.1 ∈ kw_T := kw_in 855 (by decide +kernel) rfl
theorem in_X9 : Cond.initialized RX9 ∈ kw_T := kw_in 71 (by decide +kernel) rfl
theorem cbX10_mark_X9_add : kw_cb mX10_mark mX9_add 1 := ⟨cdX9_add, in_X9, ⟨by decide +kernel, by decide +kernel, by decide +kernel⟩, by decide, by decide⟩
theorem lkX10_33 : Cond.methodLink RX10 33 yX9_add ∈ kw_T := kw_in 875 (by decide +kernel) rfl
theorem imX9_add : Cond.instanceMethod yX9_add ∈ kw_T := kw_in 853 (by decide +kernel) rfl
theorem seX9_X9_add_X9_add : Cond.selects RX9 yX9_add yX9_add ∈ kw_T := kw_in 854 (by decide +kernel) rfl
theorem gfX10_7 : kw_gok RX10 7 [0, 3, 4, 5, 7] 0 := by
  intro ci h
  simp only [List.mem_cons, List.not_mem_nil, or_false] at h
  rcases h with rfl | rfl | rfl | rfl | rfl
  · exact ⟨_, _, _, kcX0, by decide, "KitchenWheels$Turner", kw_in 399 (by decide +kernel) rfl, Or.inl rfl⟩
  · exact ⟨_, _, _, kcX3, by decide, "KitchenWheels$Turner", kw_in 399 (by decide +kernel) rfl, Or.inl rfl⟩
  · exact ⟨_, _, _, kcX4, by decide, "KitchenWheels$Turner", kw_in 399 (by decide +kernel) rfl, Or.inl rfl⟩
  · exact ⟨_, _, _, kcX5, by decide, "KitchenWheels$Turner", kw_in 399 (by decide +kernel) rfl, Or.inl rfl⟩
  · exact ⟨_, _, _, kcX7, by decide, "KitchenWheels$Turner", kw_in 399 (by decide +kernel) rfl, Or.inl rfl⟩

theorem cbX4_mark_X9_add : kw_cb mX4_mark mX9_add 1 := ⟨cdX9_add, in_X9, ⟨by decide +kernel, by decide +kernel, by decide +kernel⟩, by decide, by decide⟩
theorem lkX4_7 : Cond.methodLink RX4 7 yX9_add ∈ kw_T := kw_in 852 (by decide +kernel) rfl
theorem smX10_mark : Cond.sameMethod RX10 RX10 "mark" "(LKitchenWheels$Trace;II)I" ∈ kw_T := kw_in 1370 (by decide +kernel) rfl
theorem suX4_X10 : Cond.superclass RX4 RX10 ∈ kw_T := kw_in 414 (by decide +kernel) rfl
theorem cdX10_mark : Cond.code mX10_mark.1 mX10_mark.2.1 mX10_mark.2.2.1 mX10_mark.2.2.2.1 ∈ kw_T := kw_in 874 (by decide +kernel) rfl
theorem cbX4_mark_X10_mark : kw_cb mX4_mark mX10_mark 3 := ⟨cdX10_mark, in_X10, ⟨by decide +kernel, by decide +kernel, by decide +kernel⟩, by decide, by decide⟩
theorem lkX4_22 : Cond.methodLink RX4 22 yX10_mark ∈ kw_T := kw_in 872 (by decide +kernel) rfl
theorem imX10_mark : Cond.instanceMethod yX10_mark ∈ kw_T := kw_in 873 (by decide +kernel) rfl
theorem cbX0_mark_X9_add : kw_cb mX0_mark mX9_add 1 := ⟨cdX9_add, in_X9, ⟨by decide +kernel, by decide +kernel, by decide +kernel⟩, by decide, by decide⟩
theorem lkX0_19 : Cond.methodLink RX0 19 yX9_add ∈ kw_T := kw_in 864 (by decide +kernel) rfl
theorem smX4_mark : Cond.sameMethod RX4 RX4 "mark" "(LKitchenWheels$Trace;II)I" ∈ kw_T := kw_in 860 (by decide +kernel) rfl
theorem suX0_X4 : Cond.superclass RX0 RX4 ∈ kw_T := kw_in 432 (by decide +kernel) rfl
theorem cdX4_mark : Cond.code mX4_mark.1 mX4_mark.2.1 mX4_mark.2.2.1 mX4_mark.2.2.2.1 ∈ kw_T := kw_in 871 (by decide +kernel) rfl
theorem cbX0_mark_X4_mark : kw_cb mX0_mark mX4_mark 3 := ⟨cdX4_mark, in_X4, ⟨by decide +kernel, by decide +kernel, by decide +kernel⟩, by decide, by decide⟩
theorem lkX0_25 : Cond.methodLink RX0 25 yX4_mark ∈ kw_T := kw_in 865 (by decide +kernel) rfl
theorem imX4_mark : Cond.instanceMethod yX4_mark ∈ kw_T := kw_in 858 (by decide +kernel) rfl
theorem lkX2_3 : Cond.methodLink RX2 3 Lib.objectInit ∈ kw_T := kw_in 123 (by decide +kernel) rfl
theorem acint : Cond.arrayClass .int ∈ kw_T := kw_in 111 (by decide +kernel) rfl
theorem kcX2 : kw_cls 2 RX2 TX2 10 := kw_cls_of rfl inX2
theorem pfX2_init_9 : kw_pok mX2_init 9 [2] 0 (.array .int) := by
  intro ci h
  simp only [List.mem_cons, List.not_mem_nil, or_false] at h
  subst h
  exact ⟨_, _, _, tyX2, kcX2, tyX2_ok, nmX2, by decide, ⟨"KitchenWheels$Kitchen", kw_in 126 (by decide +kernel) rfl, Or.inl rfl⟩, rfl, Or.inr ⟨rfl, rfl, rfl⟩⟩

theorem pfX2_init_15 : kw_pok mX2_init 15 [2] 1 (.array .int) := by
  intro ci h
  simp only [List.mem_cons, List.not_mem_nil, or_false] at h
  subst h
  exact ⟨_, _, _, tyX2, kcX2, tyX2_ok, nmX2, by decide, ⟨"KitchenWheels$Kitchen", kw_in 130 (by decide +kernel) rfl, Or.inl rfl⟩, rfl, Or.inr ⟨rfl, rfl, rfl⟩⟩

theorem clX2_18 : Cond.classLink RX2 18 RX10 ∈ kw_T := kw_in 124 (by decide +kernel) rfl
theorem pfX2_init_20 : kw_pok mX2_init 20 [2] 2 (.array (.object "KitchenWheels$Turner")) := by
  intro ci h
  simp only [List.mem_cons, List.not_mem_nil, or_false] at h
  subst h
  exact ⟨_, _, _, tyX2, kcX2, tyX2_ok, nmX2, by decide, ⟨"KitchenWheels$Kitchen", kw_in 133 (by decide +kernel) rfl, Or.inl rfl⟩, rfl, Or.inr ⟨rfl, rfl, rfl⟩⟩

theorem pfX2_init_24 : kw_pok mX2_init 24 [2] 3 (.array .int) := by
  intro ci h
  simp only [List.mem_cons, List.not_mem_nil, or_false] at h
  subst h
  exact ⟨_, _, _, tyX2, kcX2, tyX2_ok, nmX2, by decide, ⟨"KitchenWheels$Kitchen", kw_in 136 (by decide +kernel) rfl, Or.inl rfl⟩, rfl, Or.inr ⟨rfl, rfl, rfl⟩⟩

theorem lkX1_3 : Cond.methodLink RX1 3 Lib.objectInit ∈ kw_T := kw_in 206 (by decide +kernel) rfl
theorem clX1_9 : Cond.classLink RX1 9 RX2 ∈ kw_T := kw_in 207 (by decide +kernel) rfl
theorem iaX2 : Cond.instantiable RX2 10 ∈ kw_T := kw_in 119 (by decide +kernel) rfl
theorem in_X2 : Cond.initialized RX2 ∈ kw_T := kw_in 69 (by decide +kernel) rfl
theorem dfX2 (G : kw_G) : ∀ j, j < 10 → defaultValue (tyX2 j) = vp_V (([.null, .null, .null, .null, .int 0, .int 0, .int 0, .int 0, .int 0, .int 0] : List Value).map (kw_v G.2.1)) j := by
  intro j hj
  rcases (show j = 0 ∨ j = 1 ∨ j = 2 ∨ j = 3 ∨ j = 4 ∨ j = 5 ∨ j = 6 ∨ j = 7 ∨ j = 8 ∨ j = 9 by omega) with rfl | rfl | rfl | rfl | rfl | rfl | rfl | rfl | rfl | rfl <;> rfl
theorem cdX2_init : Cond.code mX2_init.1 mX2_init.2.1 mX2_init.2.2.1 mX2_init.2.2.2.1 ∈ kw_T := kw_in 122 (by decide +kernel) rfl
theorem cbX1_init_X2_init : kw_cb mX1_init mX2_init 0 := ⟨cdX2_init, in_X2, ⟨by decide +kernel, by decide +kernel, by decide +kernel⟩, by decide, by decide⟩
theorem lnX1_11 : lw_tbl[208]? = some (.methodLinkNest RX1 11 yX2_init "KitchenWheels") := by decide +kernel
theorem imX2_init : Cond.instanceMethod yX2_init ∈ kw_T := kw_in 121 (by decide +kernel) rfl
theorem kcX1 : kw_cls 1 RX1 TX1 4 := kw_cls_of rfl inX1
theorem pfX1_init_12 : kw_pok mX1_init 12 [1] 0 (.object "KitchenWheels$Kitchen") := by
  intro ci h
  simp only [List.mem_cons, List.not_mem_nil, or_false] at h
  subst h
  exact ⟨_, _, _, tyX1, kcX1, tyX1_ok, nmX1, by decide, ⟨"KitchenWheels$Foreteller", kw_in 209 (by decide +kernel) rfl, Or.inl rfl⟩, rfl, Or.inr ⟨rfl, rfl, rfl⟩⟩

theorem pfX1_init_18 : kw_pok mX1_init 18 [1] 1 (.array .int) := by
  intro ci h
  simp only [List.mem_cons, List.not_mem_nil, or_false] at h
  subst h
  exact ⟨_, _, _, tyX1, kcX1, tyX1_ok, nmX1, by decide, ⟨"KitchenWheels$Foreteller", kw_in 210 (by decide +kernel) rfl, Or.inl rfl⟩, rfl, Or.inr ⟨rfl, rfl, rfl⟩⟩

theorem aclong : Cond.arrayClass .long ∈ kw_T := kw_in 222 (by decide +kernel) rfl
theorem pfX1_init_22 : kw_pok mX1_init 22 [1] 2 (.array .long) := by
  intro ci h
  simp only [List.mem_cons, List.not_mem_nil, or_false] at h
  subst h
  exact ⟨_, _, _, tyX1, kcX1, tyX1_ok, nmX1, by decide, ⟨"KitchenWheels$Foreteller", kw_in 211 (by decide +kernel) rfl, Or.inl rfl⟩, rfl, Or.inr ⟨rfl, rfl, rfl⟩⟩

theorem pfX1_init_26 : kw_pok mX1_init 26 [1] 3 (.array .long) := by
  intro ci h
  simp only [List.mem_cons, List.not_mem_nil, or_false] at h
  subst h
  exact ⟨_, _, _, tyX1, kcX1, tyX1_ok, nmX1, by decide, ⟨"KitchenWheels$Foreteller", kw_in 212 (by decide +kernel) rfl, Or.inl rfl⟩, rfl, Or.inr ⟨rfl, rfl, rfl⟩⟩

theorem gfX2_49 : kw_gok RX2 49 [2] 9 := by
  intro ci h
  simp only [List.mem_cons, List.not_mem_nil, or_false] at h
  subst h
  exact ⟨_, _, _, kcX2, by decide, "KitchenWheels$Kitchen", kw_in 156 (by decide +kernel) rfl, Or.inl rfl⟩

theorem gfX2_37 : kw_gok RX2 37 [2] 5 := by
  intro ci h
  simp only [List.mem_cons, List.not_mem_nil, or_false] at h
  subst h
  exact ⟨_, _, _, kcX2, by decide, "KitchenWheels$Kitchen", kw_in 143 (by decide +kernel) rfl, Or.inl rfl⟩

theorem gfX2_15 : kw_gok RX2 15 [2] 1 := by
  intro ci h
  simp only [List.mem_cons, List.not_mem_nil, or_false] at h
  subst h
  exact ⟨_, _, _, kcX2, by decide, "KitchenWheels$Kitchen", kw_in 130 (by decide +kernel) rfl, Or.inl rfl⟩

theorem gfX2_27 : kw_gok RX2 27 [2] 4 := by
  intro ci h
  simp only [List.mem_cons, List.not_mem_nil, or_false] at h
  subst h
  exact ⟨_, _, _, kcX2, by decide, "KitchenWheels$Kitchen", kw_in 138 (by decide +kernel) rfl, Or.inl rfl⟩

theorem gfX2_9 : kw_gok RX2 9 [2] 0 := by
  intro ci h
  simp only [List.mem_cons, List.not_mem_nil, or_false] at h
  subst h
  exact ⟨_, _, _, kcX2, by decide, "KitchenWheels$Kitchen", kw_in 126 (by decide +kernel) rfl, Or.inl rfl⟩

theorem cdX2_nameIn : Cond.code mX2_nameIn.1 mX2_nameIn.2.1 mX2_nameIn.2.2.1 mX2_nameIn.2.2.2.1 ∈ kw_T := kw_in 504 (by decide +kernel) rfl
theorem cbX2_jobHad_X2_nameIn : kw_cb mX2_jobHad mX2_nameIn 1 := ⟨cdX2_nameIn, in_X2, ⟨by decide +kernel, by decide +kernel, by decide +kernel⟩, by decide, by decide⟩
theorem lkX2_53 : Cond.methodLink RX2 53 yX2_nameIn ∈ kw_T := kw_in 501 (by decide +kernel) rfl
theorem imX2_nameIn : Cond.instanceMethod yX2_nameIn ∈ kw_T := kw_in 503 (by decide +kernel) rfl
theorem seX2_X2_nameIn_X2_nameIn : Cond.selects RX2 yX2_nameIn yX2_nameIn ∈ kw_T := kw_in 10 (by decide +kernel) rfl
theorem cbX2_jobHad_X11_rest : kw_cb mX2_jobHad mX11_rest 2 := ⟨cdX11_rest, in_X11, ⟨by decide +kernel, by decide +kernel, by decide +kernel⟩, by decide, by decide⟩
theorem lnX2_57 : lw_tbl[505]? = some (.methodLinkNest RX2 57 yX11_rest "KitchenWheels") := by decide +kernel
theorem cdX2_jobIn : Cond.code mX2_jobIn.1 mX2_jobIn.2.1 mX2_jobIn.2.2.1 mX2_jobIn.2.2.2.1 ∈ kw_T := kw_in 509 (by decide +kernel) rfl
theorem cbX2_jobHad_X2_jobIn : kw_cb mX2_jobHad mX2_jobIn 1 := ⟨cdX2_jobIn, in_X2, ⟨by decide +kernel, by decide +kernel, by decide +kernel⟩, by decide, by decide⟩
theorem lkX2_61 : Cond.methodLink RX2 61 yX2_jobIn ∈ kw_T := kw_in 506 (by decide +kernel) rfl
theorem imX2_jobIn : Cond.instanceMethod yX2_jobIn ∈ kw_T := kw_in 508 (by decide +kernel) rfl
theorem seX2_X2_jobIn_X2_jobIn : Cond.selects RX2 yX2_jobIn yX2_jobIn ∈ kw_T := kw_in 11 (by decide +kernel) rfl
theorem cdX2_jobHad : Cond.code mX2_jobHad.1 mX2_jobHad.2.1 mX2_jobHad.2.2.1 mX2_jobHad.2.2.2.1 ∈ kw_T := kw_in 500 (by decide +kernel) rfl
theorem cbX2_doerIn_X2_jobHad : kw_cb mX2_doerIn mX2_jobHad 2 := ⟨cdX2_jobHad, in_X2, ⟨by decide +kernel, by decide +kernel, by decide +kernel⟩, by decide, by decide⟩
theorem lkX2_64 : Cond.methodLink RX2 64 yX2_jobHad ∈ kw_T := kw_in 497 (by decide +kernel) rfl
theorem imX2_jobHad : Cond.instanceMethod yX2_jobHad ∈ kw_T := kw_in 498 (by decide +kernel) rfl
theorem seX2_X2_jobHad_X2_jobHad : Cond.selects RX2 yX2_jobHad yX2_jobHad ∈ kw_T := kw_in 499 (by decide +kernel) rfl
theorem cbX2_doerIn_X11_rest : kw_cb mX2_doerIn mX11_rest 2 := ⟨cdX11_rest, in_X11, ⟨by decide +kernel, by decide +kernel, by decide +kernel⟩, by decide, by decide⟩
theorem cbX2_doerIn_X2_nameIn : kw_cb mX2_doerIn mX2_nameIn 1 := ⟨cdX2_nameIn, in_X2, ⟨by decide +kernel, by decide +kernel, by decide +kernel⟩, by decide, by decide⟩
theorem cdX11_holds : Cond.code mX11_holds.1 mX11_holds.2.1 mX11_holds.2.2.1 mX11_holds.2.2.2.1 ∈ kw_T := kw_in 512 (by decide +kernel) rfl
theorem cbX2_doerIn_X11_holds : kw_cb mX2_doerIn mX11_holds 2 := ⟨cdX11_holds, in_X11, ⟨by decide +kernel, by decide +kernel, by decide +kernel⟩, by decide, by decide⟩
theorem lnX2_67 : lw_tbl[510]? = some (.methodLinkNest RX2 67 yX11_holds "KitchenWheels") := by decide +kernel
theorem stX11_holds : Cond.static yX11_holds ∈ kw_T := kw_in 511 (by decide +kernel) rfl
theorem gfX2_40 : kw_gok RX2 40 [2] 6 := by
  intro ci h
  simp only [List.mem_cons, List.not_mem_nil, or_false] at h
  subst h
  exact ⟨_, _, _, kcX2, by decide, "KitchenWheels$Kitchen", kw_in 147 (by decide +kernel) rfl, Or.inl rfl⟩

theorem gfX2_20 : kw_gok RX2 20 [2] 2 := by
  intro ci h
  simp only [List.mem_cons, List.not_mem_nil, or_false] at h
  subst h
  exact ⟨_, _, _, kcX2, by decide, "KitchenWheels$Kitchen", kw_in 133 (by decide +kernel) rfl, Or.inl rfl⟩

theorem gfX3_7 : kw_gok RX3 7 [3, 5] 1 := by
  intro ci h
  simp only [List.mem_cons, List.not_mem_nil, or_false] at h
  rcases h with rfl | rfl
  · exact ⟨_, _, _, kcX3, by decide, "KitchenWheels$Law", kw_in 404 (by decide +kernel) rfl, Or.inr (kw_in 405 (by decide +kernel) rfl)⟩
  · exact ⟨_, _, _, kcX5, by decide, "KitchenWheels$Law", kw_in 404 (by decide +kernel) rfl, Or.inr (kw_in 405 (by decide +kernel) rfl)⟩

theorem cbX5_howFar_X11_rest : kw_cb mX5_howFar mX11_rest 2 := ⟨cdX11_rest, in_X11, ⟨by decide +kernel, by decide +kernel, by decide +kernel⟩, by decide, by decide⟩
theorem lnX5_7 : lw_tbl[543]? = some (.methodLinkNest RX5 7 yX11_rest "KitchenWheels") := by decide +kernel
theorem smX3_howFar : Cond.sameMethod RX3 RX3 "howFar" "(I)I" ∈ kw_T := kw_in 1369 (by decide +kernel) rfl
theorem suX5_X3 : Cond.superclass RX5 RX3 ∈ kw_T := kw_in 450 (by decide +kernel) rfl
theorem cdX3_howFar : Cond.code mX3_howFar.1 mX3_howFar.2.1 mX3_howFar.2.2.1 mX3_howFar.2.2.2.1 ∈ kw_T := kw_in 536 (by decide +kernel) rfl
theorem in_X3 : Cond.initialized RX3 ∈ kw_T := kw_in 79 (by decide +kernel) rfl
theorem cbX5_howFar_X3_howFar : kw_cb mX5_howFar mX3_howFar 1 := ⟨cdX3_howFar, in_X3, ⟨by decide +kernel, by decide +kernel, by decide +kernel⟩, by decide, by decide⟩
theorem lkX5_13 : Cond.methodLink RX5 13 yX3_howFar ∈ kw_T := kw_in 544 (by decide +kernel) rfl
theorem imX3_howFar : Cond.instanceMethod yX3_howFar ∈ kw_T := kw_in 535 (by decide +kernel) rfl
theorem gfX7_7 : kw_gok RX7 7 [7] 1 := by
  intro ci h
  simp only [List.mem_cons, List.not_mem_nil, or_false] at h
  subst h
  exact ⟨_, _, _, kcX7, by decide, "KitchenWheels$Step", kw_in 402 (by decide +kernel) rfl, Or.inr (kw_in 403 (by decide +kernel) rfl)⟩

theorem cbX2_turnedNext_X11_rest : kw_cb mX2_turnedNext mX11_rest 2 := ⟨cdX11_rest, in_X11, ⟨by decide +kernel, by decide +kernel, by decide +kernel⟩, by decide, by decide⟩
theorem cdX2_turnerAt : Cond.code mX2_turnerAt.1 mX2_turnerAt.2.1 mX2_turnerAt.2.2.1 mX2_turnerAt.2.2.2.1 ∈ kw_T := kw_in 526 (by decide +kernel) rfl
theorem cbX2_turnedNext_X2_turnerAt : kw_cb mX2_turnedNext mX2_turnerAt 1 := ⟨cdX2_turnerAt, in_X2, ⟨by decide +kernel, by decide +kernel, by decide +kernel⟩, by decide, by decide⟩
theorem lkX2_85 : Cond.methodLink RX2 85 yX2_turnerAt ∈ kw_T := kw_in 523 (by decide +kernel) rfl
theorem imX2_turnerAt : Cond.instanceMethod yX2_turnerAt ∈ kw_T := kw_in 524 (by decide +kernel) rfl
theorem seX2_X2_turnerAt_X2_turnerAt : Cond.selects RX2 yX2_turnerAt yX2_turnerAt ∈ kw_T := kw_in 525 (by decide +kernel) rfl
theorem sMX2_89 : Cond.sameMethod "KitchenWheels$Turner" "KitchenWheels$Turner" "howFar" "(I)I" ∈ kw_T := kw_in 529 (by decide +kernel) rfl
theorem cdX0_howFar : Cond.code mX0_howFar.1 mX0_howFar.2.1 mX0_howFar.2.2.1 mX0_howFar.2.2.2.1 ∈ kw_T := kw_in 532 (by decide +kernel) rfl
theorem in_X0 : Cond.initialized RX0 ∈ kw_T := kw_in 78 (by decide +kernel) rfl
theorem cbX2_turnedNext_X0_howFar : kw_cb mX2_turnedNext mX0_howFar 1 := ⟨cdX0_howFar, in_X0, ⟨by decide +kernel, by decide +kernel, by decide +kernel⟩, by decide, by decide⟩
theorem lkX2_89 : Cond.methodLink RX2 89 ⟨"KitchenWheels$Turner", "howFar", "(I)I"⟩ ∈ kw_T := kw_in 527 (by decide +kernel) rfl
theorem imX0_howFar : Cond.instanceMethod yX0_howFar ∈ kw_T := kw_in 531 (by decide +kernel) rfl
theorem seX0_howFar_X0_howFar : Cond.selects RX0 ⟨"KitchenWheels$Turner", "howFar", "(I)I"⟩ yX0_howFar ∈ kw_T := kw_in 530 (by decide +kernel) rfl
theorem cbX2_turnedNext_X3_howFar : kw_cb mX2_turnedNext mX3_howFar 1 := ⟨cdX3_howFar, in_X3, ⟨by decide +kernel, by decide +kernel, by decide +kernel⟩, by decide, by decide⟩
theorem seX3_howFar_X3_howFar : Cond.selects RX3 ⟨"KitchenWheels$Turner", "howFar", "(I)I"⟩ yX3_howFar ∈ kw_T := kw_in 534 (by decide +kernel) rfl
theorem cdX4_howFar : Cond.code mX4_howFar.1 mX4_howFar.2.1 mX4_howFar.2.2.1 mX4_howFar.2.2.2.1 ∈ kw_T := kw_in 539 (by decide +kernel) rfl
theorem cbX2_turnedNext_X4_howFar : kw_cb mX2_turnedNext mX4_howFar 1 := ⟨cdX4_howFar, in_X4, ⟨by decide +kernel, by decide +kernel, by decide +kernel⟩, by decide, by decide⟩
theorem imX4_howFar : Cond.instanceMethod yX4_howFar ∈ kw_T := kw_in 538 (by decide +kernel) rfl
theorem seX4_howFar_X4_howFar : Cond.selects RX4 ⟨"KitchenWheels$Turner", "howFar", "(I)I"⟩ yX4_howFar ∈ kw_T := kw_in 537 (by decide +kernel) rfl
theorem cdX5_howFar : Cond.code mX5_howFar.1 mX5_howFar.2.1 mX5_howFar.2.2.1 mX5_howFar.2.2.2.1 ∈ kw_T := kw_in 542 (by decide +kernel) rfl
theorem in_X5 : Cond.initialized RX5 ∈ kw_T := kw_in 80 (by decide +kernel) rfl
theorem cbX2_turnedNext_X5_howFar : kw_cb mX2_turnedNext mX5_howFar 1 := ⟨cdX5_howFar, in_X5, ⟨by decide +kernel, by decide +kernel, by decide +kernel⟩, by decide, by decide⟩
theorem imX5_howFar : Cond.instanceMethod yX5_howFar ∈ kw_T := kw_in 541 (by decide +kernel) rfl
theorem seX5_howFar_X5_howFar : Cond.selects RX5 ⟨"KitchenWheels$Turner", "howFar", "(I)I"⟩ yX5_howFar ∈ kw_T := kw_in 540 (by decide +kernel) rfl
theorem cdX7_howFar : Cond.code mX7_howFar.1 mX7_howFar.2.1 mX7_howFar.2.2.1 mX7_howFar.2.2.2.1 ∈ kw_T := kw_in 547 (by decide +kernel) rfl
theorem in_X7 : Cond.initialized RX7 ∈ kw_T := kw_in 77 (by decide +kernel) rfl
theorem cbX2_turnedNext_X7_howFar : kw_cb mX2_turnedNext mX7_howFar 1 := ⟨cdX7_howFar, in_X7, ⟨by decide +kernel, by decide +kernel, by decide +kernel⟩, by decide, by decide⟩
theorem imX7_howFar : Cond.instanceMethod yX7_howFar ∈ kw_T := kw_in 546 (by decide +kernel) rfl
theorem seX7_howFar_X7_howFar : Cond.selects RX7 ⟨"KitchenWheels$Turner", "howFar", "(I)I"⟩ yX7_howFar ∈ kw_T := kw_in 545 (by decide +kernel) rfl
theorem gfX1_29 : kw_gok RX1 29 [2] 8 := by
  intro ci h
  simp only [List.mem_cons, List.not_mem_nil, or_false] at h
  subst h
  exact ⟨_, _, _, kcX2, by decide, "KitchenWheels$Kitchen", kw_in 153 (by decide +kernel) rfl, Or.inl rfl⟩

theorem gfX1_33 : kw_gok RX1 33 [2] 4 := by
  intro ci h
  simp only [List.mem_cons, List.not_mem_nil, or_false] at h
  subst h
  exact ⟨_, _, _, kcX2, by decide, "KitchenWheels$Kitchen", kw_in 139 (by decide +kernel) rfl, Or.inl rfl⟩

theorem gfX1_48 : kw_gok RX1 48 [2] 7 := by
  intro ci h
  simp only [List.mem_cons, List.not_mem_nil, or_false] at h
  subst h
  exact ⟨_, _, _, kcX2, by decide, "KitchenWheels$Kitchen", kw_in 150 (by decide +kernel) rfl, Or.inl rfl⟩

theorem cdX2_turnedNext : Cond.code mX2_turnedNext.1 mX2_turnedNext.2.1 mX2_turnedNext.2.2.1 mX2_turnedNext.2.2.2.1 ∈ kw_T := kw_in 522 (by decide +kernel) rfl
theorem cbX1_timesIn_X2_turnedNext : kw_cb mX1_timesIn mX2_turnedNext 2 := ⟨cdX2_turnedNext, in_X2, ⟨by decide +kernel, by decide +kernel, by decide +kernel⟩, by decide, by decide⟩
theorem lkX1_51 : Cond.methodLink RX1 51 yX2_turnedNext ∈ kw_T := kw_in 622 (by decide +kernel) rfl
theorem imX2_turnedNext : Cond.instanceMethod yX2_turnedNext ∈ kw_T := kw_in 520 (by decide +kernel) rfl
theorem seX2_X2_turnedNext_X2_turnedNext : Cond.selects RX2 yX2_turnedNext yX2_turnedNext ∈ kw_T := kw_in 521 (by decide +kernel) rfl
theorem cbX1_timesIn_X2_jobHad : kw_cb mX1_timesIn mX2_jobHad 2 := ⟨cdX2_jobHad, in_X2, ⟨by decide +kernel, by decide +kernel, by decide +kernel⟩, by decide, by decide⟩
theorem lkX1_36 : Cond.methodLink RX1 36 yX2_jobHad ∈ kw_T := kw_in 619 (by decide +kernel) rfl
theorem cdX2_awayBehind : Cond.code mX2_awayBehind.1 mX2_awayBehind.2.1 mX2_awayBehind.2.2.1 mX2_awayBehind.2.2.2.1 ∈ kw_T := kw_in 598 (by decide +kernel) rfl
theorem cbX1_timesIn_X2_awayBehind : kw_cb mX1_timesIn mX2_awayBehind 1 := ⟨cdX2_awayBehind, in_X2, ⟨by decide +kernel, by decide +kernel, by decide +kernel⟩, by decide, by decide⟩
theorem lkX1_40 : Cond.methodLink RX1 40 yX2_awayBehind ∈ kw_T := kw_in 620 (by decide +kernel) rfl
theorem imX2_awayBehind : Cond.instanceMethod yX2_awayBehind ∈ kw_T := kw_in 596 (by decide +kernel) rfl
theorem seX2_X2_awayBehind_X2_awayBehind : Cond.selects RX2 yX2_awayBehind yX2_awayBehind ∈ kw_T := kw_in 597 (by decide +kernel) rfl
theorem cdX2_doerIn : Cond.code mX2_doerIn.1 mX2_doerIn.2.1 mX2_doerIn.2.2.1 mX2_doerIn.2.2.2.1 ∈ kw_T := kw_in 496 (by decide +kernel) rfl
theorem cbX1_timesIn_X2_doerIn : kw_cb mX1_timesIn mX2_doerIn 3 := ⟨cdX2_doerIn, in_X2, ⟨by decide +kernel, by decide +kernel, by decide +kernel⟩, by decide, by decide⟩
theorem lkX1_44 : Cond.methodLink RX1 44 yX2_doerIn ∈ kw_T := kw_in 621 (by decide +kernel) rfl
theorem imX2_doerIn : Cond.instanceMethod yX2_doerIn ∈ kw_T := kw_in 494 (by decide +kernel) rfl
theorem seX2_X2_doerIn_X2_doerIn : Cond.selects RX2 yX2_doerIn yX2_doerIn ∈ kw_T := kw_in 495 (by decide +kernel) rfl
theorem cbX2_doersOf_X2_jobHad : kw_cb mX2_doersOf mX2_jobHad 2 := ⟨cdX2_jobHad, in_X2, ⟨by decide +kernel, by decide +kernel, by decide +kernel⟩, by decide, by decide⟩
theorem cbX2_doersOf_X2_doerIn : kw_cb mX2_doersOf mX2_doerIn 3 := ⟨cdX2_doerIn, in_X2, ⟨by decide +kernel, by decide +kernel, by decide +kernel⟩, by decide, by decide⟩
theorem lkX2_71 : Cond.methodLink RX2 71 yX2_doerIn ∈ kw_T := kw_in 493 (by decide +kernel) rfl
theorem ckX1_61 : Cond.constant RX1 61 (-1000000) ∈ kw_T := kw_in 633 (by decide +kernel) rfl
theorem cbX1_firstMeeting_X2_awayBehind : kw_cb mX1_firstMeeting mX2_awayBehind 1 := ⟨cdX2_awayBehind, in_X2, ⟨by decide +kernel, by decide +kernel, by decide +kernel⟩, by decide, by decide⟩
theorem cdX2_doersOf : Cond.code mX2_doersOf.1 mX2_doersOf.2.1 mX2_doersOf.2.2.1 mX2_doersOf.2.2.2.1 ∈ kw_T := kw_in 610 (by decide +kernel) rfl
theorem cbX1_firstMeeting_X2_doersOf : kw_cb mX1_firstMeeting mX2_doersOf 3 := ⟨cdX2_doersOf, in_X2, ⟨by decide +kernel, by decide +kernel, by decide +kernel⟩, by decide, by decide⟩
theorem lkX1_54 : Cond.methodLink RX1 54 yX2_doersOf ∈ kw_T := kw_in 631 (by decide +kernel) rfl
theorem imX2_doersOf : Cond.instanceMethod yX2_doersOf ∈ kw_T := kw_in 608 (by decide +kernel) rfl
theorem seX2_X2_doersOf_X2_doersOf : Cond.selects RX2 yX2_doersOf yX2_doersOf ∈ kw_T := kw_in 609 (by decide +kernel) rfl
theorem cbX1_firstMeeting_X11_holds : kw_cb mX1_firstMeeting mX11_holds 2 := ⟨cdX11_holds, in_X11, ⟨by decide +kernel, by decide +kernel, by decide +kernel⟩, by decide, by decide⟩
theorem lnX1_57 : lw_tbl[632]? = some (.methodLinkNest RX1 57 yX11_holds "KitchenWheels") := by decide +kernel
theorem cbX1_firstMeeting_X2_turnedNext : kw_cb mX1_firstMeeting mX2_turnedNext 2 := ⟨cdX2_turnedNext, in_X2, ⟨by decide +kernel, by decide +kernel, by decide +kernel⟩, by decide, by decide⟩
theorem cbX2_jobsOf_X2_doerIn : kw_cb mX2_jobsOf mX2_doerIn 3 := ⟨cdX2_doerIn, in_X2, ⟨by decide +kernel, by decide +kernel, by decide +kernel⟩, by decide, by decide⟩
theorem cbX2_jobsOf_X2_jobHad : kw_cb mX2_jobsOf mX2_jobHad 2 := ⟨cdX2_jobHad, in_X2, ⟨by decide +kernel, by decide +kernel, by decide +kernel⟩, by decide, by decide⟩
theorem cdX2_bitsOf : Cond.code mX2_bitsOf.1 mX2_bitsOf.2.1 mX2_bitsOf.2.2.1 mX2_bitsOf.2.2.2.1 ∈ kw_T := kw_in 648 (by decide +kernel) rfl
theorem cbX2_jobsOnIt_X2_bitsOf : kw_cb mX2_jobsOnIt mX2_bitsOf 2 := ⟨cdX2_bitsOf, in_X2, ⟨by decide +kernel, by decide +kernel, by decide +kernel⟩, by decide, by decide⟩
theorem lkX2_92 : Cond.methodLink RX2 92 yX2_bitsOf ∈ kw_T := kw_in 646 (by decide +kernel) rfl
theorem stX2_bitsOf : Cond.static yX2_bitsOf ∈ kw_T := kw_in 647 (by decide +kernel) rfl
theorem cbX2_peopleOnIt_X2_bitsOf : kw_cb mX2_peopleOnIt mX2_bitsOf 2 := ⟨cdX2_bitsOf, in_X2, ⟨by decide +kernel, by decide +kernel, by decide +kernel⟩, by decide, by decide⟩
theorem cdX2_peopleOnIt : Cond.code mX2_peopleOnIt.1 mX2_peopleOnIt.2.1 mX2_peopleOnIt.2.2.1 mX2_peopleOnIt.2.2.2.1 ∈ kw_T := kw_in 645 (by decide +kernel) rfl
theorem cbX1_weeksUntilAllMet_X2_peopleOnIt : kw_cb mX1_weeksUntilAllMet mX2_peopleOnIt 0 := ⟨cdX2_peopleOnIt, in_X2, ⟨by decide +kernel, by decide +kernel, by decide +kernel⟩, by decide, by decide⟩
theorem lkX1_62 : Cond.methodLink RX1 62 yX2_peopleOnIt ∈ kw_T := kw_in 642 (by decide +kernel) rfl
theorem imX2_peopleOnIt : Cond.instanceMethod yX2_peopleOnIt ∈ kw_T := kw_in 643 (by decide +kernel) rfl
theorem seX2_X2_peopleOnIt_X2_peopleOnIt : Cond.selects RX2 yX2_peopleOnIt yX2_peopleOnIt ∈ kw_T := kw_in 644 (by decide +kernel) rfl
theorem cdX2_jobsOnIt : Cond.code mX2_jobsOnIt.1 mX2_jobsOnIt.2.1 mX2_jobsOnIt.2.2.1 mX2_jobsOnIt.2.2.2.1 ∈ kw_T := kw_in 652 (by decide +kernel) rfl
theorem cbX1_weeksUntilAllMet_X2_jobsOnIt : kw_cb mX1_weeksUntilAllMet mX2_jobsOnIt 0 := ⟨cdX2_jobsOnIt, in_X2, ⟨by decide +kernel, by decide +kernel, by decide +kernel⟩, by decide, by decide⟩
theorem lkX1_66 : Cond.methodLink RX1 66 yX2_jobsOnIt ∈ kw_T := kw_in 649 (by decide +kernel) rfl
theorem imX2_jobsOnIt : Cond.instanceMethod yX2_jobsOnIt ∈ kw_T := kw_in 650 (by decide +kernel) rfl
theorem seX2_X2_jobsOnIt_X2_jobsOnIt : Cond.selects RX2 yX2_jobsOnIt yX2_jobsOnIt ∈ kw_T := kw_in 651 (by decide +kernel) rfl
theorem gfX1_18 : kw_gok RX1 18 [1] 1 := by
  intro ci h
  simp only [List.mem_cons, List.not_mem_nil, or_false] at h
  subst h
  exact ⟨_, _, _, kcX1, by decide, "KitchenWheels$Foreteller", kw_in 210 (by decide +kernel) rfl, Or.inl rfl⟩

theorem cdJ7_fill_53178 : Cond.code mJ7_fill_53178.1 mJ7_fill_53178.2.1 mJ7_fill_53178.2.2.1 mJ7_fill_53178.2.2.2.1 ∈ kw_T := kw_in 100 (by decide +kernel) rfl
theorem in_J7 : Cond.initialized RJ7 ∈ kw_T := kw_in 67 (by decide +kernel) rfl
theorem cbX1_weeksUntilAllMet_J7_fill_53178 : kw_cb mX1_weeksUntilAllMet mJ7_fill_53178 2 := ⟨cdJ7_fill_53178, in_J7, ⟨by decide +kernel, by decide +kernel, by decide +kernel⟩, by decide, by decide⟩
theorem lkX1_69 : Cond.methodLink RX1 69 yJ7_fill_53178 ∈ kw_T := kw_in 653 (by decide +kernel) rfl
theorem stJ7_fill_53178 : Cond.static yJ7_fill_53178 ∈ kw_T := kw_in 99 (by decide +kernel) rfl
theorem cbX1_weeksUntilAllMet_X2_turnedNext : kw_cb mX1_weeksUntilAllMet mX2_turnedNext 2 := ⟨cdX2_turnedNext, in_X2, ⟨by decide +kernel, by decide +kernel, by decide +kernel⟩, by decide, by decide⟩
theorem cbX1_weeksUntilAllMet_X2_awayBehind : kw_cb mX1_weeksUntilAllMet mX2_awayBehind 1 := ⟨cdX2_awayBehind, in_X2, ⟨by decide +kernel, by decide +kernel, by decide +kernel⟩, by decide, by decide⟩
theorem cdX2_jobsOf : Cond.code mX2_jobsOf.1 mX2_jobsOf.2.1 mX2_jobsOf.2.2.1 mX2_jobsOf.2.2.2.1 ∈ kw_T := kw_in 602 (by decide +kernel) rfl
theorem cbX1_weeksUntilAllMet_X2_jobsOf : kw_cb mX1_weeksUntilAllMet mX2_jobsOf 3 := ⟨cdX2_jobsOf, in_X2, ⟨by decide +kernel, by decide +kernel, by decide +kernel⟩, by decide, by decide⟩
theorem lkX1_75 : Cond.methodLink RX1 75 yX2_jobsOf ∈ kw_T := kw_in 654 (by decide +kernel) rfl
theorem imX2_jobsOf : Cond.instanceMethod yX2_jobsOf ∈ kw_T := kw_in 600 (by decide +kernel) rfl
theorem seX2_X2_jobsOf_X2_jobsOf : Cond.selects RX2 yX2_jobsOf yX2_jobsOf ∈ kw_T := kw_in 601 (by decide +kernel) rfl
theorem cbX1_weeksUntilAllMet_X11_holds : kw_cb mX1_weeksUntilAllMet mX11_holds 2 := ⟨cdX11_holds, in_X11, ⟨by decide +kernel, by decide +kernel, by decide +kernel⟩, by decide, by decide⟩
theorem cbX1_weeksUntilAnew_X2_turnedNext : kw_cb mX1_weeksUntilAnew mX2_turnedNext 2 := ⟨cdX2_turnedNext, in_X2, ⟨by decide +kernel, by decide +kernel, by decide +kernel⟩, by decide, by decide⟩
theorem gfX1_78 : kw_gok RX1 78 [2] 6 := by
  intro ci h
  simp only [List.mem_cons, List.not_mem_nil, or_false] at h
  subst h
  exact ⟨_, _, _, kcX2, by decide, "KitchenWheels$Kitchen", kw_in 148 (by decide +kernel) rfl, Or.inl rfl⟩

theorem cbX1_weeksUntilAnew_X11_rest : kw_cb mX1_weeksUntilAnew mX11_rest 2 := ⟨cdX11_rest, in_X11, ⟨by decide +kernel, by decide +kernel, by decide +kernel⟩, by decide, by decide⟩
theorem lnX1_81 : lw_tbl[663]? = some (.methodLinkNest RX1 81 yX11_rest "KitchenWheels") := by decide +kernel
theorem cdX11_within : Cond.code mX11_within.1 mX11_within.2.1 mX11_within.2.2.1 mX11_within.2.2.2.1 ∈ kw_T := kw_in 281 (by decide +kernel) rfl
theorem cbX11_isPerson_X11_within : kw_cb mX11_isPerson mX11_within 3 := ⟨cdX11_within, in_X11, ⟨by decide +kernel, by decide +kernel, by decide +kernel⟩, by decide, by decide⟩
theorem lkX11_55 : Cond.methodLink RX11 55 yX11_within ∈ kw_T := kw_in 282 (by decide +kernel) rfl
theorem stX11_within : Cond.static yX11_within ∈ kw_T := kw_in 280 (by decide +kernel) rfl
theorem cbX1_countWeek_X2_doerIn : kw_cb mX1_countWeek mX2_doerIn 3 := ⟨cdX2_doerIn, in_X2, ⟨by decide +kernel, by decide +kernel, by decide +kernel⟩, by decide, by decide⟩
theorem cdX11_isPerson : Cond.code mX11_isPerson.1 mX11_isPerson.2.1 mX11_isPerson.2.2.1 mX11_isPerson.2.2.2.1 ∈ kw_T := kw_in 515 (by decide +kernel) rfl
theorem cbX1_countWeek_X11_isPerson : kw_cb mX1_countWeek mX11_isPerson 1 := ⟨cdX11_isPerson, in_X11, ⟨by decide +kernel, by decide +kernel, by decide +kernel⟩, by decide, by decide⟩
theorem lnX1_95 : lw_tbl[680]? = some (.methodLinkNest RX1 95 yX11_isPerson "KitchenWheels") := by decide +kernel
theorem stX11_isPerson : Cond.static yX11_isPerson ∈ kw_T := kw_in 514 (by decide +kernel) rfl
theorem ckX1_99 : Cond.constant RX1 99 1000000 ∈ kw_T := kw_in 685 (by decide +kernel) rfl
theorem cbX1_spreadOver_X11_holds : kw_cb mX1_spreadOver mX11_holds 2 := ⟨cdX11_holds, in_X11, ⟨by decide +kernel, by decide +kernel, by decide +kernel⟩, by decide, by decide⟩
theorem lkX1_100 : Cond.methodLink RX1 100 Lib.Math.max.name ∈ kw_T := kw_in 686 (by decide +kernel) rfl
theorem st_max : Cond.static Lib.Math.max.name ∈ kw_T := kw_in 687 (by decide +kernel) rfl
theorem in_J9 : Cond.initialized "java/lang/Math" ∈ kw_T := kw_in 73 (by decide +kernel) rfl
theorem cd_max : Cond.code Lib.Math.max.name Lib.Math.max.code 2 (some .int) ∈ kw_T := kw_in 688 (by decide +kernel) rfl
theorem lkX1_105 : Cond.methodLink RX1 105 Lib.Math.min.name ∈ kw_T := kw_in 689 (by decide +kernel) rfl
theorem st_min : Cond.static Lib.Math.min.name ∈ kw_T := kw_in 311 (by decide +kernel) rfl
theorem cd_min : Cond.code Lib.Math.min.name Lib.Math.min.code 2 (some .int) ∈ kw_T := kw_in 312 (by decide +kernel) rfl
theorem cbX1_spreadTurnedBy_J7_fill_53178 : kw_cb mX1_spreadTurnedBy mJ7_fill_53178 2 := ⟨cdJ7_fill_53178, in_J7, ⟨by decide +kernel, by decide +kernel, by decide +kernel⟩, by decide, by decide⟩
theorem cbX1_spreadTurnedBy_X2_peopleOnIt : kw_cb mX1_spreadTurnedBy mX2_peopleOnIt 0 := ⟨cdX2_peopleOnIt, in_X2, ⟨by decide +kernel, by decide +kernel, by decide +kernel⟩, by decide, by decide⟩
theorem cdX1_spreadOver : Cond.code mX1_spreadOver.1 mX1_spreadOver.2.1 mX1_spreadOver.2.2.1 mX1_spreadOver.2.2.2.1 ∈ kw_T := kw_in 684 (by decide +kernel) rfl
theorem in_X1 : Cond.initialized RX1 ∈ kw_T := kw_in 70 (by decide +kernel) rfl
theorem cbX1_spreadTurnedBy_X1_spreadOver : kw_cb mX1_spreadTurnedBy mX1_spreadOver 1 := ⟨cdX1_spreadOver, in_X1, ⟨by decide +kernel, by decide +kernel, by decide +kernel⟩, by decide, by decide⟩
theorem lkX1_92 : Cond.methodLink RX1 92 yX1_spreadOver ∈ kw_T := kw_in 681 (by decide +kernel) rfl
theorem imX1_spreadOver : Cond.instanceMethod yX1_spreadOver ∈ kw_T := kw_in 683 (by decide +kernel) rfl
theorem seX1_X1_spreadOver_X1_spreadOver : Cond.selects RX1 yX1_spreadOver yX1_spreadOver ∈ kw_T := kw_in 14 (by decide +kernel) rfl
theorem cdX1_countWeek : Cond.code mX1_countWeek.1 mX1_countWeek.2.1 mX1_countWeek.2.2.1 mX1_countWeek.2.2.2.1 ∈ kw_T := kw_in 679 (by decide +kernel) rfl
theorem cbX1_spreadTurnedBy_X1_countWeek : kw_cb mX1_spreadTurnedBy mX1_countWeek 3 := ⟨cdX1_countWeek, in_X1, ⟨by decide +kernel, by decide +kernel, by decide +kernel⟩, by decide, by decide⟩
theorem lkX1_88 : Cond.methodLink RX1 88 yX1_countWeek ∈ kw_T := kw_in 676 (by decide +kernel) rfl
theorem imX1_countWeek : Cond.instanceMethod yX1_countWeek ∈ kw_T := kw_in 678 (by decide +kernel) rfl
theorem seX1_X1_countWeek_X1_countWeek : Cond.selects RX1 yX1_countWeek yX1_countWeek ∈ kw_T := kw_in 13 (by decide +kernel) rfl
theorem cdX1_spreadTurnedBy : Cond.code mX1_spreadTurnedBy.1 mX1_spreadTurnedBy.2.1 mX1_spreadTurnedBy.2.2.1 mX1_spreadTurnedBy.2.2.2.1 ∈ kw_T := kw_in 675 (by decide +kernel) rfl
theorem cbX1_fairestTurn_X1_spreadTurnedBy : kw_cb mX1_fairestTurn mX1_spreadTurnedBy 3 := ⟨cdX1_spreadTurnedBy, in_X1, ⟨by decide +kernel, by decide +kernel, by decide +kernel⟩, by decide, by decide⟩
theorem lkX1_84 : Cond.methodLink RX1 84 yX1_spreadTurnedBy ∈ kw_T := kw_in 672 (by decide +kernel) rfl
theorem imX1_spreadTurnedBy : Cond.instanceMethod yX1_spreadTurnedBy ∈ kw_T := kw_in 673 (by decide +kernel) rfl
theorem seX1_X1_spreadTurnedBy_X1_spreadTurnedBy : Cond.selects RX1 yX1_spreadTurnedBy yX1_spreadTurnedBy ∈ kw_T := kw_in 674 (by decide +kernel) rfl
theorem cbX1_spreadAsTurned_J7_fill_53178 : kw_cb mX1_spreadAsTurned mJ7_fill_53178 2 := ⟨cdJ7_fill_53178, in_J7, ⟨by decide +kernel, by decide +kernel, by decide +kernel⟩, by decide, by decide⟩
theorem cbX1_spreadAsTurned_X2_peopleOnIt : kw_cb mX1_spreadAsTurned mX2_peopleOnIt 0 := ⟨cdX2_peopleOnIt, in_X2, ⟨by decide +kernel, by decide +kernel, by decide +kernel⟩, by decide, by decide⟩
theorem cbX1_spreadAsTurned_X1_spreadOver : kw_cb mX1_spreadAsTurned mX1_spreadOver 1 := ⟨cdX1_spreadOver, in_X1, ⟨by decide +kernel, by decide +kernel, by decide +kernel⟩, by decide, by decide⟩
theorem cbX1_spreadAsTurned_X2_awayBehind : kw_cb mX1_spreadAsTurned mX2_awayBehind 1 := ⟨cdX2_awayBehind, in_X2, ⟨by decide +kernel, by decide +kernel, by decide +kernel⟩, by decide, by decide⟩
theorem cbX1_spreadAsTurned_X1_countWeek : kw_cb mX1_spreadAsTurned mX1_countWeek 3 := ⟨cdX1_countWeek, in_X1, ⟨by decide +kernel, by decide +kernel, by decide +kernel⟩, by decide, by decide⟩
theorem cbX1_spreadAsTurned_X2_turnedNext : kw_cb mX1_spreadAsTurned mX2_turnedNext 2 := ⟨cdX2_turnedNext, in_X2, ⟨by decide +kernel, by decide +kernel, by decide +kernel⟩, by decide, by decide⟩
theorem cbX1_swapNames_X11_within : kw_cb mX1_swapNames mX11_within 3 := ⟨cdX11_within, in_X11, ⟨by decide +kernel, by decide +kernel, by decide +kernel⟩, by decide, by decide⟩
theorem lnX1_119 : lw_tbl[714]? = some (.methodLinkNest RX1 119 yX11_within "KitchenWheels") := by decide +kernel
theorem gfX1_12 : kw_gok RX1 12 [1] 0 := by
  intro ci h
  simp only [List.mem_cons, List.not_mem_nil, or_false] at h
  subst h
  exact ⟨_, _, _, kcX1, by decide, "KitchenWheels$Foreteller", kw_in 209 (by decide +kernel) rfl, Or.inl rfl⟩

theorem gfX1_123 : kw_gok RX1 123 [2] 0 := by
  intro ci h
  simp only [List.mem_cons, List.not_mem_nil, or_false] at h
  subst h
  exact ⟨_, _, _, kcX2, by decide, "KitchenWheels$Kitchen", kw_in 129 (by decide +kernel) rfl, Or.inl rfl⟩

theorem coX2_become_31 : kw_cok mX2_become 31 := ⟨kw_in 456 (by decide +kernel) rfl, kw_in 333 (by decide +kernel) rfl, kw_in 332 (by decide +kernel) rfl, kw_in 74 (by decide +kernel) rfl, by decide, by decide⟩
theorem gfX2_24 : kw_gok RX2 24 [2] 3 := by
  intro ci h
  simp only [List.mem_cons, List.not_mem_nil, or_false] at h
  subst h
  exact ⟨_, _, _, kcX2, by decide, "KitchenWheels$Kitchen", kw_in 136 (by decide +kernel) rfl, Or.inl rfl⟩

theorem pfX2_become_27 : kw_pok mX2_become 27 [2] 4 (.int) := by
  intro ci h
  simp only [List.mem_cons, List.not_mem_nil, or_false] at h
  subst h
  exact ⟨_, _, _, tyX2, kcX2, tyX2_ok, nmX2, by decide, ⟨"KitchenWheels$Kitchen", kw_in 138 (by decide +kernel) rfl, Or.inl rfl⟩, rfl, Or.inl rfl⟩

theorem pfX2_become_37 : kw_pok mX2_become 37 [2] 5 (.int) := by
  intro ci h
  simp only [List.mem_cons, List.not_mem_nil, or_false] at h
  subst h
  exact ⟨_, _, _, tyX2, kcX2, tyX2_ok, nmX2, by decide, ⟨"KitchenWheels$Kitchen", kw_in 143 (by decide +kernel) rfl, Or.inl rfl⟩, rfl, Or.inl rfl⟩

theorem pfX2_become_40 : kw_pok mX2_become 40 [2] 6 (.int) := by
  intro ci h
  simp only [List.mem_cons, List.not_mem_nil, or_false] at h
  subst h
  exact ⟨_, _, _, tyX2, kcX2, tyX2_ok, nmX2, by decide, ⟨"KitchenWheels$Kitchen", kw_in 147 (by decide +kernel) rfl, Or.inl rfl⟩, rfl, Or.inl rfl⟩

theorem gfX2_43 : kw_gok RX2 43 [2] 7 := by
  intro ci h
  simp only [List.mem_cons, List.not_mem_nil, or_false] at h
  subst h
  exact ⟨_, _, _, kcX2, by decide, "KitchenWheels$Kitchen", kw_in 151 (by decide +kernel) rfl, Or.inl rfl⟩

theorem pfX2_become_43 : kw_pok mX2_become 43 [2] 7 (.int) := by
  intro ci h
  simp only [List.mem_cons, List.not_mem_nil, or_false] at h
  subst h
  exact ⟨_, _, _, tyX2, kcX2, tyX2_ok, nmX2, by decide, ⟨"KitchenWheels$Kitchen", kw_in 151 (by decide +kernel) rfl, Or.inl rfl⟩, rfl, Or.inl rfl⟩

theorem gfX2_46 : kw_gok RX2 46 [2] 8 := by
  intro ci h
  simp only [List.mem_cons, List.not_mem_nil, or_false] at h
  subst h
  exact ⟨_, _, _, kcX2, by decide, "KitchenWheels$Kitchen", kw_in 154 (by decide +kernel) rfl, Or.inl rfl⟩

theorem pfX2_become_46 : kw_pok mX2_become 46 [2] 8 (.int) := by
  intro ci h
  simp only [List.mem_cons, List.not_mem_nil, or_false] at h
  subst h
  exact ⟨_, _, _, tyX2, kcX2, tyX2_ok, nmX2, by decide, ⟨"KitchenWheels$Kitchen", kw_in 154 (by decide +kernel) rfl, Or.inl rfl⟩, rfl, Or.inl rfl⟩

theorem pfX2_become_49 : kw_pok mX2_become 49 [2] 9 (.int) := by
  intro ci h
  simp only [List.mem_cons, List.not_mem_nil, or_false] at h
  subst h
  exact ⟨_, _, _, tyX2, kcX2, tyX2_ok, nmX2, by decide, ⟨"KitchenWheels$Kitchen", kw_in 156 (by decide +kernel) rfl, Or.inl rfl⟩, rfl, Or.inl rfl⟩

theorem ao3 : kw_aok 3 [0, 3, 4, 5, 7] := by
  refine ⟨"KitchenWheels$Turner", fun _ => rfl, fun ci h => ?_⟩
  simp only [List.mem_cons, List.not_mem_nil, or_false] at h
  rcases h with rfl | rfl | rfl | rfl | rfl
  · exact ⟨_, _, _, 1385, kcX0, Or.inr (by decide +kernel)⟩
  · exact ⟨_, _, _, 1386, kcX3, Or.inr (by decide +kernel)⟩
  · exact ⟨_, _, _, 1383, kcX4, Or.inr (by decide +kernel)⟩
  · exact ⟨_, _, _, 1387, kcX5, Or.inr (by decide +kernel)⟩
  · exact ⟨_, _, _, 1384, kcX7, Or.inr (by decide +kernel)⟩

theorem cbX2_turnedBehind_X2_turnedNext : kw_cb mX2_turnedBehind mX2_turnedNext 2 := ⟨cdX2_turnedNext, in_X2, ⟨by decide +kernel, by decide +kernel, by decide +kernel⟩, by decide, by decide⟩
theorem lkX2_82 : Cond.methodLink RX2 82 yX2_turnedNext ∈ kw_T := kw_in 519 (by decide +kernel) rfl
theorem cdX2_turnedBehind : Cond.code mX2_turnedBehind.1 mX2_turnedBehind.2.1 mX2_turnedBehind.2.2.1 mX2_turnedBehind.2.2.2.1 ∈ kw_T := kw_in 594 (by decide +kernel) rfl
theorem cbX1_swapFor_X2_turnedBehind : kw_cb mX1_swapFor mX2_turnedBehind 1 := ⟨cdX2_turnedBehind, in_X2, ⟨by decide +kernel, by decide +kernel, by decide +kernel⟩, by decide, by decide⟩
theorem lkX1_108 : Cond.methodLink RX1 108 yX2_turnedBehind ∈ kw_T := kw_in 708 (by decide +kernel) rfl
theorem imX2_turnedBehind : Cond.instanceMethod yX2_turnedBehind ∈ kw_T := kw_in 592 (by decide +kernel) rfl
theorem seX2_X2_turnedBehind_X2_turnedBehind : Cond.selects RX2 yX2_turnedBehind yX2_turnedBehind ∈ kw_T := kw_in 593 (by decide +kernel) rfl
theorem cbX1_swapFor_X2_awayBehind : kw_cb mX1_swapFor mX2_awayBehind 1 := ⟨cdX2_awayBehind, in_X2, ⟨by decide +kernel, by decide +kernel, by decide +kernel⟩, by decide, by decide⟩
theorem cbX1_swapFor_X2_doersOf : kw_cb mX1_swapFor mX2_doersOf 3 := ⟨cdX2_doersOf, in_X2, ⟨by decide +kernel, by decide +kernel, by decide +kernel⟩, by decide, by decide⟩
theorem cbX1_swapFor_X11_holds : kw_cb mX1_swapFor mX11_holds 2 := ⟨cdX11_holds, in_X11, ⟨by decide +kernel, by decide +kernel, by decide +kernel⟩, by decide, by decide⟩
theorem cdX2_become : Cond.code mX2_become.1 mX2_become.2.1 mX2_become.2.2.1 mX2_become.2.2.2.1 ∈ kw_T := kw_in 455 (by decide +kernel) rfl
theorem cbX1_swapFor_X2_become : kw_cb mX1_swapFor mX2_become 1 := ⟨cdX2_become, in_X2, ⟨by decide +kernel, by decide +kernel, by decide +kernel⟩, by decide, by decide⟩
theorem lkX1_111 : Cond.methodLink RX1 111 yX2_become ∈ kw_T := kw_in 709 (by decide +kernel) rfl
theorem imX2_become : Cond.instanceMethod yX2_become ∈ kw_T := kw_in 453 (by decide +kernel) rfl
theorem seX2_X2_become_X2_become : Cond.selects RX2 yX2_become yX2_become ∈ kw_T := kw_in 454 (by decide +kernel) rfl
theorem cdX1_swapNames : Cond.code mX1_swapNames.1 mX1_swapNames.2.1 mX1_swapNames.2.2.1 mX1_swapNames.2.2.2.1 ∈ kw_T := kw_in 713 (by decide +kernel) rfl
theorem cbX1_swapFor_X1_swapNames : kw_cb mX1_swapFor mX1_swapNames 2 := ⟨cdX1_swapNames, in_X1, ⟨by decide +kernel, by decide +kernel, by decide +kernel⟩, by decide, by decide⟩
theorem lkX1_115 : Cond.methodLink RX1 115 yX1_swapNames ∈ kw_T := kw_in 710 (by decide +kernel) rfl
theorem imX1_swapNames : Cond.instanceMethod yX1_swapNames ∈ kw_T := kw_in 712 (by decide +kernel) rfl
theorem seX1_X1_swapNames_X1_swapNames : Cond.selects RX1 yX1_swapNames yX1_swapNames ∈ kw_T := kw_in 15 (by decide +kernel) rfl
theorem ckX2_52 : Cond.constant RX2 52 (-1000000) ∈ kw_T := kw_in 727 (by decide +kernel) rfl
theorem cdX2_firstEmptySlot : Cond.code mX2_firstEmptySlot.1 mX2_firstEmptySlot.2.1 mX2_firstEmptySlot.2.2.1 mX2_firstEmptySlot.2.2.2.1 ∈ kw_T := kw_in 726 (by decide +kernel) rfl
theorem cbX1_nameToWrite_X2_firstEmptySlot : kw_cb mX1_nameToWrite mX2_firstEmptySlot 0 := ⟨cdX2_firstEmptySlot, in_X2, ⟨by decide +kernel, by decide +kernel, by decide +kernel⟩, by decide, by decide⟩
theorem lkX1_126 : Cond.methodLink RX1 126 yX2_firstEmptySlot ∈ kw_T := kw_in 723 (by decide +kernel) rfl
theorem imX2_firstEmptySlot : Cond.instanceMethod yX2_firstEmptySlot ∈ kw_T := kw_in 724 (by decide +kernel) rfl
theorem seX2_X2_firstEmptySlot_X2_firstEmptySlot : Cond.selects RX2 yX2_firstEmptySlot yX2_firstEmptySlot ∈ kw_T := kw_in 725 (by decide +kernel) rfl
theorem cbX1_nameToWrite_X11_within : kw_cb mX1_nameToWrite mX11_within 3 := ⟨cdX11_within, in_X11, ⟨by decide +kernel, by decide +kernel, by decide +kernel⟩, by decide, by decide⟩
theorem cbX1_nameToWrite_X2_become : kw_cb mX1_nameToWrite mX2_become 1 := ⟨cdX2_become, in_X2, ⟨by decide +kernel, by decide +kernel, by decide +kernel⟩, by decide, by decide⟩
theorem cdX1_spreadAsTurned : Cond.code mX1_spreadAsTurned.1 mX1_spreadAsTurned.2.1 mX1_spreadAsTurned.2.2.1 mX1_spreadAsTurned.2.2.2.1 ∈ kw_T := kw_in 731 (by decide +kernel) rfl
theorem cbX1_nameToWrite_X1_spreadAsTurned : kw_cb mX1_nameToWrite mX1_spreadAsTurned 2 := ⟨cdX1_spreadAsTurned, in_X1, ⟨by decide +kernel, by decide +kernel, by decide +kernel⟩, by decide, by decide⟩
theorem lkX1_129 : Cond.methodLink RX1 129 yX1_spreadAsTurned ∈ kw_T := kw_in 728 (by decide +kernel) rfl
theorem imX1_spreadAsTurned : Cond.instanceMethod yX1_spreadAsTurned ∈ kw_T := kw_in 730 (by decide +kernel) rfl
theorem seX1_X1_spreadAsTurned_X1_spreadAsTurned : Cond.selects RX1 yX1_spreadAsTurned yX1_spreadAsTurned ∈ kw_T := kw_in 16 (by decide +kernel) rfl
theorem cbX1_leastOf_X11_holds : kw_cb mX1_leastOf mX11_holds 2 := ⟨cdX11_holds, in_X11, ⟨by decide +kernel, by decide +kernel, by decide +kernel⟩, by decide, by decide⟩
theorem cbX6_isRow_X11_within : kw_cb mX6_isRow mX11_within 3 := ⟨cdX11_within, in_X11, ⟨by decide +kernel, by decide +kernel, by decide +kernel⟩, by decide, by decide⟩
theorem lnX6_29 : lw_tbl[279]? = some (.methodLinkNest RX6 29 yX11_within "KitchenWheels") := by decide +kernel
theorem cdX6_isRow : Cond.code mX6_isRow.1 mX6_isRow.2.1 mX6_isRow.2.2.1 mX6_isRow.2.2.2.1 ∈ kw_T := kw_in 278 (by decide +kernel) rfl
theorem in_X6 : Cond.initialized RX6 ∈ kw_T := kw_in 66 (by decide +kernel) rfl
theorem cbX6_isMissing_X6_isRow : kw_cb mX6_isMissing mX6_isRow 1 := ⟨cdX6_isRow, in_X6, ⟨by decide +kernel, by decide +kernel, by decide +kernel⟩, by decide, by decide⟩
theorem lkX6_33 : Cond.methodLink RX6 33 yX6_isRow ∈ kw_T := kw_in 293 (by decide +kernel) rfl
theorem stX6_isRow : Cond.static yX6_isRow ∈ kw_T := kw_in 277 (by decide +kernel) rfl
theorem kcX6 : kw_cls 6 RX6 TX6 3 := kw_cls_of rfl inX6
theorem gfX6_20 : kw_gok RX6 20 [6] 2 := by
  intro ci h
  simp only [List.mem_cons, List.not_mem_nil, or_false] at h
  subst h
  exact ⟨_, _, _, kcX6, by decide, "KitchenWheels$Rows", kw_in 103 (by decide +kernel) rfl, Or.inl rfl⟩

theorem cdX6_isMissing : Cond.code mX6_isMissing.1 mX6_isMissing.2.1 mX6_isMissing.2.2.1 mX6_isMissing.2.2.2.1 ∈ kw_T := kw_in 309 (by decide +kernel) rfl
theorem cbX6_findingAt_X6_isMissing : kw_cb mX6_findingAt mX6_isMissing 1 := ⟨cdX6_isMissing, in_X6, ⟨by decide +kernel, by decide +kernel, by decide +kernel⟩, by decide, by decide⟩
theorem lkX6_37 : Cond.methodLink RX6 37 yX6_isMissing ∈ kw_T := kw_in 306 (by decide +kernel) rfl
theorem imX6_isMissing : Cond.instanceMethod yX6_isMissing ∈ kw_T := kw_in 307 (by decide +kernel) rfl
theorem seX6_X6_isMissing_X6_isMissing : Cond.selects RX6 yX6_isMissing yX6_isMissing ∈ kw_T := kw_in 308 (by decide +kernel) rfl
theorem lkX6_40 : Cond.methodLink RX6 40 Lib.Math.min.name ∈ kw_T := kw_in 310 (by decide +kernel) rfl
theorem cdX6_findingAt : Cond.code mX6_findingAt.1 mX6_findingAt.2.1 mX6_findingAt.2.2.1 mX6_findingAt.2.2.2.1 ∈ kw_T := kw_in 305 (by decide +kernel) rfl
theorem cbX6_itemAt_X6_findingAt : kw_cb mX6_itemAt mX6_findingAt 3 := ⟨cdX6_findingAt, in_X6, ⟨by decide +kernel, by decide +kernel, by decide +kernel⟩, by decide, by decide⟩
theorem lkX6_46 : Cond.methodLink RX6 46 yX6_findingAt ∈ kw_T := kw_in 317 (by decide +kernel) rfl
theorem imX6_findingAt : Cond.instanceMethod yX6_findingAt ∈ kw_T := kw_in 303 (by decide +kernel) rfl
theorem seX6_X6_findingAt_X6_findingAt : Cond.selects RX6 yX6_findingAt yX6_findingAt ∈ kw_T := kw_in 304 (by decide +kernel) rfl
theorem gfX6_11 : kw_gok RX6 11 [6] 0 := by
  intro ci h
  simp only [List.mem_cons, List.not_mem_nil, or_false] at h
  subst h
  exact ⟨_, _, _, kcX6, by decide, "KitchenWheels$Rows", kw_in 101 (by decide +kernel) rfl, Or.inl rfl⟩

theorem gfX1_133 : kw_gok RX1 133 [2] 5 := by
  intro ci h
  simp only [List.mem_cons, List.not_mem_nil, or_false] at h
  subst h
  exact ⟨_, _, _, kcX2, by decide, "KitchenWheels$Kitchen", kw_in 145 (by decide +kernel) rfl, Or.inl rfl⟩

theorem cbX1_turnedSeen_X2_awayBehind : kw_cb mX1_turnedSeen mX2_awayBehind 1 := ⟨cdX2_awayBehind, in_X2, ⟨by decide +kernel, by decide +kernel, by decide +kernel⟩, by decide, by decide⟩
theorem cbX1_turnedSeen_X2_doersOf : kw_cb mX1_turnedSeen mX2_doersOf 3 := ⟨cdX2_doersOf, in_X2, ⟨by decide +kernel, by decide +kernel, by decide +kernel⟩, by decide, by decide⟩
theorem cdX1_leastOf : Cond.code mX1_leastOf.1 mX1_leastOf.2.1 mX1_leastOf.2.2.1 mX1_leastOf.2.2.2.1 ∈ kw_T := kw_in 742 (by decide +kernel) rfl
theorem cbX1_turnedSeen_X1_leastOf : kw_cb mX1_turnedSeen mX1_leastOf 1 := ⟨cdX1_leastOf, in_X1, ⟨by decide +kernel, by decide +kernel, by decide +kernel⟩, by decide, by decide⟩
theorem lkX1_136 : Cond.methodLink RX1 136 yX1_leastOf ∈ kw_T := kw_in 740 (by decide +kernel) rfl
theorem stX1_leastOf : Cond.static yX1_leastOf ∈ kw_T := kw_in 741 (by decide +kernel) rfl
theorem cdX6_itemAt : Cond.code mX6_itemAt.1 mX6_itemAt.2.1 mX6_itemAt.2.2.1 mX6_itemAt.2.2.2.1 ∈ kw_T := kw_in 746 (by decide +kernel) rfl
theorem cbX1_turnedSeen_X6_itemAt : kw_cb mX1_turnedSeen mX6_itemAt 2 := ⟨cdX6_itemAt, in_X6, ⟨by decide +kernel, by decide +kernel, by decide +kernel⟩, by decide, by decide⟩
theorem lkX1_139 : Cond.methodLink RX1 139 yX6_itemAt ∈ kw_T := kw_in 743 (by decide +kernel) rfl
theorem imX6_itemAt : Cond.instanceMethod yX6_itemAt ∈ kw_T := kw_in 744 (by decide +kernel) rfl
theorem seX6_X6_itemAt_X6_itemAt : Cond.selects RX6 yX6_itemAt yX6_itemAt ∈ kw_T := kw_in 745 (by decide +kernel) rfl
theorem cbX1_turnedSeen_X2_turnedNext : kw_cb mX1_turnedSeen mX2_turnedNext 2 := ⟨cdX2_turnedNext, in_X2, ⟨by decide +kernel, by decide +kernel, by decide +kernel⟩, by decide, by decide⟩
theorem cbX3_init_X10_init : kw_cb mX3_init mX10_init 2 := ⟨cdX10_init, in_X10, ⟨by decide +kernel, by decide +kernel, by decide +kernel⟩, by decide, by decide⟩
theorem lkX3_1 : Cond.methodLink RX3 1 yX10_init ∈ kw_T := kw_in 438 (by decide +kernel) rfl
theorem cdX3_init : Cond.code mX3_init.1 mX3_init.2.1 mX3_init.2.2.1 mX3_init.2.2.2.1 ∈ kw_T := kw_in 437 (by decide +kernel) rfl
theorem cbX5_init_X3_init : kw_cb mX5_init mX3_init 2 := ⟨cdX3_init, in_X3, ⟨by decide +kernel, by decide +kernel, by decide +kernel⟩, by decide, by decide⟩
theorem lkX5_1 : Cond.methodLink RX5 1 yX3_init ∈ kw_T := kw_in 447 (by decide +kernel) rfl
theorem imX3_init : Cond.instanceMethod yX3_init ∈ kw_T := kw_in 436 (by decide +kernel) rfl
theorem cbX7_init_X4_init : kw_cb mX7_init mX4_init 2 := ⟨cdX4_init, in_X4, ⟨by decide +kernel, by decide +kernel, by decide +kernel⟩, by decide, by decide⟩
theorem lkX7_1 : Cond.methodLink RX7 1 yX4_init ∈ kw_T := kw_in 420 (by decide +kernel) rfl
theorem clX10_16 : Cond.classLink RX10 16 RX4 ∈ kw_T := kw_in 390 (by decide +kernel) rfl
theorem iaX4 : Cond.instantiable RX4 2 ∈ kw_T := kw_in 391 (by decide +kernel) rfl
theorem dfX4 (G : kw_G) : ∀ j, j < 2 → defaultValue (tyX4 j) = vp_V (([.int 0, .int 0] : List Value).map (kw_v G.2.1)) j := by
  intro j hj
  rcases (show j = 0 ∨ j = 1 by omega) with rfl | rfl <;> rfl
theorem cbX10_made_X4_init : kw_cb mX10_made mX4_init 2 := ⟨cdX4_init, in_X4, ⟨by decide +kernel, by decide +kernel, by decide +kernel⟩, by decide, by decide⟩
theorem lkX10_18 : Cond.methodLink RX10 18 yX4_init ∈ kw_T := kw_in 392 (by decide +kernel) rfl
theorem clX10_21 : Cond.classLink RX10 21 RX7 ∈ kw_T := kw_in 415 (by decide +kernel) rfl
theorem iaX7 : Cond.instantiable RX7 2 ∈ kw_T := kw_in 416 (by decide +kernel) rfl
theorem dfX7 (G : kw_G) : ∀ j, j < 2 → defaultValue (tyX7 j) = vp_V (([.int 0, .int 0] : List Value).map (kw_v G.2.1)) j := by
  intro j hj
  rcases (show j = 0 ∨ j = 1 by omega) with rfl | rfl <;> rfl
theorem cdX7_init : Cond.code mX7_init.1 mX7_init.2.1 mX7_init.2.2.1 mX7_init.2.2.2.1 ∈ kw_T := kw_in 419 (by decide +kernel) rfl
theorem cbX10_made_X7_init : kw_cb mX10_made mX7_init 2 := ⟨cdX7_init, in_X7, ⟨by decide +kernel, by decide +kernel, by decide +kernel⟩, by decide, by decide⟩
theorem lkX10_23 : Cond.methodLink RX10 23 yX7_init ∈ kw_T := kw_in 417 (by decide +kernel) rfl
theorem imX7_init : Cond.instanceMethod yX7_init ∈ kw_T := kw_in 418 (by decide +kernel) rfl
theorem clX10_24 : Cond.classLink RX10 24 RX0 ∈ kw_T := kw_in 424 (by decide +kernel) rfl
theorem iaX0 : Cond.instantiable RX0 2 ∈ kw_T := kw_in 425 (by decide +kernel) rfl
theorem dfX0 (G : kw_G) : ∀ j, j < 2 → defaultValue (tyX0 j) = vp_V (([.int 0, .int 0] : List Value).map (kw_v G.2.1)) j := by
  intro j hj
  rcases (show j = 0 ∨ j = 1 by omega) with rfl | rfl <;> rfl
theorem cdX0_init : Cond.code mX0_init.1 mX0_init.2.1 mX0_init.2.2.1 mX0_init.2.2.2.1 ∈ kw_T := kw_in 428 (by decide +kernel) rfl
theorem cbX10_made_X0_init : kw_cb mX10_made mX0_init 2 := ⟨cdX0_init, in_X0, ⟨by decide +kernel, by decide +kernel, by decide +kernel⟩, by decide, by decide⟩
theorem lkX10_26 : Cond.methodLink RX10 26 yX0_init ∈ kw_T := kw_in 426 (by decide +kernel) rfl
theorem imX0_init : Cond.instanceMethod yX0_init ∈ kw_T := kw_in 427 (by decide +kernel) rfl
theorem clX10_27 : Cond.classLink RX10 27 RX3 ∈ kw_T := kw_in 433 (by decide +kernel) rfl
theorem iaX3 : Cond.instantiable RX3 2 ∈ kw_T := kw_in 434 (by decide +kernel) rfl
theorem dfX3 (G : kw_G) : ∀ j, j < 2 → defaultValue (tyX3 j) = vp_V (([.int 0, .int 0] : List Value).map (kw_v G.2.1)) j := by
  intro j hj
  rcases (show j = 0 ∨ j = 1 by omega) with rfl | rfl <;> rfl
theorem cbX10_made_X3_init : kw_cb mX10_made mX3_init 2 := ⟨cdX3_init, in_X3, ⟨by decide +kernel, by decide +kernel, by decide +kernel⟩, by decide, by decide⟩
theorem lkX10_29 : Cond.methodLink RX10 29 yX3_init ∈ kw_T := kw_in 435 (by decide +kernel) rfl
theorem clX10_30 : Cond.classLink RX10 30 RX5 ∈ kw_T := kw_in 442 (by decide +kernel) rfl
theorem iaX5 : Cond.instantiable RX5 2 ∈ kw_T := kw_in 443 (by decide +kernel) rfl
theorem dfX5 (G : kw_G) : ∀ j, j < 2 → defaultValue (tyX5 j) = vp_V (([.int 0, .int 0] : List Value).map (kw_v G.2.1)) j := by
  intro j hj
  rcases (show j = 0 ∨ j = 1 by omega) with rfl | rfl <;> rfl
theorem cdX5_init : Cond.code mX5_init.1 mX5_init.2.1 mX5_init.2.2.1 mX5_init.2.2.2.1 ∈ kw_T := kw_in 446 (by decide +kernel) rfl
theorem cbX10_made_X5_init : kw_cb mX10_made mX5_init 2 := ⟨cdX5_init, in_X5, ⟨by decide +kernel, by decide +kernel, by decide +kernel⟩, by decide, by decide⟩
theorem lkX10_32 : Cond.methodLink RX10 32 yX5_init ∈ kw_T := kw_in 444 (by decide +kernel) rfl
theorem imX5_init : Cond.instanceMethod yX5_init ∈ kw_T := kw_in 445 (by decide +kernel) rfl
theorem cbX1_kindsSeen_X2_turnerAt : kw_cb mX1_kindsSeen mX2_turnerAt 1 := ⟨cdX2_turnerAt, in_X2, ⟨by decide +kernel, by decide +kernel, by decide +kernel⟩, by decide, by decide⟩
theorem lkX1_144 : Cond.methodLink RX1 144 yX2_turnerAt ∈ kw_T := kw_in 755 (by decide +kernel) rfl
theorem cbX1_kindsSeen_X11_within : kw_cb mX1_kindsSeen mX11_within 3 := ⟨cdX11_within, in_X11, ⟨by decide +kernel, by decide +kernel, by decide +kernel⟩, by decide, by decide⟩
theorem cbX1_kindsSeen_X2_become : kw_cb mX1_kindsSeen mX2_become 1 := ⟨cdX2_become, in_X2, ⟨by decide +kernel, by decide +kernel, by decide +kernel⟩, by decide, by decide⟩
theorem gfX1_148 : kw_gok RX1 148 [2] 2 := by
  intro ci h
  simp only [List.mem_cons, List.not_mem_nil, or_false] at h
  subst h
  exact ⟨_, _, _, kcX2, by decide, "KitchenWheels$Kitchen", kw_in 135 (by decide +kernel) rfl, Or.inl rfl⟩

theorem gfX1_152 : kw_gok RX1 152 [0, 3, 4, 5, 7] 1 := by
  intro ci h
  simp only [List.mem_cons, List.not_mem_nil, or_false] at h
  rcases h with rfl | rfl | rfl | rfl | rfl
  · exact ⟨_, _, _, kcX0, by decide, "KitchenWheels$Turner", kw_in 408 (by decide +kernel) rfl, Or.inl rfl⟩
  · exact ⟨_, _, _, kcX3, by decide, "KitchenWheels$Turner", kw_in 408 (by decide +kernel) rfl, Or.inl rfl⟩
  · exact ⟨_, _, _, kcX4, by decide, "KitchenWheels$Turner", kw_in 408 (by decide +kernel) rfl, Or.inl rfl⟩
  · exact ⟨_, _, _, kcX5, by decide, "KitchenWheels$Turner", kw_in 408 (by decide +kernel) rfl, Or.inl rfl⟩
  · exact ⟨_, _, _, kcX7, by decide, "KitchenWheels$Turner", kw_in 408 (by decide +kernel) rfl, Or.inl rfl⟩

theorem cdX10_made : Cond.code mX10_made.1 mX10_made.2.1 mX10_made.2.2.1 mX10_made.2.2.2.1 ∈ kw_T := kw_in 389 (by decide +kernel) rfl
theorem cbX1_kindsSeen_X10_made : kw_cb mX1_kindsSeen mX10_made 3 := ⟨cdX10_made, in_X10, ⟨by decide +kernel, by decide +kernel, by decide +kernel⟩, by decide, by decide⟩
theorem lkX1_157 : Cond.methodLink RX1 157 yX10_made ∈ kw_T := kw_in 756 (by decide +kernel) rfl
theorem stX10_made : Cond.static yX10_made ∈ kw_T := kw_in 388 (by decide +kernel) rfl
theorem cbX1_kindsSeen_X2_turnedNext : kw_cb mX1_kindsSeen mX2_turnedNext 2 := ⟨cdX2_turnedNext, in_X2, ⟨by decide +kernel, by decide +kernel, by decide +kernel⟩, by decide, by decide⟩
theorem cbX1_kindsSeen_X6_itemAt : kw_cb mX1_kindsSeen mX6_itemAt 2 := ⟨cdX6_itemAt, in_X6, ⟨by decide +kernel, by decide +kernel, by decide +kernel⟩, by decide, by decide⟩
theorem ckJ6_265 : Cond.constant RJ6 265 1431655765 ∈ kw_T := kw_in 768 (by decide +kernel) rfl
theorem ckJ6_266 : Cond.constant RJ6 266 858993459 ∈ kw_T := kw_in 769 (by decide +kernel) rfl
theorem ckJ6_267 : Cond.constant RJ6 267 252645135 ∈ kw_T := kw_in 770 (by decide +kernel) rfl
theorem cbX1_pairsIn_J7_fill_53178 : kw_cb mX1_pairsIn mJ7_fill_53178 2 := ⟨cdJ7_fill_53178, in_J7, ⟨by decide +kernel, by decide +kernel, by decide +kernel⟩, by decide, by decide⟩
theorem cdJ6_bitCount_0f7a4 : Cond.code mJ6_bitCount_0f7a4.1 mJ6_bitCount_0f7a4.2.1 mJ6_bitCount_0f7a4.2.2.1 mJ6_bitCount_0f7a4.2.2.2.1 ∈ kw_T := kw_in 767 (by decide +kernel) rfl
theorem in_J6 : Cond.initialized RJ6 ∈ kw_T := kw_in 81 (by decide +kernel) rfl
theorem cbX1_pairsIn_J6_bitCount_0f7a4 : kw_cb mX1_pairsIn mJ6_bitCount_0f7a4 1 := ⟨cdJ6_bitCount_0f7a4, in_J6, ⟨by decide +kernel, by decide +kernel, by decide +kernel⟩, by decide, by decide⟩
theorem lkX1_161 : Cond.methodLink RX1 161 yJ6_bitCount_0f7a4 ∈ kw_T := kw_in 765 (by decide +kernel) rfl
theorem stJ6_bitCount_0f7a4 : Cond.static yJ6_bitCount_0f7a4 ∈ kw_T := kw_in 766 (by decide +kernel) rfl
theorem cbX1_pairsIn_X2_turnedNext : kw_cb mX1_pairsIn mX2_turnedNext 2 := ⟨cdX2_turnedNext, in_X2, ⟨by decide +kernel, by decide +kernel, by decide +kernel⟩, by decide, by decide⟩
theorem cbX1_pairsIn_X2_awayBehind : kw_cb mX1_pairsIn mX2_awayBehind 1 := ⟨cdX2_awayBehind, in_X2, ⟨by decide +kernel, by decide +kernel, by decide +kernel⟩, by decide, by decide⟩
theorem cbX1_pairsIn_X2_doersOf : kw_cb mX1_pairsIn mX2_doersOf 3 := ⟨cdX2_doersOf, in_X2, ⟨by decide +kernel, by decide +kernel, by decide +kernel⟩, by decide, by decide⟩
theorem cbX1_pairsIn_X11_holds : kw_cb mX1_pairsIn mX11_holds 2 := ⟨cdX11_holds, in_X11, ⟨by decide +kernel, by decide +kernel, by decide +kernel⟩, by decide, by decide⟩
theorem gfX1_26 : kw_gok RX1 26 [1] 3 := by
  intro ci h
  simp only [List.mem_cons, List.not_mem_nil, or_false] at h
  subst h
  exact ⟨_, _, _, kcX1, by decide, "KitchenWheels$Foreteller", kw_in 212 (by decide +kernel) rfl, Or.inl rfl⟩

theorem cdJ7_fill_d0a16 : Cond.code mJ7_fill_d0a16.1 mJ7_fill_d0a16.2.1 mJ7_fill_d0a16.2.2.1 mJ7_fill_d0a16.2.2.2.1 ∈ kw_T := kw_in 783 (by decide +kernel) rfl
theorem cbX1_passForgetful_J7_fill_d0a16 : kw_cb mX1_passForgetful mJ7_fill_d0a16 2 := ⟨cdJ7_fill_d0a16, in_J7, ⟨by decide +kernel, by decide +kernel, by decide +kernel⟩, by decide, by decide⟩
theorem lkX1_166 : Cond.methodLink RX1 166 yJ7_fill_d0a16 ∈ kw_T := kw_in 781 (by decide +kernel) rfl
theorem stJ7_fill_d0a16 : Cond.static yJ7_fill_d0a16 ∈ kw_T := kw_in 782 (by decide +kernel) rfl
theorem gfX1_22 : kw_gok RX1 22 [1] 2 := by
  intro ci h
  simp only [List.mem_cons, List.not_mem_nil, or_false] at h
  subst h
  exact ⟨_, _, _, kcX1, by decide, "KitchenWheels$Foreteller", kw_in 211 (by decide +kernel) rfl, Or.inl rfl⟩

theorem coX1_passForgetful_172 : kw_cok mX1_passForgetful 172 := ⟨kw_in 788 (by decide +kernel) rfl, kw_in 333 (by decide +kernel) rfl, kw_in 332 (by decide +kernel) rfl, kw_in 74 (by decide +kernel) rfl, by decide, by decide⟩
theorem cbX1_passForgetful_X2_turnedNext : kw_cb mX1_passForgetful mX2_turnedNext 2 := ⟨cdX2_turnedNext, in_X2, ⟨by decide +kernel, by decide +kernel, by decide +kernel⟩, by decide, by decide⟩
theorem cbX1_passForgetful_X11_within : kw_cb mX1_passForgetful mX11_within 3 := ⟨cdX11_within, in_X11, ⟨by decide +kernel, by decide +kernel, by decide +kernel⟩, by decide, by decide⟩
theorem cbX1_casesOf_J7_fill_d0a16 : kw_cb mX1_casesOf mJ7_fill_d0a16 2 := ⟨cdJ7_fill_d0a16, in_J7, ⟨by decide +kernel, by decide +kernel, by decide +kernel⟩, by decide, by decide⟩
theorem cbX1_casesOf_X11_within : kw_cb mX1_casesOf mX11_within 3 := ⟨cdX11_within, in_X11, ⟨by decide +kernel, by decide +kernel, by decide +kernel⟩, by decide, by decide⟩
theorem cbX1_casesOf_X2_awayBehind : kw_cb mX1_casesOf mX2_awayBehind 1 := ⟨cdX2_awayBehind, in_X2, ⟨by decide +kernel, by decide +kernel, by decide +kernel⟩, by decide, by decide⟩
theorem cbX1_casesOf_X2_doersOf : kw_cb mX1_casesOf mX2_doersOf 3 := ⟨cdX2_doersOf, in_X2, ⟨by decide +kernel, by decide +kernel, by decide +kernel⟩, by decide, by decide⟩
theorem cbX1_casesOf_X11_holds : kw_cb mX1_casesOf mX11_holds 2 := ⟨cdX11_holds, in_X11, ⟨by decide +kernel, by decide +kernel, by decide +kernel⟩, by decide, by decide⟩
theorem cdX1_passForgetful : Cond.code mX1_passForgetful.1 mX1_passForgetful.2.1 mX1_passForgetful.2.2.1 mX1_passForgetful.2.2.2.1 ∈ kw_T := kw_in 787 (by decide +kernel) rfl
theorem cbX1_casesOf_X1_passForgetful : kw_cb mX1_casesOf mX1_passForgetful 3 := ⟨cdX1_passForgetful, in_X1, ⟨by decide +kernel, by decide +kernel, by decide +kernel⟩, by decide, by decide⟩
theorem lkX1_169 : Cond.methodLink RX1 169 yX1_passForgetful ∈ kw_T := kw_in 784 (by decide +kernel) rfl
theorem imX1_passForgetful : Cond.instanceMethod yX1_passForgetful ∈ kw_T := kw_in 786 (by decide +kernel) rfl
theorem seX1_X1_passForgetful_X1_passForgetful : Cond.selects RX1 yX1_passForgetful yX1_passForgetful ∈ kw_T := kw_in 17 (by decide +kernel) rfl
theorem cbX1_doneByDraws_J7_fill_53178 : kw_cb mX1_doneByDraws mJ7_fill_53178 2 := ⟨cdJ7_fill_53178, in_J7, ⟨by decide +kernel, by decide +kernel, by decide +kernel⟩, by decide, by decide⟩
theorem ckX1_178 : Cond.constantLong RX1 178 16807 ∈ kw_T := kw_in 802 (by decide +kernel) rfl
theorem ckX1_180 : Cond.constantLong RX1 180 2147483647 ∈ kw_T := kw_in 803 (by decide +kernel) rfl
theorem cbX1_doneByDraws_X2_awayBehind : kw_cb mX1_doneByDraws mX2_awayBehind 1 := ⟨cdX2_awayBehind, in_X2, ⟨by decide +kernel, by decide +kernel, by decide +kernel⟩, by decide, by decide⟩
theorem ckX1_182 : Cond.constantLong RX1 182 6 ∈ kw_T := kw_in 804 (by decide +kernel) rfl
theorem cbX1_doneByDraws_X1_countWeek : kw_cb mX1_doneByDraws mX1_countWeek 3 := ⟨cdX1_countWeek, in_X1, ⟨by decide +kernel, by decide +kernel, by decide +kernel⟩, by decide, by decide⟩
theorem cbX1_doneByDraws_X2_turnedNext : kw_cb mX1_doneByDraws mX2_turnedNext 2 := ⟨cdX2_turnedNext, in_X2, ⟨by decide +kernel, by decide +kernel, by decide +kernel⟩, by decide, by decide⟩
theorem cbX11_isJob_X11_within : kw_cb mX11_isJob mX11_within 3 := ⟨cdX11_within, in_X11, ⟨by decide +kernel, by decide +kernel, by decide +kernel⟩, by decide, by decide⟩
theorem cbX2_passWeek_X2_turnedNext : kw_cb mX2_passWeek mX2_turnedNext 2 := ⟨cdX2_turnedNext, in_X2, ⟨by decide +kernel, by decide +kernel, by decide +kernel⟩, by decide, by decide⟩
theorem pfX2_passWeek_46 : kw_pok mX2_passWeek 46 [2] 8 (.int) := by
  intro ci h
  simp only [List.mem_cons, List.not_mem_nil, or_false] at h
  subst h
  exact ⟨_, _, _, tyX2, kcX2, tyX2_ok, nmX2, by decide, ⟨"KitchenWheels$Kitchen", kw_in 154 (by decide +kernel) rfl, Or.inl rfl⟩, rfl, Or.inl rfl⟩

theorem pfX2_passWeek_49 : kw_pok mX2_passWeek 49 [2] 9 (.int) := by
  intro ci h
  simp only [List.mem_cons, List.not_mem_nil, or_false] at h
  subst h
  exact ⟨_, _, _, tyX2, kcX2, tyX2_ok, nmX2, by decide, ⟨"KitchenWheels$Kitchen", kw_in 156 (by decide +kernel) rfl, Or.inl rfl⟩, rfl, Or.inl rfl⟩

theorem pfX2_passWeek_43 : kw_pok mX2_passWeek 43 [2] 7 (.int) := by
  intro ci h
  simp only [List.mem_cons, List.not_mem_nil, or_false] at h
  subst h
  exact ⟨_, _, _, tyX2, kcX2, tyX2_ok, nmX2, by decide, ⟨"KitchenWheels$Kitchen", kw_in 151 (by decide +kernel) rfl, Or.inl rfl⟩, rfl, Or.inl rfl⟩

theorem cbX2_passWeek_X2_doerIn : kw_cb mX2_passWeek mX2_doerIn 3 := ⟨cdX2_doerIn, in_X2, ⟨by decide +kernel, by decide +kernel, by decide +kernel⟩, by decide, by decide⟩
theorem cbX2_passWeek_X2_jobHad : kw_cb mX2_passWeek mX2_jobHad 2 := ⟨cdX2_jobHad, in_X2, ⟨by decide +kernel, by decide +kernel, by decide +kernel⟩, by decide, by decide⟩
theorem cbX2_passWeek_X11_isPerson : kw_cb mX2_passWeek mX11_isPerson 1 := ⟨cdX11_isPerson, in_X11, ⟨by decide +kernel, by decide +kernel, by decide +kernel⟩, by decide, by decide⟩
theorem lnX2_75 : lw_tbl[513]? = some (.methodLinkNest RX2 75 yX11_isPerson "KitchenWheels") := by decide +kernel
theorem cdX11_isJob : Cond.code mX11_isJob.1 mX11_isJob.2.1 mX11_isJob.2.2.1 mX11_isJob.2.2.2.1 ∈ kw_T := kw_in 518 (by decide +kernel) rfl
theorem cbX2_passWeek_X11_isJob : kw_cb mX2_passWeek mX11_isJob 1 := ⟨cdX11_isJob, in_X11, ⟨by decide +kernel, by decide +kernel, by decide +kernel⟩, by decide, by decide⟩
theorem lnX2_79 : lw_tbl[516]? = some (.methodLinkNest RX2 79 yX11_isJob "KitchenWheels") := by decide +kernel
theorem stX11_isJob : Cond.static yX11_isJob ∈ kw_T := kw_in 517 (by decide +kernel) rfl
theorem cbX2_allTimesOf_X11_isPerson : kw_cb mX2_allTimesOf mX11_isPerson 1 := ⟨cdX11_isPerson, in_X11, ⟨by decide +kernel, by decide +kernel, by decide +kernel⟩, by decide, by decide⟩
theorem cdX2_allTimesOf : Cond.code mX2_allTimesOf.1 mX2_allTimesOf.2.1 mX2_allTimesOf.2.2.1 mX2_allTimesOf.2.2.2.1 ∈ kw_T := kw_in 698 (by decide +kernel) rfl
theorem cbX2_allTimes_X2_allTimesOf : kw_cb mX2_allTimes mX2_allTimesOf 1 := ⟨cdX2_allTimesOf, in_X2, ⟨by decide +kernel, by decide +kernel, by decide +kernel⟩, by decide, by decide⟩
theorem lkX2_96 : Cond.methodLink RX2 96 yX2_allTimesOf ∈ kw_T := kw_in 918 (by decide +kernel) rfl
theorem imX2_allTimesOf : Cond.instanceMethod yX2_allTimesOf ∈ kw_T := kw_in 696 (by decide +kernel) rfl
theorem seX2_X2_allTimesOf_X2_allTimesOf : Cond.selects RX2 yX2_allTimesOf yX2_allTimesOf ∈ kw_T := kw_in 697 (by decide +kernel) rfl
theorem cbX10_size_X9_add : kw_cb mX10_size mX9_add 1 := ⟨cdX9_add, in_X9, ⟨by decide +kernel, by decide +kernel, by decide +kernel⟩, by decide, by decide⟩
theorem gfX10_13 : kw_gok RX10 13 [0, 3, 4, 5, 7] 1 := by
  intro ci h
  simp only [List.mem_cons, List.not_mem_nil, or_false] at h
  rcases h with rfl | rfl | rfl | rfl | rfl
  · exact ⟨_, _, _, kcX0, by decide, "KitchenWheels$Turner", kw_in 401 (by decide +kernel) rfl, Or.inl rfl⟩
  · exact ⟨_, _, _, kcX3, by decide, "KitchenWheels$Turner", kw_in 401 (by decide +kernel) rfl, Or.inl rfl⟩
  · exact ⟨_, _, _, kcX4, by decide, "KitchenWheels$Turner", kw_in 401 (by decide +kernel) rfl, Or.inl rfl⟩
  · exact ⟨_, _, _, kcX5, by decide, "KitchenWheels$Turner", kw_in 401 (by decide +kernel) rfl, Or.inl rfl⟩
  · exact ⟨_, _, _, kcX7, by decide, "KitchenWheels$Turner", kw_in 401 (by decide +kernel) rfl, Or.inl rfl⟩

theorem cbX3_size_X9_add : kw_cb mX3_size mX9_add 1 := ⟨cdX9_add, in_X9, ⟨by decide +kernel, by decide +kernel, by decide +kernel⟩, by decide, by decide⟩
theorem lkX3_13 : Cond.methodLink RX3 13 yX9_add ∈ kw_T := kw_in 879 (by decide +kernel) rfl
theorem smX10_size : Cond.sameMethod RX10 RX10 "size" "(LKitchenWheels$Trace;II)I" ∈ kw_T := kw_in 848 (by decide +kernel) rfl
theorem suX3_X10 : Cond.superclass RX3 RX10 ∈ kw_T := kw_in 441 (by decide +kernel) rfl
theorem cdX10_size : Cond.code mX10_size.1 mX10_size.2.1 mX10_size.2.2.1 mX10_size.2.2.2.1 ∈ kw_T := kw_in 891 (by decide +kernel) rfl
theorem cbX3_size_X10_size : kw_cb mX3_size mX10_size 3 := ⟨cdX10_size, in_X10, ⟨by decide +kernel, by decide +kernel, by decide +kernel⟩, by decide, by decide⟩
theorem lkX3_19 : Cond.methodLink RX3 19 yX10_size ∈ kw_T := kw_in 880 (by decide +kernel) rfl
theorem imX10_size : Cond.instanceMethod yX10_size ∈ kw_T := kw_in 847 (by decide +kernel) rfl
theorem cbX5_size_X9_add : kw_cb mX5_size mX9_add 1 := ⟨cdX9_add, in_X9, ⟨by decide +kernel, by decide +kernel, by decide +kernel⟩, by decide, by decide⟩
theorem lkX5_17 : Cond.methodLink RX5 17 yX9_add ∈ kw_T := kw_in 885 (by decide +kernel) rfl
theorem smX3_size : Cond.sameMethod RX3 RX3 "size" "(LKitchenWheels$Trace;II)I" ∈ kw_T := kw_in 1371 (by decide +kernel) rfl
theorem cdX3_size : Cond.code mX3_size.1 mX3_size.2.1 mX3_size.2.2.1 mX3_size.2.2.2.1 ∈ kw_T := kw_in 878 (by decide +kernel) rfl
theorem cbX5_size_X3_size : kw_cb mX5_size mX3_size 3 := ⟨cdX3_size, in_X3, ⟨by decide +kernel, by decide +kernel, by decide +kernel⟩, by decide, by decide⟩
theorem lkX5_23 : Cond.methodLink RX5 23 yX3_size ∈ kw_T := kw_in 886 (by decide +kernel) rfl
theorem imX3_size : Cond.instanceMethod yX3_size ∈ kw_T := kw_in 877 (by decide +kernel) rfl
theorem cbX3_mark_X9_add : kw_cb mX3_mark mX9_add 1 := ⟨cdX9_add, in_X9, ⟨by decide +kernel, by decide +kernel, by decide +kernel⟩, by decide, by decide⟩
theorem cbX3_mark_X10_mark : kw_cb mX3_mark mX10_mark 3 := ⟨cdX10_mark, in_X10, ⟨by decide +kernel, by decide +kernel, by decide +kernel⟩, by decide, by decide⟩
theorem lkX3_23 : Cond.methodLink RX3 23 yX10_mark ∈ kw_T := kw_in 895 (by decide +kernel) rfl
theorem sMX3_26 : Cond.sameMethod "KitchenWheels$Law" "KitchenWheels$Law" "size" "(LKitchenWheels$Trace;II)I" ∈ kw_T := kw_in 1371 (by decide +kernel) rfl
theorem cbX3_mark_X3_size : kw_cb mX3_mark mX3_size 3 := ⟨cdX3_size, in_X3, ⟨by decide +kernel, by decide +kernel, by decide +kernel⟩, by decide, by decide⟩
theorem lkX3_26 : Cond.methodLink RX3 26 yX3_size ∈ kw_T := kw_in 896 (by decide +kernel) rfl
theorem seX3_X3_size_X3_size : Cond.selects RX3 yX3_size yX3_size ∈ kw_T := kw_in 1375 (by decide +kernel) rfl
theorem cdX5_size : Cond.code mX5_size.1 mX5_size.2.1 mX5_size.2.2.1 mX5_size.2.2.2.1 ∈ kw_T := kw_in 884 (by decide +kernel) rfl
theorem cbX3_mark_X5_size : kw_cb mX3_mark mX5_size 3 := ⟨cdX5_size, in_X5, ⟨by decide +kernel, by decide +kernel, by decide +kernel⟩, by decide, by decide⟩
theorem imX5_size : Cond.instanceMethod yX5_size ∈ kw_T := kw_in 883 (by decide +kernel) rfl
theorem seX5_X3_size_X5_size : Cond.selects RX5 yX3_size yX5_size ∈ kw_T := kw_in 1376 (by decide +kernel) rfl
theorem cbX7_mark_X9_add : kw_cb mX7_mark mX9_add 1 := ⟨cdX9_add, in_X9, ⟨by decide +kernel, by decide +kernel, by decide +kernel⟩, by decide, by decide⟩
theorem lkX7_13 : Cond.methodLink RX7 13 yX9_add ∈ kw_T := kw_in 869 (by decide +kernel) rfl
theorem suX7_X4 : Cond.superclass RX7 RX4 ∈ kw_T := kw_in 423 (by decide +kernel) rfl
theorem cbX7_mark_X4_mark : kw_cb mX7_mark mX4_mark 3 := ⟨cdX4_mark, in_X4, ⟨by decide +kernel, by decide +kernel, by decide +kernel⟩, by decide, by decide⟩
theorem lkX7_23 : Cond.methodLink RX7 23 yX4_mark ∈ kw_T := kw_in 870 (by decide +kernel) rfl
theorem cbX4_size_X9_add : kw_cb mX4_size mX9_add 1 := ⟨cdX9_add, in_X9, ⟨by decide +kernel, by decide +kernel, by decide +kernel⟩, by decide, by decide⟩
theorem cbX4_size_X10_size : kw_cb mX4_size mX10_size 3 := ⟨cdX10_size, in_X10, ⟨by decide +kernel, by decide +kernel, by decide +kernel⟩, by decide, by decide⟩
theorem lkX4_13 : Cond.methodLink RX4 13 yX10_size ∈ kw_T := kw_in 856 (by decide +kernel) rfl
theorem sMX4_17 : Cond.sameMethod "KitchenWheels$One" "KitchenWheels$One" "mark" "(LKitchenWheels$Trace;II)I" ∈ kw_T := kw_in 860 (by decide +kernel) rfl
theorem cdX0_mark : Cond.code mX0_mark.1 mX0_mark.2.1 mX0_mark.2.2.1 mX0_mark.2.2.2.1 ∈ kw_T := kw_in 863 (by decide +kernel) rfl
theorem cbX4_size_X0_mark : kw_cb mX4_size mX0_mark 3 := ⟨cdX0_mark, in_X0, ⟨by decide +kernel, by decide +kernel, by decide +kernel⟩, by decide, by decide⟩
theorem lkX4_17 : Cond.methodLink RX4 17 yX4_mark ∈ kw_T := kw_in 857 (by decide +kernel) rfl
theorem imX0_mark : Cond.instanceMethod yX0_mark ∈ kw_T := kw_in 862 (by decide +kernel) rfl
theorem seX0_X4_mark_X0_mark : Cond.selects RX0 yX4_mark yX0_mark ∈ kw_T := kw_in 861 (by decide +kernel) rfl
theorem cbX4_size_X4_mark : kw_cb mX4_size mX4_mark 3 := ⟨cdX4_mark, in_X4, ⟨by decide +kernel, by decide +kernel, by decide +kernel⟩, by decide, by decide⟩
theorem seX4_X4_mark_X4_mark : Cond.selects RX4 yX4_mark yX4_mark ∈ kw_T := kw_in 859 (by decide +kernel) rfl
theorem cdX7_mark : Cond.code mX7_mark.1 mX7_mark.2.1 mX7_mark.2.2.1 mX7_mark.2.2.2.1 ∈ kw_T := kw_in 868 (by decide +kernel) rfl
theorem cbX4_size_X7_mark : kw_cb mX4_size mX7_mark 3 := ⟨cdX7_mark, in_X7, ⟨by decide +kernel, by decide +kernel, by decide +kernel⟩, by decide, by decide⟩
theorem imX7_mark : Cond.instanceMethod yX7_mark ∈ kw_T := kw_in 867 (by decide +kernel) rfl
theorem seX7_X4_mark_X7_mark : Cond.selects RX7 yX4_mark yX7_mark ∈ kw_T := kw_in 866 (by decide +kernel) rfl
theorem lkX6_3 : Cond.methodLink RX6 3 Lib.objectInit ∈ kw_T := kw_in 95 (by decide +kernel) rfl
theorem pfX6_init_11 : kw_pok mX6_init 11 [6] 0 (.array (.array .int)) := by
  intro ci h
  simp only [List.mem_cons, List.not_mem_nil, or_false] at h
  subst h
  exact ⟨_, _, _, tyX6, kcX6, tyX6_ok, nmX6, by decide, ⟨"KitchenWheels$Rows", kw_in 101 (by decide +kernel) rfl, Or.inl rfl⟩, rfl, Or.inr ⟨rfl, rfl, rfl⟩⟩

theorem pfX6_init_16 : kw_pok mX6_init 16 [6] 1 (.array .int) := by
  intro ci h
  simp only [List.mem_cons, List.not_mem_nil, or_false] at h
  subst h
  exact ⟨_, _, _, tyX6, kcX6, tyX6_ok, nmX6, by decide, ⟨"KitchenWheels$Rows", kw_in 102 (by decide +kernel) rfl, Or.inl rfl⟩, rfl, Or.inr ⟨rfl, rfl, rfl⟩⟩

theorem pfX6_init_20 : kw_pok mX6_init 20 [6] 2 (.array .int) := by
  intro ci h
  simp only [List.mem_cons, List.not_mem_nil, or_false] at h
  subst h
  exact ⟨_, _, _, tyX6, kcX6, tyX6_ok, nmX6, by decide, ⟨"KitchenWheels$Rows", kw_in 103 (by decide +kernel) rfl, Or.inl rfl⟩, rfl, Or.inr ⟨rfl, rfl, rfl⟩⟩

theorem cbX6_init_J7_fill_53178 : kw_cb mX6_init mJ7_fill_53178 2 := ⟨cdJ7_fill_53178, in_J7, ⟨by decide +kernel, by decide +kernel, by decide +kernel⟩, by decide, by decide⟩
theorem lkX6_23 : Cond.methodLink RX6 23 yJ7_fill_53178 ∈ kw_T := kw_in 98 (by decide +kernel) rfl
theorem cbX6_laneOf_X6_isRow : kw_cb mX6_laneOf mX6_isRow 1 := ⟨cdX6_isRow, in_X6, ⟨by decide +kernel, by decide +kernel, by decide +kernel⟩, by decide, by decide⟩
theorem gfX6_16 : kw_gok RX6 16 [6] 1 := by
  intro ci h
  simp only [List.mem_cons, List.not_mem_nil, or_false] at h
  subst h
  exact ⟨_, _, _, kcX6, by decide, "KitchenWheels$Rows", kw_in 102 (by decide +kernel) rfl, Or.inl rfl⟩

theorem cbX6_lay_X6_isRow : kw_cb mX6_lay mX6_isRow 1 := ⟨cdX6_isRow, in_X6, ⟨by decide +kernel, by decide +kernel, by decide +kernel⟩, by decide, by decide⟩
theorem cbX6_lay_X11_within : kw_cb mX6_lay mX11_within 3 := ⟨cdX11_within, in_X11, ⟨by decide +kernel, by decide +kernel, by decide +kernel⟩, by decide, by decide⟩
theorem cbX6_lay_J7_fill_53178 : kw_cb mX6_lay mJ7_fill_53178 2 := ⟨cdJ7_fill_53178, in_J7, ⟨by decide +kernel, by decide +kernel, by decide +kernel⟩, by decide, by decide⟩
theorem cbX6_put_X6_findingAt : kw_cb mX6_put mX6_findingAt 3 := ⟨cdX6_findingAt, in_X6, ⟨by decide +kernel, by decide +kernel, by decide +kernel⟩, by decide, by decide⟩
theorem cbX6_move_X6_findingAt : kw_cb mX6_move mX6_findingAt 3 := ⟨cdX6_findingAt, in_X6, ⟨by decide +kernel, by decide +kernel, by decide +kernel⟩, by decide, by decide⟩
theorem coX6_move_50 : kw_cok mX6_move 50 := ⟨kw_in 331 (by decide +kernel) rfl, kw_in 333 (by decide +kernel) rfl, kw_in 332 (by decide +kernel) rfl, kw_in 74 (by decide +kernel) rfl, by decide, by decide⟩
theorem cbX6_lose_X6_isMissing : kw_cb mX6_lose mX6_isMissing 1 := ⟨cdX6_isMissing, in_X6, ⟨by decide +kernel, by decide +kernel, by decide +kernel⟩, by decide, by decide⟩
theorem cbX6_present_X6_isMissing : kw_cb mX6_present mX6_isMissing 1 := ⟨cdX6_isMissing, in_X6, ⟨by decide +kernel, by decide +kernel, by decide +kernel⟩, by decide, by decide⟩
theorem cbX7_size_X9_add : kw_cb mX7_size mX9_add 1 := ⟨cdX9_add, in_X9, ⟨by decide +kernel, by decide +kernel, by decide +kernel⟩, by decide, by decide⟩
theorem smX4_size : Cond.sameMethod RX4 RX4 "size" "(LKitchenWheels$Trace;II)I" ∈ kw_T := kw_in 1372 (by decide +kernel) rfl
theorem cdX4_size : Cond.code mX4_size.1 mX4_size.2.1 mX4_size.2.2.1 mX4_size.2.2.2.1 ∈ kw_T := kw_in 851 (by decide +kernel) rfl
theorem cbX7_size_X4_size : kw_cb mX7_size mX4_size 3 := ⟨cdX4_size, in_X4, ⟨by decide +kernel, by decide +kernel, by decide +kernel⟩, by decide, by decide⟩
theorem lkX7_19 : Cond.methodLink RX7 19 yX4_size ∈ kw_T := kw_in 890 (by decide +kernel) rfl
theorem imX4_size : Cond.instanceMethod yX4_size ∈ kw_T := kw_in 850 (by decide +kernel) rfl
theorem lkX8_3 : Cond.methodLink RX8 3 Lib.objectInit ∈ kw_T := kw_in 117 (by decide +kernel) rfl
theorem kcX8 : kw_cls 8 RX8 TX8 5 := kw_cls_of rfl inX8
theorem pfX8_init_9 : kw_pok mX8_init 9 [8] 0 (.array .int) := by
  intro ci h
  simp only [List.mem_cons, List.not_mem_nil, or_false] at h
  subst h
  exact ⟨_, _, _, tyX8, kcX8, tyX8_ok, nmX8, by decide, ⟨"KitchenWheels$Tape", kw_in 179 (by decide +kernel) rfl, Or.inl rfl⟩, rfl, Or.inr ⟨rfl, rfl, rfl⟩⟩

theorem clX8_15 : Cond.classLink RX8 15 RX2 ∈ kw_T := kw_in 118 (by decide +kernel) rfl
theorem cbX8_init_X2_init : kw_cb mX8_init mX2_init 0 := ⟨cdX2_init, in_X2, ⟨by decide +kernel, by decide +kernel, by decide +kernel⟩, by decide, by decide⟩
theorem lnX8_17 : lw_tbl[120]? = some (.methodLinkNest RX8 17 yX2_init "KitchenWheels") := by decide +kernel
theorem pfX8_init_18 : kw_pok mX8_init 18 [8] 2 (.object "KitchenWheels$Kitchen") := by
  intro ci h
  simp only [List.mem_cons, List.not_mem_nil, or_false] at h
  subst h
  exact ⟨_, _, _, tyX8, kcX8, tyX8_ok, nmX8, by decide, ⟨"KitchenWheels$Tape", kw_in 182 (by decide +kernel) rfl, Or.inl rfl⟩, rfl, Or.inr ⟨rfl, rfl, rfl⟩⟩

theorem gfX8_22 : kw_gok RX8 22 [8] 1 := by
  intro ci h
  simp only [List.mem_cons, List.not_mem_nil, or_false] at h
  subst h
  exact ⟨_, _, _, kcX8, by decide, "KitchenWheels$Tape", kw_in 180 (by decide +kernel) rfl, Or.inl rfl⟩

theorem gfX8_9 : kw_gok RX8 9 [8] 0 := by
  intro ci h
  simp only [List.mem_cons, List.not_mem_nil, or_false] at h
  subst h
  exact ⟨_, _, _, kcX8, by decide, "KitchenWheels$Tape", kw_in 179 (by decide +kernel) rfl, Or.inl rfl⟩

theorem pfX8_take_22 : kw_pok mX8_take 22 [8] 1 (.int) := by
  intro ci h
  simp only [List.mem_cons, List.not_mem_nil, or_false] at h
  subst h
  exact ⟨_, _, _, tyX8, kcX8, tyX8_ok, nmX8, by decide, ⟨"KitchenWheels$Tape", kw_in 180 (by decide +kernel) rfl, Or.inl rfl⟩, rfl, Or.inl rfl⟩

theorem gfX8_26 : kw_gok RX8 26 [8] 4 := by
  intro ci h
  simp only [List.mem_cons, List.not_mem_nil, or_false] at h
  subst h
  exact ⟨_, _, _, kcX8, by decide, "KitchenWheels$Tape", kw_in 186 (by decide +kernel) rfl, Or.inl rfl⟩

theorem cdX8_byteAt : Cond.code mX8_byteAt.1 mX8_byteAt.2.1 mX8_byteAt.2.2.1 mX8_byteAt.2.2.2.1 ∈ kw_T := kw_in 370 (by decide +kernel) rfl
theorem in_X8 : Cond.initialized RX8 ∈ kw_T := kw_in 68 (by decide +kernel) rfl
theorem cbX8_passes_X8_byteAt : kw_cb mX8_passes mX8_byteAt 1 := ⟨cdX8_byteAt, in_X8, ⟨by decide +kernel, by decide +kernel, by decide +kernel⟩, by decide, by decide⟩
theorem lkX8_59 : Cond.methodLink RX8 59 yX8_byteAt ∈ kw_T := kw_in 367 (by decide +kernel) rfl
theorem imX8_byteAt : Cond.instanceMethod yX8_byteAt ∈ kw_T := kw_in 369 (by decide +kernel) rfl
theorem seX8_X8_byteAt_X8_byteAt : Cond.selects RX8 yX8_byteAt yX8_byteAt ∈ kw_T := kw_in 4 (by decide +kernel) rfl
theorem pfX8_passes_26 : kw_pok mX8_passes 26 [8] 4 (.int) := by
  intro ci h
  simp only [List.mem_cons, List.not_mem_nil, or_false] at h
  subst h
  exact ⟨_, _, _, tyX8, kcX8, tyX8_ok, nmX8, by decide, ⟨"KitchenWheels$Tape", kw_in 186 (by decide +kernel) rfl, Or.inl rfl⟩, rfl, Or.inl rfl⟩

theorem pfX8_passes_29 : kw_pok mX8_passes 29 [8] 3 (.int) := by
  intro ci h
  simp only [List.mem_cons, List.not_mem_nil, or_false] at h
  subst h
  exact ⟨_, _, _, tyX8, kcX8, tyX8_ok, nmX8, by decide, ⟨"KitchenWheels$Tape", kw_in 184 (by decide +kernel) rfl, Or.inl rfl⟩, rfl, Or.inl rfl⟩

theorem pfX8_readBy_29 : kw_pok mX8_readBy 29 [8] 3 (.int) := by
  intro ci h
  simp only [List.mem_cons, List.not_mem_nil, or_false] at h
  subst h
  exact ⟨_, _, _, tyX8, kcX8, tyX8_ok, nmX8, by decide, ⟨"KitchenWheels$Tape", kw_in 184 (by decide +kernel) rfl, Or.inl rfl⟩, rfl, Or.inl rfl⟩

theorem pfX8_readBy_26 : kw_pok mX8_readBy 26 [8] 4 (.int) := by
  intro ci h
  simp only [List.mem_cons, List.not_mem_nil, or_false] at h
  subst h
  exact ⟨_, _, _, tyX8, kcX8, tyX8_ok, nmX8, by decide, ⟨"KitchenWheels$Tape", kw_in 186 (by decide +kernel) rfl, Or.inl rfl⟩, rfl, Or.inl rfl⟩

theorem cbX8_readBy_X8_byteAt : kw_cb mX8_readBy mX8_byteAt 1 := ⟨cdX8_byteAt, in_X8, ⟨by decide +kernel, by decide +kernel, by decide +kernel⟩, by decide, by decide⟩
theorem cbX8_readBy_X11_within : kw_cb mX8_readBy mX11_within 3 := ⟨cdX11_within, in_X11, ⟨by decide +kernel, by decide +kernel, by decide +kernel⟩, by decide, by decide⟩
theorem lnX8_84 : lw_tbl[374]? = some (.methodLinkNest RX8 84 yX11_within "KitchenWheels") := by decide +kernel
theorem cbX8_readTurner_X8_byteAt : kw_cb mX8_readTurner mX8_byteAt 1 := ⟨cdX8_byteAt, in_X8, ⟨by decide +kernel, by decide +kernel, by decide +kernel⟩, by decide, by decide⟩
theorem cdX8_kindOf : Cond.code mX8_kindOf.1 mX8_kindOf.2.1 mX8_kindOf.2.2.1 mX8_kindOf.2.2.2.1 ∈ kw_T := kw_in 382 (by decide +kernel) rfl
theorem cbX8_readTurner_X8_kindOf : kw_cb mX8_readTurner mX8_kindOf 1 := ⟨cdX8_kindOf, in_X8, ⟨by decide +kernel, by decide +kernel, by decide +kernel⟩, by decide, by decide⟩
theorem lkX8_67 : Cond.methodLink RX8 67 yX8_kindOf ∈ kw_T := kw_in 380 (by decide +kernel) rfl
theorem stX8_kindOf : Cond.static yX8_kindOf ∈ kw_T := kw_in 381 (by decide +kernel) rfl
theorem pfX8_readTurner_29 : kw_pok mX8_readTurner 29 [8] 3 (.int) := by
  intro ci h
  simp only [List.mem_cons, List.not_mem_nil, or_false] at h
  subst h
  exact ⟨_, _, _, tyX8, kcX8, tyX8_ok, nmX8, by decide, ⟨"KitchenWheels$Tape", kw_in 184 (by decide +kernel) rfl, Or.inl rfl⟩, rfl, Or.inl rfl⟩

theorem pfX8_readTurner_26 : kw_pok mX8_readTurner 26 [8] 4 (.int) := by
  intro ci h
  simp only [List.mem_cons, List.not_mem_nil, or_false] at h
  subst h
  exact ⟨_, _, _, tyX8, kcX8, tyX8_ok, nmX8, by decide, ⟨"KitchenWheels$Tape", kw_in 186 (by decide +kernel) rfl, Or.inl rfl⟩, rfl, Or.inl rfl⟩

theorem cdX8_readBy : Cond.code mX8_readBy.1 mX8_readBy.2.1 mX8_readBy.2.2.1 mX8_readBy.2.2.2.1 ∈ kw_T := kw_in 386 (by decide +kernel) rfl
theorem cbX8_readTurner_X8_readBy : kw_cb mX8_readTurner mX8_readBy 0 := ⟨cdX8_readBy, in_X8, ⟨by decide +kernel, by decide +kernel, by decide +kernel⟩, by decide, by decide⟩
theorem lkX8_70 : Cond.methodLink RX8 70 yX8_readBy ∈ kw_T := kw_in 383 (by decide +kernel) rfl
theorem imX8_readBy : Cond.instanceMethod yX8_readBy ∈ kw_T := kw_in 385 (by decide +kernel) rfl
theorem seX8_X8_readBy_X8_readBy : Cond.selects RX8 yX8_readBy yX8_readBy ∈ kw_T := kw_in 6 (by decide +kernel) rfl
theorem gfX8_29 : kw_gok RX8 29 [8] 3 := by
  intro ci h
  simp only [List.mem_cons, List.not_mem_nil, or_false] at h
  subst h
  exact ⟨_, _, _, kcX8, by decide, "KitchenWheels$Tape", kw_in 184 (by decide +kernel) rfl, Or.inl rfl⟩

theorem cdX8_passes : Cond.code mX8_passes.1 mX8_passes.2.1 mX8_passes.2.2.1 mX8_passes.2.2.2.1 ∈ kw_T := kw_in 366 (by decide +kernel) rfl
theorem cbX8_readTurner_X8_passes : kw_cb mX8_readTurner mX8_passes 1 := ⟨cdX8_passes, in_X8, ⟨by decide +kernel, by decide +kernel, by decide +kernel⟩, by decide, by decide⟩
theorem lkX8_55 : Cond.methodLink RX8 55 yX8_passes ∈ kw_T := kw_in 363 (by decide +kernel) rfl
theorem imX8_passes : Cond.instanceMethod yX8_passes ∈ kw_T := kw_in 365 (by decide +kernel) rfl
theorem seX8_X8_passes_X8_passes : Cond.selects RX8 yX8_passes yX8_passes ∈ kw_T := kw_in 3 (by decide +kernel) rfl
theorem gfX8_18 : kw_gok RX8 18 [8] 2 := by
  intro ci h
  simp only [List.mem_cons, List.not_mem_nil, or_false] at h
  subst h
  exact ⟨_, _, _, kcX8, by decide, "KitchenWheels$Tape", kw_in 182 (by decide +kernel) rfl, Or.inl rfl⟩

theorem gfX8_74 : kw_gok RX8 74 [2] 2 := by
  intro ci h
  simp only [List.mem_cons, List.not_mem_nil, or_false] at h
  subst h
  exact ⟨_, _, _, kcX2, by decide, "KitchenWheels$Kitchen", kw_in 134 (by decide +kernel) rfl, Or.inl rfl⟩

theorem cbX8_readTurner_X10_made : kw_cb mX8_readTurner mX10_made 3 := ⟨cdX10_made, in_X10, ⟨by decide +kernel, by decide +kernel, by decide +kernel⟩, by decide, by decide⟩
theorem lkX8_78 : Cond.methodLink RX8 78 yX10_made ∈ kw_T := kw_in 387 (by decide +kernel) rfl
theorem pfX8_readTurner_32 : kw_pok mX8_readTurner 32 [2] 6 (.int) := by
  intro ci h
  simp only [List.mem_cons, List.not_mem_nil, or_false] at h
  subst h
  exact ⟨_, _, _, tyX2, kcX2, tyX2_ok, nmX2, by decide, ⟨"KitchenWheels$Kitchen", kw_in 146 (by decide +kernel) rfl, Or.inl rfl⟩, rfl, Or.inl rfl⟩

theorem cbX8_nameOf_X11_within : kw_cb mX8_nameOf mX11_within 3 := ⟨cdX11_within, in_X11, ⟨by decide +kernel, by decide +kernel, by decide +kernel⟩, by decide, by decide⟩
theorem ckX8_66 : Cond.constant RX8 66 (-1000000) ∈ kw_T := kw_in 375 (by decide +kernel) rfl
theorem cbX8_readWheel_X8_passes : kw_cb mX8_readWheel mX8_passes 1 := ⟨cdX8_passes, in_X8, ⟨by decide +kernel, by decide +kernel, by decide +kernel⟩, by decide, by decide⟩
theorem pfX8_readWheel_29 : kw_pok mX8_readWheel 29 [8] 3 (.int) := by
  intro ci h
  simp only [List.mem_cons, List.not_mem_nil, or_false] at h
  subst h
  exact ⟨_, _, _, tyX8, kcX8, tyX8_ok, nmX8, by decide, ⟨"KitchenWheels$Tape", kw_in 184 (by decide +kernel) rfl, Or.inl rfl⟩, rfl, Or.inl rfl⟩

theorem cbX8_readWheel_X8_byteAt : kw_cb mX8_readWheel mX8_byteAt 1 := ⟨cdX8_byteAt, in_X8, ⟨by decide +kernel, by decide +kernel, by decide +kernel⟩, by decide, by decide⟩
theorem cdX8_nameOf : Cond.code mX8_nameOf.1 mX8_nameOf.2.1 mX8_nameOf.2.2.1 mX8_nameOf.2.2.2.1 ∈ kw_T := kw_in 373 (by decide +kernel) rfl
theorem cbX8_readWheel_X8_nameOf : kw_cb mX8_readWheel mX8_nameOf 1 := ⟨cdX8_nameOf, in_X8, ⟨by decide +kernel, by decide +kernel, by decide +kernel⟩, by decide, by decide⟩
theorem lkX8_63 : Cond.methodLink RX8 63 yX8_nameOf ∈ kw_T := kw_in 371 (by decide +kernel) rfl
theorem stX8_nameOf : Cond.static yX8_nameOf ∈ kw_T := kw_in 372 (by decide +kernel) rfl
theorem pfX8_readWheel_26 : kw_pok mX8_readWheel 26 [8] 4 (.int) := by
  intro ci h
  simp only [List.mem_cons, List.not_mem_nil, or_false] at h
  subst h
  exact ⟨_, _, _, tyX8, kcX8, tyX8_ok, nmX8, by decide, ⟨"KitchenWheels$Tape", kw_in 186 (by decide +kernel) rfl, Or.inl rfl⟩, rfl, Or.inl rfl⟩

theorem pfX8_read_26 : kw_pok mX8_read 26 [8] 4 (.int) := by
  intro ci h
  simp only [List.mem_cons, List.not_mem_nil, or_false] at h
  subst h
  exact ⟨_, _, _, tyX8, kcX8, tyX8_ok, nmX8, by decide, ⟨"KitchenWheels$Tape", kw_in 186 (by decide +kernel) rfl, Or.inl rfl⟩, rfl, Or.inl rfl⟩

theorem pfX8_read_29 : kw_pok mX8_read 29 [8] 3 (.int) := by
  intro ci h
  simp only [List.mem_cons, List.not_mem_nil, or_false] at h
  subst h
  exact ⟨_, _, _, tyX8, kcX8, tyX8_ok, nmX8, by decide, ⟨"KitchenWheels$Tape", kw_in 184 (by decide +kernel) rfl, Or.inl rfl⟩, rfl, Or.inl rfl⟩

theorem pfX8_read_32 : kw_pok mX8_read 32 [2] 6 (.int) := by
  intro ci h
  simp only [List.mem_cons, List.not_mem_nil, or_false] at h
  subst h
  exact ⟨_, _, _, tyX2, kcX2, tyX2_ok, nmX2, by decide, ⟨"KitchenWheels$Kitchen", kw_in 146 (by decide +kernel) rfl, Or.inl rfl⟩, rfl, Or.inl rfl⟩

theorem gfX8_35 : kw_gok RX8 35 [2] 0 := by
  intro ci h
  simp only [List.mem_cons, List.not_mem_nil, or_false] at h
  subst h
  exact ⟨_, _, _, kcX2, by decide, "KitchenWheels$Kitchen", kw_in 127 (by decide +kernel) rfl, Or.inl rfl⟩

theorem cdX8_readWheel : Cond.code mX8_readWheel.1 mX8_readWheel.2.1 mX8_readWheel.2.2.1 mX8_readWheel.2.2.2.1 ∈ kw_T := kw_in 362 (by decide +kernel) rfl
theorem cbX8_read_X8_readWheel : kw_cb mX8_read mX8_readWheel 2 := ⟨cdX8_readWheel, in_X8, ⟨by decide +kernel, by decide +kernel, by decide +kernel⟩, by decide, by decide⟩
theorem lkX8_38 : Cond.methodLink RX8 38 yX8_readWheel ∈ kw_T := kw_in 359 (by decide +kernel) rfl
theorem imX8_readWheel : Cond.instanceMethod yX8_readWheel ∈ kw_T := kw_in 361 (by decide +kernel) rfl
theorem seX8_X8_readWheel_X8_readWheel : Cond.selects RX8 yX8_readWheel yX8_readWheel ∈ kw_T := kw_in 2 (by decide +kernel) rfl
theorem pfX8_read_42 : kw_pok mX8_read 42 [2] 4 (.int) := by
  intro ci h
  simp only [List.mem_cons, List.not_mem_nil, or_false] at h
  subst h
  exact ⟨_, _, _, tyX2, kcX2, tyX2_ok, nmX2, by decide, ⟨"KitchenWheels$Kitchen", kw_in 140 (by decide +kernel) rfl, Or.inl rfl⟩, rfl, Or.inl rfl⟩

theorem pfX8_read_48 : kw_pok mX8_read 48 [2] 5 (.int) := by
  intro ci h
  simp only [List.mem_cons, List.not_mem_nil, or_false] at h
  subst h
  exact ⟨_, _, _, tyX2, kcX2, tyX2_ok, nmX2, by decide, ⟨"KitchenWheels$Kitchen", kw_in 142 (by decide +kernel) rfl, Or.inl rfl⟩, rfl, Or.inl rfl⟩

theorem cdX8_readTurner : Cond.code mX8_readTurner.1 mX8_readTurner.2.1 mX8_readTurner.2.2.1 mX8_readTurner.2.2.2.1 ∈ kw_T := kw_in 379 (by decide +kernel) rfl
theorem cbX8_read_X8_readTurner : kw_cb mX8_read mX8_readTurner 1 := ⟨cdX8_readTurner, in_X8, ⟨by decide +kernel, by decide +kernel, by decide +kernel⟩, by decide, by decide⟩
theorem lkX8_51 : Cond.methodLink RX8 51 yX8_readTurner ∈ kw_T := kw_in 376 (by decide +kernel) rfl
theorem imX8_readTurner : Cond.instanceMethod yX8_readTurner ∈ kw_T := kw_in 378 (by decide +kernel) rfl
theorem seX8_X8_readTurner_X8_readTurner : Cond.selects RX8 yX8_readTurner yX8_readTurner ∈ kw_T := kw_in 5 (by decide +kernel) rfl
theorem gfX8_45 : kw_gok RX8 45 [2] 1 := by
  intro ci h
  simp only [List.mem_cons, List.not_mem_nil, or_false] at h
  subst h
  exact ⟨_, _, _, kcX2, by decide, "KitchenWheels$Kitchen", kw_in 131 (by decide +kernel) rfl, Or.inl rfl⟩

theorem lkX9_3 : Cond.methodLink RX9 3 Lib.objectInit ∈ kw_T := kw_in 228 (by decide +kernel) rfl
theorem pfX9_init_11 : kw_pok mX9_init 11 [9] 0 (.array .int) := by
  intro ci h
  simp only [List.mem_cons, List.not_mem_nil, or_false] at h
  subst h
  exact ⟨_, _, _, tyX9, kcX9, tyX9_ok, nmX9, by decide, ⟨"KitchenWheels$Trace", kw_in 229 (by decide +kernel) rfl, Or.inl rfl⟩, rfl, Or.inr ⟨rfl, rfl, rfl⟩⟩

theorem ckX9_19 : Cond.constant RX9 19 (-1000000) ∈ kw_T := kw_in 905 (by decide +kernel) rfl
theorem ioX10_16 : kw_iok RX10 16 [0, 4, 7] [3, 5] := by
  refine ⟨"KitchenWheels$One", kw_in 390 (by decide +kernel) rfl, fun ci h => ?_, fun ci h => ?_⟩
  · simp only [List.mem_cons, List.not_mem_nil, or_false] at h
    rcases h with rfl | rfl | rfl
    · exact ⟨_, _, _, 1380, kcX0, Or.inr (by decide +kernel)⟩
    · exact ⟨_, _, _, 0, kcX4, Or.inl rfl⟩
    · exact ⟨_, _, _, 1381, kcX7, Or.inr (by decide +kernel)⟩
  · simp only [List.mem_cons, List.not_mem_nil, or_false] at h
    rcases h with rfl | rfl
    · exact ⟨_, _, _, kcX3, by decide +kernel⟩
    · exact ⟨_, _, _, kcX5, by decide +kernel⟩

theorem ioX10_21 : kw_iok RX10 21 [7] [0, 3, 4, 5] := by
  refine ⟨"KitchenWheels$Step", kw_in 415 (by decide +kernel) rfl, fun ci h => ?_, fun ci h => ?_⟩
  · simp only [List.mem_cons, List.not_mem_nil, or_false] at h
    subst h
    exact ⟨_, _, _, 0, kcX7, Or.inl rfl⟩
  · simp only [List.mem_cons, List.not_mem_nil, or_false] at h
    rcases h with rfl | rfl | rfl | rfl
    · exact ⟨_, _, _, kcX0, by decide +kernel⟩
    · exact ⟨_, _, _, kcX3, by decide +kernel⟩
    · exact ⟨_, _, _, kcX4, by decide +kernel⟩
    · exact ⟨_, _, _, kcX5, by decide +kernel⟩

theorem ioX10_24 : kw_iok RX10 24 [0] [3, 4, 5, 7] := by
  refine ⟨"KitchenWheels$Both", kw_in 424 (by decide +kernel) rfl, fun ci h => ?_, fun ci h => ?_⟩
  · simp only [List.mem_cons, List.not_mem_nil, or_false] at h
    subst h
    exact ⟨_, _, _, 0, kcX0, Or.inl rfl⟩
  · simp only [List.mem_cons, List.not_mem_nil, or_false] at h
    rcases h with rfl | rfl | rfl | rfl
    · exact ⟨_, _, _, kcX3, by decide +kernel⟩
    · exact ⟨_, _, _, kcX4, by decide +kernel⟩
    · exact ⟨_, _, _, kcX5, by decide +kernel⟩
    · exact ⟨_, _, _, kcX7, by decide +kernel⟩

theorem ioX10_27 : kw_iok RX10 27 [3, 5] [0, 4, 7] := by
  refine ⟨"KitchenWheels$Law", kw_in 433 (by decide +kernel) rfl, fun ci h => ?_, fun ci h => ?_⟩
  · simp only [List.mem_cons, List.not_mem_nil, or_false] at h
    rcases h with rfl | rfl
    · exact ⟨_, _, _, 0, kcX3, Or.inl rfl⟩
    · exact ⟨_, _, _, 1382, kcX5, Or.inr (by decide +kernel)⟩
  · simp only [List.mem_cons, List.not_mem_nil, or_false] at h
    rcases h with rfl | rfl | rfl
    · exact ⟨_, _, _, kcX0, by decide +kernel⟩
    · exact ⟨_, _, _, kcX4, by decide +kernel⟩
    · exact ⟨_, _, _, kcX7, by decide +kernel⟩

theorem ioX10_30 : kw_iok RX10 30 [5] [0, 3, 4, 7] := by
  refine ⟨"KitchenWheels$Righter", kw_in 442 (by decide +kernel) rfl, fun ci h => ?_, fun ci h => ?_⟩
  · simp only [List.mem_cons, List.not_mem_nil, or_false] at h
    subst h
    exact ⟨_, _, _, 0, kcX5, Or.inl rfl⟩
  · simp only [List.mem_cons, List.not_mem_nil, or_false] at h
    rcases h with rfl | rfl | rfl | rfl
    · exact ⟨_, _, _, kcX0, by decide +kernel⟩
    · exact ⟨_, _, _, kcX3, by decide +kernel⟩
    · exact ⟨_, _, _, kcX4, by decide +kernel⟩
    · exact ⟨_, _, _, kcX7, by decide +kernel⟩

theorem lkX11_1 : Cond.methodLink RX11 1 Lib.objectInit ∈ kw_T := kw_in 87 (by decide +kernel) rfl
theorem clX11_7 : Cond.classLink RX11 7 RX6 ∈ kw_T := kw_in 90 (by decide +kernel) rfl
theorem iaX6 : Cond.instantiable RX6 3 ∈ kw_T := kw_in 91 (by decide +kernel) rfl
theorem dfX6 (G : kw_G) : ∀ j, j < 3 → defaultValue (tyX6 j) = vp_V (([.null, .null, .null] : List Value).map (kw_v G.2.1)) j := by
  intro j hj
  rcases (show j = 0 ∨ j = 1 ∨ j = 2 by omega) with rfl | rfl | rfl <;> rfl
theorem cdX6_init : Cond.code mX6_init.1 mX6_init.2.1 mX6_init.2.2.1 mX6_init.2.2.2.1 ∈ kw_T := kw_in 94 (by decide +kernel) rfl
theorem cbX11_init_X6_init : kw_cb mX11_init mX6_init 0 := ⟨cdX6_init, in_X6, ⟨by decide +kernel, by decide +kernel, by decide +kernel⟩, by decide, by decide⟩
theorem lkX11_9 : Cond.methodLink RX11 9 yX6_init ∈ kw_T := kw_in 92 (by decide +kernel) rfl
theorem imX6_init : Cond.instanceMethod yX6_init ∈ kw_T := kw_in 93 (by decide +kernel) rfl
theorem kcX11 : kw_cls 10 RX11 TX11 11 := kw_cls_of rfl inX11
theorem pfX11_init_10 : kw_pok mX11_init 10 [10] 0 (.object "KitchenWheels$Rows") := by
  intro ci h
  simp only [List.mem_cons, List.not_mem_nil, or_false] at h
  subst h
  exact ⟨_, _, _, tyX11, kcX11, tyX11_ok, nmX11, by decide, ⟨"KitchenWheels", kw_in 238 (by decide +kernel) rfl, Or.inl rfl⟩, rfl, Or.inr ⟨rfl, rfl, rfl⟩⟩

theorem clX11_16 : Cond.classLink RX11 16 RX8 ∈ kw_T := kw_in 112 (by decide +kernel) rfl
theorem iaX8 : Cond.instantiable RX8 5 ∈ kw_T := kw_in 113 (by decide +kernel) rfl
theorem dfX8 (G : kw_G) : ∀ j, j < 5 → defaultValue (tyX8 j) = vp_V (([.null, .int 0, .null, .int 0, .int 0] : List Value).map (kw_v G.2.1)) j := by
  intro j hj
  rcases (show j = 0 ∨ j = 1 ∨ j = 2 ∨ j = 3 ∨ j = 4 by omega) with rfl | rfl | rfl | rfl | rfl <;> rfl
theorem cdX8_init : Cond.code mX8_init.1 mX8_init.2.1 mX8_init.2.2.1 mX8_init.2.2.2.1 ∈ kw_T := kw_in 116 (by decide +kernel) rfl
theorem cbX11_init_X8_init : kw_cb mX11_init mX8_init 0 := ⟨cdX8_init, in_X8, ⟨by decide +kernel, by decide +kernel, by decide +kernel⟩, by decide, by decide⟩
theorem lnX11_18 : lw_tbl[114]? = some (.methodLinkNest RX11 18 yX8_init "KitchenWheels") := by decide +kernel
theorem imX8_init : Cond.instanceMethod yX8_init ∈ kw_T := kw_in 115 (by decide +kernel) rfl
theorem pfX11_init_19 : kw_pok mX11_init 19 [10] 1 (.object "KitchenWheels$Tape") := by
  intro ci h
  simp only [List.mem_cons, List.not_mem_nil, or_false] at h
  subst h
  exact ⟨_, _, _, tyX11, kcX11, tyX11_ok, nmX11, by decide, ⟨"KitchenWheels", kw_in 239 (by decide +kernel) rfl, Or.inl rfl⟩, rfl, Or.inr ⟨rfl, rfl, rfl⟩⟩

theorem clX11_23 : Cond.classLink RX11 23 RX2 ∈ kw_T := kw_in 199 (by decide +kernel) rfl
theorem cbX11_init_X2_init : kw_cb mX11_init mX2_init 0 := ⟨cdX2_init, in_X2, ⟨by decide +kernel, by decide +kernel, by decide +kernel⟩, by decide, by decide⟩
theorem lnX11_25 : lw_tbl[200]? = some (.methodLinkNest RX11 25 yX2_init "KitchenWheels") := by decide +kernel
theorem pfX11_init_26 : kw_pok mX11_init 26 [10] 2 (.object "KitchenWheels$Kitchen") := by
  intro ci h
  simp only [List.mem_cons, List.not_mem_nil, or_false] at h
  subst h
  exact ⟨_, _, _, tyX11, kcX11, tyX11_ok, nmX11, by decide, ⟨"KitchenWheels", kw_in 240 (by decide +kernel) rfl, Or.inl rfl⟩, rfl, Or.inr ⟨rfl, rfl, rfl⟩⟩

theorem clX11_30 : Cond.classLink RX11 30 RX1 ∈ kw_T := kw_in 201 (by decide +kernel) rfl
theorem iaX1 : Cond.instantiable RX1 4 ∈ kw_T := kw_in 202 (by decide +kernel) rfl
theorem dfX1 (G : kw_G) : ∀ j, j < 4 → defaultValue (tyX1 j) = vp_V (([.null, .null, .null, .null] : List Value).map (kw_v G.2.1)) j := by
  intro j hj
  rcases (show j = 0 ∨ j = 1 ∨ j = 2 ∨ j = 3 by omega) with rfl | rfl | rfl | rfl <;> rfl
theorem cdX1_init : Cond.code mX1_init.1 mX1_init.2.1 mX1_init.2.2.1 mX1_init.2.2.2.1 ∈ kw_T := kw_in 205 (by decide +kernel) rfl
theorem cbX11_init_X1_init : kw_cb mX11_init mX1_init 0 := ⟨cdX1_init, in_X1, ⟨by decide +kernel, by decide +kernel, by decide +kernel⟩, by decide, by decide⟩
theorem lnX11_32 : lw_tbl[203]? = some (.methodLinkNest RX11 32 yX1_init "KitchenWheels") := by decide +kernel
theorem imX1_init : Cond.instanceMethod yX1_init ∈ kw_T := kw_in 204 (by decide +kernel) rfl
theorem pfX11_init_33 : kw_pok mX11_init 33 [10] 3 (.object "KitchenWheels$Foreteller") := by
  intro ci h
  simp only [List.mem_cons, List.not_mem_nil, or_false] at h
  subst h
  exact ⟨_, _, _, tyX11, kcX11, tyX11_ok, nmX11, by decide, ⟨"KitchenWheels", kw_in 241 (by decide +kernel) rfl, Or.inl rfl⟩, rfl, Or.inr ⟨rfl, rfl, rfl⟩⟩

theorem clX11_37 : Cond.classLink RX11 37 RX9 ∈ kw_T := kw_in 223 (by decide +kernel) rfl
theorem iaX9 : Cond.instantiable RX9 2 ∈ kw_T := kw_in 224 (by decide +kernel) rfl
theorem dfX9 (G : kw_G) : ∀ j, j < 2 → defaultValue (tyX9 j) = vp_V (([.null, .int 0] : List Value).map (kw_v G.2.1)) j := by
  intro j hj
  rcases (show j = 0 ∨ j = 1 by omega) with rfl | rfl <;> rfl
theorem cdX9_init : Cond.code mX9_init.1 mX9_init.2.1 mX9_init.2.2.1 mX9_init.2.2.2.1 ∈ kw_T := kw_in 227 (by decide +kernel) rfl
theorem cbX11_init_X9_init : kw_cb mX11_init mX9_init 0 := ⟨cdX9_init, in_X9, ⟨by decide +kernel, by decide +kernel, by decide +kernel⟩, by decide, by decide⟩
theorem lnX11_39 : lw_tbl[225]? = some (.methodLinkNest RX11 39 yX9_init "KitchenWheels") := by decide +kernel
theorem imX9_init : Cond.instanceMethod yX9_init ∈ kw_T := kw_in 226 (by decide +kernel) rfl
theorem pfX11_init_40 : kw_pok mX11_init 40 [10] 4 (.object "KitchenWheels$Trace") := by
  intro ci h
  simp only [List.mem_cons, List.not_mem_nil, or_false] at h
  subst h
  exact ⟨_, _, _, tyX11, kcX11, tyX11_ok, nmX11, by decide, ⟨"KitchenWheels", kw_in 242 (by decide +kernel) rfl, Or.inl rfl⟩, rfl, Or.inr ⟨rfl, rfl, rfl⟩⟩

theorem pfX11_init_44 : kw_pok mX11_init 44 [10] 5 (.array (.object "KitchenWheels$Kitchen")) := by
  intro ci h
  simp only [List.mem_cons, List.not_mem_nil, or_false] at h
  subst h
  exact ⟨_, _, _, tyX11, kcX11, tyX11_ok, nmX11, by decide, ⟨"KitchenWheels", kw_in 243 (by decide +kernel) rfl, Or.inl rfl⟩, rfl, Or.inr ⟨rfl, rfl, rfl⟩⟩

theorem pfX11_init_48 : kw_pok mX11_init 48 [10] 6 (.array (.object "KitchenWheels$Kitchen")) := by
  intro ci h
  simp only [List.mem_cons, List.not_mem_nil, or_false] at h
  subst h
  exact ⟨_, _, _, tyX11, kcX11, tyX11_ok, nmX11, by decide, ⟨"KitchenWheels", kw_in 244 (by decide +kernel) rfl, Or.inl rfl⟩, rfl, Or.inr ⟨rfl, rfl, rfl⟩⟩

theorem pfX11_finding_309 : kw_pok mX11_finding 309 [10] 10 (.int) := by
  intro ci h
  simp only [List.mem_cons, List.not_mem_nil, or_false] at h
  subst h
  exact ⟨_, _, _, tyX11, kcX11, tyX11_ok, nmX11, by decide, ⟨"KitchenWheels", kw_in 248 (by decide +kernel) rfl, Or.inl rfl⟩, rfl, Or.inl rfl⟩

theorem ckX11_312 : Cond.constant RX11 312 (-1000010) ∈ kw_T := kw_in 288 (by decide +kernel) rfl
theorem pfX11_unfound_309 : kw_pok mX11_unfound 309 [10] 10 (.int) := by
  intro ci h
  simp only [List.mem_cons, List.not_mem_nil, or_false] at h
  subst h
  exact ⟨_, _, _, tyX11, kcX11, tyX11_ok, nmX11, by decide, ⟨"KitchenWheels", kw_in 248 (by decide +kernel) rfl, Or.inl rfl⟩, rfl, Or.inl rfl⟩

theorem cbX11_row_X6_isRow : kw_cb mX11_row mX6_isRow 1 := ⟨cdX6_isRow, in_X6, ⟨by decide +kernel, by decide +kernel, by decide +kernel⟩, by decide, by decide⟩
theorem lkX11_51 : Cond.methodLink RX11 51 yX6_isRow ∈ kw_T := kw_in 276 (by decide +kernel) rfl
theorem ckX11_59 : Cond.constant RX11 59 (-1000001) ∈ kw_T := kw_in 283 (by decide +kernel) rfl
theorem cbX11_row_X11_within : kw_cb mX11_row mX11_within 3 := ⟨cdX11_within, in_X11, ⟨by decide +kernel, by decide +kernel, by decide +kernel⟩, by decide, by decide⟩
theorem gfX11_10 : kw_gok RX11 10 [10] 0 := by
  intro ci h
  simp only [List.mem_cons, List.not_mem_nil, or_false] at h
  subst h
  exact ⟨_, _, _, kcX11, by decide, "KitchenWheels", kw_in 238 (by decide +kernel) rfl, Or.inl rfl⟩

theorem cdX6_lay : Cond.code mX6_lay.1 mX6_lay.2.1 mX6_lay.2.2.1 mX6_lay.2.2.2.1 ∈ kw_T := kw_in 292 (by decide +kernel) rfl
theorem cbX11_row_X6_lay : kw_cb mX11_row mX6_lay 3 := ⟨cdX6_lay, in_X6, ⟨by decide +kernel, by decide +kernel, by decide +kernel⟩, by decide, by decide⟩
theorem lkX11_64 : Cond.methodLink RX11 64 yX6_lay ∈ kw_T := kw_in 289 (by decide +kernel) rfl
theorem imX6_lay : Cond.instanceMethod yX6_lay ∈ kw_T := kw_in 290 (by decide +kernel) rfl
theorem seX6_X6_lay_X6_lay : Cond.selects RX6 yX6_lay yX6_lay ∈ kw_T := kw_in 291 (by decide +kernel) rfl
theorem cdX11_unfound : Cond.code mX11_unfound.1 mX11_unfound.2.1 mX11_unfound.2.2.1 mX11_unfound.2.2.2.1 ∈ kw_T := kw_in 297 (by decide +kernel) rfl
theorem cbX11_row_X11_unfound : kw_cb mX11_row mX11_unfound 1 := ⟨cdX11_unfound, in_X11, ⟨by decide +kernel, by decide +kernel, by decide +kernel⟩, by decide, by decide⟩
theorem lkX11_68 : Cond.methodLink RX11 68 yX11_unfound ∈ kw_T := kw_in 294 (by decide +kernel) rfl
theorem imX11_unfound : Cond.instanceMethod yX11_unfound ∈ kw_T := kw_in 296 (by decide +kernel) rfl
theorem seX11_X11_unfound_X11_unfound : Cond.selects RX11 yX11_unfound yX11_unfound ∈ kw_T := kw_in 1 (by decide +kernel) rfl
theorem cdX11_finding : Cond.code mX11_finding.1 mX11_finding.2.1 mX11_finding.2.2.1 mX11_finding.2.2.2.1 ∈ kw_T := kw_in 287 (by decide +kernel) rfl
theorem cbX11_row_X11_finding : kw_cb mX11_row mX11_finding 1 := ⟨cdX11_finding, in_X11, ⟨by decide +kernel, by decide +kernel, by decide +kernel⟩, by decide, by decide⟩
theorem lkX11_60 : Cond.methodLink RX11 60 yX11_finding ∈ kw_T := kw_in 284 (by decide +kernel) rfl
theorem imX11_finding : Cond.instanceMethod yX11_finding ∈ kw_T := kw_in 286 (by decide +kernel) rfl
theorem seX11_X11_finding_X11_finding : Cond.selects RX11 yX11_finding yX11_finding ∈ kw_T := kw_in 0 (by decide +kernel) rfl
theorem cbX11_set_X6_isRow : kw_cb mX11_set mX6_isRow 1 := ⟨cdX6_isRow, in_X6, ⟨by decide +kernel, by decide +kernel, by decide +kernel⟩, by decide, by decide⟩
theorem cbX11_set_X6_findingAt : kw_cb mX11_set mX6_findingAt 3 := ⟨cdX6_findingAt, in_X6, ⟨by decide +kernel, by decide +kernel, by decide +kernel⟩, by decide, by decide⟩
theorem lkX11_71 : Cond.methodLink RX11 71 yX6_findingAt ∈ kw_T := kw_in 302 (by decide +kernel) rfl
theorem cdX6_put : Cond.code mX6_put.1 mX6_put.2.1 mX6_put.2.2.1 mX6_put.2.2.2.1 ∈ kw_T := kw_in 316 (by decide +kernel) rfl
theorem cbX11_set_X6_put : kw_cb mX11_set mX6_put 3 := ⟨cdX6_put, in_X6, ⟨by decide +kernel, by decide +kernel, by decide +kernel⟩, by decide, by decide⟩
theorem lkX11_75 : Cond.methodLink RX11 75 yX6_put ∈ kw_T := kw_in 313 (by decide +kernel) rfl
theorem imX6_put : Cond.instanceMethod yX6_put ∈ kw_T := kw_in 314 (by decide +kernel) rfl
theorem seX6_X6_put_X6_put : Cond.selects RX6 yX6_put yX6_put ∈ kw_T := kw_in 315 (by decide +kernel) rfl
theorem cbX11_set_X11_unfound : kw_cb mX11_set mX11_unfound 1 := ⟨cdX11_unfound, in_X11, ⟨by decide +kernel, by decide +kernel, by decide +kernel⟩, by decide, by decide⟩
theorem cbX11_set_X11_finding : kw_cb mX11_set mX11_finding 1 := ⟨cdX11_finding, in_X11, ⟨by decide +kernel, by decide +kernel, by decide +kernel⟩, by decide, by decide⟩
theorem cbX11_copy_X6_isRow : kw_cb mX11_copy mX6_isRow 1 := ⟨cdX6_isRow, in_X6, ⟨by decide +kernel, by decide +kernel, by decide +kernel⟩, by decide, by decide⟩
theorem cbX11_copy_X6_isMissing : kw_cb mX11_copy mX6_isMissing 1 := ⟨cdX6_isMissing, in_X6, ⟨by decide +kernel, by decide +kernel, by decide +kernel⟩, by decide, by decide⟩
theorem lkX11_78 : Cond.methodLink RX11 78 yX6_isMissing ∈ kw_T := kw_in 322 (by decide +kernel) rfl
theorem cbX11_copy_X11_finding : kw_cb mX11_copy mX11_finding 1 := ⟨cdX11_finding, in_X11, ⟨by decide +kernel, by decide +kernel, by decide +kernel⟩, by decide, by decide⟩
theorem cdX6_laneOf : Cond.code mX6_laneOf.1 mX6_laneOf.2.1 mX6_laneOf.2.2.1 mX6_laneOf.2.2.2.1 ∈ kw_T := kw_in 326 (by decide +kernel) rfl
theorem cbX11_copy_X6_laneOf : kw_cb mX11_copy mX6_laneOf 1 := ⟨cdX6_laneOf, in_X6, ⟨by decide +kernel, by decide +kernel, by decide +kernel⟩, by decide, by decide⟩
theorem lkX11_81 : Cond.methodLink RX11 81 yX6_laneOf ∈ kw_T := kw_in 323 (by decide +kernel) rfl
theorem imX6_laneOf : Cond.instanceMethod yX6_laneOf ∈ kw_T := kw_in 324 (by decide +kernel) rfl
theorem seX6_X6_laneOf_X6_laneOf : Cond.selects RX6 yX6_laneOf yX6_laneOf ∈ kw_T := kw_in 325 (by decide +kernel) rfl
theorem cbX11_copy_X6_findingAt : kw_cb mX11_copy mX6_findingAt 3 := ⟨cdX6_findingAt, in_X6, ⟨by decide +kernel, by decide +kernel, by decide +kernel⟩, by decide, by decide⟩
theorem cdX6_move : Cond.code mX6_move.1 mX6_move.2.1 mX6_move.2.2.1 mX6_move.2.2.2.1 ∈ kw_T := kw_in 330 (by decide +kernel) rfl
theorem cbX11_copy_X6_move : kw_cb mX11_copy mX6_move 5 := ⟨cdX6_move, in_X6, ⟨by decide +kernel, by decide +kernel, by decide +kernel⟩, by decide, by decide⟩
theorem lkX11_84 : Cond.methodLink RX11 84 yX6_move ∈ kw_T := kw_in 327 (by decide +kernel) rfl
theorem imX6_move : Cond.instanceMethod yX6_move ∈ kw_T := kw_in 328 (by decide +kernel) rfl
theorem seX6_X6_move_X6_move : Cond.selects RX6 yX6_move yX6_move ∈ kw_T := kw_in 329 (by decide +kernel) rfl
theorem cbX11_copy_X11_unfound : kw_cb mX11_copy mX11_unfound 1 := ⟨cdX11_unfound, in_X11, ⟨by decide +kernel, by decide +kernel, by decide +kernel⟩, by decide, by decide⟩
theorem cbX11_drop_X6_isRow : kw_cb mX11_drop mX6_isRow 1 := ⟨cdX6_isRow, in_X6, ⟨by decide +kernel, by decide +kernel, by decide +kernel⟩, by decide, by decide⟩
theorem cbX11_drop_X6_isMissing : kw_cb mX11_drop mX6_isMissing 1 := ⟨cdX6_isMissing, in_X6, ⟨by decide +kernel, by decide +kernel, by decide +kernel⟩, by decide, by decide⟩
theorem cdX6_lose : Cond.code mX6_lose.1 mX6_lose.2.1 mX6_lose.2.2.1 mX6_lose.2.2.2.1 ∈ kw_T := kw_in 341 (by decide +kernel) rfl
theorem cbX11_drop_X6_lose : kw_cb mX11_drop mX6_lose 1 := ⟨cdX6_lose, in_X6, ⟨by decide +kernel, by decide +kernel, by decide +kernel⟩, by decide, by decide⟩
theorem lkX11_88 : Cond.methodLink RX11 88 yX6_lose ∈ kw_T := kw_in 338 (by decide +kernel) rfl
theorem imX6_lose : Cond.instanceMethod yX6_lose ∈ kw_T := kw_in 339 (by decide +kernel) rfl
theorem seX6_X6_lose_X6_lose : Cond.selects RX6 yX6_lose yX6_lose ∈ kw_T := kw_in 340 (by decide +kernel) rfl
theorem cbX11_drop_X11_unfound : kw_cb mX11_drop mX11_unfound 1 := ⟨cdX11_unfound, in_X11, ⟨by decide +kernel, by decide +kernel, by decide +kernel⟩, by decide, by decide⟩
theorem cbX11_drop_X11_finding : kw_cb mX11_drop mX11_finding 1 := ⟨cdX11_finding, in_X11, ⟨by decide +kernel, by decide +kernel, by decide +kernel⟩, by decide, by decide⟩
theorem cbX11_feed_X11_within : kw_cb mX11_feed mX11_within 3 := ⟨cdX11_within, in_X11, ⟨by decide +kernel, by decide +kernel, by decide +kernel⟩, by decide, by decide⟩
theorem gfX11_19 : kw_gok RX11 19 [10] 1 := by
  intro ci h
  simp only [List.mem_cons, List.not_mem_nil, or_false] at h
  subst h
  exact ⟨_, _, _, kcX11, by decide, "KitchenWheels", kw_in 239 (by decide +kernel) rfl, Or.inl rfl⟩

theorem cdX8_take : Cond.code mX8_take.1 mX8_take.2.1 mX8_take.2.2.1 mX8_take.2.2.2.1 ∈ kw_T := kw_in 349 (by decide +kernel) rfl
theorem cbX11_feed_X8_take : kw_cb mX11_feed mX8_take 1 := ⟨cdX8_take, in_X8, ⟨by decide +kernel, by decide +kernel, by decide +kernel⟩, by decide, by decide⟩
theorem lkX11_91 : Cond.methodLink RX11 91 yX8_take ∈ kw_T := kw_in 346 (by decide +kernel) rfl
theorem imX8_take : Cond.instanceMethod yX8_take ∈ kw_T := kw_in 347 (by decide +kernel) rfl
theorem seX8_X8_take_X8_take : Cond.selects RX8 yX8_take yX8_take ∈ kw_T := kw_in 348 (by decide +kernel) rfl
theorem ckX11_98 : Cond.constant RX11 98 (-1000003) ∈ kw_T := kw_in 350 (by decide +kernel) rfl
theorem gfX11_94 : kw_gok RX11 94 [8] 1 := by
  intro ci h
  simp only [List.mem_cons, List.not_mem_nil, or_false] at h
  subst h
  exact ⟨_, _, _, kcX8, by decide, "KitchenWheels$Tape", kw_in 181 (by decide +kernel) rfl, Or.inl rfl⟩

theorem pfX11_forgetActs_130 : kw_pok mX11_forgetActs 130 [10] 7 (.int) := by
  intro ci h
  simp only [List.mem_cons, List.not_mem_nil, or_false] at h
  subst h
  exact ⟨_, _, _, tyX11, kcX11, tyX11_ok, nmX11, by decide, ⟨"KitchenWheels", kw_in 245 (by decide +kernel) rfl, Or.inl rfl⟩, rfl, Or.inl rfl⟩

theorem pfX11_forgetActs_126 : kw_pok mX11_forgetActs 126 [10] 8 (.int) := by
  intro ci h
  simp only [List.mem_cons, List.not_mem_nil, or_false] at h
  subst h
  exact ⟨_, _, _, tyX11, kcX11, tyX11_ok, nmX11, by decide, ⟨"KitchenWheels", kw_in 246 (by decide +kernel) rfl, Or.inl rfl⟩, rfl, Or.inl rfl⟩

theorem cdX8_read : Cond.code mX8_read.1 mX8_read.2.1 mX8_read.2.2.1 mX8_read.2.2.2.1 ∈ kw_T := kw_in 358 (by decide +kernel) rfl
theorem cbX11_kitchen_X8_read : kw_cb mX11_kitchen mX8_read 0 := ⟨cdX8_read, in_X8, ⟨by decide +kernel, by decide +kernel, by decide +kernel⟩, by decide, by decide⟩
theorem lkX11_99 : Cond.methodLink RX11 99 yX8_read ∈ kw_T := kw_in 355 (by decide +kernel) rfl
theorem imX8_read : Cond.instanceMethod yX8_read ∈ kw_T := kw_in 356 (by decide +kernel) rfl
theorem seX8_X8_read_X8_read : Cond.selects RX8 yX8_read yX8_read ∈ kw_T := kw_in 357 (by decide +kernel) rfl
theorem pfX11_kitchen_94 : kw_pok mX11_kitchen 94 [8] 1 (.int) := by
  intro ci h
  simp only [List.mem_cons, List.not_mem_nil, or_false] at h
  subst h
  exact ⟨_, _, _, tyX8, kcX8, tyX8_ok, nmX8, by decide, ⟨"KitchenWheels$Tape", kw_in 181 (by decide +kernel) rfl, Or.inl rfl⟩, rfl, Or.inl rfl⟩

theorem gfX11_26 : kw_gok RX11 26 [10] 2 := by
  intro ci h
  simp only [List.mem_cons, List.not_mem_nil, or_false] at h
  subst h
  exact ⟨_, _, _, kcX11, by decide, "KitchenWheels", kw_in 240 (by decide +kernel) rfl, Or.inl rfl⟩

theorem gfX11_113 : kw_gok RX11 113 [8] 2 := by
  intro ci h
  simp only [List.mem_cons, List.not_mem_nil, or_false] at h
  subst h
  exact ⟨_, _, _, kcX8, by decide, "KitchenWheels$Tape", kw_in 183 (by decide +kernel) rfl, Or.inl rfl⟩

theorem cbX11_kitchen_X2_become : kw_cb mX11_kitchen mX2_become 1 := ⟨cdX2_become, in_X2, ⟨by decide +kernel, by decide +kernel, by decide +kernel⟩, by decide, by decide⟩
theorem lkX11_116 : Cond.methodLink RX11 116 yX2_become ∈ kw_T := kw_in 452 (by decide +kernel) rfl
theorem cdX11_forgetActs : Cond.code mX11_forgetActs.1 mX11_forgetActs.2.1 mX11_forgetActs.2.2.1 mX11_forgetActs.2.2.2.1 ∈ kw_T := kw_in 460 (by decide +kernel) rfl
theorem cbX11_kitchen_X11_forgetActs : kw_cb mX11_kitchen mX11_forgetActs 0 := ⟨cdX11_forgetActs, in_X11, ⟨by decide +kernel, by decide +kernel, by decide +kernel⟩, by decide, by decide⟩
theorem lkX11_120 : Cond.methodLink RX11 120 yX11_forgetActs ∈ kw_T := kw_in 457 (by decide +kernel) rfl
theorem imX11_forgetActs : Cond.instanceMethod yX11_forgetActs ∈ kw_T := kw_in 459 (by decide +kernel) rfl
theorem seX11_X11_forgetActs_X11_forgetActs : Cond.selects RX11 yX11_forgetActs yX11_forgetActs ∈ kw_T := kw_in 7 (by decide +kernel) rfl
theorem gfX11_123 : kw_gok RX11 123 [2] 6 := by
  intro ci h
  simp only [List.mem_cons, List.not_mem_nil, or_false] at h
  subst h
  exact ⟨_, _, _, kcX2, by decide, "KitchenWheels$Kitchen", kw_in 149 (by decide +kernel) rfl, Or.inl rfl⟩

theorem gfX11_103 : kw_gok RX11 103 [8] 3 := by
  intro ci h
  simp only [List.mem_cons, List.not_mem_nil, or_false] at h
  subst h
  exact ⟨_, _, _, kcX8, by decide, "KitchenWheels$Tape", kw_in 185 (by decide +kernel) rfl, Or.inl rfl⟩

theorem pfX11_kitchen_106 : kw_pok mX11_kitchen 106 [10] 9 (.int) := by
  intro ci h
  simp only [List.mem_cons, List.not_mem_nil, or_false] at h
  subst h
  exact ⟨_, _, _, tyX11, kcX11, tyX11_ok, nmX11, by decide, ⟨"KitchenWheels", kw_in 247 (by decide +kernel) rfl, Or.inl rfl⟩, rfl, Or.inl rfl⟩

theorem ckX11_109 : Cond.constant RX11 109 (-1000100) ∈ kw_T := kw_in 451 (by decide +kernel) rfl
theorem gfX11_110 : kw_gok RX11 110 [8] 4 := by
  intro ci h
  simp only [List.mem_cons, List.not_mem_nil, or_false] at h
  subst h
  exact ⟨_, _, _, kcX8, by decide, "KitchenWheels$Tape", kw_in 187 (by decide +kernel) rfl, Or.inl rfl⟩

theorem gfX11_106 : kw_gok RX11 106 [10] 9 := by
  intro ci h
  simp only [List.mem_cons, List.not_mem_nil, or_false] at h
  subst h
  exact ⟨_, _, _, kcX11, by decide, "KitchenWheels", kw_in 247 (by decide +kernel) rfl, Or.inl rfl⟩

theorem gfX11_126 : kw_gok RX11 126 [10] 8 := by
  intro ci h
  simp only [List.mem_cons, List.not_mem_nil, or_false] at h
  subst h
  exact ⟨_, _, _, kcX11, by decide, "KitchenWheels", kw_in 246 (by decide +kernel) rfl, Or.inl rfl⟩

theorem pfX11_undo_126 : kw_pok mX11_undo 126 [10] 8 (.int) := by
  intro ci h
  simp only [List.mem_cons, List.not_mem_nil, or_false] at h
  subst h
  exact ⟨_, _, _, tyX11, kcX11, tyX11_ok, nmX11, by decide, ⟨"KitchenWheels", kw_in 246 (by decide +kernel) rfl, Or.inl rfl⟩, rfl, Or.inl rfl⟩

theorem gfX11_44 : kw_gok RX11 44 [10] 5 := by
  intro ci h
  simp only [List.mem_cons, List.not_mem_nil, or_false] at h
  subst h
  exact ⟨_, _, _, kcX11, by decide, "KitchenWheels", kw_in 243 (by decide +kernel) rfl, Or.inl rfl⟩

theorem gfX11_130 : kw_gok RX11 130 [10] 7 := by
  intro ci h
  simp only [List.mem_cons, List.not_mem_nil, or_false] at h
  subst h
  exact ⟨_, _, _, kcX11, by decide, "KitchenWheels", kw_in 245 (by decide +kernel) rfl, Or.inl rfl⟩

theorem cbX11_undo_X11_rest : kw_cb mX11_undo mX11_rest 2 := ⟨cdX11_rest, in_X11, ⟨by decide +kernel, by decide +kernel, by decide +kernel⟩, by decide, by decide⟩
theorem lkX11_133 : Cond.methodLink RX11 133 yX11_rest ∈ kw_T := kw_in 470 (by decide +kernel) rfl
theorem cbX11_undo_X2_become : kw_cb mX11_undo mX2_become 1 := ⟨cdX2_become, in_X2, ⟨by decide +kernel, by decide +kernel, by decide +kernel⟩, by decide, by decide⟩
theorem ckX11_129 : Cond.constant RX11 129 (-1000002) ∈ kw_T := kw_in 469 (by decide +kernel) rfl
theorem cbX11_keepIn_X2_init : kw_cb mX11_keepIn mX2_init 0 := ⟨cdX2_init, in_X2, ⟨by decide +kernel, by decide +kernel, by decide +kernel⟩, by decide, by decide⟩
theorem ao4 : kw_aok 4 [2] := by
  refine ⟨"KitchenWheels$Kitchen", fun _ => rfl, fun ci h => ?_⟩
  simp only [List.mem_cons, List.not_mem_nil, or_false] at h
  subst h
  exact ⟨_, _, _, 0, kcX2, Or.inl rfl⟩

theorem cbX11_keepIn_X2_become : kw_cb mX11_keepIn mX2_become 1 := ⟨cdX2_become, in_X2, ⟨by decide +kernel, by decide +kernel, by decide +kernel⟩, by decide, by decide⟩
theorem cbX11_keepAct_X11_rest : kw_cb mX11_keepAct mX11_rest 2 := ⟨cdX11_rest, in_X11, ⟨by decide +kernel, by decide +kernel, by decide +kernel⟩, by decide, by decide⟩
theorem cdX11_keepIn : Cond.code mX11_keepIn.1 mX11_keepIn.2.1 mX11_keepIn.2.2.1 mX11_keepIn.2.2.2.1 ∈ kw_T := kw_in 488 (by decide +kernel) rfl
theorem cbX11_keepAct_X11_keepIn : kw_cb mX11_keepAct mX11_keepIn 2 := ⟨cdX11_keepIn, in_X11, ⟨by decide +kernel, by decide +kernel, by decide +kernel⟩, by decide, by decide⟩
theorem lkX11_277 : Cond.methodLink RX11 277 yX11_keepIn ∈ kw_T := kw_in 485 (by decide +kernel) rfl
theorem imX11_keepIn : Cond.instanceMethod yX11_keepIn ∈ kw_T := kw_in 487 (by decide +kernel) rfl
theorem seX11_X11_keepIn_X11_keepIn : Cond.selects RX11 yX11_keepIn yX11_keepIn ∈ kw_T := kw_in 9 (by decide +kernel) rfl
theorem pfX11_keepAct_126 : kw_pok mX11_keepAct 126 [10] 8 (.int) := by
  intro ci h
  simp only [List.mem_cons, List.not_mem_nil, or_false] at h
  subst h
  exact ⟨_, _, _, tyX11, kcX11, tyX11_ok, nmX11, by decide, ⟨"KitchenWheels", kw_in 246 (by decide +kernel) rfl, Or.inl rfl⟩, rfl, Or.inl rfl⟩

theorem pfX11_keepAct_130 : kw_pok mX11_keepAct 130 [10] 7 (.int) := by
  intro ci h
  simp only [List.mem_cons, List.not_mem_nil, or_false] at h
  subst h
  exact ⟨_, _, _, tyX11, kcX11, tyX11_ok, nmX11, by decide, ⟨"KitchenWheels", kw_in 245 (by decide +kernel) rfl, Or.inl rfl⟩, rfl, Or.inl rfl⟩

theorem cdX2_isThere : Cond.code mX2_isThere.1 mX2_isThere.2.1 mX2_isThere.2.2.1 mX2_isThere.2.2.2.1 ∈ kw_T := kw_in 480 (by decide +kernel) rfl
theorem cbX11_weeks_X2_isThere : kw_cb mX11_weeks mX2_isThere 0 := ⟨cdX2_isThere, in_X2, ⟨by decide +kernel, by decide +kernel, by decide +kernel⟩, by decide, by decide⟩
theorem lkX11_137 : Cond.methodLink RX11 137 yX2_isThere ∈ kw_T := kw_in 477 (by decide +kernel) rfl
theorem imX2_isThere : Cond.instanceMethod yX2_isThere ∈ kw_T := kw_in 478 (by decide +kernel) rfl
theorem seX2_X2_isThere_X2_isThere : Cond.selects RX2 yX2_isThere yX2_isThere ∈ kw_T := kw_in 479 (by decide +kernel) rfl
theorem cbX11_weeks_X11_within : kw_cb mX11_weeks mX11_within 3 := ⟨cdX11_within, in_X11, ⟨by decide +kernel, by decide +kernel, by decide +kernel⟩, by decide, by decide⟩
theorem gfX11_140 : kw_gok RX11 140 [2] 7 := by
  intro ci h
  simp only [List.mem_cons, List.not_mem_nil, or_false] at h
  subst h
  exact ⟨_, _, _, kcX2, by decide, "KitchenWheels$Kitchen", kw_in 152 (by decide +kernel) rfl, Or.inl rfl⟩

theorem gfX11_149 : kw_gok RX11 149 [2] 8 := by
  intro ci h
  simp only [List.mem_cons, List.not_mem_nil, or_false] at h
  subst h
  exact ⟨_, _, _, kcX2, by decide, "KitchenWheels$Kitchen", kw_in 155 (by decide +kernel) rfl, Or.inl rfl⟩

theorem cdX11_keepAct : Cond.code mX11_keepAct.1 mX11_keepAct.2.1 mX11_keepAct.2.2.1 mX11_keepAct.2.2.2.1 ∈ kw_T := kw_in 484 (by decide +kernel) rfl
theorem cbX11_weeks_X11_keepAct : kw_cb mX11_weeks mX11_keepAct 0 := ⟨cdX11_keepAct, in_X11, ⟨by decide +kernel, by decide +kernel, by decide +kernel⟩, by decide, by decide⟩
theorem lkX11_143 : Cond.methodLink RX11 143 yX11_keepAct ∈ kw_T := kw_in 481 (by decide +kernel) rfl
theorem imX11_keepAct : Cond.instanceMethod yX11_keepAct ∈ kw_T := kw_in 483 (by decide +kernel) rfl
theorem seX11_X11_keepAct_X11_keepAct : Cond.selects RX11 yX11_keepAct yX11_keepAct ∈ kw_T := kw_in 8 (by decide +kernel) rfl
theorem cdX2_passWeek : Cond.code mX2_passWeek.1 mX2_passWeek.2.1 mX2_passWeek.2.2.1 mX2_passWeek.2.2.2.1 ∈ kw_T := kw_in 492 (by decide +kernel) rfl
theorem cbX11_weeks_X2_passWeek : kw_cb mX11_weeks mX2_passWeek 0 := ⟨cdX2_passWeek, in_X2, ⟨by decide +kernel, by decide +kernel, by decide +kernel⟩, by decide, by decide⟩
theorem lkX11_146 : Cond.methodLink RX11 146 yX2_passWeek ∈ kw_T := kw_in 489 (by decide +kernel) rfl
theorem imX2_passWeek : Cond.instanceMethod yX2_passWeek ∈ kw_T := kw_in 490 (by decide +kernel) rfl
theorem seX2_X2_passWeek_X2_passWeek : Cond.selects RX2 yX2_passWeek yX2_passWeek ∈ kw_T := kw_in 491 (by decide +kernel) rfl
theorem cbX11_leave_X2_isThere : kw_cb mX11_leave mX2_isThere 0 := ⟨cdX2_isThere, in_X2, ⟨by decide +kernel, by decide +kernel, by decide +kernel⟩, by decide, by decide⟩
theorem cbX11_leave_X11_isPerson : kw_cb mX11_leave mX11_isPerson 1 := ⟨cdX11_isPerson, in_X11, ⟨by decide +kernel, by decide +kernel, by decide +kernel⟩, by decide, by decide⟩
theorem lkX11_152 : Cond.methodLink RX11 152 yX11_isPerson ∈ kw_T := kw_in 552 (by decide +kernel) rfl
theorem gfX11_155 : kw_gok RX11 155 [2] 9 := by
  intro ci h
  simp only [List.mem_cons, List.not_mem_nil, or_false] at h
  subst h
  exact ⟨_, _, _, kcX2, by decide, "KitchenWheels$Kitchen", kw_in 157 (by decide +kernel) rfl, Or.inl rfl⟩

theorem cbX11_leave_X11_holds : kw_cb mX11_leave mX11_holds 2 := ⟨cdX11_holds, in_X11, ⟨by decide +kernel, by decide +kernel, by decide +kernel⟩, by decide, by decide⟩
theorem lkX11_158 : Cond.methodLink RX11 158 yX11_holds ∈ kw_T := kw_in 553 (by decide +kernel) rfl
theorem cbX11_leave_X11_keepAct : kw_cb mX11_leave mX11_keepAct 0 := ⟨cdX11_keepAct, in_X11, ⟨by decide +kernel, by decide +kernel, by decide +kernel⟩, by decide, by decide⟩
theorem pfX11_leave_155 : kw_pok mX11_leave 155 [2] 9 (.int) := by
  intro ci h
  simp only [List.mem_cons, List.not_mem_nil, or_false] at h
  subst h
  exact ⟨_, _, _, tyX2, kcX2, tyX2_ok, nmX2, by decide, ⟨"KitchenWheels$Kitchen", kw_in 157 (by decide +kernel) rfl, Or.inl rfl⟩, rfl, Or.inl rfl⟩

theorem cbX11_write_X11_within : kw_cb mX11_write mX11_within 3 := ⟨cdX11_within, in_X11, ⟨by decide +kernel, by decide +kernel, by decide +kernel⟩, by decide, by decide⟩
theorem cbX11_write_X11_keepAct : kw_cb mX11_write mX11_keepAct 0 := ⟨cdX11_keepAct, in_X11, ⟨by decide +kernel, by decide +kernel, by decide +kernel⟩, by decide, by decide⟩
theorem cbX11_name_X2_isThere : kw_cb mX11_name mX2_isThere 0 := ⟨cdX2_isThere, in_X2, ⟨by decide +kernel, by decide +kernel, by decide +kernel⟩, by decide, by decide⟩
theorem gfX11_162 : kw_gok RX11 162 [2] 0 := by
  intro ci h
  simp only [List.mem_cons, List.not_mem_nil, or_false] at h
  subst h
  exact ⟨_, _, _, kcX2, by decide, "KitchenWheels$Kitchen", kw_in 128 (by decide +kernel) rfl, Or.inl rfl⟩

theorem gfX11_166 : kw_gok RX11 166 [2] 4 := by
  intro ci h
  simp only [List.mem_cons, List.not_mem_nil, or_false] at h
  subst h
  exact ⟨_, _, _, kcX2, by decide, "KitchenWheels$Kitchen", kw_in 141 (by decide +kernel) rfl, Or.inl rfl⟩

theorem cdX11_write : Cond.code mX11_write.1 mX11_write.2.1 mX11_write.2.2.1 mX11_write.2.2.2.1 ∈ kw_T := kw_in 561 (by decide +kernel) rfl
theorem cbX11_name_X11_write : kw_cb mX11_name mX11_write 4 := ⟨cdX11_write, in_X11, ⟨by decide +kernel, by decide +kernel, by decide +kernel⟩, by decide, by decide⟩
theorem lkX11_169 : Cond.methodLink RX11 169 yX11_write ∈ kw_T := kw_in 558 (by decide +kernel) rfl
theorem imX11_write : Cond.instanceMethod yX11_write ∈ kw_T := kw_in 560 (by decide +kernel) rfl
theorem seX11_X11_write_X11_write : Cond.selects RX11 yX11_write yX11_write ∈ kw_T := kw_in 12 (by decide +kernel) rfl
theorem cbX11_job_X2_isThere : kw_cb mX11_job mX2_isThere 0 := ⟨cdX2_isThere, in_X2, ⟨by decide +kernel, by decide +kernel, by decide +kernel⟩, by decide, by decide⟩
theorem gfX11_173 : kw_gok RX11 173 [2] 1 := by
  intro ci h
  simp only [List.mem_cons, List.not_mem_nil, or_false] at h
  subst h
  exact ⟨_, _, _, kcX2, by decide, "KitchenWheels$Kitchen", kw_in 132 (by decide +kernel) rfl, Or.inl rfl⟩

theorem gfX11_176 : kw_gok RX11 176 [2] 5 := by
  intro ci h
  simp only [List.mem_cons, List.not_mem_nil, or_false] at h
  subst h
  exact ⟨_, _, _, kcX2, by decide, "KitchenWheels$Kitchen", kw_in 144 (by decide +kernel) rfl, Or.inl rfl⟩

theorem cbX11_job_X11_write : kw_cb mX11_job mX11_write 4 := ⟨cdX11_write, in_X11, ⟨by decide +kernel, by decide +kernel, by decide +kernel⟩, by decide, by decide⟩
theorem cbX11_turn_X2_isThere : kw_cb mX11_turn mX2_isThere 0 := ⟨cdX2_isThere, in_X2, ⟨by decide +kernel, by decide +kernel, by decide +kernel⟩, by decide, by decide⟩
theorem cbX11_turn_X11_within : kw_cb mX11_turn mX11_within 3 := ⟨cdX11_within, in_X11, ⟨by decide +kernel, by decide +kernel, by decide +kernel⟩, by decide, by decide⟩
theorem cbX11_turn_X11_keepAct : kw_cb mX11_turn mX11_keepAct 0 := ⟨cdX11_keepAct, in_X11, ⟨by decide +kernel, by decide +kernel, by decide +kernel⟩, by decide, by decide⟩
theorem cbX11_turn_X11_rest : kw_cb mX11_turn mX11_rest 2 := ⟨cdX11_rest, in_X11, ⟨by decide +kernel, by decide +kernel, by decide +kernel⟩, by decide, by decide⟩
theorem pfX11_turn_149 : kw_pok mX11_turn 149 [2] 8 (.int) := by
  intro ci h
  simp only [List.mem_cons, List.not_mem_nil, or_false] at h
  subst h
  exact ⟨_, _, _, tyX2, kcX2, tyX2_ok, nmX2, by decide, ⟨"KitchenWheels$Kitchen", kw_in 155 (by decide +kernel) rfl, Or.inl rfl⟩, rfl, Or.inl rfl⟩

theorem cbX11_done_X2_isThere : kw_cb mX11_done mX2_isThere 0 := ⟨cdX2_isThere, in_X2, ⟨by decide +kernel, by decide +kernel, by decide +kernel⟩, by decide, by decide⟩
theorem cbX11_done_X11_isPerson : kw_cb mX11_done mX11_isPerson 1 := ⟨cdX11_isPerson, in_X11, ⟨by decide +kernel, by decide +kernel, by decide +kernel⟩, by decide, by decide⟩
theorem cbX11_done_X11_isJob : kw_cb mX11_done mX11_isJob 1 := ⟨cdX11_isJob, in_X11, ⟨by decide +kernel, by decide +kernel, by decide +kernel⟩, by decide, by decide⟩
theorem lkX11_179 : Cond.methodLink RX11 179 yX11_isJob ∈ kw_T := kw_in 574 (by decide +kernel) rfl
theorem gfX11_182 : kw_gok RX11 182 [2] 3 := by
  intro ci h
  simp only [List.mem_cons, List.not_mem_nil, or_false] at h
  subst h
  exact ⟨_, _, _, kcX2, by decide, "KitchenWheels$Kitchen", kw_in 137 (by decide +kernel) rfl, Or.inl rfl⟩

theorem cbX11_slot_X2_isThere : kw_cb mX11_slot mX2_isThere 0 := ⟨cdX2_isThere, in_X2, ⟨by decide +kernel, by decide +kernel, by decide +kernel⟩, by decide, by decide⟩
theorem cbX11_slot_X11_within : kw_cb mX11_slot mX11_within 3 := ⟨cdX11_within, in_X11, ⟨by decide +kernel, by decide +kernel, by decide +kernel⟩, by decide, by decide⟩
theorem cbX11_slot_X2_jobHad : kw_cb mX11_slot mX2_jobHad 2 := ⟨cdX2_jobHad, in_X2, ⟨by decide +kernel, by decide +kernel, by decide +kernel⟩, by decide, by decide⟩
theorem lkX11_186 : Cond.methodLink RX11 186 yX2_jobHad ∈ kw_T := kw_in 580 (by decide +kernel) rfl
theorem ckX11_185 : Cond.constant RX11 185 (-1000000) ∈ kw_T := kw_in 579 (by decide +kernel) rfl
theorem cbX11_turner_X2_turnerAt : kw_cb mX11_turner mX2_turnerAt 1 := ⟨cdX2_turnerAt, in_X2, ⟨by decide +kernel, by decide +kernel, by decide +kernel⟩, by decide, by decide⟩
theorem lkX11_189 : Cond.methodLink RX11 189 yX2_turnerAt ∈ kw_T := kw_in 585 (by decide +kernel) rfl
theorem cbX11_turner_X11_within : kw_cb mX11_turner mX11_within 3 := ⟨cdX11_within, in_X11, ⟨by decide +kernel, by decide +kernel, by decide +kernel⟩, by decide, by decide⟩
theorem sMX11_198 : Cond.sameMethod "KitchenWheels$Turner" "KitchenWheels$Turner" "howFar" "(I)I" ∈ kw_T := kw_in 529 (by decide +kernel) rfl
theorem cbX11_turner_X0_howFar : kw_cb mX11_turner mX0_howFar 1 := ⟨cdX0_howFar, in_X0, ⟨by decide +kernel, by decide +kernel, by decide +kernel⟩, by decide, by decide⟩
theorem lkX11_198 : Cond.methodLink RX11 198 ⟨"KitchenWheels$Turner", "howFar", "(I)I"⟩ ∈ kw_T := kw_in 586 (by decide +kernel) rfl
theorem cbX11_turner_X3_howFar : kw_cb mX11_turner mX3_howFar 1 := ⟨cdX3_howFar, in_X3, ⟨by decide +kernel, by decide +kernel, by decide +kernel⟩, by decide, by decide⟩
theorem cbX11_turner_X4_howFar : kw_cb mX11_turner mX4_howFar 1 := ⟨cdX4_howFar, in_X4, ⟨by decide +kernel, by decide +kernel, by decide +kernel⟩, by decide, by decide⟩
theorem cbX11_turner_X5_howFar : kw_cb mX11_turner mX5_howFar 1 := ⟨cdX5_howFar, in_X5, ⟨by decide +kernel, by decide +kernel, by decide +kernel⟩, by decide, by decide⟩
theorem cbX11_turner_X7_howFar : kw_cb mX11_turner mX7_howFar 1 := ⟨cdX7_howFar, in_X7, ⟨by decide +kernel, by decide +kernel, by decide +kernel⟩, by decide, by decide⟩
theorem gfX11_193 : kw_gok RX11 193 [0, 3, 4, 5, 7] 1 := by
  intro ci h
  simp only [List.mem_cons, List.not_mem_nil, or_false] at h
  rcases h with rfl | rfl | rfl | rfl | rfl
  · exact ⟨_, _, _, kcX0, by decide, "KitchenWheels$Turner", kw_in 409 (by decide +kernel) rfl, Or.inl rfl⟩
  · exact ⟨_, _, _, kcX3, by decide, "KitchenWheels$Turner", kw_in 409 (by decide +kernel) rfl, Or.inl rfl⟩
  · exact ⟨_, _, _, kcX4, by decide, "KitchenWheels$Turner", kw_in 409 (by decide +kernel) rfl, Or.inl rfl⟩
  · exact ⟨_, _, _, kcX5, by decide, "KitchenWheels$Turner", kw_in 409 (by decide +kernel) rfl, Or.inl rfl⟩
  · exact ⟨_, _, _, kcX7, by decide, "KitchenWheels$Turner", kw_in 409 (by decide +kernel) rfl, Or.inl rfl⟩

theorem cbX11_hasJobs_X2_isThere : kw_cb mX11_hasJobs mX2_isThere 0 := ⟨cdX2_isThere, in_X2, ⟨by decide +kernel, by decide +kernel, by decide +kernel⟩, by decide, by decide⟩
theorem cbX11_hasJobs_X11_isPerson : kw_cb mX11_hasJobs mX11_isPerson 1 := ⟨cdX11_isPerson, in_X11, ⟨by decide +kernel, by decide +kernel, by decide +kernel⟩, by decide, by decide⟩
theorem cbX11_hasJobs_X11_within : kw_cb mX11_hasJobs mX11_within 3 := ⟨cdX11_within, in_X11, ⟨by decide +kernel, by decide +kernel, by decide +kernel⟩, by decide, by decide⟩
theorem cbX11_hasJobs_X2_turnedBehind : kw_cb mX11_hasJobs mX2_turnedBehind 1 := ⟨cdX2_turnedBehind, in_X2, ⟨by decide +kernel, by decide +kernel, by decide +kernel⟩, by decide, by decide⟩
theorem lkX11_201 : Cond.methodLink RX11 201 yX2_turnedBehind ∈ kw_T := kw_in 591 (by decide +kernel) rfl
theorem cbX11_hasJobs_X2_awayBehind : kw_cb mX11_hasJobs mX2_awayBehind 1 := ⟨cdX2_awayBehind, in_X2, ⟨by decide +kernel, by decide +kernel, by decide +kernel⟩, by decide, by decide⟩
theorem lkX11_204 : Cond.methodLink RX11 204 yX2_awayBehind ∈ kw_T := kw_in 595 (by decide +kernel) rfl
theorem cbX11_hasJobs_X2_jobsOf : kw_cb mX11_hasJobs mX2_jobsOf 3 := ⟨cdX2_jobsOf, in_X2, ⟨by decide +kernel, by decide +kernel, by decide +kernel⟩, by decide, by decide⟩
theorem lkX11_207 : Cond.methodLink RX11 207 yX2_jobsOf ∈ kw_T := kw_in 599 (by decide +kernel) rfl
theorem cbX11_whoDoes_X2_isThere : kw_cb mX11_whoDoes mX2_isThere 0 := ⟨cdX2_isThere, in_X2, ⟨by decide +kernel, by decide +kernel, by decide +kernel⟩, by decide, by decide⟩
theorem cbX11_whoDoes_X11_isJob : kw_cb mX11_whoDoes mX11_isJob 1 := ⟨cdX11_isJob, in_X11, ⟨by decide +kernel, by decide +kernel, by decide +kernel⟩, by decide, by decide⟩
theorem cbX11_whoDoes_X11_within : kw_cb mX11_whoDoes mX11_within 3 := ⟨cdX11_within, in_X11, ⟨by decide +kernel, by decide +kernel, by decide +kernel⟩, by decide, by decide⟩
theorem cbX11_whoDoes_X2_turnedBehind : kw_cb mX11_whoDoes mX2_turnedBehind 1 := ⟨cdX2_turnedBehind, in_X2, ⟨by decide +kernel, by decide +kernel, by decide +kernel⟩, by decide, by decide⟩
theorem cbX11_whoDoes_X2_awayBehind : kw_cb mX11_whoDoes mX2_awayBehind 1 := ⟨cdX2_awayBehind, in_X2, ⟨by decide +kernel, by decide +kernel, by decide +kernel⟩, by decide, by decide⟩
theorem cbX11_whoDoes_X2_doersOf : kw_cb mX11_whoDoes mX2_doersOf 3 := ⟨cdX2_doersOf, in_X2, ⟨by decide +kernel, by decide +kernel, by decide +kernel⟩, by decide, by decide⟩
theorem lkX11_210 : Cond.methodLink RX11 210 yX2_doersOf ∈ kw_T := kw_in 607 (by decide +kernel) rfl
theorem cbX11_often_X2_isThere : kw_cb mX11_often mX2_isThere 0 := ⟨cdX2_isThere, in_X2, ⟨by decide +kernel, by decide +kernel, by decide +kernel⟩, by decide, by decide⟩
theorem cbX11_often_X11_isPerson : kw_cb mX11_often mX11_isPerson 1 := ⟨cdX11_isPerson, in_X11, ⟨by decide +kernel, by decide +kernel, by decide +kernel⟩, by decide, by decide⟩
theorem cbX11_often_X11_isJob : kw_cb mX11_often mX11_isJob 1 := ⟨cdX11_isJob, in_X11, ⟨by decide +kernel, by decide +kernel, by decide +kernel⟩, by decide, by decide⟩
theorem cbX11_often_X11_within : kw_cb mX11_often mX11_within 3 := ⟨cdX11_within, in_X11, ⟨by decide +kernel, by decide +kernel, by decide +kernel⟩, by decide, by decide⟩
theorem gfX11_33 : kw_gok RX11 33 [10] 3 := by
  intro ci h
  simp only [List.mem_cons, List.not_mem_nil, or_false] at h
  subst h
  exact ⟨_, _, _, kcX11, by decide, "KitchenWheels", kw_in 241 (by decide +kernel) rfl, Or.inl rfl⟩

theorem cdX1_timesIn : Cond.code mX1_timesIn.1 mX1_timesIn.2.1 mX1_timesIn.2.2.1 mX1_timesIn.2.2.2.1 ∈ kw_T := kw_in 618 (by decide +kernel) rfl
theorem cbX11_often_X1_timesIn : kw_cb mX11_often mX1_timesIn 4 := ⟨cdX1_timesIn, in_X1, ⟨by decide +kernel, by decide +kernel, by decide +kernel⟩, by decide, by decide⟩
theorem lkX11_213 : Cond.methodLink RX11 213 yX1_timesIn ∈ kw_T := kw_in 615 (by decide +kernel) rfl
theorem imX1_timesIn : Cond.instanceMethod yX1_timesIn ∈ kw_T := kw_in 616 (by decide +kernel) rfl
theorem seX1_X1_timesIn_X1_timesIn : Cond.selects RX1 yX1_timesIn yX1_timesIn ∈ kw_T := kw_in 617 (by decide +kernel) rfl
theorem cbX11_meets_X2_isThere : kw_cb mX11_meets mX2_isThere 0 := ⟨cdX2_isThere, in_X2, ⟨by decide +kernel, by decide +kernel, by decide +kernel⟩, by decide, by decide⟩
theorem cbX11_meets_X11_isPerson : kw_cb mX11_meets mX11_isPerson 1 := ⟨cdX11_isPerson, in_X11, ⟨by decide +kernel, by decide +kernel, by decide +kernel⟩, by decide, by decide⟩
theorem cbX11_meets_X11_isJob : kw_cb mX11_meets mX11_isJob 1 := ⟨cdX11_isJob, in_X11, ⟨by decide +kernel, by decide +kernel, by decide +kernel⟩, by decide, by decide⟩
theorem cdX1_firstMeeting : Cond.code mX1_firstMeeting.1 mX1_firstMeeting.2.1 mX1_firstMeeting.2.2.1 mX1_firstMeeting.2.2.2.1 ∈ kw_T := kw_in 630 (by decide +kernel) rfl
theorem cbX11_meets_X1_firstMeeting : kw_cb mX11_meets mX1_firstMeeting 3 := ⟨cdX1_firstMeeting, in_X1, ⟨by decide +kernel, by decide +kernel, by decide +kernel⟩, by decide, by decide⟩
theorem lkX11_217 : Cond.methodLink RX11 217 yX1_firstMeeting ∈ kw_T := kw_in 627 (by decide +kernel) rfl
theorem imX1_firstMeeting : Cond.instanceMethod yX1_firstMeeting ∈ kw_T := kw_in 628 (by decide +kernel) rfl
theorem seX1_X1_firstMeeting_X1_firstMeeting : Cond.selects RX1 yX1_firstMeeting yX1_firstMeeting ∈ kw_T := kw_in 629 (by decide +kernel) rfl
theorem cbX11_allMet_X2_isThere : kw_cb mX11_allMet mX2_isThere 0 := ⟨cdX2_isThere, in_X2, ⟨by decide +kernel, by decide +kernel, by decide +kernel⟩, by decide, by decide⟩
theorem cdX1_weeksUntilAllMet : Cond.code mX1_weeksUntilAllMet.1 mX1_weeksUntilAllMet.2.1 mX1_weeksUntilAllMet.2.2.1 mX1_weeksUntilAllMet.2.2.2.1 ∈ kw_T := kw_in 641 (by decide +kernel) rfl
theorem cbX11_allMet_X1_weeksUntilAllMet : kw_cb mX11_allMet mX1_weeksUntilAllMet 1 := ⟨cdX1_weeksUntilAllMet, in_X1, ⟨by decide +kernel, by decide +kernel, by decide +kernel⟩, by decide, by decide⟩
theorem lkX11_221 : Cond.methodLink RX11 221 yX1_weeksUntilAllMet ∈ kw_T := kw_in 638 (by decide +kernel) rfl
theorem imX1_weeksUntilAllMet : Cond.instanceMethod yX1_weeksUntilAllMet ∈ kw_T := kw_in 639 (by decide +kernel) rfl
theorem seX1_X1_weeksUntilAllMet_X1_weeksUntilAllMet : Cond.selects RX1 yX1_weeksUntilAllMet yX1_weeksUntilAllMet ∈ kw_T := kw_in 640 (by decide +kernel) rfl
theorem cbX11_round_X2_isThere : kw_cb mX11_round mX2_isThere 0 := ⟨cdX2_isThere, in_X2, ⟨by decide +kernel, by decide +kernel, by decide +kernel⟩, by decide, by decide⟩
theorem cdX1_weeksUntilAnew : Cond.code mX1_weeksUntilAnew.1 mX1_weeksUntilAnew.2.1 mX1_weeksUntilAnew.2.2.1 mX1_weeksUntilAnew.2.2.2.1 ∈ kw_T := kw_in 662 (by decide +kernel) rfl
theorem cbX11_round_X1_weeksUntilAnew : kw_cb mX11_round mX1_weeksUntilAnew 1 := ⟨cdX1_weeksUntilAnew, in_X1, ⟨by decide +kernel, by decide +kernel, by decide +kernel⟩, by decide, by decide⟩
theorem lkX11_225 : Cond.methodLink RX11 225 yX1_weeksUntilAnew ∈ kw_T := kw_in 659 (by decide +kernel) rfl
theorem imX1_weeksUntilAnew : Cond.instanceMethod yX1_weeksUntilAnew ∈ kw_T := kw_in 660 (by decide +kernel) rfl
theorem seX1_X1_weeksUntilAnew_X1_weeksUntilAnew : Cond.selects RX1 yX1_weeksUntilAnew yX1_weeksUntilAnew ∈ kw_T := kw_in 661 (by decide +kernel) rfl
theorem cbX11_fairest_X2_isThere : kw_cb mX11_fairest mX2_isThere 0 := ⟨cdX2_isThere, in_X2, ⟨by decide +kernel, by decide +kernel, by decide +kernel⟩, by decide, by decide⟩
theorem cbX11_fairest_X11_within : kw_cb mX11_fairest mX11_within 3 := ⟨cdX11_within, in_X11, ⟨by decide +kernel, by decide +kernel, by decide +kernel⟩, by decide, by decide⟩
theorem cdX1_fairestTurn : Cond.code mX1_fairestTurn.1 mX1_fairestTurn.2.1 mX1_fairestTurn.2.2.1 mX1_fairestTurn.2.2.2.1 ∈ kw_T := kw_in 671 (by decide +kernel) rfl
theorem cbX11_fairest_X1_fairestTurn : kw_cb mX11_fairest mX1_fairestTurn 2 := ⟨cdX1_fairestTurn, in_X1, ⟨by decide +kernel, by decide +kernel, by decide +kernel⟩, by decide, by decide⟩
theorem lkX11_228 : Cond.methodLink RX11 228 yX1_fairestTurn ∈ kw_T := kw_in 668 (by decide +kernel) rfl
theorem imX1_fairestTurn : Cond.instanceMethod yX1_fairestTurn ∈ kw_T := kw_in 669 (by decide +kernel) rfl
theorem seX1_X1_fairestTurn_X1_fairestTurn : Cond.selects RX1 yX1_fairestTurn yX1_fairestTurn ∈ kw_T := kw_in 670 (by decide +kernel) rfl
theorem cbX11_fairest_X1_spreadTurnedBy : kw_cb mX11_fairest mX1_spreadTurnedBy 3 := ⟨cdX1_spreadTurnedBy, in_X1, ⟨by decide +kernel, by decide +kernel, by decide +kernel⟩, by decide, by decide⟩
theorem lkX11_232 : Cond.methodLink RX11 232 yX1_spreadTurnedBy ∈ kw_T := kw_in 690 (by decide +kernel) rfl
theorem cbX11_owed_X2_isThere : kw_cb mX11_owed mX2_isThere 0 := ⟨cdX2_isThere, in_X2, ⟨by decide +kernel, by decide +kernel, by decide +kernel⟩, by decide, by decide⟩
theorem cbX11_owed_X11_isPerson : kw_cb mX11_owed mX11_isPerson 1 := ⟨cdX11_isPerson, in_X11, ⟨by decide +kernel, by decide +kernel, by decide +kernel⟩, by decide, by decide⟩
theorem cbX11_owed_X2_allTimesOf : kw_cb mX11_owed mX2_allTimesOf 1 := ⟨cdX2_allTimesOf, in_X2, ⟨by decide +kernel, by decide +kernel, by decide +kernel⟩, by decide, by decide⟩
theorem lkX11_235 : Cond.methodLink RX11 235 yX2_allTimesOf ∈ kw_T := kw_in 695 (by decide +kernel) rfl
theorem lkX11_238 : Cond.methodLink RX11 238 Lib.Math.max.name ∈ kw_T := kw_in 699 (by decide +kernel) rfl
theorem cbX11_right_X2_isThere : kw_cb mX11_right mX2_isThere 0 := ⟨cdX2_isThere, in_X2, ⟨by decide +kernel, by decide +kernel, by decide +kernel⟩, by decide, by decide⟩
theorem cbX11_right_X11_isPerson : kw_cb mX11_right mX11_isPerson 1 := ⟨cdX11_isPerson, in_X11, ⟨by decide +kernel, by decide +kernel, by decide +kernel⟩, by decide, by decide⟩
theorem cbX11_right_X11_isJob : kw_cb mX11_right mX11_isJob 1 := ⟨cdX11_isJob, in_X11, ⟨by decide +kernel, by decide +kernel, by decide +kernel⟩, by decide, by decide⟩
theorem cbX11_right_X11_within : kw_cb mX11_right mX11_within 3 := ⟨cdX11_within, in_X11, ⟨by decide +kernel, by decide +kernel, by decide +kernel⟩, by decide, by decide⟩
theorem cdX1_swapFor : Cond.code mX1_swapFor.1 mX1_swapFor.2.1 mX1_swapFor.2.2.1 mX1_swapFor.2.2.2.1 ∈ kw_T := kw_in 707 (by decide +kernel) rfl
theorem cbX11_right_X1_swapFor : kw_cb mX11_right mX1_swapFor 4 := ⟨cdX1_swapFor, in_X1, ⟨by decide +kernel, by decide +kernel, by decide +kernel⟩, by decide, by decide⟩
theorem lkX11_243 : Cond.methodLink RX11 243 yX1_swapFor ∈ kw_T := kw_in 704 (by decide +kernel) rfl
theorem imX1_swapFor : Cond.instanceMethod yX1_swapFor ∈ kw_T := kw_in 705 (by decide +kernel) rfl
theorem seX1_X1_swapFor_X1_swapFor : Cond.selects RX1 yX1_swapFor yX1_swapFor ∈ kw_T := kw_in 706 (by decide +kernel) rfl
theorem cbX11_twice_X2_isThere : kw_cb mX11_twice mX2_isThere 0 := ⟨cdX2_isThere, in_X2, ⟨by decide +kernel, by decide +kernel, by decide +kernel⟩, by decide, by decide⟩
theorem cdX1_nameToWrite : Cond.code mX1_nameToWrite.1 mX1_nameToWrite.2.1 mX1_nameToWrite.2.2.1 mX1_nameToWrite.2.2.2.1 ∈ kw_T := kw_in 722 (by decide +kernel) rfl
theorem cbX11_twice_X1_nameToWrite : kw_cb mX11_twice mX1_nameToWrite 1 := ⟨cdX1_nameToWrite, in_X1, ⟨by decide +kernel, by decide +kernel, by decide +kernel⟩, by decide, by decide⟩
theorem lkX11_246 : Cond.methodLink RX11 246 yX1_nameToWrite ∈ kw_T := kw_in 719 (by decide +kernel) rfl
theorem imX1_nameToWrite : Cond.instanceMethod yX1_nameToWrite ∈ kw_T := kw_in 720 (by decide +kernel) rfl
theorem seX1_X1_nameToWrite_X1_nameToWrite : Cond.selects RX1 yX1_nameToWrite yX1_nameToWrite ∈ kw_T := kw_in 721 (by decide +kernel) rfl
theorem cbX11_seen_X2_isThere : kw_cb mX11_seen mX2_isThere 0 := ⟨cdX2_isThere, in_X2, ⟨by decide +kernel, by decide +kernel, by decide +kernel⟩, by decide, by decide⟩
theorem cbX11_seen_X11_isJob : kw_cb mX11_seen mX11_isJob 1 := ⟨cdX11_isJob, in_X11, ⟨by decide +kernel, by decide +kernel, by decide +kernel⟩, by decide, by decide⟩
theorem cbX11_seen_X6_isRow : kw_cb mX11_seen mX6_isRow 1 := ⟨cdX6_isRow, in_X6, ⟨by decide +kernel, by decide +kernel, by decide +kernel⟩, by decide, by decide⟩
theorem cbX11_seen_X11_within : kw_cb mX11_seen mX11_within 3 := ⟨cdX11_within, in_X11, ⟨by decide +kernel, by decide +kernel, by decide +kernel⟩, by decide, by decide⟩
theorem cbX11_seen_X6_findingAt : kw_cb mX11_seen mX6_findingAt 3 := ⟨cdX6_findingAt, in_X6, ⟨by decide +kernel, by decide +kernel, by decide +kernel⟩, by decide, by decide⟩
theorem cdX1_turnedSeen : Cond.code mX1_turnedSeen.1 mX1_turnedSeen.2.1 mX1_turnedSeen.2.2.1 mX1_turnedSeen.2.2.2.1 ∈ kw_T := kw_in 739 (by decide +kernel) rfl
theorem cbX11_seen_X1_turnedSeen : kw_cb mX11_seen mX1_turnedSeen 6 := ⟨cdX1_turnedSeen, in_X1, ⟨by decide +kernel, by decide +kernel, by decide +kernel⟩, by decide, by decide⟩
theorem lkX11_249 : Cond.methodLink RX11 249 yX1_turnedSeen ∈ kw_T := kw_in 736 (by decide +kernel) rfl
theorem imX1_turnedSeen : Cond.instanceMethod yX1_turnedSeen ∈ kw_T := kw_in 737 (by decide +kernel) rfl
theorem seX1_X1_turnedSeen_X1_turnedSeen : Cond.selects RX1 yX1_turnedSeen yX1_turnedSeen ∈ kw_T := kw_in 738 (by decide +kernel) rfl
theorem cbX11_seen_X11_unfound : kw_cb mX11_seen mX11_unfound 1 := ⟨cdX11_unfound, in_X11, ⟨by decide +kernel, by decide +kernel, by decide +kernel⟩, by decide, by decide⟩
theorem cbX11_seen_X11_finding : kw_cb mX11_seen mX11_finding 1 := ⟨cdX11_finding, in_X11, ⟨by decide +kernel, by decide +kernel, by decide +kernel⟩, by decide, by decide⟩
theorem cbX11_who_X2_turnerAt : kw_cb mX11_who mX2_turnerAt 1 := ⟨cdX2_turnerAt, in_X2, ⟨by decide +kernel, by decide +kernel, by decide +kernel⟩, by decide, by decide⟩
theorem cbX11_who_X6_isRow : kw_cb mX11_who mX6_isRow 1 := ⟨cdX6_isRow, in_X6, ⟨by decide +kernel, by decide +kernel, by decide +kernel⟩, by decide, by decide⟩
theorem cbX11_who_X11_within : kw_cb mX11_who mX11_within 3 := ⟨cdX11_within, in_X11, ⟨by decide +kernel, by decide +kernel, by decide +kernel⟩, by decide, by decide⟩
theorem cbX11_who_X6_findingAt : kw_cb mX11_who mX6_findingAt 3 := ⟨cdX6_findingAt, in_X6, ⟨by decide +kernel, by decide +kernel, by decide +kernel⟩, by decide, by decide⟩
theorem cdX1_kindsSeen : Cond.code mX1_kindsSeen.1 mX1_kindsSeen.2.1 mX1_kindsSeen.2.2.1 mX1_kindsSeen.2.2.2.1 ∈ kw_T := kw_in 754 (by decide +kernel) rfl
theorem cbX11_who_X1_kindsSeen : kw_cb mX11_who mX1_kindsSeen 6 := ⟨cdX1_kindsSeen, in_X1, ⟨by decide +kernel, by decide +kernel, by decide +kernel⟩, by decide, by decide⟩
theorem lkX11_253 : Cond.methodLink RX11 253 yX1_kindsSeen ∈ kw_T := kw_in 751 (by decide +kernel) rfl
theorem imX1_kindsSeen : Cond.instanceMethod yX1_kindsSeen ∈ kw_T := kw_in 752 (by decide +kernel) rfl
theorem seX1_X1_kindsSeen_X1_kindsSeen : Cond.selects RX1 yX1_kindsSeen yX1_kindsSeen ∈ kw_T := kw_in 753 (by decide +kernel) rfl
theorem cbX11_who_X11_unfound : kw_cb mX11_who mX11_unfound 1 := ⟨cdX11_unfound, in_X11, ⟨by decide +kernel, by decide +kernel, by decide +kernel⟩, by decide, by decide⟩
theorem cbX11_who_X11_finding : kw_cb mX11_who mX11_finding 1 := ⟨cdX11_finding, in_X11, ⟨by decide +kernel, by decide +kernel, by decide +kernel⟩, by decide, by decide⟩
theorem cbX11_pairs_X2_isThere : kw_cb mX11_pairs mX2_isThere 0 := ⟨cdX2_isThere, in_X2, ⟨by decide +kernel, by decide +kernel, by decide +kernel⟩, by decide, by decide⟩
theorem cbX11_pairs_X11_within : kw_cb mX11_pairs mX11_within 3 := ⟨cdX11_within, in_X11, ⟨by decide +kernel, by decide +kernel, by decide +kernel⟩, by decide, by decide⟩
theorem cdX1_pairsIn : Cond.code mX1_pairsIn.1 mX1_pairsIn.2.1 mX1_pairsIn.2.2.1 mX1_pairsIn.2.2.2.1 ∈ kw_T := kw_in 764 (by decide +kernel) rfl
theorem cbX11_pairs_X1_pairsIn : kw_cb mX11_pairs mX1_pairsIn 2 := ⟨cdX1_pairsIn, in_X1, ⟨by decide +kernel, by decide +kernel, by decide +kernel⟩, by decide, by decide⟩
theorem lkX11_256 : Cond.methodLink RX11 256 yX1_pairsIn ∈ kw_T := kw_in 761 (by decide +kernel) rfl
theorem imX1_pairsIn : Cond.instanceMethod yX1_pairsIn ∈ kw_T := kw_in 762 (by decide +kernel) rfl
theorem seX1_X1_pairsIn_X1_pairsIn : Cond.selects RX1 yX1_pairsIn yX1_pairsIn ∈ kw_T := kw_in 763 (by decide +kernel) rfl
theorem cbX11_forgets_X2_isThere : kw_cb mX11_forgets mX2_isThere 0 := ⟨cdX2_isThere, in_X2, ⟨by decide +kernel, by decide +kernel, by decide +kernel⟩, by decide, by decide⟩
theorem cbX11_forgets_X11_isPerson : kw_cb mX11_forgets mX11_isPerson 1 := ⟨cdX11_isPerson, in_X11, ⟨by decide +kernel, by decide +kernel, by decide +kernel⟩, by decide, by decide⟩
theorem ckX11_261 : Cond.constantLong RX11 261 (-1000001) ∈ kw_T := kw_in 776 (by decide +kernel) rfl
theorem cbX11_forgets_X11_isJob : kw_cb mX11_forgets mX11_isJob 1 := ⟨cdX11_isJob, in_X11, ⟨by decide +kernel, by decide +kernel, by decide +kernel⟩, by decide, by decide⟩
theorem cbX11_forgets_X11_within : kw_cb mX11_forgets mX11_within 3 := ⟨cdX11_within, in_X11, ⟨by decide +kernel, by decide +kernel, by decide +kernel⟩, by decide, by decide⟩
theorem cdX1_casesOf : Cond.code mX1_casesOf.1 mX1_casesOf.2.1 mX1_casesOf.2.2.1 mX1_casesOf.2.2.2.1 ∈ kw_T := kw_in 780 (by decide +kernel) rfl
theorem cbX11_forgets_X1_casesOf : kw_cb mX11_forgets mX1_casesOf 5 := ⟨cdX1_casesOf, in_X1, ⟨by decide +kernel, by decide +kernel, by decide +kernel⟩, by decide, by decide⟩
theorem lkX11_263 : Cond.methodLink RX11 263 yX1_casesOf ∈ kw_T := kw_in 777 (by decide +kernel) rfl
theorem imX1_casesOf : Cond.instanceMethod yX1_casesOf ∈ kw_T := kw_in 778 (by decide +kernel) rfl
theorem seX1_X1_casesOf_X1_casesOf : Cond.selects RX1 yX1_casesOf yX1_casesOf ∈ kw_T := kw_in 779 (by decide +kernel) rfl
theorem cdX11_commonPart : Cond.code mX11_commonPart.1 mX11_commonPart.2.1 mX11_commonPart.2.2.1 mX11_commonPart.2.2.2.1 ∈ kw_T := kw_in 792 (by decide +kernel) rfl
theorem cbX11_forgets_X11_commonPart : kw_cb mX11_forgets mX11_commonPart 2 := ⟨cdX11_commonPart, in_X11, ⟨by decide +kernel, by decide +kernel, by decide +kernel⟩, by decide, by decide⟩
theorem lkX11_269 : Cond.methodLink RX11 269 yX11_commonPart ∈ kw_T := kw_in 790 (by decide +kernel) rfl
theorem stX11_commonPart : Cond.static yX11_commonPart ∈ kw_T := kw_in 791 (by decide +kernel) rfl
theorem ckX11_267 : Cond.constantLong RX11 267 10 ∈ kw_T := kw_in 789 (by decide +kernel) rfl
theorem ckX11_259 : Cond.constantLong RX11 259 (-1000002) ∈ kw_T := kw_in 775 (by decide +kernel) rfl
theorem cbX11_drawn_X2_isThere : kw_cb mX11_drawn mX2_isThere 0 := ⟨cdX2_isThere, in_X2, ⟨by decide +kernel, by decide +kernel, by decide +kernel⟩, by decide, by decide⟩
theorem cbX11_drawn_X11_within : kw_cb mX11_drawn mX11_within 3 := ⟨cdX11_within, in_X11, ⟨by decide +kernel, by decide +kernel, by decide +kernel⟩, by decide, by decide⟩
theorem ckX11_273 : Cond.constant RX11 273 999999 ∈ kw_T := kw_in 797 (by decide +kernel) rfl
theorem cbX11_drawn_X2_turnedBehind : kw_cb mX11_drawn mX2_turnedBehind 1 := ⟨cdX2_turnedBehind, in_X2, ⟨by decide +kernel, by decide +kernel, by decide +kernel⟩, by decide, by decide⟩
theorem cdX1_doneByDraws : Cond.code mX1_doneByDraws.1 mX1_doneByDraws.2.1 mX1_doneByDraws.2.2.1 mX1_doneByDraws.2.2.2.1 ∈ kw_T := kw_in 801 (by decide +kernel) rfl
theorem cbX11_drawn_X1_doneByDraws : kw_cb mX11_drawn mX1_doneByDraws 3 := ⟨cdX1_doneByDraws, in_X1, ⟨by decide +kernel, by decide +kernel, by decide +kernel⟩, by decide, by decide⟩
theorem lkX11_274 : Cond.methodLink RX11 274 yX1_doneByDraws ∈ kw_T := kw_in 798 (by decide +kernel) rfl
theorem imX1_doneByDraws : Cond.instanceMethod yX1_doneByDraws ∈ kw_T := kw_in 799 (by decide +kernel) rfl
theorem seX1_X1_doneByDraws_X1_doneByDraws : Cond.selects RX1 yX1_doneByDraws yX1_doneByDraws ∈ kw_T := kw_in 800 (by decide +kernel) rfl
theorem cbX11_image_X11_within : kw_cb mX11_image mX11_within 3 := ⟨cdX11_within, in_X11, ⟨by decide +kernel, by decide +kernel, by decide +kernel⟩, by decide, by decide⟩
theorem cbX11_image_X2_isThere : kw_cb mX11_image mX2_isThere 0 := ⟨cdX2_isThere, in_X2, ⟨by decide +kernel, by decide +kernel, by decide +kernel⟩, by decide, by decide⟩
theorem gfX11_48 : kw_gok RX11 48 [10] 6 := by
  intro ci h
  simp only [List.mem_cons, List.not_mem_nil, or_false] at h
  subst h
  exact ⟨_, _, _, kcX11, by decide, "KitchenWheels", kw_in 244 (by decide +kernel) rfl, Or.inl rfl⟩

theorem cbX11_image_X11_keepIn : kw_cb mX11_image mX11_keepIn 2 := ⟨cdX11_keepIn, in_X11, ⟨by decide +kernel, by decide +kernel, by decide +kernel⟩, by decide, by decide⟩
theorem cbX11_restore_X11_within : kw_cb mX11_restore mX11_within 3 := ⟨cdX11_within, in_X11, ⟨by decide +kernel, by decide +kernel, by decide +kernel⟩, by decide, by decide⟩
theorem cbX11_restore_X2_become : kw_cb mX11_restore mX2_become 1 := ⟨cdX2_become, in_X2, ⟨by decide +kernel, by decide +kernel, by decide +kernel⟩, by decide, by decide⟩
theorem cbX11_restore_X11_forgetActs : kw_cb mX11_restore mX11_forgetActs 0 := ⟨cdX11_forgetActs, in_X11, ⟨by decide +kernel, by decide +kernel, by decide +kernel⟩, by decide, by decide⟩
theorem cbX11_kind_X2_turnerAt : kw_cb mX11_kind mX2_turnerAt 1 := ⟨cdX2_turnerAt, in_X2, ⟨by decide +kernel, by decide +kernel, by decide +kernel⟩, by decide, by decide⟩
theorem sMX11_281 : Cond.sameMethod "KitchenWheels$Turner" "KitchenWheels$Turner" "ownKind" "()I" ∈ kw_T := kw_in 819 (by decide +kernel) rfl
theorem cdX0_ownKind : Cond.code mX0_ownKind.1 mX0_ownKind.2.1 mX0_ownKind.2.2.1 mX0_ownKind.2.2.2.1 ∈ kw_T := kw_in 822 (by decide +kernel) rfl
theorem cbX11_kind_X0_ownKind : kw_cb mX11_kind mX0_ownKind 0 := ⟨cdX0_ownKind, in_X0, ⟨by decide +kernel, by decide +kernel, by decide +kernel⟩, by decide, by decide⟩
theorem lkX11_281 : Cond.methodLink RX11 281 ⟨"KitchenWheels$Turner", "ownKind", "()I"⟩ ∈ kw_T := kw_in 817 (by decide +kernel) rfl
theorem imX0_ownKind : Cond.instanceMethod yX0_ownKind ∈ kw_T := kw_in 821 (by decide +kernel) rfl
theorem seX0_ownKind_X0_ownKind : Cond.selects RX0 ⟨"KitchenWheels$Turner", "ownKind", "()I"⟩ yX0_ownKind ∈ kw_T := kw_in 820 (by decide +kernel) rfl
theorem cdX3_ownKind : Cond.code mX3_ownKind.1 mX3_ownKind.2.1 mX3_ownKind.2.2.1 mX3_ownKind.2.2.2.1 ∈ kw_T := kw_in 825 (by decide +kernel) rfl
theorem cbX11_kind_X3_ownKind : kw_cb mX11_kind mX3_ownKind 0 := ⟨cdX3_ownKind, in_X3, ⟨by decide +kernel, by decide +kernel, by decide +kernel⟩, by decide, by decide⟩
theorem imX3_ownKind : Cond.instanceMethod yX3_ownKind ∈ kw_T := kw_in 824 (by decide +kernel) rfl
theorem seX3_ownKind_X3_ownKind : Cond.selects RX3 ⟨"KitchenWheels$Turner", "ownKind", "()I"⟩ yX3_ownKind ∈ kw_T := kw_in 823 (by decide +kernel) rfl
theorem cdX4_ownKind : Cond.code mX4_ownKind.1 mX4_ownKind.2.1 mX4_ownKind.2.2.1 mX4_ownKind.2.2.2.1 ∈ kw_T := kw_in 828 (by decide +kernel) rfl
theorem cbX11_kind_X4_ownKind : kw_cb mX11_kind mX4_ownKind 0 := ⟨cdX4_ownKind, in_X4, ⟨by decide +kernel, by decide +kernel, by decide +kernel⟩, by decide, by decide⟩
theorem imX4_ownKind : Cond.instanceMethod yX4_ownKind ∈ kw_T := kw_in 827 (by decide +kernel) rfl
theorem seX4_ownKind_X4_ownKind : Cond.selects RX4 ⟨"KitchenWheels$Turner", "ownKind", "()I"⟩ yX4_ownKind ∈ kw_T := kw_in 826 (by decide +kernel) rfl
theorem cdX5_ownKind : Cond.code mX5_ownKind.1 mX5_ownKind.2.1 mX5_ownKind.2.2.1 mX5_ownKind.2.2.2.1 ∈ kw_T := kw_in 831 (by decide +kernel) rfl
theorem cbX11_kind_X5_ownKind : kw_cb mX11_kind mX5_ownKind 0 := ⟨cdX5_ownKind, in_X5, ⟨by decide +kernel, by decide +kernel, by decide +kernel⟩, by decide, by decide⟩
theorem imX5_ownKind : Cond.instanceMethod yX5_ownKind ∈ kw_T := kw_in 830 (by decide +kernel) rfl
theorem seX5_ownKind_X5_ownKind : Cond.selects RX5 ⟨"KitchenWheels$Turner", "ownKind", "()I"⟩ yX5_ownKind ∈ kw_T := kw_in 829 (by decide +kernel) rfl
theorem cdX7_ownKind : Cond.code mX7_ownKind.1 mX7_ownKind.2.1 mX7_ownKind.2.2.1 mX7_ownKind.2.2.2.1 ∈ kw_T := kw_in 834 (by decide +kernel) rfl
theorem cbX11_kind_X7_ownKind : kw_cb mX11_kind mX7_ownKind 0 := ⟨cdX7_ownKind, in_X7, ⟨by decide +kernel, by decide +kernel, by decide +kernel⟩, by decide, by decide⟩
theorem imX7_ownKind : Cond.instanceMethod yX7_ownKind ∈ kw_T := kw_in 833 (by decide +kernel) rfl
theorem seX7_ownKind_X7_ownKind : Cond.selects RX7 ⟨"KitchenWheels$Turner", "ownKind", "()I"⟩ yX7_ownKind ∈ kw_T := kw_in 832 (by decide +kernel) rfl
theorem cbX11_as_X2_turnerAt : kw_cb mX11_as mX2_turnerAt 1 := ⟨cdX2_turnerAt, in_X2, ⟨by decide +kernel, by decide +kernel, by decide +kernel⟩, by decide, by decide⟩
theorem cbX11_as_X11_within : kw_cb mX11_as mX11_within 3 := ⟨cdX11_within, in_X11, ⟨by decide +kernel, by decide +kernel, by decide +kernel⟩, by decide, by decide⟩
theorem cdX10_isOfKind : Cond.code mX10_isOfKind.1 mX10_isOfKind.2.1 mX10_isOfKind.2.2.1 mX10_isOfKind.2.2.2.1 ∈ kw_T := kw_in 841 (by decide +kernel) rfl
theorem cbX11_as_X10_isOfKind : kw_cb mX11_as mX10_isOfKind 2 := ⟨cdX10_isOfKind, in_X10, ⟨by decide +kernel, by decide +kernel, by decide +kernel⟩, by decide, by decide⟩
theorem lkX11_285 : Cond.methodLink RX11 285 yX10_isOfKind ∈ kw_T := kw_in 839 (by decide +kernel) rfl
theorem stX10_isOfKind : Cond.static yX10_isOfKind ∈ kw_T := kw_in 840 (by decide +kernel) rfl
theorem cbX11_as_X11_finding : kw_cb mX11_as mX11_finding 1 := ⟨cdX11_finding, in_X11, ⟨by decide +kernel, by decide +kernel, by decide +kernel⟩, by decide, by decide⟩
theorem gfX11_289 : kw_gok RX11 289 [0, 3, 4, 5, 7] 0 := by
  intro ci h
  simp only [List.mem_cons, List.not_mem_nil, or_false] at h
  rcases h with rfl | rfl | rfl | rfl | rfl
  · exact ⟨_, _, _, kcX0, by decide, "KitchenWheels$Turner", kw_in 400 (by decide +kernel) rfl, Or.inl rfl⟩
  · exact ⟨_, _, _, kcX3, by decide, "KitchenWheels$Turner", kw_in 400 (by decide +kernel) rfl, Or.inl rfl⟩
  · exact ⟨_, _, _, kcX4, by decide, "KitchenWheels$Turner", kw_in 400 (by decide +kernel) rfl, Or.inl rfl⟩
  · exact ⟨_, _, _, kcX5, by decide, "KitchenWheels$Turner", kw_in 400 (by decide +kernel) rfl, Or.inl rfl⟩
  · exact ⟨_, _, _, kcX7, by decide, "KitchenWheels$Turner", kw_in 400 (by decide +kernel) rfl, Or.inl rfl⟩

theorem cbX11_as_X11_unfound : kw_cb mX11_as mX11_unfound 1 := ⟨cdX11_unfound, in_X11, ⟨by decide +kernel, by decide +kernel, by decide +kernel⟩, by decide, by decide⟩
theorem cbX11_ask_X2_turnerAt : kw_cb mX11_ask mX2_turnerAt 1 := ⟨cdX2_turnerAt, in_X2, ⟨by decide +kernel, by decide +kernel, by decide +kernel⟩, by decide, by decide⟩
theorem cbX11_ask_X11_within : kw_cb mX11_ask mX11_within 3 := ⟨cdX11_within, in_X11, ⟨by decide +kernel, by decide +kernel, by decide +kernel⟩, by decide, by decide⟩
theorem gfX11_40 : kw_gok RX11 40 [10] 4 := by
  intro ci h
  simp only [List.mem_cons, List.not_mem_nil, or_false] at h
  subst h
  exact ⟨_, _, _, kcX11, by decide, "KitchenWheels", kw_in 242 (by decide +kernel) rfl, Or.inl rfl⟩

theorem pfX11_ask_292 : kw_pok mX11_ask 292 [9] 1 (.int) := by
  intro ci h
  simp only [List.mem_cons, List.not_mem_nil, or_false] at h
  subst h
  exact ⟨_, _, _, tyX9, kcX9, tyX9_ok, nmX9, by decide, ⟨"KitchenWheels$Trace", kw_in 231 (by decide +kernel) rfl, Or.inl rfl⟩, rfl, Or.inl rfl⟩

theorem sMX11_297 : Cond.sameMethod "KitchenWheels$Turner" "KitchenWheels$Turner" "mark" "(LKitchenWheels$Trace;II)I" ∈ kw_T := kw_in 1370 (by decide +kernel) rfl
theorem cbX11_ask_X0_mark : kw_cb mX11_ask mX0_mark 3 := ⟨cdX0_mark, in_X0, ⟨by decide +kernel, by decide +kernel, by decide +kernel⟩, by decide, by decide⟩
theorem lkX11_297 : Cond.methodLink RX11 297 yX10_mark ∈ kw_T := kw_in 892 (by decide +kernel) rfl
theorem seX0_X10_mark_X0_mark : Cond.selects RX0 yX10_mark yX0_mark ∈ kw_T := kw_in 1373 (by decide +kernel) rfl
theorem cdX3_mark : Cond.code mX3_mark.1 mX3_mark.2.1 mX3_mark.2.2.1 mX3_mark.2.2.2.1 ∈ kw_T := kw_in 894 (by decide +kernel) rfl
theorem cbX11_ask_X3_mark : kw_cb mX11_ask mX3_mark 3 := ⟨cdX3_mark, in_X3, ⟨by decide +kernel, by decide +kernel, by decide +kernel⟩, by decide, by decide⟩
theorem imX3_mark : Cond.instanceMethod yX3_mark ∈ kw_T := kw_in 893 (by decide +kernel) rfl
theorem seX3_X10_mark_X3_mark : Cond.selects RX3 yX10_mark yX3_mark ∈ kw_T := kw_in 1374 (by decide +kernel) rfl
theorem cbX11_ask_X4_mark : kw_cb mX11_ask mX4_mark 3 := ⟨cdX4_mark, in_X4, ⟨by decide +kernel, by decide +kernel, by decide +kernel⟩, by decide, by decide⟩
theorem seX4_X10_mark_X4_mark : Cond.selects RX4 yX10_mark yX4_mark ∈ kw_T := kw_in 1377 (by decide +kernel) rfl
theorem seX5_X10_mark_X3_mark : Cond.selects RX5 yX10_mark yX3_mark ∈ kw_T := kw_in 1378 (by decide +kernel) rfl
theorem cbX11_ask_X7_mark : kw_cb mX11_ask mX7_mark 3 := ⟨cdX7_mark, in_X7, ⟨by decide +kernel, by decide +kernel, by decide +kernel⟩, by decide, by decide⟩
theorem seX7_X10_mark_X7_mark : Cond.selects RX7 yX10_mark yX7_mark ∈ kw_T := kw_in 1379 (by decide +kernel) rfl
theorem sMX11_293 : Cond.sameMethod "KitchenWheels$Turner" "KitchenWheels$Turner" "size" "(LKitchenWheels$Trace;II)I" ∈ kw_T := kw_in 848 (by decide +kernel) rfl
theorem cbX11_ask_X4_size : kw_cb mX11_ask mX4_size 3 := ⟨cdX4_size, in_X4, ⟨by decide +kernel, by decide +kernel, by decide +kernel⟩, by decide, by decide⟩
theorem lkX11_293 : Cond.methodLink RX11 293 yX10_size ∈ kw_T := kw_in 846 (by decide +kernel) rfl
theorem seX0_X10_size_X4_size : Cond.selects RX0 yX10_size yX4_size ∈ kw_T := kw_in 849 (by decide +kernel) rfl
theorem cbX11_ask_X3_size : kw_cb mX11_ask mX3_size 3 := ⟨cdX3_size, in_X3, ⟨by decide +kernel, by decide +kernel, by decide +kernel⟩, by decide, by decide⟩
theorem seX3_X10_size_X3_size : Cond.selects RX3 yX10_size yX3_size ∈ kw_T := kw_in 876 (by decide +kernel) rfl
theorem seX4_X10_size_X4_size : Cond.selects RX4 yX10_size yX4_size ∈ kw_T := kw_in 881 (by decide +kernel) rfl
theorem cbX11_ask_X5_size : kw_cb mX11_ask mX5_size 3 := ⟨cdX5_size, in_X5, ⟨by decide +kernel, by decide +kernel, by decide +kernel⟩, by decide, by decide⟩
theorem seX5_X10_size_X5_size : Cond.selects RX5 yX10_size yX5_size ∈ kw_T := kw_in 882 (by decide +kernel) rfl
theorem cdX7_size : Cond.code mX7_size.1 mX7_size.2.1 mX7_size.2.2.1 mX7_size.2.2.2.1 ∈ kw_T := kw_in 889 (by decide +kernel) rfl
theorem cbX11_ask_X7_size : kw_cb mX11_ask mX7_size 3 := ⟨cdX7_size, in_X7, ⟨by decide +kernel, by decide +kernel, by decide +kernel⟩, by decide, by decide⟩
theorem imX7_size : Cond.instanceMethod yX7_size ∈ kw_T := kw_in 888 (by decide +kernel) rfl
theorem seX7_X10_size_X7_size : Cond.selects RX7 yX10_size yX7_size ∈ kw_T := kw_in 887 (by decide +kernel) rfl
theorem cdX9_numberAt : Cond.code mX9_numberAt.1 mX9_numberAt.2.1 mX9_numberAt.2.2.1 mX9_numberAt.2.2.2.1 ∈ kw_T := kw_in 904 (by decide +kernel) rfl
theorem cbX11_trace_X9_numberAt : kw_cb mX11_trace mX9_numberAt 1 := ⟨cdX9_numberAt, in_X9, ⟨by decide +kernel, by decide +kernel, by decide +kernel⟩, by decide, by decide⟩
theorem lkX11_300 : Cond.methodLink RX11 300 yX9_numberAt ∈ kw_T := kw_in 901 (by decide +kernel) rfl
theorem imX9_numberAt : Cond.instanceMethod yX9_numberAt ∈ kw_T := kw_in 902 (by decide +kernel) rfl
theorem seX9_X9_numberAt_X9_numberAt : Cond.selects RX9 yX9_numberAt yX9_numberAt ∈ kw_T := kw_in 903 (by decide +kernel) rfl
theorem cdX6_present : Cond.code mX6_present.1 mX6_present.2.1 mX6_present.2.2.1 mX6_present.2.2.2.1 ∈ kw_T := kw_in 913 (by decide +kernel) rfl
theorem cbX11_count_X6_present : kw_cb mX11_count mX6_present 0 := ⟨cdX6_present, in_X6, ⟨by decide +kernel, by decide +kernel, by decide +kernel⟩, by decide, by decide⟩
theorem lkX11_303 : Cond.methodLink RX11 303 yX6_present ∈ kw_T := kw_in 910 (by decide +kernel) rfl
theorem imX6_present : Cond.instanceMethod yX6_present ∈ kw_T := kw_in 911 (by decide +kernel) rfl
theorem seX6_X6_present_X6_present : Cond.selects RX6 yX6_present yX6_present ∈ kw_T := kw_in 912 (by decide +kernel) rfl
theorem cdX2_allTimes : Cond.code mX2_allTimes.1 mX2_allTimes.2.1 mX2_allTimes.2.2.1 mX2_allTimes.2.2.2.1 ∈ kw_T := kw_in 917 (by decide +kernel) rfl
theorem cbX11_count_X2_allTimes : kw_cb mX11_count mX2_allTimes 0 := ⟨cdX2_allTimes, in_X2, ⟨by decide +kernel, by decide +kernel, by decide +kernel⟩, by decide, by decide⟩
theorem lkX11_306 : Cond.methodLink RX11 306 yX2_allTimes ∈ kw_T := kw_in 914 (by decide +kernel) rfl
theorem imX2_allTimes : Cond.instanceMethod yX2_allTimes ∈ kw_T := kw_in 915 (by decide +kernel) rfl
theorem seX2_X2_allTimes_X2_allTimes : Cond.selects RX2 yX2_allTimes yX2_allTimes ∈ kw_T := kw_in 916 (by decide +kernel) rfl
theorem gfX11_309 : kw_gok RX11 309 [10] 10 := by
  intro ci h
  simp only [List.mem_cons, List.not_mem_nil, or_false] at h
  subst h
  exact ⟨_, _, _, kcX11, by decide, "KitchenWheels", kw_in 248 (by decide +kernel) rfl, Or.inl rfl⟩

theorem lkX12_1 : Cond.methodLink RX12 1 Lib.objectInit ∈ kw_T := kw_in 928 (by decide +kernel) rfl
theorem kcX12 : kw_cls 11 RX12 TX12 17 := kw_cls_of rfl inX12
theorem pfX12_init_7 : kw_pok mX12_init 7 [11] 0 (.array .int) := by
  intro ci h
  simp only [List.mem_cons, List.not_mem_nil, or_false] at h
  subst h
  exact ⟨_, _, _, tyX12, kcX12, tyX12_ok, nmX12, by decide, ⟨"KitchenWheelsModel", kw_in 929 (by decide +kernel) rfl, Or.inl rfl⟩, rfl, Or.inr ⟨rfl, rfl, rfl⟩⟩

theorem acboolean : Cond.arrayClass .boolean ∈ kw_T := kw_in 981 (by decide +kernel) rfl
theorem pfX12_init_13 : kw_pok mX12_init 13 [11] 3 (.array .boolean) := by
  intro ci h
  simp only [List.mem_cons, List.not_mem_nil, or_false] at h
  subst h
  exact ⟨_, _, _, tyX12, kcX12, tyX12_ok, nmX12, by decide, ⟨"KitchenWheelsModel", kw_in 932 (by decide +kernel) rfl, Or.inl rfl⟩, rfl, Or.inr ⟨rfl, rfl, rfl⟩⟩

theorem pfX12_init_17 : kw_pok mX12_init 17 [11] 4 (.array .int) := by
  intro ci h
  simp only [List.mem_cons, List.not_mem_nil, or_false] at h
  subst h
  exact ⟨_, _, _, tyX12, kcX12, tyX12_ok, nmX12, by decide, ⟨"KitchenWheelsModel", kw_in 933 (by decide +kernel) rfl, Or.inl rfl⟩, rfl, Or.inr ⟨rfl, rfl, rfl⟩⟩

theorem pfX12_init_20 : kw_pok mX12_init 20 [11] 5 (.array .int) := by
  intro ci h
  simp only [List.mem_cons, List.not_mem_nil, or_false] at h
  subst h
  exact ⟨_, _, _, tyX12, kcX12, tyX12_ok, nmX12, by decide, ⟨"KitchenWheelsModel", kw_in 934 (by decide +kernel) rfl, Or.inl rfl⟩, rfl, Or.inr ⟨rfl, rfl, rfl⟩⟩

theorem pfX12_init_23 : kw_pok mX12_init 23 [11] 6 (.array .int) := by
  intro ci h
  simp only [List.mem_cons, List.not_mem_nil, or_false] at h
  subst h
  exact ⟨_, _, _, tyX12, kcX12, tyX12_ok, nmX12, by decide, ⟨"KitchenWheelsModel", kw_in 935 (by decide +kernel) rfl, Or.inl rfl⟩, rfl, Or.inr ⟨rfl, rfl, rfl⟩⟩

theorem pfX12_init_26 : kw_pok mX12_init 26 [11] 7 (.array .int) := by
  intro ci h
  simp only [List.mem_cons, List.not_mem_nil, or_false] at h
  subst h
  exact ⟨_, _, _, tyX12, kcX12, tyX12_ok, nmX12, by decide, ⟨"KitchenWheelsModel", kw_in 936 (by decide +kernel) rfl, Or.inl rfl⟩, rfl, Or.inr ⟨rfl, rfl, rfl⟩⟩

theorem pfX12_init_29 : kw_pok mX12_init 29 [11] 11 (.array .int) := by
  intro ci h
  simp only [List.mem_cons, List.not_mem_nil, or_false] at h
  subst h
  exact ⟨_, _, _, tyX12, kcX12, tyX12_ok, nmX12, by decide, ⟨"KitchenWheelsModel", kw_in 940 (by decide +kernel) rfl, Or.inl rfl⟩, rfl, Or.inr ⟨rfl, rfl, rfl⟩⟩

theorem pfX12_init_32 : kw_pok mX12_init 32 [11] 16 (.array .int) := by
  intro ci h
  simp only [List.mem_cons, List.not_mem_nil, or_false] at h
  subst h
  exact ⟨_, _, _, tyX12, kcX12, tyX12_ok, nmX12, by decide, ⟨"KitchenWheelsModel", kw_in 945 (by decide +kernel) rfl, Or.inl rfl⟩, rfl, Or.inr ⟨rfl, rfl, rfl⟩⟩

theorem pfX12_find_35 : kw_pok mX12_find 35 [11] 10 (.int) := by
  intro ci h
  simp only [List.mem_cons, List.not_mem_nil, or_false] at h
  subst h
  exact ⟨_, _, _, tyX12, kcX12, tyX12_ok, nmX12, by decide, ⟨"KitchenWheelsModel", kw_in 939 (by decide +kernel) rfl, Or.inl rfl⟩, rfl, Or.inl rfl⟩

theorem ckX12_39 : Cond.constant RX12 39 (-1000010) ∈ kw_T := kw_in 999 (by decide +kernel) rfl
theorem pfX12_well_35 : kw_pok mX12_well 35 [11] 10 (.int) := by
  intro ci h
  simp only [List.mem_cons, List.not_mem_nil, or_false] at h
  subst h
  exact ⟨_, _, _, tyX12, kcX12, tyX12_ok, nmX12, by decide, ⟨"KitchenWheelsModel", kw_in 939 (by decide +kernel) rfl, Or.inl rfl⟩, rfl, Or.inl rfl⟩

theorem ckX12_40 : Cond.constantLong RX12 40 7 ∈ kw_T := kw_in 989 (by decide +kernel) rfl
theorem cdX12_in : Cond.code mX12_in.1 mX12_in.2.1 mX12_in.2.2.1 mX12_in.2.2.2.1 ∈ kw_T := kw_in 992 (by decide +kernel) rfl
theorem in_X12 : Cond.initialized RX12 ∈ kw_T := kw_in 72 (by decide +kernel) rfl
theorem cbX12_isRow_X12_in : kw_cb mX12_isRow mX12_in 3 := ⟨cdX12_in, in_X12, ⟨by decide +kernel, by decide +kernel, by decide +kernel⟩, by decide, by decide⟩
theorem lkX12_42 : Cond.methodLink RX12 42 yX12_in ∈ kw_T := kw_in 990 (by decide +kernel) rfl
theorem stX12_in : Cond.static yX12_in ∈ kw_T := kw_in 991 (by decide +kernel) rfl
theorem cdX12_isRow : Cond.code mX12_isRow.1 mX12_isRow.2.1 mX12_isRow.2.2.1 mX12_isRow.2.2.2.1 ∈ kw_T := kw_in 988 (by decide +kernel) rfl
theorem cbX12_row_X12_isRow : kw_cb mX12_row mX12_isRow 1 := ⟨cdX12_isRow, in_X12, ⟨by decide +kernel, by decide +kernel, by decide +kernel⟩, by decide, by decide⟩
theorem lkX12_46 : Cond.methodLink RX12 46 yX12_isRow ∈ kw_T := kw_in 986 (by decide +kernel) rfl
theorem stX12_isRow : Cond.static yX12_isRow ∈ kw_T := kw_in 987 (by decide +kernel) rfl
theorem ckX12_52 : Cond.constant RX12 52 (-1000001) ∈ kw_T := kw_in 994 (by decide +kernel) rfl
theorem ckX12_50 : Cond.constantLong RX12 50 2 ∈ kw_T := kw_in 993 (by decide +kernel) rfl
theorem cbX12_row_X12_in : kw_cb mX12_row mX12_in 3 := ⟨cdX12_in, in_X12, ⟨by decide +kernel, by decide +kernel, by decide +kernel⟩, by decide, by decide⟩
theorem gfX12_17 : kw_gok RX12 17 [11] 4 := by
  intro ci h
  simp only [List.mem_cons, List.not_mem_nil, or_false] at h
  subst h
  exact ⟨_, _, _, kcX12, by decide, "KitchenWheelsModel", kw_in 933 (by decide +kernel) rfl, Or.inl rfl⟩

theorem gfX12_20 : kw_gok RX12 20 [11] 5 := by
  intro ci h
  simp only [List.mem_cons, List.not_mem_nil, or_false] at h
  subst h
  exact ⟨_, _, _, kcX12, by decide, "KitchenWheelsModel", kw_in 934 (by decide +kernel) rfl, Or.inl rfl⟩

theorem cdX12_well : Cond.code mX12_well.1 mX12_well.2.1 mX12_well.2.2.1 mX12_well.2.2.2.1 ∈ kw_T := kw_in 1003 (by decide +kernel) rfl
theorem cbX12_row_X12_well : kw_cb mX12_row mX12_well 1 := ⟨cdX12_well, in_X12, ⟨by decide +kernel, by decide +kernel, by decide +kernel⟩, by decide, by decide⟩
theorem lkX12_57 : Cond.methodLink RX12 57 yX12_well ∈ kw_T := kw_in 1000 (by decide +kernel) rfl
theorem imX12_well : Cond.instanceMethod yX12_well ∈ kw_T := kw_in 1002 (by decide +kernel) rfl
theorem seX12_X12_well_X12_well : Cond.selects RX12 yX12_well yX12_well ∈ kw_T := kw_in 19 (by decide +kernel) rfl
theorem gfX12_23 : kw_gok RX12 23 [11] 6 := by
  intro ci h
  simp only [List.mem_cons, List.not_mem_nil, or_false] at h
  subst h
  exact ⟨_, _, _, kcX12, by decide, "KitchenWheelsModel", kw_in 935 (by decide +kernel) rfl, Or.inl rfl⟩

theorem cdX12_find : Cond.code mX12_find.1 mX12_find.2.1 mX12_find.2.2.1 mX12_find.2.2.2.1 ∈ kw_T := kw_in 998 (by decide +kernel) rfl
theorem cbX12_row_X12_find : kw_cb mX12_row mX12_find 1 := ⟨cdX12_find, in_X12, ⟨by decide +kernel, by decide +kernel, by decide +kernel⟩, by decide, by decide⟩
theorem lkX12_53 : Cond.methodLink RX12 53 yX12_find ∈ kw_T := kw_in 995 (by decide +kernel) rfl
theorem imX12_find : Cond.instanceMethod yX12_find ∈ kw_T := kw_in 997 (by decide +kernel) rfl
theorem seX12_X12_find_X12_find : Cond.selects RX12 yX12_find yX12_find ∈ kw_T := kw_in 18 (by decide +kernel) rfl
theorem cbX12_set_X12_isRow : kw_cb mX12_set mX12_isRow 1 := ⟨cdX12_isRow, in_X12, ⟨by decide +kernel, by decide +kernel, by decide +kernel⟩, by decide, by decide⟩
theorem cbX12_set_X12_in : kw_cb mX12_set mX12_in 3 := ⟨cdX12_in, in_X12, ⟨by decide +kernel, by decide +kernel, by decide +kernel⟩, by decide, by decide⟩
theorem cdX12_narrow : Cond.code mX12_narrow.1 mX12_narrow.2.1 mX12_narrow.2.2.1 mX12_narrow.2.2.2.1 ∈ kw_T := kw_in 1010 (by decide +kernel) rfl
theorem cbX12_set_X12_narrow : kw_cb mX12_set mX12_narrow 2 := ⟨cdX12_narrow, in_X12, ⟨by decide +kernel, by decide +kernel, by decide +kernel⟩, by decide, by decide⟩
theorem lkX12_60 : Cond.methodLink RX12 60 yX12_narrow ∈ kw_T := kw_in 1008 (by decide +kernel) rfl
theorem stX12_narrow : Cond.static yX12_narrow ∈ kw_T := kw_in 1009 (by decide +kernel) rfl
theorem cbX12_set_X12_well : kw_cb mX12_set mX12_well 1 := ⟨cdX12_well, in_X12, ⟨by decide +kernel, by decide +kernel, by decide +kernel⟩, by decide, by decide⟩
theorem cbX12_set_X12_find : kw_cb mX12_set mX12_find 1 := ⟨cdX12_find, in_X12, ⟨by decide +kernel, by decide +kernel, by decide +kernel⟩, by decide, by decide⟩
theorem cbX12_copy_X12_isRow : kw_cb mX12_copy mX12_isRow 1 := ⟨cdX12_isRow, in_X12, ⟨by decide +kernel, by decide +kernel, by decide +kernel⟩, by decide, by decide⟩
theorem cbX12_copy_X12_find : kw_cb mX12_copy mX12_find 1 := ⟨cdX12_find, in_X12, ⟨by decide +kernel, by decide +kernel, by decide +kernel⟩, by decide, by decide⟩
theorem cdX12_isSpan : Cond.code mX12_isSpan.1 mX12_isSpan.2.1 mX12_isSpan.2.2.1 mX12_isSpan.2.2.2.1 ∈ kw_T := kw_in 1018 (by decide +kernel) rfl
theorem cbX12_copy_X12_isSpan : kw_cb mX12_copy mX12_isSpan 3 := ⟨cdX12_isSpan, in_X12, ⟨by decide +kernel, by decide +kernel, by decide +kernel⟩, by decide, by decide⟩
theorem lkX12_64 : Cond.methodLink RX12 64 yX12_isSpan ∈ kw_T := kw_in 1015 (by decide +kernel) rfl
theorem imX12_isSpan : Cond.instanceMethod yX12_isSpan ∈ kw_T := kw_in 1017 (by decide +kernel) rfl
theorem seX12_X12_isSpan_X12_isSpan : Cond.selects RX12 yX12_isSpan yX12_isSpan ∈ kw_T := kw_in 20 (by decide +kernel) rfl
theorem cbX12_copy_X12_well : kw_cb mX12_copy mX12_well 1 := ⟨cdX12_well, in_X12, ⟨by decide +kernel, by decide +kernel, by decide +kernel⟩, by decide, by decide⟩
theorem cbX12_drop_X12_isRow : kw_cb mX12_drop mX12_isRow 1 := ⟨cdX12_isRow, in_X12, ⟨by decide +kernel, by decide +kernel, by decide +kernel⟩, by decide, by decide⟩
theorem cbX12_drop_X12_well : kw_cb mX12_drop mX12_well 1 := ⟨cdX12_well, in_X12, ⟨by decide +kernel, by decide +kernel, by decide +kernel⟩, by decide, by decide⟩
theorem cbX12_drop_X12_find : kw_cb mX12_drop mX12_find 1 := ⟨cdX12_find, in_X12, ⟨by decide +kernel, by decide +kernel, by decide +kernel⟩, by decide, by decide⟩
theorem ckX12_68 : Cond.constantLong RX12 68 255 ∈ kw_T := kw_in 1027 (by decide +kernel) rfl
theorem cbX12_feed_X12_in : kw_cb mX12_feed mX12_in 3 := ⟨cdX12_in, in_X12, ⟨by decide +kernel, by decide +kernel, by decide +kernel⟩, by decide, by decide⟩
theorem gfX12_70 : kw_gok RX12 70 [11] 8 := by
  intro ci h
  simp only [List.mem_cons, List.not_mem_nil, or_false] at h
  subst h
  exact ⟨_, _, _, kcX12, by decide, "KitchenWheelsModel", kw_in 937 (by decide +kernel) rfl, Or.inl rfl⟩

theorem gfX12_26 : kw_gok RX12 26 [11] 7 := by
  intro ci h
  simp only [List.mem_cons, List.not_mem_nil, or_false] at h
  subst h
  exact ⟨_, _, _, kcX12, by decide, "KitchenWheelsModel", kw_in 936 (by decide +kernel) rfl, Or.inl rfl⟩

theorem pfX12_feed_70 : kw_pok mX12_feed 70 [11] 8 (.int) := by
  intro ci h
  simp only [List.mem_cons, List.not_mem_nil, or_false] at h
  subst h
  exact ⟨_, _, _, tyX12, kcX12, tyX12_ok, nmX12, by decide, ⟨"KitchenWheelsModel", kw_in 937 (by decide +kernel) rfl, Or.inl rfl⟩, rfl, Or.inl rfl⟩

theorem ckX12_73 : Cond.constant RX12 73 (-1000003) ∈ kw_T := kw_in 1028 (by decide +kernel) rfl
theorem gfX12_74 : kw_gok RX12 74 [11] 13 := by
  intro ci h
  simp only [List.mem_cons, List.not_mem_nil, or_false] at h
  subst h
  exact ⟨_, _, _, kcX12, by decide, "KitchenWheelsModel", kw_in 942 (by decide +kernel) rfl, Or.inl rfl⟩

theorem ckX12_77 : Cond.constantLong RX12 77 48 ∈ kw_T := kw_in 1075 (by decide +kernel) rfl
theorem ckX12_79 : Cond.constantLong RX12 79 57 ∈ kw_T := kw_in 1076 (by decide +kernel) rfl
theorem cbX12_isFigure_X12_in : kw_cb mX12_isFigure mX12_in 3 := ⟨cdX12_in, in_X12, ⟨by decide +kernel, by decide +kernel, by decide +kernel⟩, by decide, by decide⟩
theorem pfX12_refuse_81 : kw_pok mX12_refuse 81 [11] 14 (.int) := by
  intro ci h
  simp only [List.mem_cons, List.not_mem_nil, or_false] at h
  subst h
  exact ⟨_, _, _, tyX12, kcX12, tyX12_ok, nmX12, by decide, ⟨"KitchenWheelsModel", kw_in 943 (by decide +kernel) rfl, Or.inl rfl⟩, rfl, Or.inl rfl⟩

theorem cdX12_isLetter : Cond.code mX12_isLetter.1 mX12_isLetter.2.1 mX12_isLetter.2.2.1 mX12_isLetter.2.2.2.1 ∈ kw_T := kw_in 1048 (by decide +kernel) rfl
theorem cbX12_sign_X12_isLetter : kw_cb mX12_sign mX12_isLetter 1 := ⟨cdX12_isLetter, in_X12, ⟨by decide +kernel, by decide +kernel, by decide +kernel⟩, by decide, by decide⟩
theorem lkX12_84 : Cond.methodLink RX12 84 yX12_isLetter ∈ kw_T := kw_in 1045 (by decide +kernel) rfl
theorem imX12_isLetter : Cond.instanceMethod yX12_isLetter ∈ kw_T := kw_in 1047 (by decide +kernel) rfl
theorem seX12_X12_isLetter_X12_isLetter : Cond.selects RX12 yX12_isLetter yX12_isLetter ∈ kw_T := kw_in 24 (by decide +kernel) rfl
theorem pfX12_sign_74 : kw_pok mX12_sign 74 [11] 13 (.int) := by
  intro ci h
  simp only [List.mem_cons, List.not_mem_nil, or_false] at h
  subst h
  exact ⟨_, _, _, tyX12, kcX12, tyX12_ok, nmX12, by decide, ⟨"KitchenWheelsModel", kw_in 942 (by decide +kernel) rfl, Or.inl rfl⟩, rfl, Or.inl rfl⟩

theorem cdX12_refuse : Cond.code mX12_refuse.1 mX12_refuse.2.1 mX12_refuse.2.2.1 mX12_refuse.2.2.2.1 ∈ kw_T := kw_in 1052 (by decide +kernel) rfl
theorem cbX12_sign_X12_refuse : kw_cb mX12_sign mX12_refuse 1 := ⟨cdX12_refuse, in_X12, ⟨by decide +kernel, by decide +kernel, by decide +kernel⟩, by decide, by decide⟩
theorem lkX12_87 : Cond.methodLink RX12 87 yX12_refuse ∈ kw_T := kw_in 1049 (by decide +kernel) rfl
theorem imX12_refuse : Cond.instanceMethod yX12_refuse ∈ kw_T := kw_in 1051 (by decide +kernel) rfl
theorem seX12_X12_refuse_X12_refuse : Cond.selects RX12 yX12_refuse yX12_refuse ∈ kw_T := kw_in 25 (by decide +kernel) rfl
theorem cdX12_isFigure : Cond.code mX12_isFigure.1 mX12_isFigure.2.1 mX12_isFigure.2.2.1 mX12_isFigure.2.2.2.1 ∈ kw_T := kw_in 1074 (by decide +kernel) rfl
theorem cbX12_readsNumber_X12_isFigure : kw_cb mX12_readsNumber mX12_isFigure 1 := ⟨cdX12_isFigure, in_X12, ⟨by decide +kernel, by decide +kernel, by decide +kernel⟩, by decide, by decide⟩
theorem lkX12_90 : Cond.methodLink RX12 90 yX12_isFigure ∈ kw_T := kw_in 1071 (by decide +kernel) rfl
theorem imX12_isFigure : Cond.instanceMethod yX12_isFigure ∈ kw_T := kw_in 1073 (by decide +kernel) rfl
theorem seX12_X12_isFigure_X12_isFigure : Cond.selects RX12 yX12_isFigure yX12_isFigure ∈ kw_T := kw_in 29 (by decide +kernel) rfl
theorem cbX12_readsNumber_X12_refuse : kw_cb mX12_readsNumber mX12_refuse 1 := ⟨cdX12_refuse, in_X12, ⟨by decide +kernel, by decide +kernel, by decide +kernel⟩, by decide, by decide⟩
theorem pfX12_readsNumber_93 : kw_pok mX12_readsNumber 93 [11] 15 (.int) := by
  intro ci h
  simp only [List.mem_cons, List.not_mem_nil, or_false] at h
  subst h
  exact ⟨_, _, _, tyX12, kcX12, tyX12_ok, nmX12, by decide, ⟨"KitchenWheelsModel", kw_in 944 (by decide +kernel) rfl, Or.inl rfl⟩, rfl, Or.inl rfl⟩

theorem gfX12_93 : kw_gok RX12 93 [11] 15 := by
  intro ci h
  simp only [List.mem_cons, List.not_mem_nil, or_false] at h
  subst h
  exact ⟨_, _, _, kcX12, by decide, "KitchenWheelsModel", kw_in 944 (by decide +kernel) rfl, Or.inl rfl⟩

theorem cbX12_readsNumber_X12_in : kw_cb mX12_readsNumber mX12_in 3 := ⟨cdX12_in, in_X12, ⟨by decide +kernel, by decide +kernel, by decide +kernel⟩, by decide, by decide⟩
theorem pfX12_readsNumber_74 : kw_pok mX12_readsNumber 74 [11] 13 (.int) := by
  intro ci h
  simp only [List.mem_cons, List.not_mem_nil, or_false] at h
  subst h
  exact ⟨_, _, _, tyX12, kcX12, tyX12_ok, nmX12, by decide, ⟨"KitchenWheelsModel", kw_in 942 (by decide +kernel) rfl, Or.inl rfl⟩, rfl, Or.inl rfl⟩

theorem cdX12_sign : Cond.code mX12_sign.1 mX12_sign.2.1 mX12_sign.2.2.1 mX12_sign.2.2.2.1 ∈ kw_T := kw_in 1044 (by decide +kernel) rfl
theorem cbX12_readsWheel_X12_sign : kw_cb mX12_readsWheel mX12_sign 1 := ⟨cdX12_sign, in_X12, ⟨by decide +kernel, by decide +kernel, by decide +kernel⟩, by decide, by decide⟩
theorem lkX12_96 : Cond.methodLink RX12 96 yX12_sign ∈ kw_T := kw_in 1041 (by decide +kernel) rfl
theorem imX12_sign : Cond.instanceMethod yX12_sign ∈ kw_T := kw_in 1043 (by decide +kernel) rfl
theorem seX12_X12_sign_X12_sign : Cond.selects RX12 yX12_sign yX12_sign ∈ kw_T := kw_in 23 (by decide +kernel) rfl
theorem ckX12_99 : Cond.constant RX12 99 (-1000000) ∈ kw_T := kw_in 1053 (by decide +kernel) rfl
theorem pfX12_readsWheel_81 : kw_pok mX12_readsWheel 81 [11] 14 (.int) := by
  intro ci h
  simp only [List.mem_cons, List.not_mem_nil, or_false] at h
  subst h
  exact ⟨_, _, _, tyX12, kcX12, tyX12_ok, nmX12, by decide, ⟨"KitchenWheelsModel", kw_in 943 (by decide +kernel) rfl, Or.inl rfl⟩, rfl, Or.inl rfl⟩

theorem ckX12_100 : Cond.constantLong RX12 100 97 ∈ kw_T := kw_in 1054 (by decide +kernel) rfl
theorem ckX12_102 : Cond.constantLong RX12 102 102 ∈ kw_T := kw_in 1055 (by decide +kernel) rfl
theorem cbX12_readsWheel_X12_in : kw_cb mX12_readsWheel mX12_in 3 := ⟨cdX12_in, in_X12, ⟨by decide +kernel, by decide +kernel, by decide +kernel⟩, by decide, by decide⟩
theorem gfX12_7 : kw_gok RX12 7 [11] 0 := by
  intro ci h
  simp only [List.mem_cons, List.not_mem_nil, or_false] at h
  subst h
  exact ⟨_, _, _, kcX12, by decide, "KitchenWheelsModel", kw_in 929 (by decide +kernel) rfl, Or.inl rfl⟩

theorem pfX12_readsWheel_74 : kw_pok mX12_readsWheel 74 [11] 13 (.int) := by
  intro ci h
  simp only [List.mem_cons, List.not_mem_nil, or_false] at h
  subst h
  exact ⟨_, _, _, tyX12, kcX12, tyX12_ok, nmX12, by decide, ⟨"KitchenWheelsModel", kw_in 942 (by decide +kernel) rfl, Or.inl rfl⟩, rfl, Or.inl rfl⟩

theorem cdX12_kindOfLetter : Cond.code mX12_kindOfLetter.1 mX12_kindOfLetter.2.1 mX12_kindOfLetter.2.2.1 mX12_kindOfLetter.2.2.2.1 ∈ kw_T := kw_in 1062 (by decide +kernel) rfl
theorem cbX12_readsTurner_X12_kindOfLetter : kw_cb mX12_readsTurner mX12_kindOfLetter 1 := ⟨cdX12_kindOfLetter, in_X12, ⟨by decide +kernel, by decide +kernel, by decide +kernel⟩, by decide, by decide⟩
theorem lkX12_104 : Cond.methodLink RX12 104 yX12_kindOfLetter ∈ kw_T := kw_in 1060 (by decide +kernel) rfl
theorem stX12_kindOfLetter : Cond.static yX12_kindOfLetter ∈ kw_T := kw_in 1061 (by decide +kernel) rfl
theorem pfX12_readsTurner_74 : kw_pok mX12_readsTurner 74 [11] 13 (.int) := by
  intro ci h
  simp only [List.mem_cons, List.not_mem_nil, or_false] at h
  subst h
  exact ⟨_, _, _, tyX12, kcX12, tyX12_ok, nmX12, by decide, ⟨"KitchenWheelsModel", kw_in 942 (by decide +kernel) rfl, Or.inl rfl⟩, rfl, Or.inl rfl⟩

theorem cdX12_readsNumber : Cond.code mX12_readsNumber.1 mX12_readsNumber.2.1 mX12_readsNumber.2.2.1 mX12_readsNumber.2.2.2.1 ∈ kw_T := kw_in 1070 (by decide +kernel) rfl
theorem cbX12_readsTurner_X12_readsNumber : kw_cb mX12_readsTurner mX12_readsNumber 2 := ⟨cdX12_readsNumber, in_X12, ⟨by decide +kernel, by decide +kernel, by decide +kernel⟩, by decide, by decide⟩
theorem lkX12_107 : Cond.methodLink RX12 107 yX12_readsNumber ∈ kw_T := kw_in 1067 (by decide +kernel) rfl
theorem imX12_readsNumber : Cond.instanceMethod yX12_readsNumber ∈ kw_T := kw_in 1069 (by decide +kernel) rfl
theorem seX12_X12_readsNumber_X12_readsNumber : Cond.selects RX12 yX12_readsNumber yX12_readsNumber ∈ kw_T := kw_in 28 (by decide +kernel) rfl
theorem cbX12_readsTurner_X12_sign : kw_cb mX12_readsTurner mX12_sign 1 := ⟨cdX12_sign, in_X12, ⟨by decide +kernel, by decide +kernel, by decide +kernel⟩, by decide, by decide⟩
theorem cbX12_readsTurner_X12_refuse : kw_cb mX12_readsTurner mX12_refuse 1 := ⟨cdX12_refuse, in_X12, ⟨by decide +kernel, by decide +kernel, by decide +kernel⟩, by decide, by decide⟩
theorem cbX12_isSort_X12_kindOfLetter : kw_cb mX12_isSort mX12_kindOfLetter 1 := ⟨cdX12_kindOfLetter, in_X12, ⟨by decide +kernel, by decide +kernel, by decide +kernel⟩, by decide, by decide⟩
theorem pfX12_reads_74 : kw_pok mX12_reads 74 [11] 13 (.int) := by
  intro ci h
  simp only [List.mem_cons, List.not_mem_nil, or_false] at h
  subst h
  exact ⟨_, _, _, tyX12, kcX12, tyX12_ok, nmX12, by decide, ⟨"KitchenWheelsModel", kw_in 942 (by decide +kernel) rfl, Or.inl rfl⟩, rfl, Or.inl rfl⟩

theorem cdX12_readsWheel : Cond.code mX12_readsWheel.1 mX12_readsWheel.2.1 mX12_readsWheel.2.2.1 mX12_readsWheel.2.2.2.1 ∈ kw_T := kw_in 1040 (by decide +kernel) rfl
theorem cbX12_reads_X12_readsWheel : kw_cb mX12_reads mX12_readsWheel 2 := ⟨cdX12_readsWheel, in_X12, ⟨by decide +kernel, by decide +kernel, by decide +kernel⟩, by decide, by decide⟩
theorem lkX12_111 : Cond.methodLink RX12 111 yX12_readsWheel ∈ kw_T := kw_in 1037 (by decide +kernel) rfl
theorem imX12_readsWheel : Cond.instanceMethod yX12_readsWheel ∈ kw_T := kw_in 1039 (by decide +kernel) rfl
theorem seX12_X12_readsWheel_X12_readsWheel : Cond.selects RX12 yX12_readsWheel yX12_readsWheel ∈ kw_T := kw_in 22 (by decide +kernel) rfl
theorem cdX12_isSort : Cond.code mX12_isSort.1 mX12_isSort.2.1 mX12_isSort.2.2.1 mX12_isSort.2.2.2.1 ∈ kw_T := kw_in 1059 (by decide +kernel) rfl
theorem cbX12_reads_X12_isSort : kw_cb mX12_reads mX12_isSort 0 := ⟨cdX12_isSort, in_X12, ⟨by decide +kernel, by decide +kernel, by decide +kernel⟩, by decide, by decide⟩
theorem lkX12_114 : Cond.methodLink RX12 114 yX12_isSort ∈ kw_T := kw_in 1056 (by decide +kernel) rfl
theorem imX12_isSort : Cond.instanceMethod yX12_isSort ∈ kw_T := kw_in 1058 (by decide +kernel) rfl
theorem seX12_X12_isSort_X12_isSort : Cond.selects RX12 yX12_isSort yX12_isSort ∈ kw_T := kw_in 26 (by decide +kernel) rfl
theorem cbX12_reads_X12_refuse : kw_cb mX12_reads mX12_refuse 1 := ⟨cdX12_refuse, in_X12, ⟨by decide +kernel, by decide +kernel, by decide +kernel⟩, by decide, by decide⟩
theorem cdX12_readsTurner : Cond.code mX12_readsTurner.1 mX12_readsTurner.2.1 mX12_readsTurner.2.2.1 mX12_readsTurner.2.2.2.1 ∈ kw_T := kw_in 1066 (by decide +kernel) rfl
theorem cbX12_reads_X12_readsTurner : kw_cb mX12_reads mX12_readsTurner 0 := ⟨cdX12_readsTurner, in_X12, ⟨by decide +kernel, by decide +kernel, by decide +kernel⟩, by decide, by decide⟩
theorem lkX12_118 : Cond.methodLink RX12 118 yX12_readsTurner ∈ kw_T := kw_in 1063 (by decide +kernel) rfl
theorem imX12_readsTurner : Cond.instanceMethod yX12_readsTurner ∈ kw_T := kw_in 1065 (by decide +kernel) rfl
theorem seX12_X12_readsTurner_X12_readsTurner : Cond.selects RX12 yX12_readsTurner yX12_readsTurner ∈ kw_T := kw_in 27 (by decide +kernel) rfl
theorem cdX12_reads : Cond.code mX12_reads.1 mX12_reads.2.1 mX12_reads.2.2.1 mX12_reads.2.2.2.1 ∈ kw_T := kw_in 1036 (by decide +kernel) rfl
theorem cbX12_kitchen_X12_reads : kw_cb mX12_kitchen mX12_reads 0 := ⟨cdX12_reads, in_X12, ⟨by decide +kernel, by decide +kernel, by decide +kernel⟩, by decide, by decide⟩
theorem lkX12_121 : Cond.methodLink RX12 121 yX12_reads ∈ kw_T := kw_in 1033 (by decide +kernel) rfl
theorem imX12_reads : Cond.instanceMethod yX12_reads ∈ kw_T := kw_in 1035 (by decide +kernel) rfl
theorem seX12_X12_reads_X12_reads : Cond.selects RX12 yX12_reads yX12_reads ∈ kw_T := kw_in 21 (by decide +kernel) rfl
theorem pfX12_kitchen_70 : kw_pok mX12_kitchen 70 [11] 8 (.int) := by
  intro ci h
  simp only [List.mem_cons, List.not_mem_nil, or_false] at h
  subst h
  exact ⟨_, _, _, tyX12, kcX12, tyX12_ok, nmX12, by decide, ⟨"KitchenWheelsModel", kw_in 937 (by decide +kernel) rfl, Or.inl rfl⟩, rfl, Or.inl rfl⟩

theorem cdX12_copyTown : Cond.code mX12_copyTown.1 mX12_copyTown.2.1 mX12_copyTown.2.2.1 mX12_copyTown.2.2.2.1 ∈ kw_T := kw_in 1081 (by decide +kernel) rfl
theorem cbX12_kitchen_X12_copyTown : kw_cb mX12_kitchen mX12_copyTown 2 := ⟨cdX12_copyTown, in_X12, ⟨by decide +kernel, by decide +kernel, by decide +kernel⟩, by decide, by decide⟩
theorem lkX12_128 : Cond.methodLink RX12 128 yX12_copyTown ∈ kw_T := kw_in 1078 (by decide +kernel) rfl
theorem imX12_copyTown : Cond.instanceMethod yX12_copyTown ∈ kw_T := kw_in 1080 (by decide +kernel) rfl
theorem seX12_X12_copyTown_X12_copyTown : Cond.selects RX12 yX12_copyTown yX12_copyTown ∈ kw_T := kw_in 30 (by decide +kernel) rfl
theorem pfX12_kitchen_132 : kw_pok mX12_kitchen 132 [11] 1 (.boolean) := by
  intro ci h
  simp only [List.mem_cons, List.not_mem_nil, or_false] at h
  subst h
  exact ⟨_, _, _, tyX12, kcX12, tyX12_ok, nmX12, by decide, ⟨"KitchenWheelsModel", kw_in 930 (by decide +kernel) rfl, Or.inl rfl⟩, rfl, Or.inl rfl⟩

theorem pfX12_kitchen_136 : kw_pok mX12_kitchen 136 [11] 2 (.int) := by
  intro ci h
  simp only [List.mem_cons, List.not_mem_nil, or_false] at h
  subst h
  exact ⟨_, _, _, tyX12, kcX12, tyX12_ok, nmX12, by decide, ⟨"KitchenWheelsModel", kw_in 931 (by decide +kernel) rfl, Or.inl rfl⟩, rfl, Or.inl rfl⟩

theorem gfX12_81 : kw_gok RX12 81 [11] 14 := by
  intro ci h
  simp only [List.mem_cons, List.not_mem_nil, or_false] at h
  subst h
  exact ⟨_, _, _, kcX12, by decide, "KitchenWheelsModel", kw_in 943 (by decide +kernel) rfl, Or.inl rfl⟩

theorem pfX12_kitchen_124 : kw_pok mX12_kitchen 124 [11] 9 (.int) := by
  intro ci h
  simp only [List.mem_cons, List.not_mem_nil, or_false] at h
  subst h
  exact ⟨_, _, _, tyX12, kcX12, tyX12_ok, nmX12, by decide, ⟨"KitchenWheelsModel", kw_in 938 (by decide +kernel) rfl, Or.inl rfl⟩, rfl, Or.inl rfl⟩

theorem ckX12_127 : Cond.constant RX12 127 (-1000100) ∈ kw_T := kw_in 1077 (by decide +kernel) rfl
theorem gfX12_124 : kw_gok RX12 124 [11] 9 := by
  intro ci h
  simp only [List.mem_cons, List.not_mem_nil, or_false] at h
  subst h
  exact ⟨_, _, _, kcX12, by decide, "KitchenWheelsModel", kw_in 938 (by decide +kernel) rfl, Or.inl rfl⟩

theorem gfX12_136 : kw_gok RX12 136 [11] 2 := by
  intro ci h
  simp only [List.mem_cons, List.not_mem_nil, or_false] at h
  subst h
  exact ⟨_, _, _, kcX12, by decide, "KitchenWheelsModel", kw_in 931 (by decide +kernel) rfl, Or.inl rfl⟩

theorem pfX12_keepPast_136 : kw_pok mX12_keepPast 136 [11] 2 (.int) := by
  intro ci h
  simp only [List.mem_cons, List.not_mem_nil, or_false] at h
  subst h
  exact ⟨_, _, _, tyX12, kcX12, tyX12_ok, nmX12, by decide, ⟨"KitchenWheelsModel", kw_in 931 (by decide +kernel) rfl, Or.inl rfl⟩, rfl, Or.inl rfl⟩

theorem cbX12_keepPast_X12_copyTown : kw_cb mX12_keepPast mX12_copyTown 2 := ⟨cdX12_copyTown, in_X12, ⟨by decide +kernel, by decide +kernel, by decide +kernel⟩, by decide, by decide⟩
theorem pfX12_undo_136 : kw_pok mX12_undo 136 [11] 2 (.int) := by
  intro ci h
  simp only [List.mem_cons, List.not_mem_nil, or_false] at h
  subst h
  exact ⟨_, _, _, tyX12, kcX12, tyX12_ok, nmX12, by decide, ⟨"KitchenWheelsModel", kw_in 931 (by decide +kernel) rfl, Or.inl rfl⟩, rfl, Or.inl rfl⟩

theorem cbX12_undo_X12_copyTown : kw_cb mX12_undo mX12_copyTown 2 := ⟨cdX12_copyTown, in_X12, ⟨by decide +kernel, by decide +kernel, by decide +kernel⟩, by decide, by decide⟩
theorem ckX12_139 : Cond.constant RX12 139 (-1000002) ∈ kw_T := kw_in 1090 (by decide +kernel) rfl
theorem ckX12_140 : Cond.constantLong RX12 140 5 ∈ kw_T := kw_in 1141 (by decide +kernel) rfl
theorem cbX12_isSix_X12_in : kw_cb mX12_isSix mX12_in 3 := ⟨cdX12_in, in_X12, ⟨by decide +kernel, by decide +kernel, by decide +kernel⟩, by decide, by decide⟩
theorem cdX12_nameAt : Cond.code mX12_nameAt.1 mX12_nameAt.2.1 mX12_nameAt.2.2.1 mX12_nameAt.2.2.2.1 ∈ kw_T := kw_in 1126 (by decide +kernel) rfl
theorem cbX12_jobOf_X12_nameAt : kw_cb mX12_jobOf mX12_nameAt 2 := ⟨cdX12_nameAt, in_X12, ⟨by decide +kernel, by decide +kernel, by decide +kernel⟩, by decide, by decide⟩
theorem lkX12_142 : Cond.methodLink RX12 142 yX12_nameAt ∈ kw_T := kw_in 1123 (by decide +kernel) rfl
theorem imX12_nameAt : Cond.instanceMethod yX12_nameAt ∈ kw_T := kw_in 1125 (by decide +kernel) rfl
theorem seX12_X12_nameAt_X12_nameAt : Cond.selects RX12 yX12_nameAt yX12_nameAt ∈ kw_T := kw_in 37 (by decide +kernel) rfl
theorem cdX12_jobOf : Cond.code mX12_jobOf.1 mX12_jobOf.2.1 mX12_jobOf.2.2.1 mX12_jobOf.2.2.2.1 ∈ kw_T := kw_in 1122 (by decide +kernel) rfl
theorem cbX12_doerOf_X12_jobOf : kw_cb mX12_doerOf mX12_jobOf 2 := ⟨cdX12_jobOf, in_X12, ⟨by decide +kernel, by decide +kernel, by decide +kernel⟩, by decide, by decide⟩
theorem lkX12_145 : Cond.methodLink RX12 145 yX12_jobOf ∈ kw_T := kw_in 1119 (by decide +kernel) rfl
theorem imX12_jobOf : Cond.instanceMethod yX12_jobOf ∈ kw_T := kw_in 1121 (by decide +kernel) rfl
theorem seX12_X12_jobOf_X12_jobOf : Cond.selects RX12 yX12_jobOf yX12_jobOf ∈ kw_T := kw_in 36 (by decide +kernel) rfl
theorem cbX12_doerOf_X12_nameAt : kw_cb mX12_doerOf mX12_nameAt 2 := ⟨cdX12_nameAt, in_X12, ⟨by decide +kernel, by decide +kernel, by decide +kernel⟩, by decide, by decide⟩
theorem cdX12_has : Cond.code mX12_has.1 mX12_has.2.1 mX12_has.2.2.1 mX12_has.2.2.2.1 ∈ kw_T := kw_in 1129 (by decide +kernel) rfl
theorem cbX12_doerOf_X12_has : kw_cb mX12_doerOf mX12_has 2 := ⟨cdX12_has, in_X12, ⟨by decide +kernel, by decide +kernel, by decide +kernel⟩, by decide, by decide⟩
theorem lkX12_148 : Cond.methodLink RX12 148 yX12_has ∈ kw_T := kw_in 1127 (by decide +kernel) rfl
theorem stX12_has : Cond.static yX12_has ∈ kw_T := kw_in 1128 (by decide +kernel) rfl
theorem cdX12_far : Cond.code mX12_far.1 mX12_far.2.1 mX12_far.2.2.1 mX12_far.2.2.2.1 ∈ kw_T := kw_in 1110 (by decide +kernel) rfl
theorem cbX12_farOf_X12_far : kw_cb mX12_farOf mX12_far 3 := ⟨cdX12_far, in_X12, ⟨by decide +kernel, by decide +kernel, by decide +kernel⟩, by decide, by decide⟩
theorem lkX12_151 : Cond.methodLink RX12 151 yX12_far ∈ kw_T := kw_in 1108 (by decide +kernel) rfl
theorem stX12_far : Cond.static yX12_far ∈ kw_T := kw_in 1109 (by decide +kernel) rfl
theorem cdX12_turnBy : Cond.code mX12_turnBy.1 mX12_turnBy.2.1 mX12_turnBy.2.2.1 mX12_turnBy.2.2.2.1 ∈ kw_T := kw_in 1133 (by decide +kernel) rfl
theorem cbX12_pass_X12_turnBy : kw_cb mX12_pass mX12_turnBy 2 := ⟨cdX12_turnBy, in_X12, ⟨by decide +kernel, by decide +kernel, by decide +kernel⟩, by decide, by decide⟩
theorem lkX12_158 : Cond.methodLink RX12 158 yX12_turnBy ∈ kw_T := kw_in 1130 (by decide +kernel) rfl
theorem imX12_turnBy : Cond.instanceMethod yX12_turnBy ∈ kw_T := kw_in 1132 (by decide +kernel) rfl
theorem seX12_X12_turnBy_X12_turnBy : Cond.selects RX12 yX12_turnBy yX12_turnBy ∈ kw_T := kw_in 38 (by decide +kernel) rfl
theorem cdX12_doerOf : Cond.code mX12_doerOf.1 mX12_doerOf.2.1 mX12_doerOf.2.2.1 mX12_doerOf.2.2.2.1 ∈ kw_T := kw_in 1118 (by decide +kernel) rfl
theorem cbX12_pass_X12_doerOf : kw_cb mX12_pass mX12_doerOf 2 := ⟨cdX12_doerOf, in_X12, ⟨by decide +kernel, by decide +kernel, by decide +kernel⟩, by decide, by decide⟩
theorem lkX12_155 : Cond.methodLink RX12 155 yX12_doerOf ∈ kw_T := kw_in 1115 (by decide +kernel) rfl
theorem imX12_doerOf : Cond.instanceMethod yX12_doerOf ∈ kw_T := kw_in 1117 (by decide +kernel) rfl
theorem seX12_X12_doerOf_X12_doerOf : Cond.selects RX12 yX12_doerOf yX12_doerOf ∈ kw_T := kw_in 35 (by decide +kernel) rfl
theorem cbX12_pass_X12_jobOf : kw_cb mX12_pass mX12_jobOf 2 := ⟨cdX12_jobOf, in_X12, ⟨by decide +kernel, by decide +kernel, by decide +kernel⟩, by decide, by decide⟩
theorem cdX12_farOf : Cond.code mX12_farOf.1 mX12_farOf.2.1 mX12_farOf.2.2.1 mX12_farOf.2.2.2.1 ∈ kw_T := kw_in 1107 (by decide +kernel) rfl
theorem cbX12_passAsTold_X12_farOf : kw_cb mX12_passAsTold mX12_farOf 2 := ⟨cdX12_farOf, in_X12, ⟨by decide +kernel, by decide +kernel, by decide +kernel⟩, by decide, by decide⟩
theorem lkX12_161 : Cond.methodLink RX12 161 yX12_farOf ∈ kw_T := kw_in 1104 (by decide +kernel) rfl
theorem imX12_farOf : Cond.instanceMethod yX12_farOf ∈ kw_T := kw_in 1106 (by decide +kernel) rfl
theorem seX12_X12_farOf_X12_farOf : Cond.selects RX12 yX12_farOf yX12_farOf ∈ kw_T := kw_in 33 (by decide +kernel) rfl
theorem cdX12_pass : Cond.code mX12_pass.1 mX12_pass.2.1 mX12_pass.2.2.1 mX12_pass.2.2.2.1 ∈ kw_T := kw_in 1114 (by decide +kernel) rfl
theorem cbX12_passAsTold_X12_pass : kw_cb mX12_passAsTold mX12_pass 2 := ⟨cdX12_pass, in_X12, ⟨by decide +kernel, by decide +kernel, by decide +kernel⟩, by decide, by decide⟩
theorem lkX12_164 : Cond.methodLink RX12 164 yX12_pass ∈ kw_T := kw_in 1111 (by decide +kernel) rfl
theorem imX12_pass : Cond.instanceMethod yX12_pass ∈ kw_T := kw_in 1113 (by decide +kernel) rfl
theorem seX12_X12_pass_X12_pass : Cond.selects RX12 yX12_pass yX12_pass ∈ kw_T := kw_in 34 (by decide +kernel) rfl
theorem cbX12_layTried_X12_copyTown : kw_cb mX12_layTried mX12_copyTown 2 := ⟨cdX12_copyTown, in_X12, ⟨by decide +kernel, by decide +kernel, by decide +kernel⟩, by decide, by decide⟩
theorem cdX12_passAsTold : Cond.code mX12_passAsTold.1 mX12_passAsTold.2.1 mX12_passAsTold.2.2.1 mX12_passAsTold.2.2.2.1 ∈ kw_T := kw_in 1103 (by decide +kernel) rfl
theorem cbX12_layTried_X12_passAsTold : kw_cb mX12_layTried mX12_passAsTold 1 := ⟨cdX12_passAsTold, in_X12, ⟨by decide +kernel, by decide +kernel, by decide +kernel⟩, by decide, by decide⟩
theorem lkX12_167 : Cond.methodLink RX12 167 yX12_passAsTold ∈ kw_T := kw_in 1100 (by decide +kernel) rfl
theorem imX12_passAsTold : Cond.instanceMethod yX12_passAsTold ∈ kw_T := kw_in 1102 (by decide +kernel) rfl
theorem seX12_X12_passAsTold_X12_passAsTold : Cond.selects RX12 yX12_passAsTold yX12_passAsTold ∈ kw_T := kw_in 32 (by decide +kernel) rfl
theorem gfX12_132 : kw_gok RX12 132 [11] 1 := by
  intro ci h
  simp only [List.mem_cons, List.not_mem_nil, or_false] at h
  subst h
  exact ⟨_, _, _, kcX12, by decide, "KitchenWheelsModel", kw_in 930 (by decide +kernel) rfl, Or.inl rfl⟩

theorem ckX12_171 : Cond.constantLong RX12 171 24 ∈ kw_T := kw_in 1095 (by decide +kernel) rfl
theorem cbX12_weeks_X12_in : kw_cb mX12_weeks mX12_in 3 := ⟨cdX12_in, in_X12, ⟨by decide +kernel, by decide +kernel, by decide +kernel⟩, by decide, by decide⟩
theorem cdX12_keepPast : Cond.code mX12_keepPast.1 mX12_keepPast.2.1 mX12_keepPast.2.2.1 mX12_keepPast.2.2.2.1 ∈ kw_T := kw_in 1099 (by decide +kernel) rfl
theorem cbX12_weeks_X12_keepPast : kw_cb mX12_weeks mX12_keepPast 0 := ⟨cdX12_keepPast, in_X12, ⟨by decide +kernel, by decide +kernel, by decide +kernel⟩, by decide, by decide⟩
theorem lkX12_173 : Cond.methodLink RX12 173 yX12_keepPast ∈ kw_T := kw_in 1096 (by decide +kernel) rfl
theorem imX12_keepPast : Cond.instanceMethod yX12_keepPast ∈ kw_T := kw_in 1098 (by decide +kernel) rfl
theorem seX12_X12_keepPast_X12_keepPast : Cond.selects RX12 yX12_keepPast yX12_keepPast ∈ kw_T := kw_in 31 (by decide +kernel) rfl
theorem cbX12_weeks_X12_passAsTold : kw_cb mX12_weeks mX12_passAsTold 1 := ⟨cdX12_passAsTold, in_X12, ⟨by decide +kernel, by decide +kernel, by decide +kernel⟩, by decide, by decide⟩
theorem cdX12_isSix : Cond.code mX12_isSix.1 mX12_isSix.2.1 mX12_isSix.2.2.1 mX12_isSix.2.2.2.1 ∈ kw_T := kw_in 1140 (by decide +kernel) rfl
theorem cbX12_leave_X12_isSix : kw_cb mX12_leave mX12_isSix 1 := ⟨cdX12_isSix, in_X12, ⟨by decide +kernel, by decide +kernel, by decide +kernel⟩, by decide, by decide⟩
theorem lkX12_176 : Cond.methodLink RX12 176 yX12_isSix ∈ kw_T := kw_in 1138 (by decide +kernel) rfl
theorem stX12_isSix : Cond.static yX12_isSix ∈ kw_T := kw_in 1139 (by decide +kernel) rfl
theorem cbX12_leave_X12_has : kw_cb mX12_leave mX12_has 2 := ⟨cdX12_has, in_X12, ⟨by decide +kernel, by decide +kernel, by decide +kernel⟩, by decide, by decide⟩
theorem cbX12_leave_X12_keepPast : kw_cb mX12_leave mX12_keepPast 0 := ⟨cdX12_keepPast, in_X12, ⟨by decide +kernel, by decide +kernel, by decide +kernel⟩, by decide, by decide⟩
theorem cbX12_name_X12_in : kw_cb mX12_name mX12_in 3 := ⟨cdX12_in, in_X12, ⟨by decide +kernel, by decide +kernel, by decide +kernel⟩, by decide, by decide⟩
theorem ckX12_179 : Cond.constantLong RX12 179 6 ∈ kw_T := kw_in 1146 (by decide +kernel) rfl
theorem cbX12_name_X12_keepPast : kw_cb mX12_name mX12_keepPast 0 := ⟨cdX12_keepPast, in_X12, ⟨by decide +kernel, by decide +kernel, by decide +kernel⟩, by decide, by decide⟩
theorem cbX12_job_X12_in : kw_cb mX12_job mX12_in 3 := ⟨cdX12_in, in_X12, ⟨by decide +kernel, by decide +kernel, by decide +kernel⟩, by decide, by decide⟩
theorem cbX12_job_X12_keepPast : kw_cb mX12_job mX12_keepPast 0 := ⟨cdX12_keepPast, in_X12, ⟨by decide +kernel, by decide +kernel, by decide +kernel⟩, by decide, by decide⟩
theorem ckX12_181 : Cond.constantLong RX12 181 8 ∈ kw_T := kw_in 1155 (by decide +kernel) rfl
theorem cbX12_turn_X12_in : kw_cb mX12_turn mX12_in 3 := ⟨cdX12_in, in_X12, ⟨by decide +kernel, by decide +kernel, by decide +kernel⟩, by decide, by decide⟩
theorem cbX12_turn_X12_keepPast : kw_cb mX12_turn mX12_keepPast 0 := ⟨cdX12_keepPast, in_X12, ⟨by decide +kernel, by decide +kernel, by decide +kernel⟩, by decide, by decide⟩
theorem cbX12_turn_X12_turnBy : kw_cb mX12_turn mX12_turnBy 2 := ⟨cdX12_turnBy, in_X12, ⟨by decide +kernel, by decide +kernel, by decide +kernel⟩, by decide, by decide⟩
theorem cbX12_done_X12_isSix : kw_cb mX12_done mX12_isSix 1 := ⟨cdX12_isSix, in_X12, ⟨by decide +kernel, by decide +kernel, by decide +kernel⟩, by decide, by decide⟩
theorem cbX12_slot_X12_in : kw_cb mX12_slot mX12_in 3 := ⟨cdX12_in, in_X12, ⟨by decide +kernel, by decide +kernel, by decide +kernel⟩, by decide, by decide⟩
theorem cbX12_slot_X12_jobOf : kw_cb mX12_slot mX12_jobOf 2 := ⟨cdX12_jobOf, in_X12, ⟨by decide +kernel, by decide +kernel, by decide +kernel⟩, by decide, by decide⟩
theorem cbX12_isTurner_X12_in : kw_cb mX12_isTurner mX12_in 3 := ⟨cdX12_in, in_X12, ⟨by decide +kernel, by decide +kernel, by decide +kernel⟩, by decide, by decide⟩
theorem cdX12_isTurner : Cond.code mX12_isTurner.1 mX12_isTurner.2.1 mX12_isTurner.2.2.1 mX12_isTurner.2.2.2.1 ∈ kw_T := kw_in 1171 (by decide +kernel) rfl
theorem cbX12_turner_X12_isTurner : kw_cb mX12_turner mX12_isTurner 1 := ⟨cdX12_isTurner, in_X12, ⟨by decide +kernel, by decide +kernel, by decide +kernel⟩, by decide, by decide⟩
theorem lkX12_183 : Cond.methodLink RX12 183 yX12_isTurner ∈ kw_T := kw_in 1168 (by decide +kernel) rfl
theorem imX12_isTurner : Cond.instanceMethod yX12_isTurner ∈ kw_T := kw_in 1170 (by decide +kernel) rfl
theorem seX12_X12_isTurner_X12_isTurner : Cond.selects RX12 yX12_isTurner yX12_isTurner ∈ kw_T := kw_in 39 (by decide +kernel) rfl
theorem cbX12_turner_X12_in : kw_cb mX12_turner mX12_in 3 := ⟨cdX12_in, in_X12, ⟨by decide +kernel, by decide +kernel, by decide +kernel⟩, by decide, by decide⟩
theorem cbX12_turner_X12_farOf : kw_cb mX12_turner mX12_farOf 2 := ⟨cdX12_farOf, in_X12, ⟨by decide +kernel, by decide +kernel, by decide +kernel⟩, by decide, by decide⟩
theorem cbX12_doesTried_X12_doerOf : kw_cb mX12_doesTried mX12_doerOf 2 := ⟨cdX12_doerOf, in_X12, ⟨by decide +kernel, by decide +kernel, by decide +kernel⟩, by decide, by decide⟩
theorem cbX12_doesTried_X12_jobOf : kw_cb mX12_doesTried mX12_jobOf 2 := ⟨cdX12_jobOf, in_X12, ⟨by decide +kernel, by decide +kernel, by decide +kernel⟩, by decide, by decide⟩
theorem cbX12_hasJobs_X12_isSix : kw_cb mX12_hasJobs mX12_isSix 1 := ⟨cdX12_isSix, in_X12, ⟨by decide +kernel, by decide +kernel, by decide +kernel⟩, by decide, by decide⟩
theorem ckX12_186 : Cond.constantLong RX12 186 60 ∈ kw_T := kw_in 1176 (by decide +kernel) rfl
theorem cbX12_hasJobs_X12_in : kw_cb mX12_hasJobs mX12_in 3 := ⟨cdX12_in, in_X12, ⟨by decide +kernel, by decide +kernel, by decide +kernel⟩, by decide, by decide⟩
theorem cdX12_layTried : Cond.code mX12_layTried.1 mX12_layTried.2.1 mX12_layTried.2.2.1 mX12_layTried.2.2.2.1 ∈ kw_T := kw_in 1180 (by decide +kernel) rfl
theorem cbX12_hasJobs_X12_layTried : kw_cb mX12_hasJobs mX12_layTried 1 := ⟨cdX12_layTried, in_X12, ⟨by decide +kernel, by decide +kernel, by decide +kernel⟩, by decide, by decide⟩
theorem lkX12_188 : Cond.methodLink RX12 188 yX12_layTried ∈ kw_T := kw_in 1177 (by decide +kernel) rfl
theorem imX12_layTried : Cond.instanceMethod yX12_layTried ∈ kw_T := kw_in 1179 (by decide +kernel) rfl
theorem seX12_X12_layTried_X12_layTried : Cond.selects RX12 yX12_layTried yX12_layTried ∈ kw_T := kw_in 40 (by decide +kernel) rfl
theorem cdX12_doesTried : Cond.code mX12_doesTried.1 mX12_doesTried.2.1 mX12_doesTried.2.2.1 mX12_doesTried.2.2.2.1 ∈ kw_T := kw_in 1184 (by decide +kernel) rfl
theorem cbX12_hasJobs_X12_doesTried : kw_cb mX12_hasJobs mX12_doesTried 2 := ⟨cdX12_doesTried, in_X12, ⟨by decide +kernel, by decide +kernel, by decide +kernel⟩, by decide, by decide⟩
theorem lkX12_191 : Cond.methodLink RX12 191 yX12_doesTried ∈ kw_T := kw_in 1181 (by decide +kernel) rfl
theorem imX12_doesTried : Cond.instanceMethod yX12_doesTried ∈ kw_T := kw_in 1183 (by decide +kernel) rfl
theorem seX12_X12_doesTried_X12_doesTried : Cond.selects RX12 yX12_doesTried yX12_doesTried ∈ kw_T := kw_in 41 (by decide +kernel) rfl
theorem cbX12_doersTried_X12_doesTried : kw_cb mX12_doersTried mX12_doesTried 2 := ⟨cdX12_doesTried, in_X12, ⟨by decide +kernel, by decide +kernel, by decide +kernel⟩, by decide, by decide⟩
theorem cbX12_whoDoes_X12_isSix : kw_cb mX12_whoDoes mX12_isSix 1 := ⟨cdX12_isSix, in_X12, ⟨by decide +kernel, by decide +kernel, by decide +kernel⟩, by decide, by decide⟩
theorem cbX12_whoDoes_X12_in : kw_cb mX12_whoDoes mX12_in 3 := ⟨cdX12_in, in_X12, ⟨by decide +kernel, by decide +kernel, by decide +kernel⟩, by decide, by decide⟩
theorem cbX12_whoDoes_X12_layTried : kw_cb mX12_whoDoes mX12_layTried 1 := ⟨cdX12_layTried, in_X12, ⟨by decide +kernel, by decide +kernel, by decide +kernel⟩, by decide, by decide⟩
theorem cdX12_doersTried : Cond.code mX12_doersTried.1 mX12_doersTried.2.1 mX12_doersTried.2.2.1 mX12_doersTried.2.2.2.1 ∈ kw_T := kw_in 1192 (by decide +kernel) rfl
theorem cbX12_whoDoes_X12_doersTried : kw_cb mX12_whoDoes mX12_doersTried 1 := ⟨cdX12_doersTried, in_X12, ⟨by decide +kernel, by decide +kernel, by decide +kernel⟩, by decide, by decide⟩
theorem lkX12_194 : Cond.methodLink RX12 194 yX12_doersTried ∈ kw_T := kw_in 1189 (by decide +kernel) rfl
theorem imX12_doersTried : Cond.instanceMethod yX12_doersTried ∈ kw_T := kw_in 1191 (by decide +kernel) rfl
theorem seX12_X12_doersTried_X12_doersTried : Cond.selects RX12 yX12_doersTried yX12_doersTried ∈ kw_T := kw_in 42 (by decide +kernel) rfl
theorem cbX12_often_X12_isSix : kw_cb mX12_often mX12_isSix 1 := ⟨cdX12_isSix, in_X12, ⟨by decide +kernel, by decide +kernel, by decide +kernel⟩, by decide, by decide⟩
theorem cbX12_often_X12_in : kw_cb mX12_often mX12_in 3 := ⟨cdX12_in, in_X12, ⟨by decide +kernel, by decide +kernel, by decide +kernel⟩, by decide, by decide⟩
theorem cbX12_often_X12_layTried : kw_cb mX12_often mX12_layTried 1 := ⟨cdX12_layTried, in_X12, ⟨by decide +kernel, by decide +kernel, by decide +kernel⟩, by decide, by decide⟩
theorem cbX12_meets_X12_isSix : kw_cb mX12_meets mX12_isSix 1 := ⟨cdX12_isSix, in_X12, ⟨by decide +kernel, by decide +kernel, by decide +kernel⟩, by decide, by decide⟩
theorem cbX12_meets_X12_layTried : kw_cb mX12_meets mX12_layTried 1 := ⟨cdX12_layTried, in_X12, ⟨by decide +kernel, by decide +kernel, by decide +kernel⟩, by decide, by decide⟩
theorem cbX12_meets_X12_doesTried : kw_cb mX12_meets mX12_doesTried 2 := ⟨cdX12_doesTried, in_X12, ⟨by decide +kernel, by decide +kernel, by decide +kernel⟩, by decide, by decide⟩
theorem cbX12_meets_X12_passAsTold : kw_cb mX12_meets mX12_passAsTold 1 := ⟨cdX12_passAsTold, in_X12, ⟨by decide +kernel, by decide +kernel, by decide +kernel⟩, by decide, by decide⟩
theorem cdX12_onWheel : Cond.code mX12_onWheel.1 mX12_onWheel.2.1 mX12_onWheel.2.2.1 mX12_onWheel.2.2.2.1 ∈ kw_T := kw_in 1212 (by decide +kernel) rfl
theorem cbX12_haveAllMet_X12_onWheel : kw_cb mX12_haveAllMet mX12_onWheel 3 := ⟨cdX12_onWheel, in_X12, ⟨by decide +kernel, by decide +kernel, by decide +kernel⟩, by decide, by decide⟩
theorem lkX12_197 : Cond.methodLink RX12 197 yX12_onWheel ∈ kw_T := kw_in 1209 (by decide +kernel) rfl
theorem imX12_onWheel : Cond.instanceMethod yX12_onWheel ∈ kw_T := kw_in 1211 (by decide +kernel) rfl
theorem seX12_X12_onWheel_X12_onWheel : Cond.selects RX12 yX12_onWheel yX12_onWheel ∈ kw_T := kw_in 44 (by decide +kernel) rfl
theorem cbX12_haveAllMet_X12_has : kw_cb mX12_haveAllMet mX12_has 2 := ⟨cdX12_has, in_X12, ⟨by decide +kernel, by decide +kernel, by decide +kernel⟩, by decide, by decide⟩
theorem cbX12_allMet_X12_layTried : kw_cb mX12_allMet mX12_layTried 1 := ⟨cdX12_layTried, in_X12, ⟨by decide +kernel, by decide +kernel, by decide +kernel⟩, by decide, by decide⟩
theorem cbX12_allMet_X12_passAsTold : kw_cb mX12_allMet mX12_passAsTold 1 := ⟨cdX12_passAsTold, in_X12, ⟨by decide +kernel, by decide +kernel, by decide +kernel⟩, by decide, by decide⟩
theorem cdX12_haveAllMet : Cond.code mX12_haveAllMet.1 mX12_haveAllMet.2.1 mX12_haveAllMet.2.2.1 mX12_haveAllMet.2.2.2.1 ∈ kw_T := kw_in 1208 (by decide +kernel) rfl
theorem cbX12_allMet_X12_haveAllMet : kw_cb mX12_allMet mX12_haveAllMet 0 := ⟨cdX12_haveAllMet, in_X12, ⟨by decide +kernel, by decide +kernel, by decide +kernel⟩, by decide, by decide⟩
theorem lkX12_200 : Cond.methodLink RX12 200 yX12_haveAllMet ∈ kw_T := kw_in 1205 (by decide +kernel) rfl
theorem imX12_haveAllMet : Cond.instanceMethod yX12_haveAllMet ∈ kw_T := kw_in 1207 (by decide +kernel) rfl
theorem seX12_X12_haveAllMet_X12_haveAllMet : Cond.selects RX12 yX12_haveAllMet yX12_haveAllMet ∈ kw_T := kw_in 43 (by decide +kernel) rfl
theorem cbX12_round_X12_layTried : kw_cb mX12_round mX12_layTried 1 := ⟨cdX12_layTried, in_X12, ⟨by decide +kernel, by decide +kernel, by decide +kernel⟩, by decide, by decide⟩
theorem cbX12_round_X12_passAsTold : kw_cb mX12_round mX12_passAsTold 1 := ⟨cdX12_passAsTold, in_X12, ⟨by decide +kernel, by decide +kernel, by decide +kernel⟩, by decide, by decide⟩
theorem cbX12_differenceTried_X12_onWheel : kw_cb mX12_differenceTried mX12_onWheel 3 := ⟨cdX12_onWheel, in_X12, ⟨by decide +kernel, by decide +kernel, by decide +kernel⟩, by decide, by decide⟩
theorem ckX12_203 : Cond.constant RX12 203 1000000 ∈ kw_T := kw_in 1221 (by decide +kernel) rfl
theorem cbX12_differenceTried_X12_has : kw_cb mX12_differenceTried mX12_has 2 := ⟨cdX12_has, in_X12, ⟨by decide +kernel, by decide +kernel, by decide +kernel⟩, by decide, by decide⟩
theorem cdX12_doneBy : Cond.code mX12_doneBy.1 mX12_doneBy.2.1 mX12_doneBy.2.2.1 mX12_doneBy.2.2.2.1 ∈ kw_T := kw_in 1229 (by decide +kernel) rfl
theorem cbX12_differenceTried_X12_doneBy : kw_cb mX12_differenceTried mX12_doneBy 2 := ⟨cdX12_doneBy, in_X12, ⟨by decide +kernel, by decide +kernel, by decide +kernel⟩, by decide, by decide⟩
theorem lkX12_204 : Cond.methodLink RX12 204 yX12_doneBy ∈ kw_T := kw_in 1226 (by decide +kernel) rfl
theorem imX12_doneBy : Cond.instanceMethod yX12_doneBy ∈ kw_T := kw_in 1228 (by decide +kernel) rfl
theorem seX12_X12_doneBy_X12_doneBy : Cond.selects RX12 yX12_doneBy yX12_doneBy ∈ kw_T := kw_in 46 (by decide +kernel) rfl
theorem cbX12_fairest_X12_in : kw_cb mX12_fairest mX12_in 3 := ⟨cdX12_in, in_X12, ⟨by decide +kernel, by decide +kernel, by decide +kernel⟩, by decide, by decide⟩
theorem cbX12_fairest_X12_layTried : kw_cb mX12_fairest mX12_layTried 1 := ⟨cdX12_layTried, in_X12, ⟨by decide +kernel, by decide +kernel, by decide +kernel⟩, by decide, by decide⟩
theorem cdX12_differenceTried : Cond.code mX12_differenceTried.1 mX12_differenceTried.2.1 mX12_differenceTried.2.2.1 mX12_differenceTried.2.2.2.1 ∈ kw_T := kw_in 1225 (by decide +kernel) rfl
theorem cbX12_fairest_X12_differenceTried : kw_cb mX12_fairest mX12_differenceTried 0 := ⟨cdX12_differenceTried, in_X12, ⟨by decide +kernel, by decide +kernel, by decide +kernel⟩, by decide, by decide⟩
theorem lkX12_207 : Cond.methodLink RX12 207 yX12_differenceTried ∈ kw_T := kw_in 1222 (by decide +kernel) rfl
theorem imX12_differenceTried : Cond.instanceMethod yX12_differenceTried ∈ kw_T := kw_in 1224 (by decide +kernel) rfl
theorem seX12_X12_differenceTried_X12_differenceTried : Cond.selects RX12 yX12_differenceTried yX12_differenceTried ∈ kw_T := kw_in 45 (by decide +kernel) rfl
theorem cbX12_fairest_X12_pass : kw_cb mX12_fairest mX12_pass 2 := ⟨cdX12_pass, in_X12, ⟨by decide +kernel, by decide +kernel, by decide +kernel⟩, by decide, by decide⟩
theorem cbX12_owed_X12_isSix : kw_cb mX12_owed mX12_isSix 1 := ⟨cdX12_isSix, in_X12, ⟨by decide +kernel, by decide +kernel, by decide +kernel⟩, by decide, by decide⟩
theorem cbX12_owed_X12_doneBy : kw_cb mX12_owed mX12_doneBy 2 := ⟨cdX12_doneBy, in_X12, ⟨by decide +kernel, by decide +kernel, by decide +kernel⟩, by decide, by decide⟩
theorem cbX12_isRight_X12_copyTown : kw_cb mX12_isRight mX12_copyTown 2 := ⟨cdX12_copyTown, in_X12, ⟨by decide +kernel, by decide +kernel, by decide +kernel⟩, by decide, by decide⟩
theorem cbX12_isRight_X12_doesTried : kw_cb mX12_isRight mX12_doesTried 2 := ⟨cdX12_doesTried, in_X12, ⟨by decide +kernel, by decide +kernel, by decide +kernel⟩, by decide, by decide⟩
theorem cbX12_isRight_X12_passAsTold : kw_cb mX12_isRight mX12_passAsTold 1 := ⟨cdX12_passAsTold, in_X12, ⟨by decide +kernel, by decide +kernel, by decide +kernel⟩, by decide, by decide⟩
theorem cbX12_right_X12_isSix : kw_cb mX12_right mX12_isSix 1 := ⟨cdX12_isSix, in_X12, ⟨by decide +kernel, by decide +kernel, by decide +kernel⟩, by decide, by decide⟩
theorem cbX12_right_X12_in : kw_cb mX12_right mX12_in 3 := ⟨cdX12_in, in_X12, ⟨by decide +kernel, by decide +kernel, by decide +kernel⟩, by decide, by decide⟩
theorem cdX12_isRight : Cond.code mX12_isRight.1 mX12_isRight.2.1 mX12_isRight.2.2.1 mX12_isRight.2.2.2.1 ∈ kw_T := kw_in 1241 (by decide +kernel) rfl
theorem cbX12_right_X12_isRight : kw_cb mX12_right mX12_isRight 5 := ⟨cdX12_isRight, in_X12, ⟨by decide +kernel, by decide +kernel, by decide +kernel⟩, by decide, by decide⟩
theorem lkX12_211 : Cond.methodLink RX12 211 yX12_isRight ∈ kw_T := kw_in 1238 (by decide +kernel) rfl
theorem imX12_isRight : Cond.instanceMethod yX12_isRight ∈ kw_T := kw_in 1240 (by decide +kernel) rfl
theorem seX12_X12_isRight_X12_isRight : Cond.selects RX12 yX12_isRight yX12_isRight ∈ kw_T := kw_in 47 (by decide +kernel) rfl
theorem cbX12_twice_X12_copyTown : kw_cb mX12_twice mX12_copyTown 2 := ⟨cdX12_copyTown, in_X12, ⟨by decide +kernel, by decide +kernel, by decide +kernel⟩, by decide, by decide⟩
theorem cbX12_twice_X12_differenceTried : kw_cb mX12_twice mX12_differenceTried 0 := ⟨cdX12_differenceTried, in_X12, ⟨by decide +kernel, by decide +kernel, by decide +kernel⟩, by decide, by decide⟩
theorem cbX12_twice_X12_passAsTold : kw_cb mX12_twice mX12_passAsTold 1 := ⟨cdX12_passAsTold, in_X12, ⟨by decide +kernel, by decide +kernel, by decide +kernel⟩, by decide, by decide⟩
theorem cbX12_noItems_X12_isSpan : kw_cb mX12_noItems mX12_isSpan 3 := ⟨cdX12_isSpan, in_X12, ⟨by decide +kernel, by decide +kernel, by decide +kernel⟩, by decide, by decide⟩
theorem cbX12_noItems_X12_find : kw_cb mX12_noItems mX12_find 1 := ⟨cdX12_find, in_X12, ⟨by decide +kernel, by decide +kernel, by decide +kernel⟩, by decide, by decide⟩
theorem cbX12_firstDoer_X12_doersTried : kw_cb mX12_firstDoer mX12_doersTried 1 := ⟨cdX12_doersTried, in_X12, ⟨by decide +kernel, by decide +kernel, by decide +kernel⟩, by decide, by decide⟩
theorem cbX12_firstDoer_X12_has : kw_cb mX12_firstDoer mX12_has 2 := ⟨cdX12_has, in_X12, ⟨by decide +kernel, by decide +kernel, by decide +kernel⟩, by decide, by decide⟩
theorem cbX12_isSeenSo_X12_layTried : kw_cb mX12_isSeenSo mX12_layTried 1 := ⟨cdX12_layTried, in_X12, ⟨by decide +kernel, by decide +kernel, by decide +kernel⟩, by decide, by decide⟩
theorem cdX12_firstDoer : Cond.code mX12_firstDoer.1 mX12_firstDoer.2.1 mX12_firstDoer.2.2.1 mX12_firstDoer.2.2.2.1 ∈ kw_T := kw_in 1262 (by decide +kernel) rfl
theorem cbX12_isSeenSo_X12_firstDoer : kw_cb mX12_isSeenSo mX12_firstDoer 1 := ⟨cdX12_firstDoer, in_X12, ⟨by decide +kernel, by decide +kernel, by decide +kernel⟩, by decide, by decide⟩
theorem lkX12_215 : Cond.methodLink RX12 215 yX12_firstDoer ∈ kw_T := kw_in 1259 (by decide +kernel) rfl
theorem imX12_firstDoer : Cond.instanceMethod yX12_firstDoer ∈ kw_T := kw_in 1261 (by decide +kernel) rfl
theorem seX12_X12_firstDoer_X12_firstDoer : Cond.selects RX12 yX12_firstDoer yX12_firstDoer ∈ kw_T := kw_in 50 (by decide +kernel) rfl
theorem cbX12_isSeenSo_X12_passAsTold : kw_cb mX12_isSeenSo mX12_passAsTold 1 := ⟨cdX12_passAsTold, in_X12, ⟨by decide +kernel, by decide +kernel, by decide +kernel⟩, by decide, by decide⟩
theorem cbX12_seen_X12_isSix : kw_cb mX12_seen mX12_isSix 1 := ⟨cdX12_isSix, in_X12, ⟨by decide +kernel, by decide +kernel, by decide +kernel⟩, by decide, by decide⟩
theorem cbX12_seen_X12_isRow : kw_cb mX12_seen mX12_isRow 1 := ⟨cdX12_isRow, in_X12, ⟨by decide +kernel, by decide +kernel, by decide +kernel⟩, by decide, by decide⟩
theorem ckX12_218 : Cond.constantLong RX12 218 12 ∈ kw_T := kw_in 1250 (by decide +kernel) rfl
theorem cbX12_seen_X12_in : kw_cb mX12_seen mX12_in 3 := ⟨cdX12_in, in_X12, ⟨by decide +kernel, by decide +kernel, by decide +kernel⟩, by decide, by decide⟩
theorem cdX12_noItems : Cond.code mX12_noItems.1 mX12_noItems.2.1 mX12_noItems.2.2.1 mX12_noItems.2.2.2.1 ∈ kw_T := kw_in 1254 (by decide +kernel) rfl
theorem cbX12_seen_X12_noItems : kw_cb mX12_seen mX12_noItems 3 := ⟨cdX12_noItems, in_X12, ⟨by decide +kernel, by decide +kernel, by decide +kernel⟩, by decide, by decide⟩
theorem lkX12_220 : Cond.methodLink RX12 220 yX12_noItems ∈ kw_T := kw_in 1251 (by decide +kernel) rfl
theorem imX12_noItems : Cond.instanceMethod yX12_noItems ∈ kw_T := kw_in 1253 (by decide +kernel) rfl
theorem seX12_X12_noItems_X12_noItems : Cond.selects RX12 yX12_noItems yX12_noItems ∈ kw_T := kw_in 48 (by decide +kernel) rfl
theorem cbX12_seen_X12_well : kw_cb mX12_seen mX12_well 1 := ⟨cdX12_well, in_X12, ⟨by decide +kernel, by decide +kernel, by decide +kernel⟩, by decide, by decide⟩
theorem cdX12_isSeenSo : Cond.code mX12_isSeenSo.1 mX12_isSeenSo.2.1 mX12_isSeenSo.2.2.1 mX12_isSeenSo.2.2.2.1 ∈ kw_T := kw_in 1258 (by decide +kernel) rfl
theorem cbX12_seen_X12_isSeenSo : kw_cb mX12_seen mX12_isSeenSo 5 := ⟨cdX12_isSeenSo, in_X12, ⟨by decide +kernel, by decide +kernel, by decide +kernel⟩, by decide, by decide⟩
theorem lkX12_223 : Cond.methodLink RX12 223 yX12_isSeenSo ∈ kw_T := kw_in 1255 (by decide +kernel) rfl
theorem imX12_isSeenSo : Cond.instanceMethod yX12_isSeenSo ∈ kw_T := kw_in 1257 (by decide +kernel) rfl
theorem seX12_X12_isSeenSo_X12_isSeenSo : Cond.selects RX12 yX12_isSeenSo yX12_isSeenSo ∈ kw_T := kw_in 49 (by decide +kernel) rfl
theorem cbX12_isTurnedSo_X12_layTried : kw_cb mX12_isTurnedSo mX12_layTried 1 := ⟨cdX12_layTried, in_X12, ⟨by decide +kernel, by decide +kernel, by decide +kernel⟩, by decide, by decide⟩
theorem cbX12_isTurnedSo_X12_passAsTold : kw_cb mX12_isTurnedSo mX12_passAsTold 1 := ⟨cdX12_passAsTold, in_X12, ⟨by decide +kernel, by decide +kernel, by decide +kernel⟩, by decide, by decide⟩
theorem cbX12_who_X12_isTurner : kw_cb mX12_who mX12_isTurner 1 := ⟨cdX12_isTurner, in_X12, ⟨by decide +kernel, by decide +kernel, by decide +kernel⟩, by decide, by decide⟩
theorem cbX12_who_X12_isRow : kw_cb mX12_who mX12_isRow 1 := ⟨cdX12_isRow, in_X12, ⟨by decide +kernel, by decide +kernel, by decide +kernel⟩, by decide, by decide⟩
theorem cbX12_who_X12_in : kw_cb mX12_who mX12_in 3 := ⟨cdX12_in, in_X12, ⟨by decide +kernel, by decide +kernel, by decide +kernel⟩, by decide, by decide⟩
theorem cbX12_who_X12_noItems : kw_cb mX12_who mX12_noItems 3 := ⟨cdX12_noItems, in_X12, ⟨by decide +kernel, by decide +kernel, by decide +kernel⟩, by decide, by decide⟩
theorem cbX12_who_X12_well : kw_cb mX12_who mX12_well 1 := ⟨cdX12_well, in_X12, ⟨by decide +kernel, by decide +kernel, by decide +kernel⟩, by decide, by decide⟩
theorem cdX12_isTurnedSo : Cond.code mX12_isTurnedSo.1 mX12_isTurnedSo.2.1 mX12_isTurnedSo.2.2.1 mX12_isTurnedSo.2.2.2.1 ∈ kw_T := kw_in 1270 (by decide +kernel) rfl
theorem cbX12_who_X12_isTurnedSo : kw_cb mX12_who mX12_isTurnedSo 5 := ⟨cdX12_isTurnedSo, in_X12, ⟨by decide +kernel, by decide +kernel, by decide +kernel⟩, by decide, by decide⟩
theorem lkX12_226 : Cond.methodLink RX12 226 yX12_isTurnedSo ∈ kw_T := kw_in 1267 (by decide +kernel) rfl
theorem imX12_isTurnedSo : Cond.instanceMethod yX12_isTurnedSo ∈ kw_T := kw_in 1269 (by decide +kernel) rfl
theorem seX12_X12_isTurnedSo_X12_isTurnedSo : Cond.selects RX12 yX12_isTurnedSo yX12_isTurnedSo ∈ kw_T := kw_in 51 (by decide +kernel) rfl
theorem gfX12_32 : kw_gok RX12 32 [11] 16 := by
  intro ci h
  simp only [List.mem_cons, List.not_mem_nil, or_false] at h
  subst h
  exact ⟨_, _, _, kcX12, by decide, "KitchenWheelsModel", kw_in 945 (by decide +kernel) rfl, Or.inl rfl⟩

theorem cbX12_areTogether_X12_has : kw_cb mX12_areTogether mX12_has 2 := ⟨cdX12_has, in_X12, ⟨by decide +kernel, by decide +kernel, by decide +kernel⟩, by decide, by decide⟩
theorem cbX12_pairs_X12_in : kw_cb mX12_pairs mX12_in 3 := ⟨cdX12_in, in_X12, ⟨by decide +kernel, by decide +kernel, by decide +kernel⟩, by decide, by decide⟩
theorem cbX12_pairs_X12_layTried : kw_cb mX12_pairs mX12_layTried 1 := ⟨cdX12_layTried, in_X12, ⟨by decide +kernel, by decide +kernel, by decide +kernel⟩, by decide, by decide⟩
theorem cdX12_areTogether : Cond.code mX12_areTogether.1 mX12_areTogether.2.1 mX12_areTogether.2.2.1 mX12_areTogether.2.2.2.1 ∈ kw_T := kw_in 1278 (by decide +kernel) rfl
theorem cbX12_pairs_X12_areTogether : kw_cb mX12_pairs mX12_areTogether 3 := ⟨cdX12_areTogether, in_X12, ⟨by decide +kernel, by decide +kernel, by decide +kernel⟩, by decide, by decide⟩
theorem lkX12_229 : Cond.methodLink RX12 229 yX12_areTogether ∈ kw_T := kw_in 1275 (by decide +kernel) rfl
theorem imX12_areTogether : Cond.instanceMethod yX12_areTogether ∈ kw_T := kw_in 1277 (by decide +kernel) rfl
theorem seX12_X12_areTogether_X12_areTogether : Cond.selects RX12 yX12_areTogether yX12_areTogether ∈ kw_T := kw_in 52 (by decide +kernel) rfl
theorem cbX12_pairs_X12_passAsTold : kw_cb mX12_pairs mX12_passAsTold 1 := ⟨cdX12_passAsTold, in_X12, ⟨by decide +kernel, by decide +kernel, by decide +kernel⟩, by decide, by decide⟩
theorem cbX12_pairs_X12_doersTried : kw_cb mX12_pairs mX12_doersTried 1 := ⟨cdX12_doersTried, in_X12, ⟨by decide +kernel, by decide +kernel, by decide +kernel⟩, by decide, by decide⟩
theorem cbX12_forgets_X12_isSix : kw_cb mX12_forgets mX12_isSix 1 := ⟨cdX12_isSix, in_X12, ⟨by decide +kernel, by decide +kernel, by decide +kernel⟩, by decide, by decide⟩
theorem ckX12_236 : Cond.constantLong RX12 236 (-1000001) ∈ kw_T := kw_in 1285 (by decide +kernel) rfl
theorem cbX12_forgets_X12_in : kw_cb mX12_forgets mX12_in 3 := ⟨cdX12_in, in_X12, ⟨by decide +kernel, by decide +kernel, by decide +kernel⟩, by decide, by decide⟩
theorem ckX12_234 : Cond.constantLong RX12 234 10 ∈ kw_T := kw_in 1284 (by decide +kernel) rfl
theorem cbX12_forgets_X12_copyTown : kw_cb mX12_forgets mX12_copyTown 2 := ⟨cdX12_copyTown, in_X12, ⟨by decide +kernel, by decide +kernel, by decide +kernel⟩, by decide, by decide⟩
theorem cbX12_forgets_X12_doesTried : kw_cb mX12_forgets mX12_doesTried 2 := ⟨cdX12_doesTried, in_X12, ⟨by decide +kernel, by decide +kernel, by decide +kernel⟩, by decide, by decide⟩
theorem cbX12_forgets_X12_has : kw_cb mX12_forgets mX12_has 2 := ⟨cdX12_has, in_X12, ⟨by decide +kernel, by decide +kernel, by decide +kernel⟩, by decide, by decide⟩
theorem cbX12_forgets_X12_farOf : kw_cb mX12_forgets mX12_farOf 2 := ⟨cdX12_farOf, in_X12, ⟨by decide +kernel, by decide +kernel, by decide +kernel⟩, by decide, by decide⟩
theorem cbX12_forgets_X12_pass : kw_cb mX12_forgets mX12_pass 2 := ⟨cdX12_pass, in_X12, ⟨by decide +kernel, by decide +kernel, by decide +kernel⟩, by decide, by decide⟩
theorem ckX12_232 : Cond.constantLong RX12 232 (-1000002) ∈ kw_T := kw_in 1283 (by decide +kernel) rfl
theorem cbX12_doneInAll_X12_doneBy : kw_cb mX12_doneInAll mX12_doneBy 2 := ⟨cdX12_doneBy, in_X12, ⟨by decide +kernel, by decide +kernel, by decide +kernel⟩, by decide, by decide⟩
theorem cbX12_drawn_X12_in : kw_cb mX12_drawn mX12_in 3 := ⟨cdX12_in, in_X12, ⟨by decide +kernel, by decide +kernel, by decide +kernel⟩, by decide, by decide⟩
theorem ckX12_238 : Cond.constantLong RX12 238 999999 ∈ kw_T := kw_in 1290 (by decide +kernel) rfl
theorem cbX12_drawn_X12_copyTown : kw_cb mX12_drawn mX12_copyTown 2 := ⟨cdX12_copyTown, in_X12, ⟨by decide +kernel, by decide +kernel, by decide +kernel⟩, by decide, by decide⟩
theorem cdX12_doneInAll : Cond.code mX12_doneInAll.1 mX12_doneInAll.2.1 mX12_doneInAll.2.2.1 mX12_doneInAll.2.2.2.1 ∈ kw_T := kw_in 1296 (by decide +kernel) rfl
theorem cbX12_drawn_X12_doneInAll : kw_cb mX12_drawn mX12_doneInAll 1 := ⟨cdX12_doneInAll, in_X12, ⟨by decide +kernel, by decide +kernel, by decide +kernel⟩, by decide, by decide⟩
theorem lkX12_244 : Cond.methodLink RX12 244 yX12_doneInAll ∈ kw_T := kw_in 1293 (by decide +kernel) rfl
theorem imX12_doneInAll : Cond.instanceMethod yX12_doneInAll ∈ kw_T := kw_in 1295 (by decide +kernel) rfl
theorem seX12_X12_doneInAll_X12_doneInAll : Cond.selects RX12 yX12_doneInAll yX12_doneInAll ∈ kw_T := kw_in 53 (by decide +kernel) rfl
theorem ckX12_240 : Cond.constantLong RX12 240 16807 ∈ kw_T := kw_in 1291 (by decide +kernel) rfl
theorem ckX12_242 : Cond.constantLong RX12 242 2147483647 ∈ kw_T := kw_in 1292 (by decide +kernel) rfl
theorem cbX12_drawn_X12_passAsTold : kw_cb mX12_drawn mX12_passAsTold 1 := ⟨cdX12_passAsTold, in_X12, ⟨by decide +kernel, by decide +kernel, by decide +kernel⟩, by decide, by decide⟩
theorem cbX12_image_X12_in : kw_cb mX12_image mX12_in 3 := ⟨cdX12_in, in_X12, ⟨by decide +kernel, by decide +kernel, by decide +kernel⟩, by decide, by decide⟩
theorem cbX12_image_X12_copyTown : kw_cb mX12_image mX12_copyTown 2 := ⟨cdX12_copyTown, in_X12, ⟨by decide +kernel, by decide +kernel, by decide +kernel⟩, by decide, by decide⟩
theorem gfX12_13 : kw_gok RX12 13 [11] 3 := by
  intro ci h
  simp only [List.mem_cons, List.not_mem_nil, or_false] at h
  subst h
  exact ⟨_, _, _, kcX12, by decide, "KitchenWheelsModel", kw_in 932 (by decide +kernel) rfl, Or.inl rfl⟩

theorem cbX12_restore_X12_in : kw_cb mX12_restore mX12_in 3 := ⟨cdX12_in, in_X12, ⟨by decide +kernel, by decide +kernel, by decide +kernel⟩, by decide, by decide⟩
theorem cbX12_restore_X12_copyTown : kw_cb mX12_restore mX12_copyTown 2 := ⟨cdX12_copyTown, in_X12, ⟨by decide +kernel, by decide +kernel, by decide +kernel⟩, by decide, by decide⟩
theorem pfX12_restore_136 : kw_pok mX12_restore 136 [11] 2 (.int) := by
  intro ci h
  simp only [List.mem_cons, List.not_mem_nil, or_false] at h
  subst h
  exact ⟨_, _, _, tyX12, kcX12, tyX12_ok, nmX12, by decide, ⟨"KitchenWheelsModel", kw_in 931 (by decide +kernel) rfl, Or.inl rfl⟩, rfl, Or.inl rfl⟩

theorem cbX12_kind_X12_isTurner : kw_cb mX12_kind mX12_isTurner 1 := ⟨cdX12_isTurner, in_X12, ⟨by decide +kernel, by decide +kernel, by decide +kernel⟩, by decide, by decide⟩
theorem cbX12_as_X12_isTurner : kw_cb mX12_as mX12_isTurner 1 := ⟨cdX12_isTurner, in_X12, ⟨by decide +kernel, by decide +kernel, by decide +kernel⟩, by decide, by decide⟩
theorem cbX12_as_X12_in : kw_cb mX12_as mX12_in 3 := ⟨cdX12_in, in_X12, ⟨by decide +kernel, by decide +kernel, by decide +kernel⟩, by decide, by decide⟩
theorem cdX12_isOf : Cond.code mX12_isOf.1 mX12_isOf.2.1 mX12_isOf.2.2.1 mX12_isOf.2.2.2.1 ∈ kw_T := kw_in 1316 (by decide +kernel) rfl
theorem cbX12_as_X12_isOf : kw_cb mX12_as mX12_isOf 2 := ⟨cdX12_isOf, in_X12, ⟨by decide +kernel, by decide +kernel, by decide +kernel⟩, by decide, by decide⟩
theorem lkX12_247 : Cond.methodLink RX12 247 yX12_isOf ∈ kw_T := kw_in 1313 (by decide +kernel) rfl
theorem imX12_isOf : Cond.instanceMethod yX12_isOf ∈ kw_T := kw_in 1315 (by decide +kernel) rfl
theorem seX12_X12_isOf_X12_isOf : Cond.selects RX12 yX12_isOf yX12_isOf ∈ kw_T := kw_in 54 (by decide +kernel) rfl
theorem cbX12_as_X12_find : kw_cb mX12_as mX12_find 1 := ⟨cdX12_find, in_X12, ⟨by decide +kernel, by decide +kernel, by decide +kernel⟩, by decide, by decide⟩
theorem cbX12_as_X12_well : kw_cb mX12_as mX12_well 1 := ⟨cdX12_well, in_X12, ⟨by decide +kernel, by decide +kernel, by decide +kernel⟩, by decide, by decide⟩
theorem gfX12_250 : kw_gok RX12 250 [11] 12 := by
  intro ci h
  simp only [List.mem_cons, List.not_mem_nil, or_false] at h
  subst h
  exact ⟨_, _, _, kcX12, by decide, "KitchenWheelsModel", kw_in 941 (by decide +kernel) rfl, Or.inl rfl⟩

theorem gfX12_29 : kw_gok RX12 29 [11] 11 := by
  intro ci h
  simp only [List.mem_cons, List.not_mem_nil, or_false] at h
  subst h
  exact ⟨_, _, _, kcX12, by decide, "KitchenWheelsModel", kw_in 940 (by decide +kernel) rfl, Or.inl rfl⟩

theorem pfX12_begin_250 : kw_pok mX12_begin 250 [11] 12 (.int) := by
  intro ci h
  simp only [List.mem_cons, List.not_mem_nil, or_false] at h
  subst h
  exact ⟨_, _, _, tyX12, kcX12, tyX12_ok, nmX12, by decide, ⟨"KitchenWheelsModel", kw_in 941 (by decide +kernel) rfl, Or.inl rfl⟩, rfl, Or.inl rfl⟩

theorem cdX12_begin : Cond.code mX12_begin.1 mX12_begin.2.1 mX12_begin.2.2.1 mX12_begin.2.2.2.1 ∈ kw_T := kw_in 1328 (by decide +kernel) rfl
theorem cbX12_lentSize_X12_begin : kw_cb mX12_lentSize mX12_begin 1 := ⟨cdX12_begin, in_X12, ⟨by decide +kernel, by decide +kernel, by decide +kernel⟩, by decide, by decide⟩
theorem lkX12_253 : Cond.methodLink RX12 253 yX12_begin ∈ kw_T := kw_in 1325 (by decide +kernel) rfl
theorem imX12_begin : Cond.instanceMethod yX12_begin ∈ kw_T := kw_in 1327 (by decide +kernel) rfl
theorem seX12_X12_begin_X12_begin : Cond.selects RX12 yX12_begin yX12_begin ∈ kw_T := kw_in 56 (by decide +kernel) rfl
theorem cbX12_lentMark_X12_begin : kw_cb mX12_lentMark mX12_begin 1 := ⟨cdX12_begin, in_X12, ⟨by decide +kernel, by decide +kernel, by decide +kernel⟩, by decide, by decide⟩
theorem cbX12_onesMark_X12_begin : kw_cb mX12_onesMark mX12_begin 1 := ⟨cdX12_begin, in_X12, ⟨by decide +kernel, by decide +kernel, by decide +kernel⟩, by decide, by decide⟩
theorem cdX12_lentMark : Cond.code mX12_lentMark.1 mX12_lentMark.2.1 mX12_lentMark.2.2.1 mX12_lentMark.2.2.2.1 ∈ kw_T := kw_in 1348 (by decide +kernel) rfl
theorem cbX12_onesMark_X12_lentMark : kw_cb mX12_onesMark mX12_lentMark 1 := ⟨cdX12_lentMark, in_X12, ⟨by decide +kernel, by decide +kernel, by decide +kernel⟩, by decide, by decide⟩
theorem lkX12_268 : Cond.methodLink RX12 268 yX12_lentMark ∈ kw_T := kw_in 1345 (by decide +kernel) rfl
theorem imX12_lentMark : Cond.instanceMethod yX12_lentMark ∈ kw_T := kw_in 1347 (by decide +kernel) rfl
theorem seX12_X12_lentMark_X12_lentMark : Cond.selects RX12 yX12_lentMark yX12_lentMark ∈ kw_T := kw_in 61 (by decide +kernel) rfl
theorem cbX12_mark_X12_begin : kw_cb mX12_mark mX12_begin 1 := ⟨cdX12_begin, in_X12, ⟨by decide +kernel, by decide +kernel, by decide +kernel⟩, by decide, by decide⟩
theorem cdX12_onesMark : Cond.code mX12_onesMark.1 mX12_onesMark.2.1 mX12_onesMark.2.2.1 mX12_onesMark.2.2.2.1 ∈ kw_T := kw_in 1344 (by decide +kernel) rfl
theorem cbX12_mark_X12_onesMark : kw_cb mX12_mark mX12_onesMark 1 := ⟨cdX12_onesMark, in_X12, ⟨by decide +kernel, by decide +kernel, by decide +kernel⟩, by decide, by decide⟩
theorem lkX12_271 : Cond.methodLink RX12 271 yX12_onesMark ∈ kw_T := kw_in 1341 (by decide +kernel) rfl
theorem imX12_onesMark : Cond.instanceMethod yX12_onesMark ∈ kw_T := kw_in 1343 (by decide +kernel) rfl
theorem seX12_X12_onesMark_X12_onesMark : Cond.selects RX12 yX12_onesMark yX12_onesMark ∈ kw_T := kw_in 60 (by decide +kernel) rfl
theorem cbX12_onesSize_X12_begin : kw_cb mX12_onesSize mX12_begin 1 := ⟨cdX12_begin, in_X12, ⟨by decide +kernel, by decide +kernel, by decide +kernel⟩, by decide, by decide⟩
theorem cdX12_lentSize : Cond.code mX12_lentSize.1 mX12_lentSize.2.1 mX12_lentSize.2.2.1 mX12_lentSize.2.2.2.1 ∈ kw_T := kw_in 1336 (by decide +kernel) rfl
theorem cbX12_onesSize_X12_lentSize : kw_cb mX12_onesSize mX12_lentSize 1 := ⟨cdX12_lentSize, in_X12, ⟨by decide +kernel, by decide +kernel, by decide +kernel⟩, by decide, by decide⟩
theorem lkX12_256 : Cond.methodLink RX12 256 yX12_lentSize ∈ kw_T := kw_in 1333 (by decide +kernel) rfl
theorem imX12_lentSize : Cond.instanceMethod yX12_lentSize ∈ kw_T := kw_in 1335 (by decide +kernel) rfl
theorem seX12_X12_lentSize_X12_lentSize : Cond.selects RX12 yX12_lentSize yX12_lentSize ∈ kw_T := kw_in 58 (by decide +kernel) rfl
theorem cdX12_mark : Cond.code mX12_mark.1 mX12_mark.2.1 mX12_mark.2.2.1 mX12_mark.2.2.2.1 ∈ kw_T := kw_in 1340 (by decide +kernel) rfl
theorem cbX12_onesSize_X12_mark : kw_cb mX12_onesSize mX12_mark 1 := ⟨cdX12_mark, in_X12, ⟨by decide +kernel, by decide +kernel, by decide +kernel⟩, by decide, by decide⟩
theorem lkX12_259 : Cond.methodLink RX12 259 yX12_mark ∈ kw_T := kw_in 1337 (by decide +kernel) rfl
theorem imX12_mark : Cond.instanceMethod yX12_mark ∈ kw_T := kw_in 1339 (by decide +kernel) rfl
theorem seX12_X12_mark_X12_mark : Cond.selects RX12 yX12_mark yX12_mark ∈ kw_T := kw_in 59 (by decide +kernel) rfl
theorem cbX12_lawsSize_X12_begin : kw_cb mX12_lawsSize mX12_begin 1 := ⟨cdX12_begin, in_X12, ⟨by decide +kernel, by decide +kernel, by decide +kernel⟩, by decide, by decide⟩
theorem cbX12_lawsSize_X12_lentSize : kw_cb mX12_lawsSize mX12_lentSize 1 := ⟨cdX12_lentSize, in_X12, ⟨by decide +kernel, by decide +kernel, by decide +kernel⟩, by decide, by decide⟩
theorem cbX12_sizeOf_X12_begin : kw_cb mX12_sizeOf mX12_begin 1 := ⟨cdX12_begin, in_X12, ⟨by decide +kernel, by decide +kernel, by decide +kernel⟩, by decide, by decide⟩
theorem cdX12_onesSize : Cond.code mX12_onesSize.1 mX12_onesSize.2.1 mX12_onesSize.2.2.1 mX12_onesSize.2.2.2.1 ∈ kw_T := kw_in 1332 (by decide +kernel) rfl
theorem cbX12_sizeOf_X12_onesSize : kw_cb mX12_sizeOf mX12_onesSize 1 := ⟨cdX12_onesSize, in_X12, ⟨by decide +kernel, by decide +kernel, by decide +kernel⟩, by decide, by decide⟩
theorem lkX12_262 : Cond.methodLink RX12 262 yX12_onesSize ∈ kw_T := kw_in 1329 (by decide +kernel) rfl
theorem imX12_onesSize : Cond.instanceMethod yX12_onesSize ∈ kw_T := kw_in 1331 (by decide +kernel) rfl
theorem seX12_X12_onesSize_X12_onesSize : Cond.selects RX12 yX12_onesSize yX12_onesSize ∈ kw_T := kw_in 57 (by decide +kernel) rfl
theorem cdX12_lawsSize : Cond.code mX12_lawsSize.1 mX12_lawsSize.2.1 mX12_lawsSize.2.2.1 mX12_lawsSize.2.2.2.1 ∈ kw_T := kw_in 1352 (by decide +kernel) rfl
theorem cbX12_sizeOf_X12_lawsSize : kw_cb mX12_sizeOf mX12_lawsSize 1 := ⟨cdX12_lawsSize, in_X12, ⟨by decide +kernel, by decide +kernel, by decide +kernel⟩, by decide, by decide⟩
theorem lkX12_265 : Cond.methodLink RX12 265 yX12_lawsSize ∈ kw_T := kw_in 1349 (by decide +kernel) rfl
theorem imX12_lawsSize : Cond.instanceMethod yX12_lawsSize ∈ kw_T := kw_in 1351 (by decide +kernel) rfl
theorem seX12_X12_lawsSize_X12_lawsSize : Cond.selects RX12 yX12_lawsSize yX12_lawsSize ∈ kw_T := kw_in 62 (by decide +kernel) rfl
theorem cbX12_lawsMark_X12_begin : kw_cb mX12_lawsMark mX12_begin 1 := ⟨cdX12_begin, in_X12, ⟨by decide +kernel, by decide +kernel, by decide +kernel⟩, by decide, by decide⟩
theorem cbX12_lawsMark_X12_lentMark : kw_cb mX12_lawsMark mX12_lentMark 1 := ⟨cdX12_lentMark, in_X12, ⟨by decide +kernel, by decide +kernel, by decide +kernel⟩, by decide, by decide⟩
theorem cdX12_sizeOf : Cond.code mX12_sizeOf.1 mX12_sizeOf.2.1 mX12_sizeOf.2.2.1 mX12_sizeOf.2.2.2.1 ∈ kw_T := kw_in 1324 (by decide +kernel) rfl
theorem cbX12_lawsMark_X12_sizeOf : kw_cb mX12_lawsMark mX12_sizeOf 1 := ⟨cdX12_sizeOf, in_X12, ⟨by decide +kernel, by decide +kernel, by decide +kernel⟩, by decide, by decide⟩
theorem lkX12_274 : Cond.methodLink RX12 274 yX12_sizeOf ∈ kw_T := kw_in 1321 (by decide +kernel) rfl
theorem imX12_sizeOf : Cond.instanceMethod yX12_sizeOf ∈ kw_T := kw_in 1323 (by decide +kernel) rfl
theorem seX12_X12_sizeOf_X12_sizeOf : Cond.selects RX12 yX12_sizeOf yX12_sizeOf ∈ kw_T := kw_in 55 (by decide +kernel) rfl
theorem cbX12_ask_X12_isTurner : kw_cb mX12_ask mX12_isTurner 1 := ⟨cdX12_isTurner, in_X12, ⟨by decide +kernel, by decide +kernel, by decide +kernel⟩, by decide, by decide⟩
theorem cbX12_ask_X12_in : kw_cb mX12_ask mX12_in 3 := ⟨cdX12_in, in_X12, ⟨by decide +kernel, by decide +kernel, by decide +kernel⟩, by decide, by decide⟩
theorem pfX12_ask_250 : kw_pok mX12_ask 250 [11] 12 (.int) := by
  intro ci h
  simp only [List.mem_cons, List.not_mem_nil, or_false] at h
  subst h
  exact ⟨_, _, _, tyX12, kcX12, tyX12_ok, nmX12, by decide, ⟨"KitchenWheelsModel", kw_in 941 (by decide +kernel) rfl, Or.inl rfl⟩, rfl, Or.inl rfl⟩

theorem cbX12_ask_X12_isOf : kw_cb mX12_ask mX12_isOf 2 := ⟨cdX12_isOf, in_X12, ⟨by decide +kernel, by decide +kernel, by decide +kernel⟩, by decide, by decide⟩
theorem cbX12_ask_X12_mark : kw_cb mX12_ask mX12_mark 1 := ⟨cdX12_mark, in_X12, ⟨by decide +kernel, by decide +kernel, by decide +kernel⟩, by decide, by decide⟩
theorem cdX12_lawsMark : Cond.code mX12_lawsMark.1 mX12_lawsMark.2.1 mX12_lawsMark.2.2.1 mX12_lawsMark.2.2.2.1 ∈ kw_T := kw_in 1356 (by decide +kernel) rfl
theorem cbX12_ask_X12_lawsMark : kw_cb mX12_ask mX12_lawsMark 1 := ⟨cdX12_lawsMark, in_X12, ⟨by decide +kernel, by decide +kernel, by decide +kernel⟩, by decide, by decide⟩
theorem lkX12_277 : Cond.methodLink RX12 277 yX12_lawsMark ∈ kw_T := kw_in 1353 (by decide +kernel) rfl
theorem imX12_lawsMark : Cond.instanceMethod yX12_lawsMark ∈ kw_T := kw_in 1355 (by decide +kernel) rfl
theorem seX12_X12_lawsMark_X12_lawsMark : Cond.selects RX12 yX12_lawsMark yX12_lawsMark ∈ kw_T := kw_in 63 (by decide +kernel) rfl
theorem cbX12_ask_X12_sizeOf : kw_cb mX12_ask mX12_sizeOf 1 := ⟨cdX12_sizeOf, in_X12, ⟨by decide +kernel, by decide +kernel, by decide +kernel⟩, by decide, by decide⟩
theorem cbX12_trace_X12_in : kw_cb mX12_trace mX12_in 3 := ⟨cdX12_in, in_X12, ⟨by decide +kernel, by decide +kernel, by decide +kernel⟩, by decide, by decide⟩
theorem cbX12_count_X12_doneInAll : kw_cb mX12_count mX12_doneInAll 1 := ⟨cdX12_doneInAll, in_X12, ⟨by decide +kernel, by decide +kernel, by decide +kernel⟩, by decide, by decide⟩
theorem gfX12_35 : kw_gok RX12 35 [11] 10 := by
  intro ci h
  simp only [List.mem_cons, List.not_mem_nil, or_false] at h
  subst h
  exact ⟨_, _, _, kcX12, by decide, "KitchenWheelsModel", kw_in 939 (by decide +kernel) rfl, Or.inl rfl⟩

