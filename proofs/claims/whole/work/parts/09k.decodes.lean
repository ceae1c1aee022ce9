/-! Every method of the program -/
set_option maxRecDepth 100000 in
theorem zd_N_init : zsqM m_N_init = true := by decide +kernel
set_option maxRecDepth 100000 in
theorem zd_N_feed : zsqM m_N_feed = true := by decide +kernel
set_option maxRecDepth 100000 in
theorem zd_N_valley : zsqM m_N_valley = true := by decide +kernel
set_option maxRecDepth 100000 in
theorem zd_N_way : zsqM m_N_way = true := by decide +kernel
set_option maxRecDepth 100000 in
theorem zd_N_task : zsqM m_N_task = true := by decide +kernel
set_option maxRecDepth 100000 in
theorem zd_N_fault : zsqM m_N_fault = true := by decide +kernel
set_option maxRecDepth 100000 in
theorem zd_N_told : zsqM m_N_told = true := by decide +kernel
set_option maxRecDepth 100000 in
theorem zd_N_act : zsqM m_N_act = true := by decide +kernel
set_option maxRecDepth 100000 in
theorem zd_N_judge : zsqM m_N_judge = true := by decide +kernel
set_option maxRecDepth 100000 in
theorem zd_N_heap : zsqM m_N_heap = true := by decide +kernel
set_option maxRecDepth 100000 in
theorem zd_N_place : zsqM m_N_place = true := by decide +kernel
set_option maxRecDepth 100000 in
theorem zd_N_run : zsqM m_N_run = true := by decide +kernel
set_option maxRecDepth 100000 in
theorem zd_N_ends : zsqM m_N_ends = true := by decide +kernel
set_option maxRecDepth 100000 in
theorem zd_N_row : zsqM m_N_row = true := by decide +kernel
set_option maxRecDepth 100000 in
theorem zd_N_left : zsqM m_N_left = true := by decide +kernel
set_option maxRecDepth 100000 in
theorem zd_N_on : zsqM m_N_on = true := by decide +kernel
set_option maxRecDepth 100000 in
theorem zd_N_holds : zsqM m_N_holds = true := by decide +kernel
set_option maxRecDepth 100000 in
theorem zd_N_right : zsqM m_N_right = true := by decide +kernel
set_option maxRecDepth 100000 in
theorem zd_N_least : zsqM m_N_least = true := by decide +kernel
set_option maxRecDepth 100000 in
theorem zd_N_kept : zsqM m_N_kept = true := by decide +kernel
set_option maxRecDepth 100000 in
theorem zd_N_find : zsqM m_N_find = true := by decide +kernel
set_option maxRecDepth 100000 in
theorem zd_N_keep : zsqM m_N_keep = true := by decide +kernel
set_option maxRecDepth 100000 in
theorem zd_N_can : zsqM m_N_can = true := by decide +kernel
set_option maxRecDepth 100000 in
theorem zd_N_why : zsqM m_N_why = true := by decide +kernel
set_option maxRecDepth 100000 in
theorem zd_N_cheat : zsqM m_N_cheat = true := by decide +kernel
set_option maxRecDepth 100000 in
theorem zd_N_soon : zsqM m_N_soon = true := by decide +kernel
set_option maxRecDepth 100000 in
theorem zd_N_hidden : zsqM m_N_hidden = true := by decide +kernel
set_option maxRecDepth 100000 in
theorem zd_N_places : zsqM m_N_places = true := by decide +kernel
set_option maxRecDepth 100000 in
theorem zd_N_pebbles : zsqM m_N_pebbles = true := by decide +kernel
set_option maxRecDepth 100000 in
theorem zd_N_fewest : zsqM m_N_fewest = true := by decide +kernel
set_option maxRecDepth 100000 in
theorem zd_N_tell : zsqM m_N_tell = true := by decide +kernel
set_option maxRecDepth 100000 in
theorem zd_N_word : zsqM m_N_word = true := by decide +kernel
set_option maxRecDepth 100000 in
theorem zd_N_stranger : zsqM m_N_stranger = true := by decide +kernel
set_option maxRecDepth 100000 in
theorem zd_N_mind : zsqM m_N_mind = true := by decide +kernel
set_option maxRecDepth 100000 in
theorem zd_N_whole : zsqM m_N_whole = true := by decide +kernel
set_option maxRecDepth 100000 in
theorem zd_N_knows : zsqM m_N_knows = true := by decide +kernel
set_option maxRecDepth 100000 in
theorem zd_N_woman : zsqM m_N_woman = true := by decide +kernel
set_option maxRecDepth 100000 in
theorem zd_N_field : zsqM m_N_field = true := by decide +kernel
set_option maxRecDepth 100000 in
theorem zd_N_share : zsqM m_N_share = true := by decide +kernel
set_option maxRecDepth 100000 in
theorem zd_N_even : zsqM m_N_even = true := by decide +kernel
set_option maxRecDepth 100000 in
theorem zd_N_envy : zsqM m_N_envy = true := by decide +kernel
set_option maxRecDepth 100000 in
theorem zd_N_mark : zsqM m_N_mark = true := by decide +kernel
set_option maxRecDepth 100000 in
theorem zd_N_agree : zsqM m_N_agree = true := by decide +kernel
set_option maxRecDepth 100000 in
theorem zd_N_rate : zsqM m_N_rate = true := by decide +kernel
set_option maxRecDepth 100000 in
theorem zd_N_trade : zsqM m_N_trade = true := by decide +kernel
set_option maxRecDepth 100000 in
theorem zd_N_image : zsqM m_N_image = true := by decide +kernel
set_option maxRecDepth 100000 in
theorem zd_N_restore : zsqM m_N_restore = true := by decide +kernel
set_option maxRecDepth 100000 in
theorem zd_N_status : zsqM m_N_status = true := by decide +kernel
set_option maxRecDepth 100000 in
theorem zd_N_count : zsqM m_N_count = true := by decide +kernel
set_option maxRecDepth 100000 in
theorem zd_N_isNot : zsqM m_N_isNot = true := by decide +kernel
set_option maxRecDepth 100000 in
theorem zd_N_isNoHeap : zsqM m_N_isNoHeap = true := by decide +kernel
set_option maxRecDepth 100000 in
theorem zd_N_isNoPlace : zsqM m_N_isNoPlace = true := by decide +kernel
set_option maxRecDepth 100000 in
theorem zd_N_isNoRange : zsqM m_N_isNoRange = true := by decide +kernel
set_option maxRecDepth 100000 in
theorem zd_N_isNoLength : zsqM m_N_isNoLength = true := by decide +kernel
set_option maxRecDepth 100000 in
theorem zd_N_isNoQuest : zsqM m_N_isNoQuest = true := by decide +kernel
set_option maxRecDepth 100000 in
theorem zd_N_isNoParty : zsqM m_N_isNoParty = true := by decide +kernel
set_option maxRecDepth 100000 in
theorem zd_N_refuseIf : zsqM m_N_refuseIf = true := by decide +kernel
set_option maxRecDepth 100000 in
theorem zd_N_refuseElementIf : zsqM m_N_refuseElementIf = true := by decide +kernel
set_option maxRecDepth 100000 in
theorem zd_N_refuseBarred : zsqM m_N_refuseBarred = true := by decide +kernel
set_option maxRecDepth 100000 in
theorem zd_N_theWay : zsqM m_N_theWay = true := by decide +kernel
set_option maxRecDepth 100000 in
theorem zd_N_theTask : zsqM m_N_theTask = true := by decide +kernel
set_option maxRecDepth 100000 in
theorem zd_N_adopt : zsqM m_N_adopt = true := by decide +kernel
set_option maxRecDepth 100000 in
theorem zd_N_flocksWithin : zsqM m_N_flocksWithin = true := by decide +kernel
set_option maxRecDepth 100000 in
theorem zd_N_isMetFrom : zsqM m_N_isMetFrom = true := by decide +kernel
set_option maxRecDepth 100000 in
theorem zd_N_actsWithoutWrong : zsqM m_N_actsWithoutWrong = true := by decide +kernel
set_option maxRecDepth 100000 in
theorem zd_N_isFound : zsqM m_N_isFound = true := by decide +kernel
set_option maxRecDepth 100000 in
theorem zd_M_thrown : zsqM m_M_thrown = true := by decide +kernel
set_option maxRecDepth 100000 in
theorem zd_M_may : zsqM m_M_may = true := by decide +kernel
set_option maxRecDepth 100000 in
theorem zd_M_within : zsqM m_M_within = true := by decide +kernel
set_option maxRecDepth 100000 in
theorem zd_M_init : zsqM m_M_init = true := by decide +kernel
set_option maxRecDepth 100000 in
theorem zd_M_feed : zsqM m_M_feed = true := by decide +kernel
set_option maxRecDepth 100000 in
theorem zd_M_fine : zsqM m_M_fine = true := by decide +kernel
set_option maxRecDepth 100000 in
theorem zd_M_wrong : zsqM m_M_wrong = true := by decide +kernel
set_option maxRecDepth 100000 in
theorem zd_M_here : zsqM m_M_here = true := by decide +kernel
set_option maxRecDepth 100000 in
theorem zd_M_isSmall : zsqM m_M_isSmall = true := by decide +kernel
set_option maxRecDepth 100000 in
theorem zd_M_isDigit : zsqM m_M_isDigit = true := by decide +kernel
set_option maxRecDepth 100000 in
theorem zd_M_word : zsqM m_M_word = true := by decide +kernel
set_option maxRecDepth 100000 in
theorem zd_M_of : zsqM m_M_of = true := by decide +kernel
set_option maxRecDepth 100000 in
theorem zd_M_pass : zsqM m_M_pass = true := by decide +kernel
set_option maxRecDepth 100000 in
theorem zd_M_readNumber : zsqM m_M_readNumber = true := by decide +kernel
set_option maxRecDepth 100000 in
theorem zd_M_sign : zsqM m_M_sign = true := by decide +kernel
set_option maxRecDepth 100000 in
theorem zd_M_isMore : zsqM m_M_isMore = true := by decide +kernel
set_option maxRecDepth 100000 in
theorem zd_M_begins : zsqM m_M_begins = true := by decide +kernel
set_option maxRecDepth 100000 in
theorem zd_M_result : zsqM m_M_result = true := by decide +kernel
set_option maxRecDepth 100000 in
theorem zd_M_valleyWord : zsqM m_M_valleyWord = true := by decide +kernel
set_option maxRecDepth 100000 in
theorem zd_M_valley : zsqM m_M_valley = true := by decide +kernel
set_option maxRecDepth 100000 in
theorem zd_M_actWord : zsqM m_M_actWord = true := by decide +kernel
set_option maxRecDepth 100000 in
theorem zd_M_readAct : zsqM m_M_readAct = true := by decide +kernel
set_option maxRecDepth 100000 in
theorem zd_M_way : zsqM m_M_way = true := by decide +kernel
set_option maxRecDepth 100000 in
theorem zd_M_emit : zsqM m_M_emit = true := by decide +kernel
set_option maxRecDepth 100000 in
theorem zd_M_opensOne : zsqM m_M_opensOne = true := by decide +kernel
set_option maxRecDepth 100000 in
theorem zd_M_unit : zsqM m_M_unit = true := by decide +kernel
set_option maxRecDepth 100000 in
theorem zd_M_product : zsqM m_M_product = true := by decide +kernel
set_option maxRecDepth 100000 in
theorem zd_M_sum : zsqM m_M_sum = true := by decide +kernel
set_option maxRecDepth 100000 in
theorem zd_M_oneOf : zsqM m_M_oneOf = true := by decide +kernel
set_option maxRecDepth 100000 in
theorem zd_M_allOf : zsqM m_M_allOf = true := by decide +kernel
set_option maxRecDepth 100000 in
theorem zd_M_anyOf : zsqM m_M_anyOf = true := by decide +kernel
set_option maxRecDepth 100000 in
theorem zd_M_isBegin : zsqM m_M_isBegin = true := by decide +kernel
set_option maxRecDepth 100000 in
theorem zd_M_task : zsqM m_M_task = true := by decide +kernel
set_option maxRecDepth 100000 in
theorem zd_M_fault : zsqM m_M_fault = true := by decide +kernel
set_option maxRecDepth 100000 in
theorem zd_M_told : zsqM m_M_told = true := by decide +kernel
set_option maxRecDepth 100000 in
theorem zd_M_isWay : zsqM m_M_isWay = true := by decide +kernel
set_option maxRecDepth 100000 in
theorem zd_M_act : zsqM m_M_act = true := by decide +kernel
set_option maxRecDepth 100000 in
theorem zd_M_mayAct : zsqM m_M_mayAct = true := by decide +kernel
set_option maxRecDepth 100000 in
theorem zd_M_judged : zsqM m_M_judged = true := by decide +kernel
set_option maxRecDepth 100000 in
theorem zd_M_judge : zsqM m_M_judge = true := by decide +kernel
set_option maxRecDepth 100000 in
theorem zd_M_heap : zsqM m_M_heap = true := by decide +kernel
set_option maxRecDepth 100000 in
theorem zd_M_place : zsqM m_M_place = true := by decide +kernel
set_option maxRecDepth 100000 in
theorem zd_M_fromFlock : zsqM m_M_fromFlock = true := by decide +kernel
set_option maxRecDepth 100000 in
theorem zd_M_fromNumber : zsqM m_M_fromNumber = true := by decide +kernel
set_option maxRecDepth 100000 in
theorem zd_M_does : zsqM m_M_does = true := by decide +kernel
set_option maxRecDepth 100000 in
theorem zd_M_isThing : zsqM m_M_isThing = true := by decide +kernel
set_option maxRecDepth 100000 in
theorem zd_M_goes : zsqM m_M_goes = true := by decide +kernel
set_option maxRecDepth 100000 in
theorem zd_M_isAllowed : zsqM m_M_isAllowed = true := by decide +kernel
set_option maxRecDepth 100000 in
theorem zd_M_run : zsqM m_M_run = true := by decide +kernel
set_option maxRecDepth 100000 in
theorem zd_M_ends : zsqM m_M_ends = true := by decide +kernel
set_option maxRecDepth 100000 in
theorem zd_M_row : zsqM m_M_row = true := by decide +kernel
set_option maxRecDepth 100000 in
theorem zd_M_left : zsqM m_M_left = true := by decide +kernel
set_option maxRecDepth 100000 in
theorem zd_M_on : zsqM m_M_on = true := by decide +kernel
set_option maxRecDepth 100000 in
theorem zd_M_worked : zsqM m_M_worked = true := by decide +kernel
set_option maxRecDepth 100000 in
theorem zd_M_isDone : zsqM m_M_isDone = true := by decide +kernel
set_option maxRecDepth 100000 in
theorem zd_M_allSo : zsqM m_M_allSo = true := by decide +kernel
set_option maxRecDepth 100000 in
theorem zd_M_isTask : zsqM m_M_isTask = true := by decide +kernel
set_option maxRecDepth 100000 in
theorem zd_M_holds : zsqM m_M_holds = true := by decide +kernel
set_option maxRecDepth 100000 in
theorem zd_M_goesAll : zsqM m_M_goesAll = true := by decide +kernel
set_option maxRecDepth 100000 in
theorem zd_M_mayRight : zsqM m_M_mayRight = true := by decide +kernel
set_option maxRecDepth 100000 in
theorem zd_M_right : zsqM m_M_right = true := by decide +kernel
set_option maxRecDepth 100000 in
theorem zd_M_least : zsqM m_M_least = true := by decide +kernel
set_option maxRecDepth 100000 in
theorem zd_M_choice : zsqM m_M_choice = true := by decide +kernel
set_option maxRecDepth 100000 in
theorem zd_M_lists : zsqM m_M_lists = true := by decide +kernel
set_option maxRecDepth 100000 in
theorem zd_M_lays : zsqM m_M_lays = true := by decide +kernel
set_option maxRecDepth 100000 in
theorem zd_M_picksOn : zsqM m_M_picksOn = true := by decide +kernel
set_option maxRecDepth 100000 in
theorem zd_M_finds : zsqM m_M_finds = true := by decide +kernel
set_option maxRecDepth 100000 in
theorem zd_M_keepFound : zsqM m_M_keepFound = true := by decide +kernel
set_option maxRecDepth 100000 in
theorem zd_M_mayFind : zsqM m_M_mayFind = true := by decide +kernel
set_option maxRecDepth 100000 in
theorem zd_M_find : zsqM m_M_find = true := by decide +kernel
set_option maxRecDepth 100000 in
theorem zd_M_keep : zsqM m_M_keep = true := by decide +kernel
set_option maxRecDepth 100000 in
theorem zd_M_isApart : zsqM m_M_isApart = true := by decide +kernel
set_option maxRecDepth 100000 in
theorem zd_M_can : zsqM m_M_can = true := by decide +kernel
set_option maxRecDepth 100000 in
theorem zd_M_why : zsqM m_M_why = true := by decide +kernel
set_option maxRecDepth 100000 in
theorem zd_M_plain : zsqM m_M_plain = true := by decide +kernel
set_option maxRecDepth 100000 in
theorem zd_M_isHow : zsqM m_M_isHow = true := by decide +kernel
set_option maxRecDepth 100000 in
theorem zd_M_isFound : zsqM m_M_isFound = true := by decide +kernel
set_option maxRecDepth 100000 in
theorem zd_M_cheat : zsqM m_M_cheat = true := by decide +kernel
set_option maxRecDepth 100000 in
theorem zd_M_soon : zsqM m_M_soon = true := by decide +kernel
set_option maxRecDepth 100000 in
theorem zd_M_hidden : zsqM m_M_hidden = true := by decide +kernel
set_option maxRecDepth 100000 in
theorem zd_M_kept : zsqM m_M_kept = true := by decide +kernel
set_option maxRecDepth 100000 in
theorem zd_M_isGood : zsqM m_M_isGood = true := by decide +kernel
set_option maxRecDepth 100000 in
theorem zd_M_rate : zsqM m_M_rate = true := by decide +kernel
set_option maxRecDepth 100000 in
theorem zd_M_round : zsqM m_M_round = true := by decide +kernel
set_option maxRecDepth 100000 in
theorem zd_M_trade : zsqM m_M_trade = true := by decide +kernel
set_option maxRecDepth 100000 in
theorem zd_M_follows : zsqM m_M_follows = true := by decide +kernel
set_option maxRecDepth 100000 in
theorem zd_M_whole : zsqM m_M_whole = true := by decide +kernel
set_option maxRecDepth 100000 in
theorem zd_M_knows : zsqM m_M_knows = true := by decide +kernel
set_option maxRecDepth 100000 in
theorem zd_M_woman : zsqM m_M_woman = true := by decide +kernel
set_option maxRecDepth 100000 in
theorem zd_M_digits : zsqM m_M_digits = true := by decide +kernel
set_option maxRecDepth 100000 in
theorem zd_M_digitSum : zsqM m_M_digitSum = true := by decide +kernel
set_option maxRecDepth 100000 in
theorem zd_M_isNumber : zsqM m_M_isNumber = true := by decide +kernel
set_option maxRecDepth 100000 in
theorem zd_M_places : zsqM m_M_places = true := by decide +kernel
set_option maxRecDepth 100000 in
theorem zd_M_pebbles : zsqM m_M_pebbles = true := by decide +kernel
set_option maxRecDepth 100000 in
theorem zd_M_fewest : zsqM m_M_fewest = true := by decide +kernel
set_option maxRecDepth 100000 in
theorem zd_M_tellBy : zsqM m_M_tellBy = true := by decide +kernel
set_option maxRecDepth 100000 in
theorem zd_M_mayTell : zsqM m_M_mayTell = true := by decide +kernel
set_option maxRecDepth 100000 in
theorem zd_M_tell : zsqM m_M_tell = true := by decide +kernel
set_option maxRecDepth 100000 in
theorem zd_M_wordx : zsqM m_M_wordx = true := by decide +kernel
set_option maxRecDepth 100000 in
theorem zd_M_stranger : zsqM m_M_stranger = true := by decide +kernel
set_option maxRecDepth 100000 in
theorem zd_M_field : zsqM m_M_field = true := by decide +kernel
set_option maxRecDepth 100000 in
theorem zd_M_owner : zsqM m_M_owner = true := by decide +kernel
set_option maxRecDepth 100000 in
theorem zd_M_thinks : zsqM m_M_thinks = true := by decide +kernel
set_option maxRecDepth 100000 in
theorem zd_M_envious : zsqM m_M_envious = true := by decide +kernel
set_option maxRecDepth 100000 in
theorem zd_M_isSharing : zsqM m_M_isSharing = true := by decide +kernel
set_option maxRecDepth 100000 in
theorem zd_M_mayShare : zsqM m_M_mayShare = true := by decide +kernel
set_option maxRecDepth 100000 in
theorem zd_M_share : zsqM m_M_share = true := by decide +kernel
set_option maxRecDepth 100000 in
theorem zd_M_even : zsqM m_M_even = true := by decide +kernel
set_option maxRecDepth 100000 in
theorem zd_M_envy : zsqM m_M_envy = true := by decide +kernel
set_option maxRecDepth 100000 in
theorem zd_M_mind : zsqM m_M_mind = true := by decide +kernel
set_option maxRecDepth 100000 in
theorem zd_M_mark : zsqM m_M_mark = true := by decide +kernel
set_option maxRecDepth 100000 in
theorem zd_M_areAlike : zsqM m_M_areAlike = true := by decide +kernel
set_option maxRecDepth 100000 in
theorem zd_M_agree : zsqM m_M_agree = true := by decide +kernel
set_option maxRecDepth 100000 in
theorem zd_M_image : zsqM m_M_image = true := by decide +kernel
set_option maxRecDepth 100000 in
theorem zd_M_restore : zsqM m_M_restore = true := by decide +kernel
set_option maxRecDepth 100000 in
theorem zd_M_status : zsqM m_M_status = true := by decide +kernel
set_option maxRecDepth 100000 in
theorem zd_M_count : zsqM m_M_count = true := by decide +kernel
set_option maxRecDepth 100000 in
theorem zd_Re_init : zsqM m_Re_init = true := by decide +kernel
set_option maxRecDepth 100000 in
theorem zd_Re_placesFor : zsqM m_Re_placesFor = true := by decide +kernel
set_option maxRecDepth 100000 in
theorem zd_Re_pebblesOf : zsqM m_Re_pebblesOf = true := by decide +kernel
set_option maxRecDepth 100000 in
theorem zd_Re_mostPebbles : zsqM m_Re_mostPebbles = true := by decide +kernel
set_option maxRecDepth 100000 in
theorem zd_Re_telling : zsqM m_Re_telling = true := by decide +kernel
set_option maxRecDepth 100000 in
theorem zd_Re_fewStates : zsqM m_Re_fewStates = true := by decide +kernel
set_option maxRecDepth 100000 in
theorem zd_Re_comesAgain : zsqM m_Re_comesAgain = true := by decide +kernel
set_option maxRecDepth 100000 in
theorem zd_Re_wholeNumbers : zsqM m_Re_wholeNumbers = true := by decide +kernel
set_option maxRecDepth 100000 in
theorem zd_Re_lengthen : zsqM m_Re_lengthen = true := by decide +kernel
set_option maxRecDepth 100000 in
theorem zd_Re_addEnding : zsqM m_Re_addEnding = true := by decide +kernel
set_option maxRecDepth 100000 in
theorem zd_Re_oldWoman : zsqM m_Re_oldWoman = true := by decide +kernel
set_option maxRecDepth 100000 in
theorem zd_Re_commonMultiple : zsqM m_Re_commonMultiple = true := by decide +kernel
set_option maxRecDepth 100000 in
theorem zd_Re_leastThatLeaves : zsqM m_Re_leastThatLeaves = true := by decide +kernel
set_option maxRecDepth 100000 in
theorem zd_Re_fewestAnswers : zsqM m_Re_fewestAnswers = true := by decide +kernel
set_option maxRecDepth 100000 in
theorem zd_Re_areAlike : zsqM m_Re_areAlike = true := by decide +kernel
set_option maxRecDepth 100000 in
theorem zd_Re_leastParting : zsqM m_Re_leastParting = true := by decide +kernel
set_option maxRecDepth 100000 in
theorem zd_Re_greater : zsqM m_Re_greater = true := by decide +kernel
set_option maxRecDepth 100000 in
theorem zd_Re_seekGain : zsqM m_Re_seekGain = true := by decide +kernel
set_option maxRecDepth 100000 in
theorem zd_Re_isRound : zsqM m_Re_isRound = true := by decide +kernel
set_option maxRecDepth 100000 in
theorem zd_Re_isTraded : zsqM m_Re_isTraded = true := by decide +kernel
set_option maxRecDepth 100000 in
theorem zd_Re_gainOfThousand : zsqM m_Re_gainOfThousand = true := by decide +kernel
set_option maxRecDepth 100000 in
theorem zd_Ru_init : zsqM m_Ru_init = true := by decide +kernel
set_option maxRecDepth 100000 in
theorem zd_Ru_startFrom : zsqM m_Ru_startFrom = true := by decide +kernel
set_option maxRecDepth 100000 in
theorem zd_Ru_startSmall : zsqM m_Ru_startSmall = true := by decide +kernel
set_option maxRecDepth 100000 in
theorem zd_Ru_begin : zsqM m_Ru_begin = true := by decide +kernel
set_option maxRecDepth 100000 in
theorem zd_Ru_flockNumber : zsqM m_Ru_flockNumber = true := by decide +kernel
set_option maxRecDepth 100000 in
theorem zd_Ru_follow : zsqM m_Ru_follow = true := by decide +kernel
set_option maxRecDepth 100000 in
theorem zd_Ru_followWrong : zsqM m_Ru_followWrong = true := by decide +kernel
set_option maxRecDepth 100000 in
theorem zd_Ru_keepsAt : zsqM m_Ru_keepsAt = true := by decide +kernel
set_option maxRecDepth 100000 in
theorem zd_Ru_isDone : zsqM m_Ru_isDone = true := by decide +kernel
set_option maxRecDepth 100000 in
theorem zd_Ru_isChanged : zsqM m_Ru_isChanged = true := by decide +kernel
set_option maxRecDepth 100000 in
theorem zd_Ru_areChanged : zsqM m_Ru_areChanged = true := by decide +kernel
set_option maxRecDepth 100000 in
theorem zd_Ru_moveOn : zsqM m_Ru_moveOn = true := by decide +kernel
set_option maxRecDepth 100000 in
theorem zd_Ru_has : zsqM m_Ru_has = true := by decide +kernel
set_option maxRecDepth 100000 in
theorem zd_Ru_endBehindLast : zsqM m_Ru_endBehindLast = true := by decide +kernel
set_option maxRecDepth 100000 in
theorem zd_Sh_init : zsqM m_Sh_init = true := by decide +kernel
set_option maxRecDepth 100000 in
theorem zd_Sh_divide : zsqM m_Sh_divide = true := by decide +kernel
set_option maxRecDepth 100000 in
theorem zd_Sh_sharingsOf : zsqM m_Sh_sharingsOf = true := by decide +kernel
set_option maxRecDepth 100000 in
theorem zd_Sh_firstEnvious : zsqM m_Sh_firstEnvious = true := by decide +kernel
set_option maxRecDepth 100000 in
theorem zd_Sh_seekFair : zsqM m_Sh_seekFair = true := by decide +kernel
set_option maxRecDepth 100000 in
theorem zd_Sh_ownTogether : zsqM m_Sh_ownTogether = true := by decide +kernel
set_option maxRecDepth 100000 in
theorem zd_Sh_leastSpread : zsqM m_Sh_leastSpread = true := by decide +kernel
set_option maxRecDepth 100000 in
theorem zd_Sh_spread : zsqM m_Sh_spread = true := by decide +kernel
set_option maxRecDepth 100000 in
theorem zd_St_init : zsqM m_St_init = true := by decide +kernel
set_option maxRecDepth 100000 in
theorem zd_St_copyFrom : zsqM m_St_copyFrom = true := by decide +kernel
set_option maxRecDepth 100000 in
theorem zd_St_settle : zsqM m_St_settle = true := by decide +kernel
set_option maxRecDepth 100000 in
theorem zd_St_remember : zsqM m_St_remember = true := by decide +kernel
set_option maxRecDepth 100000 in
theorem zd_St_takeOver : zsqM m_St_takeOver = true := by decide +kernel
set_option maxRecDepth 100000 in
theorem zd_Ta_init : zsqM m_Ta_init = true := by decide +kernel
set_option maxRecDepth 100000 in
theorem zd_Ta_add : zsqM m_Ta_add = true := by decide +kernel
set_option maxRecDepth 100000 in
theorem zd_Ta_begin : zsqM m_Ta_begin = true := by decide +kernel
set_option maxRecDepth 100000 in
theorem zd_Ta_advance : zsqM m_Ta_advance = true := by decide +kernel
set_option maxRecDepth 100000 in
theorem zd_Ta_kindOf : zsqM m_Ta_kindOf = true := by decide +kernel
set_option maxRecDepth 100000 in
theorem zd_Ta_refuse : zsqM m_Ta_refuse = true := by decide +kernel
set_option maxRecDepth 100000 in
theorem zd_Ta_faultAnswer : zsqM m_Ta_faultAnswer = true := by decide +kernel
set_option maxRecDepth 100000 in
theorem zd_Ta_isSign : zsqM m_Ta_isSign = true := by decide +kernel
set_option maxRecDepth 100000 in
theorem zd_Ta_takeSign : zsqM m_Ta_takeSign = true := by decide +kernel
set_option maxRecDepth 100000 in
theorem zd_Ta_signAmong : zsqM m_Ta_signAmong = true := by decide +kernel
set_option maxRecDepth 100000 in
theorem zd_Ta_wordAmong : zsqM m_Ta_wordAmong = true := by decide +kernel
set_option maxRecDepth 100000 in
theorem zd_Ta_isWord : zsqM m_Ta_isWord = true := by decide +kernel
set_option maxRecDepth 100000 in
theorem zd_Ta_takeNumber : zsqM m_Ta_takeNumber = true := by decide +kernel
set_option maxRecDepth 100000 in
theorem zd_Tk_init : zsqM m_Tk_init = true := by decide +kernel
set_option maxRecDepth 100000 in
theorem zd_Tk_isMetBy : zsqM m_Tk_isMetBy = true := by decide +kernel
set_option maxRecDepth 100000 in
theorem zd_Tk_isTrueOf : zsqM m_Tk_isTrueOf = true := by decide +kernel
set_option maxRecDepth 100000 in
theorem zd_Tk_valueOf : zsqM m_Tk_valueOf = true := by decide +kernel
set_option maxRecDepth 100000 in
theorem zd_Tk_worked : zsqM m_Tk_worked = true := by decide +kernel
set_option maxRecDepth 100000 in
theorem zd_TR_init : zsqM m_TR_init = true := by decide +kernel
set_option maxRecDepth 100000 in
theorem zd_TR_made : zsqM m_TR_made = true := by decide +kernel
set_option maxRecDepth 100000 in
theorem zd_TR_reads : zsqM m_TR_reads = true := by decide +kernel
set_option maxRecDepth 100000 in
theorem zd_TR_faultOfOneMore : zsqM m_TR_faultOfOneMore = true := by decide +kernel
set_option maxRecDepth 100000 in
theorem zd_TR_readsCondition : zsqM m_TR_readsCondition = true := by decide +kernel
set_option maxRecDepth 100000 in
theorem zd_TR_awaitValue : zsqM m_TR_awaitValue = true := by decide +kernel
set_option maxRecDepth 100000 in
theorem zd_TR_complete : zsqM m_TR_complete = true := by decide +kernel
set_option maxRecDepth 100000 in
theorem zd_TR_readsValue : zsqM m_TR_readsValue = true := by decide +kernel
set_option maxRecDepth 100000 in
theorem zd_TR_opens : zsqM m_TR_opens = true := by decide +kernel
set_option maxRecDepth 100000 in
theorem zd_TR_readsSign : zsqM m_TR_readsSign = true := by decide +kernel
set_option maxRecDepth 100000 in
theorem zd_TR_joins : zsqM m_TR_joins = true := by decide +kernel
set_option maxRecDepth 100000 in
theorem zd_TR_closes : zsqM m_TR_closes = true := by decide +kernel
set_option maxRecDepth 100000 in
theorem zd_TR_endsCondition : zsqM m_TR_endsCondition = true := by decide +kernel
set_option maxRecDepth 100000 in
theorem zd_TR_letWait : zsqM m_TR_letWait = true := by decide +kernel
set_option maxRecDepth 100000 in
theorem zd_TR_workOff : zsqM m_TR_workOff = true := by decide +kernel
set_option maxRecDepth 100000 in
theorem zd_TR_rankOf : zsqM m_TR_rankOf = true := by decide +kernel
set_option maxRecDepth 100000 in
theorem zd_TR_innermostOpen : zsqM m_TR_innermostOpen = true := by decide +kernel
set_option maxRecDepth 100000 in
theorem zd_TR_add : zsqM m_TR_add = true := by decide +kernel
set_option maxRecDepth 100000 in
theorem zd_Tr_init : zsqM m_Tr_init = true := by decide +kernel
set_option maxRecDepth 100000 in
theorem zd_Tr_seek : zsqM m_Tr_seek = true := by decide +kernel
set_option maxRecDepth 100000 in
theorem zd_Tr_countRivals : zsqM m_Tr_countRivals = true := by decide +kernel
set_option maxRecDepth 100000 in
theorem zd_Tr_pickAt : zsqM m_Tr_pickAt = true := by decide +kernel
set_option maxRecDepth 100000 in
theorem zd_Tr_tellApart : zsqM m_Tr_tellApart = true := by decide +kernel
set_option maxRecDepth 100000 in
theorem zd_Tr_endOf : zsqM m_Tr_endOf = true := by decide +kernel
set_option maxRecDepth 100000 in
theorem zd_Tr_doesAll : zsqM m_Tr_doesAll = true := by decide +kernel
set_option maxRecDepth 100000 in
theorem zd_Tr_waysOfLength : zsqM m_Tr_waysOfLength = true := by decide +kernel
set_option maxRecDepth 100000 in
theorem zd_Tr_begin : zsqM m_Tr_begin = true := by decide +kernel
set_option maxRecDepth 100000 in
theorem zd_Tr_addChanges : zsqM m_Tr_addChanges = true := by decide +kernel
set_option maxRecDepth 100000 in
theorem zd_Tr_addPairs : zsqM m_Tr_addPairs = true := by decide +kernel
set_option maxRecDepth 100000 in
theorem zd_Tr_addJumps : zsqM m_Tr_addJumps = true := by decide +kernel
set_option maxRecDepth 100000 in
theorem zd_Tr_add : zsqM m_Tr_add = true := by decide +kernel
set_option maxRecDepth 100000 in
theorem zd_Tr_pick : zsqM m_Tr_pick = true := by decide +kernel
set_option maxRecDepth 100000 in
theorem zd_Tr_advance : zsqM m_Tr_advance = true := by decide +kernel
set_option maxRecDepth 100000 in
theorem zd_VR_init : zsqM m_VR_init = true := by decide +kernel
set_option maxRecDepth 100000 in
theorem zd_VR_reads : zsqM m_VR_reads = true := by decide +kernel
set_option maxRecDepth 100000 in
theorem zd_VR_readsClause : zsqM m_VR_readsClause = true := by decide +kernel
set_option maxRecDepth 100000 in
theorem zd_Wa_init : zsqM m_Wa_init = true := by decide +kernel
set_option maxRecDepth 100000 in
theorem zd_Wa_add : zsqM m_Wa_add = true := by decide +kernel
set_option maxRecDepth 100000 in
theorem zd_Wa_change : zsqM m_Wa_change = true := by decide +kernel
set_option maxRecDepth 100000 in
theorem zd_Wa_copyFrom : zsqM m_Wa_copyFrom = true := by decide +kernel
set_option maxRecDepth 100000 in
theorem zd_Wa_firstBarred : zsqM m_Wa_firstBarred = true := by decide +kernel
set_option maxRecDepth 100000 in
theorem zd_Wa_allows : zsqM m_Wa_allows = true := by decide +kernel
set_option maxRecDepth 100000 in
theorem zd_WR_init : zsqM m_WR_init = true := by decide +kernel
set_option maxRecDepth 100000 in
theorem zd_WR_reads : zsqM m_WR_reads = true := by decide +kernel
set_option maxRecDepth 100000 in
theorem zd_WR_readsNumbers : zsqM m_WR_readsNumbers = true := by decide +kernel
set_option maxRecDepth 100000 in
theorem zd_L_valley : zsqM m_L_valley = true := by decide +kernel
set_option maxRecDepth 100000 in
theorem zd_L_way : zsqM m_L_way = true := by decide +kernel
set_option maxRecDepth 100000 in
theorem zd_L_task : zsqM m_L_task = true := by decide +kernel
set_option maxRecDepth 100000 in
theorem zd_L_told : zsqM m_L_told = true := by decide +kernel
set_option maxRecDepth 100000 in
theorem zd_L_act : zsqM m_L_act = true := by decide +kernel
set_option maxRecDepth 100000 in
theorem zd_L_judge : zsqM m_L_judge = true := by decide +kernel
set_option maxRecDepth 100000 in
theorem zd_L_heap : zsqM m_L_heap = true := by decide +kernel
set_option maxRecDepth 100000 in
theorem zd_L_place : zsqM m_L_place = true := by decide +kernel
set_option maxRecDepth 100000 in
theorem zd_L_run : zsqM m_L_run = true := by decide +kernel
set_option maxRecDepth 100000 in
theorem zd_L_ends : zsqM m_L_ends = true := by decide +kernel
set_option maxRecDepth 100000 in
theorem zd_L_row : zsqM m_L_row = true := by decide +kernel
set_option maxRecDepth 100000 in
theorem zd_L_left : zsqM m_L_left = true := by decide +kernel
set_option maxRecDepth 100000 in
theorem zd_L_holds : zsqM m_L_holds = true := by decide +kernel
set_option maxRecDepth 100000 in
theorem zd_L_right : zsqM m_L_right = true := by decide +kernel
set_option maxRecDepth 100000 in
theorem zd_L_least : zsqM m_L_least = true := by decide +kernel
set_option maxRecDepth 100000 in
theorem zd_L_find : zsqM m_L_find = true := by decide +kernel
set_option maxRecDepth 100000 in
theorem zd_L_keep : zsqM m_L_keep = true := by decide +kernel
set_option maxRecDepth 100000 in
theorem zd_L_can : zsqM m_L_can = true := by decide +kernel
set_option maxRecDepth 100000 in
theorem zd_L_why : zsqM m_L_why = true := by decide +kernel
set_option maxRecDepth 100000 in
theorem zd_L_cheat : zsqM m_L_cheat = true := by decide +kernel
set_option maxRecDepth 100000 in
theorem zd_L_soon : zsqM m_L_soon = true := by decide +kernel
set_option maxRecDepth 100000 in
theorem zd_L_hidden : zsqM m_L_hidden = true := by decide +kernel
set_option maxRecDepth 100000 in
theorem zd_L_places : zsqM m_L_places = true := by decide +kernel
set_option maxRecDepth 100000 in
theorem zd_L_pebbles : zsqM m_L_pebbles = true := by decide +kernel
set_option maxRecDepth 100000 in
theorem zd_L_fewest : zsqM m_L_fewest = true := by decide +kernel
set_option maxRecDepth 100000 in
theorem zd_L_tell : zsqM m_L_tell = true := by decide +kernel
set_option maxRecDepth 100000 in
theorem zd_L_word : zsqM m_L_word = true := by decide +kernel
set_option maxRecDepth 100000 in
theorem zd_L_stranger : zsqM m_L_stranger = true := by decide +kernel
set_option maxRecDepth 100000 in
theorem zd_L_field : zsqM m_L_field = true := by decide +kernel
set_option maxRecDepth 100000 in
theorem zd_L_share : zsqM m_L_share = true := by decide +kernel
set_option maxRecDepth 100000 in
theorem zd_L_even : zsqM m_L_even = true := by decide +kernel
set_option maxRecDepth 100000 in
theorem zd_L_envy : zsqM m_L_envy = true := by decide +kernel
set_option maxRecDepth 100000 in
theorem zd_L_mind : zsqM m_L_mind = true := by decide +kernel
set_option maxRecDepth 100000 in
theorem zd_L_mark : zsqM m_L_mark = true := by decide +kernel
set_option maxRecDepth 100000 in
theorem zd_L_agree : zsqM m_L_agree = true := by decide +kernel
set_option maxRecDepth 100000 in
theorem zd_L_kept : zsqM m_L_kept = true := by decide +kernel
set_option maxRecDepth 100000 in
theorem zd_L_rate : zsqM m_L_rate = true := by decide +kernel
set_option maxRecDepth 100000 in
theorem zd_L_trade : zsqM m_L_trade = true := by decide +kernel
set_option maxRecDepth 100000 in
theorem zd_L_whole : zsqM m_L_whole = true := by decide +kernel
set_option maxRecDepth 100000 in
theorem zd_L_knows : zsqM m_L_knows = true := by decide +kernel
set_option maxRecDepth 100000 in
theorem zd_L_woman : zsqM m_L_woman = true := by decide +kernel
set_option maxRecDepth 100000 in
theorem zd_L_law : zsqM m_L_law = true := by decide +kernel
set_option maxRecDepth 100000 in
theorem zd_JS_charAt : zsqM m_JS_charAt = true := by decide +kernel
set_option maxRecDepth 100000 in
theorem zd_JS_coder : zsqM m_JS_coder = true := by decide +kernel
set_option maxRecDepth 100000 in
theorem zd_JS_isLatin1 : zsqM m_JS_isLatin1 = true := by decide +kernel
set_option maxRecDepth 100000 in
theorem zd_JS_length : zsqM m_JS_length = true := by decide +kernel
set_option maxRecDepth 100000 in
theorem zd_JS_checkIndex : zsqM m_JS_checkIndex = true := by decide +kernel
set_option maxRecDepth 100000 in
theorem zd_JL_charAt : zsqM m_JL_charAt = true := by decide +kernel
set_option maxRecDepth 100000 in
theorem zd_JA_copyOf : zsqM m_JA_copyOf = true := by decide +kernel
set_option maxRecDepth 100000 in
theorem zd_JA_fill : zsqM m_JA_fill = true := by decide +kernel
set_option maxRecDepth 100000 in
theorem zd_JP_checkIndex : zsqM m_JP_checkIndex = true := by decide +kernel
theorem zdv_0 : ∀ M ∈ [m_N_init, m_N_feed, m_N_valley, m_N_way, m_N_task, m_N_fault, m_N_told, m_N_act, m_N_judge, m_N_heap, m_N_place, m_N_run, m_N_ends, m_N_row, m_N_left, m_N_on], zDec M := List.forall_mem_cons.mpr ⟨zsqM_ok zd_N_init, List.forall_mem_cons.mpr ⟨zsqM_ok zd_N_feed, List.forall_mem_cons.mpr ⟨zsqM_ok zd_N_valley, List.forall_mem_cons.mpr ⟨zsqM_ok zd_N_way, List.forall_mem_cons.mpr ⟨zsqM_ok zd_N_task, List.forall_mem_cons.mpr ⟨zsqM_ok zd_N_fault, List.forall_mem_cons.mpr ⟨zsqM_ok zd_N_told, List.forall_mem_cons.mpr ⟨zsqM_ok zd_N_act, List.forall_mem_cons.mpr ⟨zsqM_ok zd_N_judge, List.forall_mem_cons.mpr ⟨zsqM_ok zd_N_heap, List.forall_mem_cons.mpr ⟨zsqM_ok zd_N_place, List.forall_mem_cons.mpr ⟨zsqM_ok zd_N_run, List.forall_mem_cons.mpr ⟨zsqM_ok zd_N_ends, List.forall_mem_cons.mpr ⟨zsqM_ok zd_N_row, List.forall_mem_cons.mpr ⟨zsqM_ok zd_N_left, List.forall_mem_cons.mpr ⟨zsqM_ok zd_N_on, fun _ h => absurd h List.not_mem_nil⟩⟩⟩⟩⟩⟩⟩⟩⟩⟩⟩⟩⟩⟩⟩⟩
theorem zdv_1 : ∀ M ∈ [m_N_holds, m_N_right, m_N_least, m_N_kept, m_N_find, m_N_keep, m_N_can, m_N_why, m_N_cheat, m_N_soon, m_N_hidden, m_N_places, m_N_pebbles, m_N_fewest, m_N_tell, m_N_word], zDec M := List.forall_mem_cons.mpr ⟨zsqM_ok zd_N_holds, List.forall_mem_cons.mpr ⟨zsqM_ok zd_N_right, List.forall_mem_cons.mpr ⟨zsqM_ok zd_N_least, List.forall_mem_cons.mpr ⟨zsqM_ok zd_N_kept, List.forall_mem_cons.mpr ⟨zsqM_ok zd_N_find, List.forall_mem_cons.mpr ⟨zsqM_ok zd_N_keep, List.forall_mem_cons.mpr ⟨zsqM_ok zd_N_can, List.forall_mem_cons.mpr ⟨zsqM_ok zd_N_why, List.forall_mem_cons.mpr ⟨zsqM_ok zd_N_cheat, List.forall_mem_cons.mpr ⟨zsqM_ok zd_N_soon, List.forall_mem_cons.mpr ⟨zsqM_ok zd_N_hidden, List.forall_mem_cons.mpr ⟨zsqM_ok zd_N_places, List.forall_mem_cons.mpr ⟨zsqM_ok zd_N_pebbles, List.forall_mem_cons.mpr ⟨zsqM_ok zd_N_fewest, List.forall_mem_cons.mpr ⟨zsqM_ok zd_N_tell, List.forall_mem_cons.mpr ⟨zsqM_ok zd_N_word, fun _ h => absurd h List.not_mem_nil⟩⟩⟩⟩⟩⟩⟩⟩⟩⟩⟩⟩⟩⟩⟩⟩
theorem zdv_2 : ∀ M ∈ [m_N_stranger, m_N_mind, m_N_whole, m_N_knows, m_N_woman, m_N_field, m_N_share, m_N_even, m_N_envy, m_N_mark, m_N_agree, m_N_rate, m_N_trade, m_N_image, m_N_restore, m_N_status], zDec M := List.forall_mem_cons.mpr ⟨zsqM_ok zd_N_stranger, List.forall_mem_cons.mpr ⟨zsqM_ok zd_N_mind, List.forall_mem_cons.mpr ⟨zsqM_ok zd_N_whole, List.forall_mem_cons.mpr ⟨zsqM_ok zd_N_knows, List.forall_mem_cons.mpr ⟨zsqM_ok zd_N_woman, List.forall_mem_cons.mpr ⟨zsqM_ok zd_N_field, List.forall_mem_cons.mpr ⟨zsqM_ok zd_N_share, List.forall_mem_cons.mpr ⟨zsqM_ok zd_N_even, List.forall_mem_cons.mpr ⟨zsqM_ok zd_N_envy, List.forall_mem_cons.mpr ⟨zsqM_ok zd_N_mark, List.forall_mem_cons.mpr ⟨zsqM_ok zd_N_agree, List.forall_mem_cons.mpr ⟨zsqM_ok zd_N_rate, List.forall_mem_cons.mpr ⟨zsqM_ok zd_N_trade, List.forall_mem_cons.mpr ⟨zsqM_ok zd_N_image, List.forall_mem_cons.mpr ⟨zsqM_ok zd_N_restore, List.forall_mem_cons.mpr ⟨zsqM_ok zd_N_status, fun _ h => absurd h List.not_mem_nil⟩⟩⟩⟩⟩⟩⟩⟩⟩⟩⟩⟩⟩⟩⟩⟩
theorem zdv_3 : ∀ M ∈ [m_N_count, m_N_isNot, m_N_isNoHeap, m_N_isNoPlace, m_N_isNoRange, m_N_isNoLength, m_N_isNoQuest, m_N_isNoParty, m_N_refuseIf, m_N_refuseElementIf, m_N_refuseBarred, m_N_theWay, m_N_theTask, m_N_adopt, m_N_flocksWithin, m_N_isMetFrom], zDec M := List.forall_mem_cons.mpr ⟨zsqM_ok zd_N_count, List.forall_mem_cons.mpr ⟨zsqM_ok zd_N_isNot, List.forall_mem_cons.mpr ⟨zsqM_ok zd_N_isNoHeap, List.forall_mem_cons.mpr ⟨zsqM_ok zd_N_isNoPlace, List.forall_mem_cons.mpr ⟨zsqM_ok zd_N_isNoRange, List.forall_mem_cons.mpr ⟨zsqM_ok zd_N_isNoLength, List.forall_mem_cons.mpr ⟨zsqM_ok zd_N_isNoQuest, List.forall_mem_cons.mpr ⟨zsqM_ok zd_N_isNoParty, List.forall_mem_cons.mpr ⟨zsqM_ok zd_N_refuseIf, List.forall_mem_cons.mpr ⟨zsqM_ok zd_N_refuseElementIf, List.forall_mem_cons.mpr ⟨zsqM_ok zd_N_refuseBarred, List.forall_mem_cons.mpr ⟨zsqM_ok zd_N_theWay, List.forall_mem_cons.mpr ⟨zsqM_ok zd_N_theTask, List.forall_mem_cons.mpr ⟨zsqM_ok zd_N_adopt, List.forall_mem_cons.mpr ⟨zsqM_ok zd_N_flocksWithin, List.forall_mem_cons.mpr ⟨zsqM_ok zd_N_isMetFrom, fun _ h => absurd h List.not_mem_nil⟩⟩⟩⟩⟩⟩⟩⟩⟩⟩⟩⟩⟩⟩⟩⟩
theorem zdv_4 : ∀ M ∈ [m_N_actsWithoutWrong, m_N_isFound, m_M_thrown, m_M_may, m_M_within, m_M_init, m_M_feed, m_M_fine, m_M_wrong, m_M_here, m_M_isSmall, m_M_isDigit, m_M_word, m_M_of, m_M_pass, m_M_readNumber], zDec M := List.forall_mem_cons.mpr ⟨zsqM_ok zd_N_actsWithoutWrong, List.forall_mem_cons.mpr ⟨zsqM_ok zd_N_isFound, List.forall_mem_cons.mpr ⟨zsqM_ok zd_M_thrown, List.forall_mem_cons.mpr ⟨zsqM_ok zd_M_may, List.forall_mem_cons.mpr ⟨zsqM_ok zd_M_within, List.forall_mem_cons.mpr ⟨zsqM_ok zd_M_init, List.forall_mem_cons.mpr ⟨zsqM_ok zd_M_feed, List.forall_mem_cons.mpr ⟨zsqM_ok zd_M_fine, List.forall_mem_cons.mpr ⟨zsqM_ok zd_M_wrong, List.forall_mem_cons.mpr ⟨zsqM_ok zd_M_here, List.forall_mem_cons.mpr ⟨zsqM_ok zd_M_isSmall, List.forall_mem_cons.mpr ⟨zsqM_ok zd_M_isDigit, List.forall_mem_cons.mpr ⟨zsqM_ok zd_M_word, List.forall_mem_cons.mpr ⟨zsqM_ok zd_M_of, List.forall_mem_cons.mpr ⟨zsqM_ok zd_M_pass, List.forall_mem_cons.mpr ⟨zsqM_ok zd_M_readNumber, fun _ h => absurd h List.not_mem_nil⟩⟩⟩⟩⟩⟩⟩⟩⟩⟩⟩⟩⟩⟩⟩⟩
theorem zdv_5 : ∀ M ∈ [m_M_sign, m_M_isMore, m_M_begins, m_M_result, m_M_valleyWord, m_M_valley, m_M_actWord, m_M_readAct, m_M_way, m_M_emit, m_M_opensOne, m_M_unit, m_M_product, m_M_sum, m_M_oneOf, m_M_allOf], zDec M := List.forall_mem_cons.mpr ⟨zsqM_ok zd_M_sign, List.forall_mem_cons.mpr ⟨zsqM_ok zd_M_isMore, List.forall_mem_cons.mpr ⟨zsqM_ok zd_M_begins, List.forall_mem_cons.mpr ⟨zsqM_ok zd_M_result, List.forall_mem_cons.mpr ⟨zsqM_ok zd_M_valleyWord, List.forall_mem_cons.mpr ⟨zsqM_ok zd_M_valley, List.forall_mem_cons.mpr ⟨zsqM_ok zd_M_actWord, List.forall_mem_cons.mpr ⟨zsqM_ok zd_M_readAct, List.forall_mem_cons.mpr ⟨zsqM_ok zd_M_way, List.forall_mem_cons.mpr ⟨zsqM_ok zd_M_emit, List.forall_mem_cons.mpr ⟨zsqM_ok zd_M_opensOne, List.forall_mem_cons.mpr ⟨zsqM_ok zd_M_unit, List.forall_mem_cons.mpr ⟨zsqM_ok zd_M_product, List.forall_mem_cons.mpr ⟨zsqM_ok zd_M_sum, List.forall_mem_cons.mpr ⟨zsqM_ok zd_M_oneOf, List.forall_mem_cons.mpr ⟨zsqM_ok zd_M_allOf, fun _ h => absurd h List.not_mem_nil⟩⟩⟩⟩⟩⟩⟩⟩⟩⟩⟩⟩⟩⟩⟩⟩
theorem zdv_6 : ∀ M ∈ [m_M_anyOf, m_M_isBegin, m_M_task, m_M_fault, m_M_told, m_M_isWay, m_M_act, m_M_mayAct, m_M_judged, m_M_judge, m_M_heap, m_M_place, m_M_fromFlock, m_M_fromNumber, m_M_does, m_M_isThing], zDec M := List.forall_mem_cons.mpr ⟨zsqM_ok zd_M_anyOf, List.forall_mem_cons.mpr ⟨zsqM_ok zd_M_isBegin, List.forall_mem_cons.mpr ⟨zsqM_ok zd_M_task, List.forall_mem_cons.mpr ⟨zsqM_ok zd_M_fault, List.forall_mem_cons.mpr ⟨zsqM_ok zd_M_told, List.forall_mem_cons.mpr ⟨zsqM_ok zd_M_isWay, List.forall_mem_cons.mpr ⟨zsqM_ok zd_M_act, List.forall_mem_cons.mpr ⟨zsqM_ok zd_M_mayAct, List.forall_mem_cons.mpr ⟨zsqM_ok zd_M_judged, List.forall_mem_cons.mpr ⟨zsqM_ok zd_M_judge, List.forall_mem_cons.mpr ⟨zsqM_ok zd_M_heap, List.forall_mem_cons.mpr ⟨zsqM_ok zd_M_place, List.forall_mem_cons.mpr ⟨zsqM_ok zd_M_fromFlock, List.forall_mem_cons.mpr ⟨zsqM_ok zd_M_fromNumber, List.forall_mem_cons.mpr ⟨zsqM_ok zd_M_does, List.forall_mem_cons.mpr ⟨zsqM_ok zd_M_isThing, fun _ h => absurd h List.not_mem_nil⟩⟩⟩⟩⟩⟩⟩⟩⟩⟩⟩⟩⟩⟩⟩⟩
theorem zdv_7 : ∀ M ∈ [m_M_goes, m_M_isAllowed, m_M_run, m_M_ends, m_M_row, m_M_left, m_M_on, m_M_worked, m_M_isDone, m_M_allSo, m_M_isTask, m_M_holds, m_M_goesAll, m_M_mayRight, m_M_right, m_M_least], zDec M := List.forall_mem_cons.mpr ⟨zsqM_ok zd_M_goes, List.forall_mem_cons.mpr ⟨zsqM_ok zd_M_isAllowed, List.forall_mem_cons.mpr ⟨zsqM_ok zd_M_run, List.forall_mem_cons.mpr ⟨zsqM_ok zd_M_ends, List.forall_mem_cons.mpr ⟨zsqM_ok zd_M_row, List.forall_mem_cons.mpr ⟨zsqM_ok zd_M_left, List.forall_mem_cons.mpr ⟨zsqM_ok zd_M_on, List.forall_mem_cons.mpr ⟨zsqM_ok zd_M_worked, List.forall_mem_cons.mpr ⟨zsqM_ok zd_M_isDone, List.forall_mem_cons.mpr ⟨zsqM_ok zd_M_allSo, List.forall_mem_cons.mpr ⟨zsqM_ok zd_M_isTask, List.forall_mem_cons.mpr ⟨zsqM_ok zd_M_holds, List.forall_mem_cons.mpr ⟨zsqM_ok zd_M_goesAll, List.forall_mem_cons.mpr ⟨zsqM_ok zd_M_mayRight, List.forall_mem_cons.mpr ⟨zsqM_ok zd_M_right, List.forall_mem_cons.mpr ⟨zsqM_ok zd_M_least, fun _ h => absurd h List.not_mem_nil⟩⟩⟩⟩⟩⟩⟩⟩⟩⟩⟩⟩⟩⟩⟩⟩
theorem zdv_8 : ∀ M ∈ [m_M_choice, m_M_lists, m_M_lays, m_M_picksOn, m_M_finds, m_M_keepFound, m_M_mayFind, m_M_find, m_M_keep, m_M_isApart, m_M_can, m_M_why, m_M_plain, m_M_isHow, m_M_isFound, m_M_cheat], zDec M := List.forall_mem_cons.mpr ⟨zsqM_ok zd_M_choice, List.forall_mem_cons.mpr ⟨zsqM_ok zd_M_lists, List.forall_mem_cons.mpr ⟨zsqM_ok zd_M_lays, List.forall_mem_cons.mpr ⟨zsqM_ok zd_M_picksOn, List.forall_mem_cons.mpr ⟨zsqM_ok zd_M_finds, List.forall_mem_cons.mpr ⟨zsqM_ok zd_M_keepFound, List.forall_mem_cons.mpr ⟨zsqM_ok zd_M_mayFind, List.forall_mem_cons.mpr ⟨zsqM_ok zd_M_find, List.forall_mem_cons.mpr ⟨zsqM_ok zd_M_keep, List.forall_mem_cons.mpr ⟨zsqM_ok zd_M_isApart, List.forall_mem_cons.mpr ⟨zsqM_ok zd_M_can, List.forall_mem_cons.mpr ⟨zsqM_ok zd_M_why, List.forall_mem_cons.mpr ⟨zsqM_ok zd_M_plain, List.forall_mem_cons.mpr ⟨zsqM_ok zd_M_isHow, List.forall_mem_cons.mpr ⟨zsqM_ok zd_M_isFound, List.forall_mem_cons.mpr ⟨zsqM_ok zd_M_cheat, fun _ h => absurd h List.not_mem_nil⟩⟩⟩⟩⟩⟩⟩⟩⟩⟩⟩⟩⟩⟩⟩⟩
theorem zdv_9 : ∀ M ∈ [m_M_soon, m_M_hidden, m_M_kept, m_M_isGood, m_M_rate, m_M_round, m_M_trade, m_M_follows, m_M_whole, m_M_knows, m_M_woman, m_M_digits, m_M_digitSum, m_M_isNumber, m_M_places, m_M_pebbles], zDec M := List.forall_mem_cons.mpr ⟨zsqM_ok zd_M_soon, List.forall_mem_cons.mpr ⟨zsqM_ok zd_M_hidden, List.forall_mem_cons.mpr ⟨zsqM_ok zd_M_kept, List.forall_mem_cons.mpr ⟨zsqM_ok zd_M_isGood, List.forall_mem_cons.mpr ⟨zsqM_ok zd_M_rate, List.forall_mem_cons.mpr ⟨zsqM_ok zd_M_round, List.forall_mem_cons.mpr ⟨zsqM_ok zd_M_trade, List.forall_mem_cons.mpr ⟨zsqM_ok zd_M_follows, List.forall_mem_cons.mpr ⟨zsqM_ok zd_M_whole, List.forall_mem_cons.mpr ⟨zsqM_ok zd_M_knows, List.forall_mem_cons.mpr ⟨zsqM_ok zd_M_woman, List.forall_mem_cons.mpr ⟨zsqM_ok zd_M_digits, List.forall_mem_cons.mpr ⟨zsqM_ok zd_M_digitSum, List.forall_mem_cons.mpr ⟨zsqM_ok zd_M_isNumber, List.forall_mem_cons.mpr ⟨zsqM_ok zd_M_places, List.forall_mem_cons.mpr ⟨zsqM_ok zd_M_pebbles, fun _ h => absurd h List.not_mem_nil⟩⟩⟩⟩⟩⟩⟩⟩⟩⟩⟩⟩⟩⟩⟩⟩
theorem zdv_10 : ∀ M ∈ [m_M_fewest, m_M_tellBy, m_M_mayTell, m_M_tell, m_M_wordx, m_M_stranger, m_M_field, m_M_owner, m_M_thinks, m_M_envious, m_M_isSharing, m_M_mayShare, m_M_share, m_M_even, m_M_envy, m_M_mind], zDec M := List.forall_mem_cons.mpr ⟨zsqM_ok zd_M_fewest, List.forall_mem_cons.mpr ⟨zsqM_ok zd_M_tellBy, List.forall_mem_cons.mpr ⟨zsqM_ok zd_M_mayTell, List.forall_mem_cons.mpr ⟨zsqM_ok zd_M_tell, List.forall_mem_cons.mpr ⟨zsqM_ok zd_M_wordx, List.forall_mem_cons.mpr ⟨zsqM_ok zd_M_stranger, List.forall_mem_cons.mpr ⟨zsqM_ok zd_M_field, List.forall_mem_cons.mpr ⟨zsqM_ok zd_M_owner, List.forall_mem_cons.mpr ⟨zsqM_ok zd_M_thinks, List.forall_mem_cons.mpr ⟨zsqM_ok zd_M_envious, List.forall_mem_cons.mpr ⟨zsqM_ok zd_M_isSharing, List.forall_mem_cons.mpr ⟨zsqM_ok zd_M_mayShare, List.forall_mem_cons.mpr ⟨zsqM_ok zd_M_share, List.forall_mem_cons.mpr ⟨zsqM_ok zd_M_even, List.forall_mem_cons.mpr ⟨zsqM_ok zd_M_envy, List.forall_mem_cons.mpr ⟨zsqM_ok zd_M_mind, fun _ h => absurd h List.not_mem_nil⟩⟩⟩⟩⟩⟩⟩⟩⟩⟩⟩⟩⟩⟩⟩⟩
theorem zdv_11 : ∀ M ∈ [m_M_mark, m_M_areAlike, m_M_agree, m_M_image, m_M_restore, m_M_status, m_M_count, m_Re_init, m_Re_placesFor, m_Re_pebblesOf, m_Re_mostPebbles, m_Re_telling, m_Re_fewStates, m_Re_comesAgain, m_Re_wholeNumbers, m_Re_lengthen], zDec M := List.forall_mem_cons.mpr ⟨zsqM_ok zd_M_mark, List.forall_mem_cons.mpr ⟨zsqM_ok zd_M_areAlike, List.forall_mem_cons.mpr ⟨zsqM_ok zd_M_agree, List.forall_mem_cons.mpr ⟨zsqM_ok zd_M_image, List.forall_mem_cons.mpr ⟨zsqM_ok zd_M_restore, List.forall_mem_cons.mpr ⟨zsqM_ok zd_M_status, List.forall_mem_cons.mpr ⟨zsqM_ok zd_M_count, List.forall_mem_cons.mpr ⟨zsqM_ok zd_Re_init, List.forall_mem_cons.mpr ⟨zsqM_ok zd_Re_placesFor, List.forall_mem_cons.mpr ⟨zsqM_ok zd_Re_pebblesOf, List.forall_mem_cons.mpr ⟨zsqM_ok zd_Re_mostPebbles, List.forall_mem_cons.mpr ⟨zsqM_ok zd_Re_telling, List.forall_mem_cons.mpr ⟨zsqM_ok zd_Re_fewStates, List.forall_mem_cons.mpr ⟨zsqM_ok zd_Re_comesAgain, List.forall_mem_cons.mpr ⟨zsqM_ok zd_Re_wholeNumbers, List.forall_mem_cons.mpr ⟨zsqM_ok zd_Re_lengthen, fun _ h => absurd h List.not_mem_nil⟩⟩⟩⟩⟩⟩⟩⟩⟩⟩⟩⟩⟩⟩⟩⟩
theorem zdv_12 : ∀ M ∈ [m_Re_addEnding, m_Re_oldWoman, m_Re_commonMultiple, m_Re_leastThatLeaves, m_Re_fewestAnswers, m_Re_areAlike, m_Re_leastParting, m_Re_greater, m_Re_seekGain, m_Re_isRound, m_Re_isTraded, m_Re_gainOfThousand, m_Ru_init, m_Ru_startFrom, m_Ru_startSmall, m_Ru_begin], zDec M := List.forall_mem_cons.mpr ⟨zsqM_ok zd_Re_addEnding, List.forall_mem_cons.mpr ⟨zsqM_ok zd_Re_oldWoman, List.forall_mem_cons.mpr ⟨zsqM_ok zd_Re_commonMultiple, List.forall_mem_cons.mpr ⟨zsqM_ok zd_Re_leastThatLeaves, List.forall_mem_cons.mpr ⟨zsqM_ok zd_Re_fewestAnswers, List.forall_mem_cons.mpr ⟨zsqM_ok zd_Re_areAlike, List.forall_mem_cons.mpr ⟨zsqM_ok zd_Re_leastParting, List.forall_mem_cons.mpr ⟨zsqM_ok zd_Re_greater, List.forall_mem_cons.mpr ⟨zsqM_ok zd_Re_seekGain, List.forall_mem_cons.mpr ⟨zsqM_ok zd_Re_isRound, List.forall_mem_cons.mpr ⟨zsqM_ok zd_Re_isTraded, List.forall_mem_cons.mpr ⟨zsqM_ok zd_Re_gainOfThousand, List.forall_mem_cons.mpr ⟨zsqM_ok zd_Ru_init, List.forall_mem_cons.mpr ⟨zsqM_ok zd_Ru_startFrom, List.forall_mem_cons.mpr ⟨zsqM_ok zd_Ru_startSmall, List.forall_mem_cons.mpr ⟨zsqM_ok zd_Ru_begin, fun _ h => absurd h List.not_mem_nil⟩⟩⟩⟩⟩⟩⟩⟩⟩⟩⟩⟩⟩⟩⟩⟩
theorem zdv_13 : ∀ M ∈ [m_Ru_flockNumber, m_Ru_follow, m_Ru_followWrong, m_Ru_keepsAt, m_Ru_isDone, m_Ru_isChanged, m_Ru_areChanged, m_Ru_moveOn, m_Ru_has, m_Ru_endBehindLast, m_Sh_init, m_Sh_divide, m_Sh_sharingsOf, m_Sh_firstEnvious, m_Sh_seekFair, m_Sh_ownTogether], zDec M := List.forall_mem_cons.mpr ⟨zsqM_ok zd_Ru_flockNumber, List.forall_mem_cons.mpr ⟨zsqM_ok zd_Ru_follow, List.forall_mem_cons.mpr ⟨zsqM_ok zd_Ru_followWrong, List.forall_mem_cons.mpr ⟨zsqM_ok zd_Ru_keepsAt, List.forall_mem_cons.mpr ⟨zsqM_ok zd_Ru_isDone, List.forall_mem_cons.mpr ⟨zsqM_ok zd_Ru_isChanged, List.forall_mem_cons.mpr ⟨zsqM_ok zd_Ru_areChanged, List.forall_mem_cons.mpr ⟨zsqM_ok zd_Ru_moveOn, List.forall_mem_cons.mpr ⟨zsqM_ok zd_Ru_has, List.forall_mem_cons.mpr ⟨zsqM_ok zd_Ru_endBehindLast, List.forall_mem_cons.mpr ⟨zsqM_ok zd_Sh_init, List.forall_mem_cons.mpr ⟨zsqM_ok zd_Sh_divide, List.forall_mem_cons.mpr ⟨zsqM_ok zd_Sh_sharingsOf, List.forall_mem_cons.mpr ⟨zsqM_ok zd_Sh_firstEnvious, List.forall_mem_cons.mpr ⟨zsqM_ok zd_Sh_seekFair, List.forall_mem_cons.mpr ⟨zsqM_ok zd_Sh_ownTogether, fun _ h => absurd h List.not_mem_nil⟩⟩⟩⟩⟩⟩⟩⟩⟩⟩⟩⟩⟩⟩⟩⟩
theorem zdv_14 : ∀ M ∈ [m_Sh_leastSpread, m_Sh_spread, m_St_init, m_St_copyFrom, m_St_settle, m_St_remember, m_St_takeOver, m_Ta_init, m_Ta_add, m_Ta_begin, m_Ta_advance, m_Ta_kindOf, m_Ta_refuse, m_Ta_faultAnswer, m_Ta_isSign, m_Ta_takeSign], zDec M := List.forall_mem_cons.mpr ⟨zsqM_ok zd_Sh_leastSpread, List.forall_mem_cons.mpr ⟨zsqM_ok zd_Sh_spread, List.forall_mem_cons.mpr ⟨zsqM_ok zd_St_init, List.forall_mem_cons.mpr ⟨zsqM_ok zd_St_copyFrom, List.forall_mem_cons.mpr ⟨zsqM_ok zd_St_settle, List.forall_mem_cons.mpr ⟨zsqM_ok zd_St_remember, List.forall_mem_cons.mpr ⟨zsqM_ok zd_St_takeOver, List.forall_mem_cons.mpr ⟨zsqM_ok zd_Ta_init, List.forall_mem_cons.mpr ⟨zsqM_ok zd_Ta_add, List.forall_mem_cons.mpr ⟨zsqM_ok zd_Ta_begin, List.forall_mem_cons.mpr ⟨zsqM_ok zd_Ta_advance, List.forall_mem_cons.mpr ⟨zsqM_ok zd_Ta_kindOf, List.forall_mem_cons.mpr ⟨zsqM_ok zd_Ta_refuse, List.forall_mem_cons.mpr ⟨zsqM_ok zd_Ta_faultAnswer, List.forall_mem_cons.mpr ⟨zsqM_ok zd_Ta_isSign, List.forall_mem_cons.mpr ⟨zsqM_ok zd_Ta_takeSign, fun _ h => absurd h List.not_mem_nil⟩⟩⟩⟩⟩⟩⟩⟩⟩⟩⟩⟩⟩⟩⟩⟩
theorem zdv_15 : ∀ M ∈ [m_Ta_signAmong, m_Ta_wordAmong, m_Ta_isWord, m_Ta_takeNumber, m_Tk_init, m_Tk_isMetBy, m_Tk_isTrueOf, m_Tk_valueOf, m_Tk_worked, m_TR_init, m_TR_made, m_TR_reads, m_TR_faultOfOneMore, m_TR_readsCondition, m_TR_awaitValue, m_TR_complete], zDec M := List.forall_mem_cons.mpr ⟨zsqM_ok zd_Ta_signAmong, List.forall_mem_cons.mpr ⟨zsqM_ok zd_Ta_wordAmong, List.forall_mem_cons.mpr ⟨zsqM_ok zd_Ta_isWord, List.forall_mem_cons.mpr ⟨zsqM_ok zd_Ta_takeNumber, List.forall_mem_cons.mpr ⟨zsqM_ok zd_Tk_init, List.forall_mem_cons.mpr ⟨zsqM_ok zd_Tk_isMetBy, List.forall_mem_cons.mpr ⟨zsqM_ok zd_Tk_isTrueOf, List.forall_mem_cons.mpr ⟨zsqM_ok zd_Tk_valueOf, List.forall_mem_cons.mpr ⟨zsqM_ok zd_Tk_worked, List.forall_mem_cons.mpr ⟨zsqM_ok zd_TR_init, List.forall_mem_cons.mpr ⟨zsqM_ok zd_TR_made, List.forall_mem_cons.mpr ⟨zsqM_ok zd_TR_reads, List.forall_mem_cons.mpr ⟨zsqM_ok zd_TR_faultOfOneMore, List.forall_mem_cons.mpr ⟨zsqM_ok zd_TR_readsCondition, List.forall_mem_cons.mpr ⟨zsqM_ok zd_TR_awaitValue, List.forall_mem_cons.mpr ⟨zsqM_ok zd_TR_complete, fun _ h => absurd h List.not_mem_nil⟩⟩⟩⟩⟩⟩⟩⟩⟩⟩⟩⟩⟩⟩⟩⟩
theorem zdv_16 : ∀ M ∈ [m_TR_readsValue, m_TR_opens, m_TR_readsSign, m_TR_joins, m_TR_closes, m_TR_endsCondition, m_TR_letWait, m_TR_workOff, m_TR_rankOf, m_TR_innermostOpen, m_TR_add, m_Tr_init, m_Tr_seek, m_Tr_countRivals, m_Tr_pickAt, m_Tr_tellApart], zDec M := List.forall_mem_cons.mpr ⟨zsqM_ok zd_TR_readsValue, List.forall_mem_cons.mpr ⟨zsqM_ok zd_TR_opens, List.forall_mem_cons.mpr ⟨zsqM_ok zd_TR_readsSign, List.forall_mem_cons.mpr ⟨zsqM_ok zd_TR_joins, List.forall_mem_cons.mpr ⟨zsqM_ok zd_TR_closes, List.forall_mem_cons.mpr ⟨zsqM_ok zd_TR_endsCondition, List.forall_mem_cons.mpr ⟨zsqM_ok zd_TR_letWait, List.forall_mem_cons.mpr ⟨zsqM_ok zd_TR_workOff, List.forall_mem_cons.mpr ⟨zsqM_ok zd_TR_rankOf, List.forall_mem_cons.mpr ⟨zsqM_ok zd_TR_innermostOpen, List.forall_mem_cons.mpr ⟨zsqM_ok zd_TR_add, List.forall_mem_cons.mpr ⟨zsqM_ok zd_Tr_init, List.forall_mem_cons.mpr ⟨zsqM_ok zd_Tr_seek, List.forall_mem_cons.mpr ⟨zsqM_ok zd_Tr_countRivals, List.forall_mem_cons.mpr ⟨zsqM_ok zd_Tr_pickAt, List.forall_mem_cons.mpr ⟨zsqM_ok zd_Tr_tellApart, fun _ h => absurd h List.not_mem_nil⟩⟩⟩⟩⟩⟩⟩⟩⟩⟩⟩⟩⟩⟩⟩⟩
theorem zdv_17 : ∀ M ∈ [m_Tr_endOf, m_Tr_doesAll, m_Tr_waysOfLength, m_Tr_begin, m_Tr_addChanges, m_Tr_addPairs, m_Tr_addJumps, m_Tr_add, m_Tr_pick, m_Tr_advance, m_VR_init, m_VR_reads, m_VR_readsClause, m_Wa_init, m_Wa_add, m_Wa_change], zDec M := List.forall_mem_cons.mpr ⟨zsqM_ok zd_Tr_endOf, List.forall_mem_cons.mpr ⟨zsqM_ok zd_Tr_doesAll, List.forall_mem_cons.mpr ⟨zsqM_ok zd_Tr_waysOfLength, List.forall_mem_cons.mpr ⟨zsqM_ok zd_Tr_begin, List.forall_mem_cons.mpr ⟨zsqM_ok zd_Tr_addChanges, List.forall_mem_cons.mpr ⟨zsqM_ok zd_Tr_addPairs, List.forall_mem_cons.mpr ⟨zsqM_ok zd_Tr_addJumps, List.forall_mem_cons.mpr ⟨zsqM_ok zd_Tr_add, List.forall_mem_cons.mpr ⟨zsqM_ok zd_Tr_pick, List.forall_mem_cons.mpr ⟨zsqM_ok zd_Tr_advance, List.forall_mem_cons.mpr ⟨zsqM_ok zd_VR_init, List.forall_mem_cons.mpr ⟨zsqM_ok zd_VR_reads, List.forall_mem_cons.mpr ⟨zsqM_ok zd_VR_readsClause, List.forall_mem_cons.mpr ⟨zsqM_ok zd_Wa_init, List.forall_mem_cons.mpr ⟨zsqM_ok zd_Wa_add, List.forall_mem_cons.mpr ⟨zsqM_ok zd_Wa_change, fun _ h => absurd h List.not_mem_nil⟩⟩⟩⟩⟩⟩⟩⟩⟩⟩⟩⟩⟩⟩⟩⟩
theorem zdv_18 : ∀ M ∈ [m_Wa_copyFrom, m_Wa_firstBarred, m_Wa_allows, m_WR_init, m_WR_reads, m_WR_readsNumbers, m_L_valley, m_L_way, m_L_task, m_L_told, m_L_act, m_L_judge, m_L_heap, m_L_place, m_L_run, m_L_ends], zDec M := List.forall_mem_cons.mpr ⟨zsqM_ok zd_Wa_copyFrom, List.forall_mem_cons.mpr ⟨zsqM_ok zd_Wa_firstBarred, List.forall_mem_cons.mpr ⟨zsqM_ok zd_Wa_allows, List.forall_mem_cons.mpr ⟨zsqM_ok zd_WR_init, List.forall_mem_cons.mpr ⟨zsqM_ok zd_WR_reads, List.forall_mem_cons.mpr ⟨zsqM_ok zd_WR_readsNumbers, List.forall_mem_cons.mpr ⟨zsqM_ok zd_L_valley, List.forall_mem_cons.mpr ⟨zsqM_ok zd_L_way, List.forall_mem_cons.mpr ⟨zsqM_ok zd_L_task, List.forall_mem_cons.mpr ⟨zsqM_ok zd_L_told, List.forall_mem_cons.mpr ⟨zsqM_ok zd_L_act, List.forall_mem_cons.mpr ⟨zsqM_ok zd_L_judge, List.forall_mem_cons.mpr ⟨zsqM_ok zd_L_heap, List.forall_mem_cons.mpr ⟨zsqM_ok zd_L_place, List.forall_mem_cons.mpr ⟨zsqM_ok zd_L_run, List.forall_mem_cons.mpr ⟨zsqM_ok zd_L_ends, fun _ h => absurd h List.not_mem_nil⟩⟩⟩⟩⟩⟩⟩⟩⟩⟩⟩⟩⟩⟩⟩⟩
theorem zdv_19 : ∀ M ∈ [m_L_row, m_L_left, m_L_holds, m_L_right, m_L_least, m_L_find, m_L_keep, m_L_can, m_L_why, m_L_cheat, m_L_soon, m_L_hidden, m_L_places, m_L_pebbles, m_L_fewest, m_L_tell], zDec M := List.forall_mem_cons.mpr ⟨zsqM_ok zd_L_row, List.forall_mem_cons.mpr ⟨zsqM_ok zd_L_left, List.forall_mem_cons.mpr ⟨zsqM_ok zd_L_holds, List.forall_mem_cons.mpr ⟨zsqM_ok zd_L_right, List.forall_mem_cons.mpr ⟨zsqM_ok zd_L_least, List.forall_mem_cons.mpr ⟨zsqM_ok zd_L_find, List.forall_mem_cons.mpr ⟨zsqM_ok zd_L_keep, List.forall_mem_cons.mpr ⟨zsqM_ok zd_L_can, List.forall_mem_cons.mpr ⟨zsqM_ok zd_L_why, List.forall_mem_cons.mpr ⟨zsqM_ok zd_L_cheat, List.forall_mem_cons.mpr ⟨zsqM_ok zd_L_soon, List.forall_mem_cons.mpr ⟨zsqM_ok zd_L_hidden, List.forall_mem_cons.mpr ⟨zsqM_ok zd_L_places, List.forall_mem_cons.mpr ⟨zsqM_ok zd_L_pebbles, List.forall_mem_cons.mpr ⟨zsqM_ok zd_L_fewest, List.forall_mem_cons.mpr ⟨zsqM_ok zd_L_tell, fun _ h => absurd h List.not_mem_nil⟩⟩⟩⟩⟩⟩⟩⟩⟩⟩⟩⟩⟩⟩⟩⟩
theorem zdv_20 : ∀ M ∈ [m_L_word, m_L_stranger, m_L_field, m_L_share, m_L_even, m_L_envy, m_L_mind, m_L_mark, m_L_agree, m_L_kept, m_L_rate, m_L_trade, m_L_whole, m_L_knows, m_L_woman, m_L_law], zDec M := List.forall_mem_cons.mpr ⟨zsqM_ok zd_L_word, List.forall_mem_cons.mpr ⟨zsqM_ok zd_L_stranger, List.forall_mem_cons.mpr ⟨zsqM_ok zd_L_field, List.forall_mem_cons.mpr ⟨zsqM_ok zd_L_share, List.forall_mem_cons.mpr ⟨zsqM_ok zd_L_even, List.forall_mem_cons.mpr ⟨zsqM_ok zd_L_envy, List.forall_mem_cons.mpr ⟨zsqM_ok zd_L_mind, List.forall_mem_cons.mpr ⟨zsqM_ok zd_L_mark, List.forall_mem_cons.mpr ⟨zsqM_ok zd_L_agree, List.forall_mem_cons.mpr ⟨zsqM_ok zd_L_kept, List.forall_mem_cons.mpr ⟨zsqM_ok zd_L_rate, List.forall_mem_cons.mpr ⟨zsqM_ok zd_L_trade, List.forall_mem_cons.mpr ⟨zsqM_ok zd_L_whole, List.forall_mem_cons.mpr ⟨zsqM_ok zd_L_knows, List.forall_mem_cons.mpr ⟨zsqM_ok zd_L_woman, List.forall_mem_cons.mpr ⟨zsqM_ok zd_L_law, fun _ h => absurd h List.not_mem_nil⟩⟩⟩⟩⟩⟩⟩⟩⟩⟩⟩⟩⟩⟩⟩⟩
theorem zdv_21 : ∀ M ∈ [m_JS_charAt, m_JS_coder, m_JS_isLatin1, m_JS_length, m_JS_checkIndex, m_JL_charAt, m_JA_copyOf, m_JA_fill, m_JP_checkIndex], zDec M := List.forall_mem_cons.mpr ⟨zsqM_ok zd_JS_charAt, List.forall_mem_cons.mpr ⟨zsqM_ok zd_JS_coder, List.forall_mem_cons.mpr ⟨zsqM_ok zd_JS_isLatin1, List.forall_mem_cons.mpr ⟨zsqM_ok zd_JS_length, List.forall_mem_cons.mpr ⟨zsqM_ok zd_JS_checkIndex, List.forall_mem_cons.mpr ⟨zsqM_ok zd_JL_charAt, List.forall_mem_cons.mpr ⟨zsqM_ok zd_JA_copyOf, List.forall_mem_cons.mpr ⟨zsqM_ok zd_JA_fill, List.forall_mem_cons.mpr ⟨zsqM_ok zd_JP_checkIndex, fun _ h => absurd h List.not_mem_nil⟩⟩⟩⟩⟩⟩⟩⟩⟩
theorem zdv_all : ∀ l ∈ zPl, ∀ M ∈ l, zDec M := List.forall_mem_cons.mpr ⟨zdv_0, List.forall_mem_cons.mpr ⟨zdv_1, List.forall_mem_cons.mpr ⟨zdv_2, List.forall_mem_cons.mpr ⟨zdv_3, List.forall_mem_cons.mpr ⟨zdv_4, List.forall_mem_cons.mpr ⟨zdv_5, List.forall_mem_cons.mpr ⟨zdv_6, List.forall_mem_cons.mpr ⟨zdv_7, List.forall_mem_cons.mpr ⟨zdv_8, List.forall_mem_cons.mpr ⟨zdv_9, List.forall_mem_cons.mpr ⟨zdv_10, List.forall_mem_cons.mpr ⟨zdv_11, List.forall_mem_cons.mpr ⟨zdv_12, List.forall_mem_cons.mpr ⟨zdv_13, List.forall_mem_cons.mpr ⟨zdv_14, List.forall_mem_cons.mpr ⟨zdv_15, List.forall_mem_cons.mpr ⟨zdv_16, List.forall_mem_cons.mpr ⟨zdv_17, List.forall_mem_cons.mpr ⟨zdv_18, List.forall_mem_cons.mpr ⟨zdv_19, List.forall_mem_cons.mpr ⟨zdv_20, List.forall_mem_cons.mpr ⟨zdv_21, fun _ h => absurd h List.not_mem_nil⟩⟩⟩⟩⟩⟩⟩⟩⟩⟩⟩⟩⟩⟩⟩⟩⟩⟩⟩⟩⟩⟩
theorem zP_dec (k : Nat) : zDec (zP k) := by
  unfold zP
  split
  · rename_i l hl
    have h := zdv_all l (List.mem_of_getElem? hl)
    rw [List.getD_eq_getElem?_getD]
    cases hk : l[k % 16]? with
    | none => exact zsqM_ok zd_L_law
    | some M => exact h M (List.mem_of_getElem? hk)
  · exact zsqM_ok zd_L_law
