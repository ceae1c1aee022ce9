/-! What holds of every method -/
/-- the descriptor's parameters, the name of the class -/
def zdsc (M : ZMt) : Bool := decide ((parseMethodDescriptor (zmName M).desc).map (fun d => d.parameters.length) = some (zmArgs M - (match zmKind M with
  | 0 => 0
  | _ => 1))) && (plainName (zmName M).cls && (decide ((zmName M).cls ≠ "java/lang/invoke/MethodHandle") && (decide ((zmName M).cls ≠ "java/lang/invoke/VarHandle") && (Nat.blt (zmKind M) 3 && (match zmKind M with
  | 0 => true
  | 1 => Nat.ble 1 (zmArgs M)
  | _ => Nat.ble 1 (zmArgs M) && (decide ((zmName M).name = "<init>") && (decide (zmRet M = none) && List.isEmpty (zmTab M))))))))
def zEv (M : ZMt) : Prop := (zmName M = zmName m_L_law ∨ zMok M) ∧ zchkM M = true ∧ zdsc M = true
theorem ze_N_init : zdsc m_N_init = true := by decide +kernel
theorem ze_N_feed : zdsc m_N_feed = true := by decide +kernel
theorem ze_N_valley : zdsc m_N_valley = true := by decide +kernel
theorem ze_N_way : zdsc m_N_way = true := by decide +kernel
theorem ze_N_task : zdsc m_N_task = true := by decide +kernel
theorem ze_N_fault : zdsc m_N_fault = true := by decide +kernel
theorem ze_N_told : zdsc m_N_told = true := by decide +kernel
theorem ze_N_act : zdsc m_N_act = true := by decide +kernel
theorem ze_N_judge : zdsc m_N_judge = true := by decide +kernel
theorem ze_N_heap : zdsc m_N_heap = true := by decide +kernel
theorem ze_N_place : zdsc m_N_place = true := by decide +kernel
theorem ze_N_run : zdsc m_N_run = true := by decide +kernel
theorem ze_N_ends : zdsc m_N_ends = true := by decide +kernel
theorem ze_N_row : zdsc m_N_row = true := by decide +kernel
theorem ze_N_left : zdsc m_N_left = true := by decide +kernel
theorem ze_N_on : zdsc m_N_on = true := by decide +kernel
theorem ze_N_holds : zdsc m_N_holds = true := by decide +kernel
theorem ze_N_right : zdsc m_N_right = true := by decide +kernel
theorem ze_N_least : zdsc m_N_least = true := by decide +kernel
theorem ze_N_kept : zdsc m_N_kept = true := by decide +kernel
theorem ze_N_find : zdsc m_N_find = true := by decide +kernel
theorem ze_N_keep : zdsc m_N_keep = true := by decide +kernel
theorem ze_N_can : zdsc m_N_can = true := by decide +kernel
theorem ze_N_why : zdsc m_N_why = true := by decide +kernel
theorem ze_N_cheat : zdsc m_N_cheat = true := by decide +kernel
theorem ze_N_soon : zdsc m_N_soon = true := by decide +kernel
theorem ze_N_hidden : zdsc m_N_hidden = true := by decide +kernel
theorem ze_N_places : zdsc m_N_places = true := by decide +kernel
theorem ze_N_pebbles : zdsc m_N_pebbles = true := by decide +kernel
theorem ze_N_fewest : zdsc m_N_fewest = true := by decide +kernel
theorem ze_N_tell : zdsc m_N_tell = true := by decide +kernel
theorem ze_N_word : zdsc m_N_word = true := by decide +kernel
theorem ze_N_stranger : zdsc m_N_stranger = true := by decide +kernel
theorem ze_N_mind : zdsc m_N_mind = true := by decide +kernel
theorem ze_N_whole : zdsc m_N_whole = true := by decide +kernel
theorem ze_N_knows : zdsc m_N_knows = true := by decide +kernel
theorem ze_N_woman : zdsc m_N_woman = true := by decide +kernel
theorem ze_N_field : zdsc m_N_field = true := by decide +kernel
theorem ze_N_share : zdsc m_N_share = true := by decide +kernel
theorem ze_N_even : zdsc m_N_even = true := by decide +kernel
theorem ze_N_envy : zdsc m_N_envy = true := by decide +kernel
theorem ze_N_mark : zdsc m_N_mark = true := by decide +kernel
theorem ze_N_agree : zdsc m_N_agree = true := by decide +kernel
theorem ze_N_rate : zdsc m_N_rate = true := by decide +kernel
theorem ze_N_trade : zdsc m_N_trade = true := by decide +kernel
theorem ze_N_image : zdsc m_N_image = true := by decide +kernel
theorem ze_N_restore : zdsc m_N_restore = true := by decide +kernel
theorem ze_N_status : zdsc m_N_status = true := by decide +kernel
theorem ze_N_count : zdsc m_N_count = true := by decide +kernel
theorem ze_N_isNot : zdsc m_N_isNot = true := by decide +kernel
theorem ze_N_isNoHeap : zdsc m_N_isNoHeap = true := by decide +kernel
theorem ze_N_isNoPlace : zdsc m_N_isNoPlace = true := by decide +kernel
theorem ze_N_isNoRange : zdsc m_N_isNoRange = true := by decide +kernel
theorem ze_N_isNoLength : zdsc m_N_isNoLength = true := by decide +kernel
theorem ze_N_isNoQuest : zdsc m_N_isNoQuest = true := by decide +kernel
theorem ze_N_isNoParty : zdsc m_N_isNoParty = true := by decide +kernel
theorem ze_N_refuseIf : zdsc m_N_refuseIf = true := by decide +kernel
theorem ze_N_refuseElementIf : zdsc m_N_refuseElementIf = true := by decide +kernel
theorem ze_N_refuseBarred : zdsc m_N_refuseBarred = true := by decide +kernel
theorem ze_N_theWay : zdsc m_N_theWay = true := by decide +kernel
theorem ze_N_theTask : zdsc m_N_theTask = true := by decide +kernel
theorem ze_N_adopt : zdsc m_N_adopt = true := by decide +kernel
theorem ze_N_flocksWithin : zdsc m_N_flocksWithin = true := by decide +kernel
theorem ze_N_isMetFrom : zdsc m_N_isMetFrom = true := by decide +kernel
theorem ze_N_actsWithoutWrong : zdsc m_N_actsWithoutWrong = true := by decide +kernel
theorem ze_N_isFound : zdsc m_N_isFound = true := by decide +kernel
theorem ze_M_thrown : zdsc m_M_thrown = true := by decide +kernel
theorem ze_M_may : zdsc m_M_may = true := by decide +kernel
theorem ze_M_within : zdsc m_M_within = true := by decide +kernel
theorem ze_M_init : zdsc m_M_init = true := by decide +kernel
theorem ze_M_feed : zdsc m_M_feed = true := by decide +kernel
theorem ze_M_fine : zdsc m_M_fine = true := by decide +kernel
theorem ze_M_wrong : zdsc m_M_wrong = true := by decide +kernel
theorem ze_M_here : zdsc m_M_here = true := by decide +kernel
theorem ze_M_isSmall : zdsc m_M_isSmall = true := by decide +kernel
theorem ze_M_isDigit : zdsc m_M_isDigit = true := by decide +kernel
theorem ze_M_word : zdsc m_M_word = true := by decide +kernel
theorem ze_M_of : zdsc m_M_of = true := by decide +kernel
theorem ze_M_pass : zdsc m_M_pass = true := by decide +kernel
theorem ze_M_readNumber : zdsc m_M_readNumber = true := by decide +kernel
theorem ze_M_sign : zdsc m_M_sign = true := by decide +kernel
theorem ze_M_isMore : zdsc m_M_isMore = true := by decide +kernel
theorem ze_M_begins : zdsc m_M_begins = true := by decide +kernel
theorem ze_M_result : zdsc m_M_result = true := by decide +kernel
theorem ze_M_valleyWord : zdsc m_M_valleyWord = true := by decide +kernel
theorem ze_M_valley : zdsc m_M_valley = true := by decide +kernel
theorem ze_M_actWord : zdsc m_M_actWord = true := by decide +kernel
theorem ze_M_readAct : zdsc m_M_readAct = true := by decide +kernel
theorem ze_M_way : zdsc m_M_way = true := by decide +kernel
theorem ze_M_emit : zdsc m_M_emit = true := by decide +kernel
theorem ze_M_opensOne : zdsc m_M_opensOne = true := by decide +kernel
theorem ze_M_unit : zdsc m_M_unit = true := by decide +kernel
theorem ze_M_product : zdsc m_M_product = true := by decide +kernel
theorem ze_M_sum : zdsc m_M_sum = true := by decide +kernel
theorem ze_M_oneOf : zdsc m_M_oneOf = true := by decide +kernel
theorem ze_M_allOf : zdsc m_M_allOf = true := by decide +kernel
theorem ze_M_anyOf : zdsc m_M_anyOf = true := by decide +kernel
theorem ze_M_isBegin : zdsc m_M_isBegin = true := by decide +kernel
theorem ze_M_task : zdsc m_M_task = true := by decide +kernel
theorem ze_M_fault : zdsc m_M_fault = true := by decide +kernel
theorem ze_M_told : zdsc m_M_told = true := by decide +kernel
theorem ze_M_isWay : zdsc m_M_isWay = true := by decide +kernel
theorem ze_M_act : zdsc m_M_act = true := by decide +kernel
theorem ze_M_mayAct : zdsc m_M_mayAct = true := by decide +kernel
theorem ze_M_judged : zdsc m_M_judged = true := by decide +kernel
theorem ze_M_judge : zdsc m_M_judge = true := by decide +kernel
theorem ze_M_heap : zdsc m_M_heap = true := by decide +kernel
theorem ze_M_place : zdsc m_M_place = true := by decide +kernel
theorem ze_M_fromFlock : zdsc m_M_fromFlock = true := by decide +kernel
theorem ze_M_fromNumber : zdsc m_M_fromNumber = true := by decide +kernel
theorem ze_M_does : zdsc m_M_does = true := by decide +kernel
theorem ze_M_isThing : zdsc m_M_isThing = true := by decide +kernel
theorem ze_M_goes : zdsc m_M_goes = true := by decide +kernel
theorem ze_M_isAllowed : zdsc m_M_isAllowed = true := by decide +kernel
theorem ze_M_run : zdsc m_M_run = true := by decide +kernel
theorem ze_M_ends : zdsc m_M_ends = true := by decide +kernel
theorem ze_M_row : zdsc m_M_row = true := by decide +kernel
theorem ze_M_left : zdsc m_M_left = true := by decide +kernel
theorem ze_M_on : zdsc m_M_on = true := by decide +kernel
theorem ze_M_worked : zdsc m_M_worked = true := by decide +kernel
theorem ze_M_isDone : zdsc m_M_isDone = true := by decide +kernel
theorem ze_M_allSo : zdsc m_M_allSo = true := by decide +kernel
theorem ze_M_isTask : zdsc m_M_isTask = true := by decide +kernel
theorem ze_M_holds : zdsc m_M_holds = true := by decide +kernel
theorem ze_M_goesAll : zdsc m_M_goesAll = true := by decide +kernel
theorem ze_M_mayRight : zdsc m_M_mayRight = true := by decide +kernel
theorem ze_M_right : zdsc m_M_right = true := by decide +kernel
theorem ze_M_least : zdsc m_M_least = true := by decide +kernel
theorem ze_M_choice : zdsc m_M_choice = true := by decide +kernel
theorem ze_M_lists : zdsc m_M_lists = true := by decide +kernel
theorem ze_M_lays : zdsc m_M_lays = true := by decide +kernel
theorem ze_M_picksOn : zdsc m_M_picksOn = true := by decide +kernel
theorem ze_M_finds : zdsc m_M_finds = true := by decide +kernel
theorem ze_M_keepFound : zdsc m_M_keepFound = true := by decide +kernel
theorem ze_M_mayFind : zdsc m_M_mayFind = true := by decide +kernel
theorem ze_M_find : zdsc m_M_find = true := by decide +kernel
theorem ze_M_keep : zdsc m_M_keep = true := by decide +kernel
theorem ze_M_isApart : zdsc m_M_isApart = true := by decide +kernel
theorem ze_M_can : zdsc m_M_can = true := by decide +kernel
theorem ze_M_why : zdsc m_M_why = true := by decide +kernel
theorem ze_M_plain : zdsc m_M_plain = true := by decide +kernel
theorem ze_M_isHow : zdsc m_M_isHow = true := by decide +kernel
theorem ze_M_isFound : zdsc m_M_isFound = true := by decide +kernel
theorem ze_M_cheat : zdsc m_M_cheat = true := by decide +kernel
theorem ze_M_soon : zdsc m_M_soon = true := by decide +kernel
theorem ze_M_hidden : zdsc m_M_hidden = true := by decide +kernel
theorem ze_M_kept : zdsc m_M_kept = true := by decide +kernel
theorem ze_M_isGood : zdsc m_M_isGood = true := by decide +kernel
theorem ze_M_rate : zdsc m_M_rate = true := by decide +kernel
theorem ze_M_round : zdsc m_M_round = true := by decide +kernel
theorem ze_M_trade : zdsc m_M_trade = true := by decide +kernel
theorem ze_M_follows : zdsc m_M_follows = true := by decide +kernel
theorem ze_M_whole : zdsc m_M_whole = true := by decide +kernel
theorem ze_M_knows : zdsc m_M_knows = true := by decide +kernel
theorem ze_M_woman : zdsc m_M_woman = true := by decide +kernel
theorem ze_M_digits : zdsc m_M_digits = true := by decide +kernel
theorem ze_M_digitSum : zdsc m_M_digitSum = true := by decide +kernel
theorem ze_M_isNumber : zdsc m_M_isNumber = true := by decide +kernel
theorem ze_M_places : zdsc m_M_places = true := by decide +kernel
theorem ze_M_pebbles : zdsc m_M_pebbles = true := by decide +kernel
theorem ze_M_fewest : zdsc m_M_fewest = true := by decide +kernel
theorem ze_M_tellBy : zdsc m_M_tellBy = true := by decide +kernel
theorem ze_M_mayTell : zdsc m_M_mayTell = true := by decide +kernel
theorem ze_M_tell : zdsc m_M_tell = true := by decide +kernel
theorem ze_M_wordx : zdsc m_M_wordx = true := by decide +kernel
theorem ze_M_stranger : zdsc m_M_stranger = true := by decide +kernel
theorem ze_M_field : zdsc m_M_field = true := by decide +kernel
theorem ze_M_owner : zdsc m_M_owner = true := by decide +kernel
theorem ze_M_thinks : zdsc m_M_thinks = true := by decide +kernel
theorem ze_M_envious : zdsc m_M_envious = true := by decide +kernel
theorem ze_M_isSharing : zdsc m_M_isSharing = true := by decide +kernel
theorem ze_M_mayShare : zdsc m_M_mayShare = true := by decide +kernel
theorem ze_M_share : zdsc m_M_share = true := by decide +kernel
theorem ze_M_even : zdsc m_M_even = true := by decide +kernel
theorem ze_M_envy : zdsc m_M_envy = true := by decide +kernel
theorem ze_M_mind : zdsc m_M_mind = true := by decide +kernel
theorem ze_M_mark : zdsc m_M_mark = true := by decide +kernel
theorem ze_M_areAlike : zdsc m_M_areAlike = true := by decide +kernel
theorem ze_M_agree : zdsc m_M_agree = true := by decide +kernel
theorem ze_M_image : zdsc m_M_image = true := by decide +kernel
theorem ze_M_restore : zdsc m_M_restore = true := by decide +kernel
theorem ze_M_status : zdsc m_M_status = true := by decide +kernel
theorem ze_M_count : zdsc m_M_count = true := by decide +kernel
theorem ze_Re_init : zdsc m_Re_init = true := by decide +kernel
theorem ze_Re_placesFor : zdsc m_Re_placesFor = true := by decide +kernel
theorem ze_Re_pebblesOf : zdsc m_Re_pebblesOf = true := by decide +kernel
theorem ze_Re_mostPebbles : zdsc m_Re_mostPebbles = true := by decide +kernel
theorem ze_Re_telling : zdsc m_Re_telling = true := by decide +kernel
theorem ze_Re_fewStates : zdsc m_Re_fewStates = true := by decide +kernel
theorem ze_Re_comesAgain : zdsc m_Re_comesAgain = true := by decide +kernel
theorem ze_Re_wholeNumbers : zdsc m_Re_wholeNumbers = true := by decide +kernel
theorem ze_Re_lengthen : zdsc m_Re_lengthen = true := by decide +kernel
theorem ze_Re_addEnding : zdsc m_Re_addEnding = true := by decide +kernel
theorem ze_Re_oldWoman : zdsc m_Re_oldWoman = true := by decide +kernel
theorem ze_Re_commonMultiple : zdsc m_Re_commonMultiple = true := by decide +kernel
theorem ze_Re_leastThatLeaves : zdsc m_Re_leastThatLeaves = true := by decide +kernel
theorem ze_Re_fewestAnswers : zdsc m_Re_fewestAnswers = true := by decide +kernel
theorem ze_Re_areAlike : zdsc m_Re_areAlike = true := by decide +kernel
theorem ze_Re_leastParting : zdsc m_Re_leastParting = true := by decide +kernel
theorem ze_Re_greater : zdsc m_Re_greater = true := by decide +kernel
theorem ze_Re_seekGain : zdsc m_Re_seekGain = true := by decide +kernel
theorem ze_Re_isRound : zdsc m_Re_isRound = true := by decide +kernel
theorem ze_Re_isTraded : zdsc m_Re_isTraded = true := by decide +kernel
theorem ze_Re_gainOfThousand : zdsc m_Re_gainOfThousand = true := by decide +kernel
theorem ze_Ru_init : zdsc m_Ru_init = true := by decide +kernel
theorem ze_Ru_startFrom : zdsc m_Ru_startFrom = true := by decide +kernel
theorem ze_Ru_startSmall : zdsc m_Ru_startSmall = true := by decide +kernel
theorem ze_Ru_begin : zdsc m_Ru_begin = true := by decide +kernel
theorem ze_Ru_flockNumber : zdsc m_Ru_flockNumber = true := by decide +kernel
theorem ze_Ru_follow : zdsc m_Ru_follow = true := by decide +kernel
theorem ze_Ru_followWrong : zdsc m_Ru_followWrong = true := by decide +kernel
theorem ze_Ru_keepsAt : zdsc m_Ru_keepsAt = true := by decide +kernel
theorem ze_Ru_isDone : zdsc m_Ru_isDone = true := by decide +kernel
theorem ze_Ru_isChanged : zdsc m_Ru_isChanged = true := by decide +kernel
theorem ze_Ru_areChanged : zdsc m_Ru_areChanged = true := by decide +kernel
theorem ze_Ru_moveOn : zdsc m_Ru_moveOn = true := by decide +kernel
theorem ze_Ru_has : zdsc m_Ru_has = true := by decide +kernel
theorem ze_Ru_endBehindLast : zdsc m_Ru_endBehindLast = true := by decide +kernel
theorem ze_Sh_init : zdsc m_Sh_init = true := by decide +kernel
theorem ze_Sh_divide : zdsc m_Sh_divide = true := by decide +kernel
theorem ze_Sh_sharingsOf : zdsc m_Sh_sharingsOf = true := by decide +kernel
theorem ze_Sh_firstEnvious : zdsc m_Sh_firstEnvious = true := by decide +kernel
theorem ze_Sh_seekFair : zdsc m_Sh_seekFair = true := by decide +kernel
theorem ze_Sh_ownTogether : zdsc m_Sh_ownTogether = true := by decide +kernel
theorem ze_Sh_leastSpread : zdsc m_Sh_leastSpread = true := by decide +kernel
theorem ze_Sh_spread : zdsc m_Sh_spread = true := by decide +kernel
theorem ze_St_init : zdsc m_St_init = true := by decide +kernel
theorem ze_St_copyFrom : zdsc m_St_copyFrom = true := by decide +kernel
theorem ze_St_settle : zdsc m_St_settle = true := by decide +kernel
theorem ze_St_remember : zdsc m_St_remember = true := by decide +kernel
theorem ze_St_takeOver : zdsc m_St_takeOver = true := by decide +kernel
theorem ze_Ta_init : zdsc m_Ta_init = true := by decide +kernel
theorem ze_Ta_add : zdsc m_Ta_add = true := by decide +kernel
theorem ze_Ta_begin : zdsc m_Ta_begin = true := by decide +kernel
theorem ze_Ta_advance : zdsc m_Ta_advance = true := by decide +kernel
theorem ze_Ta_kindOf : zdsc m_Ta_kindOf = true := by decide +kernel
theorem ze_Ta_refuse : zdsc m_Ta_refuse = true := by decide +kernel
theorem ze_Ta_faultAnswer : zdsc m_Ta_faultAnswer = true := by decide +kernel
theorem ze_Ta_isSign : zdsc m_Ta_isSign = true := by decide +kernel
theorem ze_Ta_takeSign : zdsc m_Ta_takeSign = true := by decide +kernel
theorem ze_Ta_signAmong : zdsc m_Ta_signAmong = true := by decide +kernel
theorem ze_Ta_wordAmong : zdsc m_Ta_wordAmong = true := by decide +kernel
theorem ze_Ta_isWord : zdsc m_Ta_isWord = true := by decide +kernel
theorem ze_Ta_takeNumber : zdsc m_Ta_takeNumber = true := by decide +kernel
theorem ze_Tk_init : zdsc m_Tk_init = true := by decide +kernel
theorem ze_Tk_isMetBy : zdsc m_Tk_isMetBy = true := by decide +kernel
theorem ze_Tk_isTrueOf : zdsc m_Tk_isTrueOf = true := by decide +kernel
theorem ze_Tk_valueOf : zdsc m_Tk_valueOf = true := by decide +kernel
theorem ze_Tk_worked : zdsc m_Tk_worked = true := by decide +kernel
theorem ze_TR_init : zdsc m_TR_init = true := by decide +kernel
theorem ze_TR_made : zdsc m_TR_made = true := by decide +kernel
theorem ze_TR_reads : zdsc m_TR_reads = true := by decide +kernel
theorem ze_TR_faultOfOneMore : zdsc m_TR_faultOfOneMore = true := by decide +kernel
theorem ze_TR_readsCondition : zdsc m_TR_readsCondition = true := by decide +kernel
theorem ze_TR_awaitValue : zdsc m_TR_awaitValue = true := by decide +kernel
theorem ze_TR_complete : zdsc m_TR_complete = true := by decide +kernel
theorem ze_TR_readsValue : zdsc m_TR_readsValue = true := by decide +kernel
theorem ze_TR_opens : zdsc m_TR_opens = true := by decide +kernel
theorem ze_TR_readsSign : zdsc m_TR_readsSign = true := by decide +kernel
theorem ze_TR_joins : zdsc m_TR_joins = true := by decide +kernel
theorem ze_TR_closes : zdsc m_TR_closes = true := by decide +kernel
theorem ze_TR_endsCondition : zdsc m_TR_endsCondition = true := by decide +kernel
theorem ze_TR_letWait : zdsc m_TR_letWait = true := by decide +kernel
theorem ze_TR_workOff : zdsc m_TR_workOff = true := by decide +kernel
theorem ze_TR_rankOf : zdsc m_TR_rankOf = true := by decide +kernel
theorem ze_TR_innermostOpen : zdsc m_TR_innermostOpen = true := by decide +kernel
theorem ze_TR_add : zdsc m_TR_add = true := by decide +kernel
theorem ze_Tr_init : zdsc m_Tr_init = true := by decide +kernel
theorem ze_Tr_seek : zdsc m_Tr_seek = true := by decide +kernel
theorem ze_Tr_countRivals : zdsc m_Tr_countRivals = true := by decide +kernel
theorem ze_Tr_pickAt : zdsc m_Tr_pickAt = true := by decide +kernel
theorem ze_Tr_tellApart : zdsc m_Tr_tellApart = true := by decide +kernel
theorem ze_Tr_endOf : zdsc m_Tr_endOf = true := by decide +kernel
theorem ze_Tr_doesAll : zdsc m_Tr_doesAll = true := by decide +kernel
theorem ze_Tr_waysOfLength : zdsc m_Tr_waysOfLength = true := by decide +kernel
theorem ze_Tr_begin : zdsc m_Tr_begin = true := by decide +kernel
theorem ze_Tr_addChanges : zdsc m_Tr_addChanges = true := by decide +kernel
theorem ze_Tr_addPairs : zdsc m_Tr_addPairs = true := by decide +kernel
theorem ze_Tr_addJumps : zdsc m_Tr_addJumps = true := by decide +kernel
theorem ze_Tr_add : zdsc m_Tr_add = true := by decide +kernel
theorem ze_Tr_pick : zdsc m_Tr_pick = true := by decide +kernel
theorem ze_Tr_advance : zdsc m_Tr_advance = true := by decide +kernel
theorem ze_VR_init : zdsc m_VR_init = true := by decide +kernel
theorem ze_VR_reads : zdsc m_VR_reads = true := by decide +kernel
theorem ze_VR_readsClause : zdsc m_VR_readsClause = true := by decide +kernel
theorem ze_Wa_init : zdsc m_Wa_init = true := by decide +kernel
theorem ze_Wa_add : zdsc m_Wa_add = true := by decide +kernel
theorem ze_Wa_change : zdsc m_Wa_change = true := by decide +kernel
theorem ze_Wa_copyFrom : zdsc m_Wa_copyFrom = true := by decide +kernel
theorem ze_Wa_firstBarred : zdsc m_Wa_firstBarred = true := by decide +kernel
theorem ze_Wa_allows : zdsc m_Wa_allows = true := by decide +kernel
theorem ze_WR_init : zdsc m_WR_init = true := by decide +kernel
theorem ze_WR_reads : zdsc m_WR_reads = true := by decide +kernel
theorem ze_WR_readsNumbers : zdsc m_WR_readsNumbers = true := by decide +kernel
theorem ze_L_valley : zdsc m_L_valley = true := by decide +kernel
theorem ze_L_way : zdsc m_L_way = true := by decide +kernel
theorem ze_L_task : zdsc m_L_task = true := by decide +kernel
theorem ze_L_told : zdsc m_L_told = true := by decide +kernel
theorem ze_L_act : zdsc m_L_act = true := by decide +kernel
theorem ze_L_judge : zdsc m_L_judge = true := by decide +kernel
theorem ze_L_heap : zdsc m_L_heap = true := by decide +kernel
theorem ze_L_place : zdsc m_L_place = true := by decide +kernel
theorem ze_L_run : zdsc m_L_run = true := by decide +kernel
theorem ze_L_ends : zdsc m_L_ends = true := by decide +kernel
theorem ze_L_row : zdsc m_L_row = true := by decide +kernel
theorem ze_L_left : zdsc m_L_left = true := by decide +kernel
theorem ze_L_holds : zdsc m_L_holds = true := by decide +kernel
theorem ze_L_right : zdsc m_L_right = true := by decide +kernel
theorem ze_L_least : zdsc m_L_least = true := by decide +kernel
theorem ze_L_find : zdsc m_L_find = true := by decide +kernel
theorem ze_L_keep : zdsc m_L_keep = true := by decide +kernel
theorem ze_L_can : zdsc m_L_can = true := by decide +kernel
theorem ze_L_why : zdsc m_L_why = true := by decide +kernel
theorem ze_L_cheat : zdsc m_L_cheat = true := by decide +kernel
theorem ze_L_soon : zdsc m_L_soon = true := by decide +kernel
theorem ze_L_hidden : zdsc m_L_hidden = true := by decide +kernel
theorem ze_L_places : zdsc m_L_places = true := by decide +kernel
theorem ze_L_pebbles : zdsc m_L_pebbles = true := by decide +kernel
theorem ze_L_fewest : zdsc m_L_fewest = true := by decide +kernel
theorem ze_L_tell : zdsc m_L_tell = true := by decide +kernel
theorem ze_L_word : zdsc m_L_word = true := by decide +kernel
theorem ze_L_stranger : zdsc m_L_stranger = true := by decide +kernel
theorem ze_L_field : zdsc m_L_field = true := by decide +kernel
theorem ze_L_share : zdsc m_L_share = true := by decide +kernel
theorem ze_L_even : zdsc m_L_even = true := by decide +kernel
theorem ze_L_envy : zdsc m_L_envy = true := by decide +kernel
theorem ze_L_mind : zdsc m_L_mind = true := by decide +kernel
theorem ze_L_mark : zdsc m_L_mark = true := by decide +kernel
theorem ze_L_agree : zdsc m_L_agree = true := by decide +kernel
theorem ze_L_kept : zdsc m_L_kept = true := by decide +kernel
theorem ze_L_rate : zdsc m_L_rate = true := by decide +kernel
theorem ze_L_trade : zdsc m_L_trade = true := by decide +kernel
theorem ze_L_whole : zdsc m_L_whole = true := by decide +kernel
theorem ze_L_knows : zdsc m_L_knows = true := by decide +kernel
theorem ze_L_woman : zdsc m_L_woman = true := by decide +kernel
theorem ze_L_law : zdsc m_L_law = true := by decide +kernel
theorem ze_JS_charAt : zdsc m_JS_charAt = true := by decide +kernel
theorem ze_JS_coder : zdsc m_JS_coder = true := by decide +kernel
theorem ze_JS_isLatin1 : zdsc m_JS_isLatin1 = true := by decide +kernel
theorem ze_JS_length : zdsc m_JS_length = true := by decide +kernel
theorem ze_JS_checkIndex : zdsc m_JS_checkIndex = true := by decide +kernel
theorem ze_JL_charAt : zdsc m_JL_charAt = true := by decide +kernel
theorem ze_JA_copyOf : zdsc m_JA_copyOf = true := by decide +kernel
theorem ze_JA_fill : zdsc m_JA_fill = true := by decide +kernel
theorem ze_JP_checkIndex : zdsc m_JP_checkIndex = true := by decide +kernel
theorem zev_0 : ∀ M ∈ [m_N_init, m_N_feed, m_N_valley, m_N_way, m_N_task, m_N_fault, m_N_told, m_N_act, m_N_judge, m_N_heap, m_N_place, m_N_run, m_N_ends, m_N_row, m_N_left, m_N_on], zEv M := List.forall_mem_cons.mpr ⟨⟨Or.inr zk_N_init, zq_N_init, ze_N_init⟩, List.forall_mem_cons.mpr ⟨⟨Or.inr zk_N_feed, zq_N_feed, ze_N_feed⟩, List.forall_mem_cons.mpr ⟨⟨Or.inr zk_N_valley, zq_N_valley, ze_N_valley⟩, List.forall_mem_cons.mpr ⟨⟨Or.inr zk_N_way, zq_N_way, ze_N_way⟩, List.forall_mem_cons.mpr ⟨⟨Or.inr zk_N_task, zq_N_task, ze_N_task⟩, List.forall_mem_cons.mpr ⟨⟨Or.inr zk_N_fault, zq_N_fault, ze_N_fault⟩, List.forall_mem_cons.mpr ⟨⟨Or.inr zk_N_told, zq_N_told, ze_N_told⟩, List.forall_mem_cons.mpr ⟨⟨Or.inr zk_N_act, zq_N_act, ze_N_act⟩, List.forall_mem_cons.mpr ⟨⟨Or.inr zk_N_judge, zq_N_judge, ze_N_judge⟩, List.forall_mem_cons.mpr ⟨⟨Or.inr zk_N_heap, zq_N_heap, ze_N_heap⟩, List.forall_mem_cons.mpr ⟨⟨Or.inr zk_N_place, zq_N_place, ze_N_place⟩, List.forall_mem_cons.mpr ⟨⟨Or.inr zk_N_run, zq_N_run, ze_N_run⟩, List.forall_mem_cons.mpr ⟨⟨Or.inr zk_N_ends, zq_N_ends, ze_N_ends⟩, List.forall_mem_cons.mpr ⟨⟨Or.inr zk_N_row, zq_N_row, ze_N_row⟩, List.forall_mem_cons.mpr ⟨⟨Or.inr zk_N_left, zq_N_left, ze_N_left⟩, List.forall_mem_cons.mpr ⟨⟨Or.inr zk_N_on, zq_N_on, ze_N_on⟩, fun _ h => absurd h List.not_mem_nil⟩⟩⟩⟩⟩⟩⟩⟩⟩⟩⟩⟩⟩⟩⟩⟩
theorem zev_1 : ∀ M ∈ [m_N_holds, m_N_right, m_N_least, m_N_kept, m_N_find, m_N_keep, m_N_can, m_N_why, m_N_cheat, m_N_soon, m_N_hidden, m_N_places, m_N_pebbles, m_N_fewest, m_N_tell, m_N_word], zEv M := List.forall_mem_cons.mpr ⟨⟨Or.inr zk_N_holds, zq_N_holds, ze_N_holds⟩, List.forall_mem_cons.mpr ⟨⟨Or.inr zk_N_right, zq_N_right, ze_N_right⟩, List.forall_mem_cons.mpr ⟨⟨Or.inr zk_N_least, zq_N_least, ze_N_least⟩, List.forall_mem_cons.mpr ⟨⟨Or.inr zk_N_kept, zq_N_kept, ze_N_kept⟩, List.forall_mem_cons.mpr ⟨⟨Or.inr zk_N_find, zq_N_find, ze_N_find⟩, List.forall_mem_cons.mpr ⟨⟨Or.inr zk_N_keep, zq_N_keep, ze_N_keep⟩, List.forall_mem_cons.mpr ⟨⟨Or.inr zk_N_can, zq_N_can, ze_N_can⟩, List.forall_mem_cons.mpr ⟨⟨Or.inr zk_N_why, zq_N_why, ze_N_why⟩, List.forall_mem_cons.mpr ⟨⟨Or.inr zk_N_cheat, zq_N_cheat, ze_N_cheat⟩, List.forall_mem_cons.mpr ⟨⟨Or.inr zk_N_soon, zq_N_soon, ze_N_soon⟩, List.forall_mem_cons.mpr ⟨⟨Or.inr zk_N_hidden, zq_N_hidden, ze_N_hidden⟩, List.forall_mem_cons.mpr ⟨⟨Or.inr zk_N_places, zq_N_places, ze_N_places⟩, List.forall_mem_cons.mpr ⟨⟨Or.inr zk_N_pebbles, zq_N_pebbles, ze_N_pebbles⟩, List.forall_mem_cons.mpr ⟨⟨Or.inr zk_N_fewest, zq_N_fewest, ze_N_fewest⟩, List.forall_mem_cons.mpr ⟨⟨Or.inr zk_N_tell, zq_N_tell, ze_N_tell⟩, List.forall_mem_cons.mpr ⟨⟨Or.inr zk_N_word, zq_N_word, ze_N_word⟩, fun _ h => absurd h List.not_mem_nil⟩⟩⟩⟩⟩⟩⟩⟩⟩⟩⟩⟩⟩⟩⟩⟩
theorem zev_2 : ∀ M ∈ [m_N_stranger, m_N_mind, m_N_whole, m_N_knows, m_N_woman, m_N_field, m_N_share, m_N_even, m_N_envy, m_N_mark, m_N_agree, m_N_rate, m_N_trade, m_N_image, m_N_restore, m_N_status], zEv M := List.forall_mem_cons.mpr ⟨⟨Or.inr zk_N_stranger, zq_N_stranger, ze_N_stranger⟩, List.forall_mem_cons.mpr ⟨⟨Or.inr zk_N_mind, zq_N_mind, ze_N_mind⟩, List.forall_mem_cons.mpr ⟨⟨Or.inr zk_N_whole, zq_N_whole, ze_N_whole⟩, List.forall_mem_cons.mpr ⟨⟨Or.inr zk_N_knows, zq_N_knows, ze_N_knows⟩, List.forall_mem_cons.mpr ⟨⟨Or.inr zk_N_woman, zq_N_woman, ze_N_woman⟩, List.forall_mem_cons.mpr ⟨⟨Or.inr zk_N_field, zq_N_field, ze_N_field⟩, List.forall_mem_cons.mpr ⟨⟨Or.inr zk_N_share, zq_N_share, ze_N_share⟩, List.forall_mem_cons.mpr ⟨⟨Or.inr zk_N_even, zq_N_even, ze_N_even⟩, List.forall_mem_cons.mpr ⟨⟨Or.inr zk_N_envy, zq_N_envy, ze_N_envy⟩, List.forall_mem_cons.mpr ⟨⟨Or.inr zk_N_mark, zq_N_mark, ze_N_mark⟩, List.forall_mem_cons.mpr ⟨⟨Or.inr zk_N_agree, zq_N_agree, ze_N_agree⟩, List.forall_mem_cons.mpr ⟨⟨Or.inr zk_N_rate, zq_N_rate, ze_N_rate⟩, List.forall_mem_cons.mpr ⟨⟨Or.inr zk_N_trade, zq_N_trade, ze_N_trade⟩, List.forall_mem_cons.mpr ⟨⟨Or.inr zk_N_image, zq_N_image, ze_N_image⟩, List.forall_mem_cons.mpr ⟨⟨Or.inr zk_N_restore, zq_N_restore, ze_N_restore⟩, List.forall_mem_cons.mpr ⟨⟨Or.inr zk_N_status, zq_N_status, ze_N_status⟩, fun _ h => absurd h List.not_mem_nil⟩⟩⟩⟩⟩⟩⟩⟩⟩⟩⟩⟩⟩⟩⟩⟩
theorem zev_3 : ∀ M ∈ [m_N_count, m_N_isNot, m_N_isNoHeap, m_N_isNoPlace, m_N_isNoRange, m_N_isNoLength, m_N_isNoQuest, m_N_isNoParty, m_N_refuseIf, m_N_refuseElementIf, m_N_refuseBarred, m_N_theWay, m_N_theTask, m_N_adopt, m_N_flocksWithin, m_N_isMetFrom], zEv M := List.forall_mem_cons.mpr ⟨⟨Or.inr zk_N_count, zq_N_count, ze_N_count⟩, List.forall_mem_cons.mpr ⟨⟨Or.inr zk_N_isNot, zq_N_isNot, ze_N_isNot⟩, List.forall_mem_cons.mpr ⟨⟨Or.inr zk_N_isNoHeap, zq_N_isNoHeap, ze_N_isNoHeap⟩, List.forall_mem_cons.mpr ⟨⟨Or.inr zk_N_isNoPlace, zq_N_isNoPlace, ze_N_isNoPlace⟩, List.forall_mem_cons.mpr ⟨⟨Or.inr zk_N_isNoRange, zq_N_isNoRange, ze_N_isNoRange⟩, List.forall_mem_cons.mpr ⟨⟨Or.inr zk_N_isNoLength, zq_N_isNoLength, ze_N_isNoLength⟩, List.forall_mem_cons.mpr ⟨⟨Or.inr zk_N_isNoQuest, zq_N_isNoQuest, ze_N_isNoQuest⟩, List.forall_mem_cons.mpr ⟨⟨Or.inr zk_N_isNoParty, zq_N_isNoParty, ze_N_isNoParty⟩, List.forall_mem_cons.mpr ⟨⟨Or.inr zk_N_refuseIf, zq_N_refuseIf, ze_N_refuseIf⟩, List.forall_mem_cons.mpr ⟨⟨Or.inr zk_N_refuseElementIf, zq_N_refuseElementIf, ze_N_refuseElementIf⟩, List.forall_mem_cons.mpr ⟨⟨Or.inr zk_N_refuseBarred, zq_N_refuseBarred, ze_N_refuseBarred⟩, List.forall_mem_cons.mpr ⟨⟨Or.inr zk_N_theWay, zq_N_theWay, ze_N_theWay⟩, List.forall_mem_cons.mpr ⟨⟨Or.inr zk_N_theTask, zq_N_theTask, ze_N_theTask⟩, List.forall_mem_cons.mpr ⟨⟨Or.inr zk_N_adopt, zq_N_adopt, ze_N_adopt⟩, List.forall_mem_cons.mpr ⟨⟨Or.inr zk_N_flocksWithin, zq_N_flocksWithin, ze_N_flocksWithin⟩, List.forall_mem_cons.mpr ⟨⟨Or.inr zk_N_isMetFrom, zq_N_isMetFrom, ze_N_isMetFrom⟩, fun _ h => absurd h List.not_mem_nil⟩⟩⟩⟩⟩⟩⟩⟩⟩⟩⟩⟩⟩⟩⟩⟩
theorem zev_4 : ∀ M ∈ [m_N_actsWithoutWrong, m_N_isFound, m_M_thrown, m_M_may, m_M_within, m_M_init, m_M_feed, m_M_fine, m_M_wrong, m_M_here, m_M_isSmall, m_M_isDigit, m_M_word, m_M_of, m_M_pass, m_M_readNumber], zEv M := List.forall_mem_cons.mpr ⟨⟨Or.inr zk_N_actsWithoutWrong, zq_N_actsWithoutWrong, ze_N_actsWithoutWrong⟩, List.forall_mem_cons.mpr ⟨⟨Or.inr zk_N_isFound, zq_N_isFound, ze_N_isFound⟩, List.forall_mem_cons.mpr ⟨⟨Or.inr zk_M_thrown, zq_M_thrown, ze_M_thrown⟩, List.forall_mem_cons.mpr ⟨⟨Or.inr zk_M_may, zq_M_may, ze_M_may⟩, List.forall_mem_cons.mpr ⟨⟨Or.inr zk_M_within, zq_M_within, ze_M_within⟩, List.forall_mem_cons.mpr ⟨⟨Or.inr zk_M_init, zq_M_init, ze_M_init⟩, List.forall_mem_cons.mpr ⟨⟨Or.inr zk_M_feed, zq_M_feed, ze_M_feed⟩, List.forall_mem_cons.mpr ⟨⟨Or.inr zk_M_fine, zq_M_fine, ze_M_fine⟩, List.forall_mem_cons.mpr ⟨⟨Or.inr zk_M_wrong, zq_M_wrong, ze_M_wrong⟩, List.forall_mem_cons.mpr ⟨⟨Or.inr zk_M_here, zq_M_here, ze_M_here⟩, List.forall_mem_cons.mpr ⟨⟨Or.inr zk_M_isSmall, zq_M_isSmall, ze_M_isSmall⟩, List.forall_mem_cons.mpr ⟨⟨Or.inr zk_M_isDigit, zq_M_isDigit, ze_M_isDigit⟩, List.forall_mem_cons.mpr ⟨⟨Or.inr zk_M_word, zq_M_word, ze_M_word⟩, List.forall_mem_cons.mpr ⟨⟨Or.inr zk_M_of, zq_M_of, ze_M_of⟩, List.forall_mem_cons.mpr ⟨⟨Or.inr zk_M_pass, zq_M_pass, ze_M_pass⟩, List.forall_mem_cons.mpr ⟨⟨Or.inr zk_M_readNumber, zq_M_readNumber, ze_M_readNumber⟩, fun _ h => absurd h List.not_mem_nil⟩⟩⟩⟩⟩⟩⟩⟩⟩⟩⟩⟩⟩⟩⟩⟩
theorem zev_5 : ∀ M ∈ [m_M_sign, m_M_isMore, m_M_begins, m_M_result, m_M_valleyWord, m_M_valley, m_M_actWord, m_M_readAct, m_M_way, m_M_emit, m_M_opensOne, m_M_unit, m_M_product, m_M_sum, m_M_oneOf, m_M_allOf], zEv M := List.forall_mem_cons.mpr ⟨⟨Or.inr zk_M_sign, zq_M_sign, ze_M_sign⟩, List.forall_mem_cons.mpr ⟨⟨Or.inr zk_M_isMore, zq_M_isMore, ze_M_isMore⟩, List.forall_mem_cons.mpr ⟨⟨Or.inr zk_M_begins, zq_M_begins, ze_M_begins⟩, List.forall_mem_cons.mpr ⟨⟨Or.inr zk_M_result, zq_M_result, ze_M_result⟩, List.forall_mem_cons.mpr ⟨⟨Or.inr zk_M_valleyWord, zq_M_valleyWord, ze_M_valleyWord⟩, List.forall_mem_cons.mpr ⟨⟨Or.inr zk_M_valley, zq_M_valley, ze_M_valley⟩, List.forall_mem_cons.mpr ⟨⟨Or.inr zk_M_actWord, zq_M_actWord, ze_M_actWord⟩, List.forall_mem_cons.mpr ⟨⟨Or.inr zk_M_readAct, zq_M_readAct, ze_M_readAct⟩, List.forall_mem_cons.mpr ⟨⟨Or.inr zk_M_way, zq_M_way, ze_M_way⟩, List.forall_mem_cons.mpr ⟨⟨Or.inr zk_M_emit, zq_M_emit, ze_M_emit⟩, List.forall_mem_cons.mpr ⟨⟨Or.inr zk_M_opensOne, zq_M_opensOne, ze_M_opensOne⟩, List.forall_mem_cons.mpr ⟨⟨Or.inr zk_M_unit, zq_M_unit, ze_M_unit⟩, List.forall_mem_cons.mpr ⟨⟨Or.inr zk_M_product, zq_M_product, ze_M_product⟩, List.forall_mem_cons.mpr ⟨⟨Or.inr zk_M_sum, zq_M_sum, ze_M_sum⟩, List.forall_mem_cons.mpr ⟨⟨Or.inr zk_M_oneOf, zq_M_oneOf, ze_M_oneOf⟩, List.forall_mem_cons.mpr ⟨⟨Or.inr zk_M_allOf, zq_M_allOf, ze_M_allOf⟩, fun _ h => absurd h List.not_mem_nil⟩⟩⟩⟩⟩⟩⟩⟩⟩⟩⟩⟩⟩⟩⟩⟩
theorem zev_6 : ∀ M ∈ [m_M_anyOf, m_M_isBegin, m_M_task, m_M_fault, m_M_told, m_M_isWay, m_M_act, m_M_mayAct, m_M_judged, m_M_judge, m_M_heap, m_M_place, m_M_fromFlock, m_M_fromNumber, m_M_does, m_M_isThing], zEv M := List.forall_mem_cons.mpr ⟨⟨Or.inr zk_M_anyOf, zq_M_anyOf, ze_M_anyOf⟩, List.forall_mem_cons.mpr ⟨⟨Or.inr zk_M_isBegin, zq_M_isBegin, ze_M_isBegin⟩, List.forall_mem_cons.mpr ⟨⟨Or.inr zk_M_task, zq_M_task, ze_M_task⟩, List.forall_mem_cons.mpr ⟨⟨Or.inr zk_M_fault, zq_M_fault, ze_M_fault⟩, List.forall_mem_cons.mpr ⟨⟨Or.inr zk_M_told, zq_M_told, ze_M_told⟩, List.forall_mem_cons.mpr ⟨⟨Or.inr zk_M_isWay, zq_M_isWay, ze_M_isWay⟩, List.forall_mem_cons.mpr ⟨⟨Or.inr zk_M_act, zq_M_act, ze_M_act⟩, List.forall_mem_cons.mpr ⟨⟨Or.inr zk_M_mayAct, zq_M_mayAct, ze_M_mayAct⟩, List.forall_mem_cons.mpr ⟨⟨Or.inr zk_M_judged, zq_M_judged, ze_M_judged⟩, List.forall_mem_cons.mpr ⟨⟨Or.inr zk_M_judge, zq_M_judge, ze_M_judge⟩, List.forall_mem_cons.mpr ⟨⟨Or.inr zk_M_heap, zq_M_heap, ze_M_heap⟩, List.forall_mem_cons.mpr ⟨⟨Or.inr zk_M_place, zq_M_place, ze_M_place⟩, List.forall_mem_cons.mpr ⟨⟨Or.inr zk_M_fromFlock, zq_M_fromFlock, ze_M_fromFlock⟩, List.forall_mem_cons.mpr ⟨⟨Or.inr zk_M_fromNumber, zq_M_fromNumber, ze_M_fromNumber⟩, List.forall_mem_cons.mpr ⟨⟨Or.inr zk_M_does, zq_M_does, ze_M_does⟩, List.forall_mem_cons.mpr ⟨⟨Or.inr zk_M_isThing, zq_M_isThing, ze_M_isThing⟩, fun _ h => absurd h List.not_mem_nil⟩⟩⟩⟩⟩⟩⟩⟩⟩⟩⟩⟩⟩⟩⟩⟩
theorem zev_7 : ∀ M ∈ [m_M_goes, m_M_isAllowed, m_M_run, m_M_ends, m_M_row, m_M_left, m_M_on, m_M_worked, m_M_isDone, m_M_allSo, m_M_isTask, m_M_holds, m_M_goesAll, m_M_mayRight, m_M_right, m_M_least], zEv M := List.forall_mem_cons.mpr ⟨⟨Or.inr zk_M_goes, zq_M_goes, ze_M_goes⟩, List.forall_mem_cons.mpr ⟨⟨Or.inr zk_M_isAllowed, zq_M_isAllowed, ze_M_isAllowed⟩, List.forall_mem_cons.mpr ⟨⟨Or.inr zk_M_run, zq_M_run, ze_M_run⟩, List.forall_mem_cons.mpr ⟨⟨Or.inr zk_M_ends, zq_M_ends, ze_M_ends⟩, List.forall_mem_cons.mpr ⟨⟨Or.inr zk_M_row, zq_M_row, ze_M_row⟩, List.forall_mem_cons.mpr ⟨⟨Or.inr zk_M_left, zq_M_left, ze_M_left⟩, List.forall_mem_cons.mpr ⟨⟨Or.inr zk_M_on, zq_M_on, ze_M_on⟩, List.forall_mem_cons.mpr ⟨⟨Or.inr zk_M_worked, zq_M_worked, ze_M_worked⟩, List.forall_mem_cons.mpr ⟨⟨Or.inr zk_M_isDone, zq_M_isDone, ze_M_isDone⟩, List.forall_mem_cons.mpr ⟨⟨Or.inr zk_M_allSo, zq_M_allSo, ze_M_allSo⟩, List.forall_mem_cons.mpr ⟨⟨Or.inr zk_M_isTask, zq_M_isTask, ze_M_isTask⟩, List.forall_mem_cons.mpr ⟨⟨Or.inr zk_M_holds, zq_M_holds, ze_M_holds⟩, List.forall_mem_cons.mpr ⟨⟨Or.inr zk_M_goesAll, zq_M_goesAll, ze_M_goesAll⟩, List.forall_mem_cons.mpr ⟨⟨Or.inr zk_M_mayRight, zq_M_mayRight, ze_M_mayRight⟩, List.forall_mem_cons.mpr ⟨⟨Or.inr zk_M_right, zq_M_right, ze_M_right⟩, List.forall_mem_cons.mpr ⟨⟨Or.inr zk_M_least, zq_M_least, ze_M_least⟩, fun _ h => absurd h List.not_mem_nil⟩⟩⟩⟩⟩⟩⟩⟩⟩⟩⟩⟩⟩⟩⟩⟩
theorem zev_8 : ∀ M ∈ [m_M_choice, m_M_lists, m_M_lays, m_M_picksOn, m_M_finds, m_M_keepFound, m_M_mayFind, m_M_find, m_M_keep, m_M_isApart, m_M_can, m_M_why, m_M_plain, m_M_isHow, m_M_isFound, m_M_cheat], zEv M := List.forall_mem_cons.mpr ⟨⟨Or.inr zk_M_choice, zq_M_choice, ze_M_choice⟩, List.forall_mem_cons.mpr ⟨⟨Or.inr zk_M_lists, zq_M_lists, ze_M_lists⟩, List.forall_mem_cons.mpr ⟨⟨Or.inr zk_M_lays, zq_M_lays, ze_M_lays⟩, List.forall_mem_cons.mpr ⟨⟨Or.inr zk_M_picksOn, zq_M_picksOn, ze_M_picksOn⟩, List.forall_mem_cons.mpr ⟨⟨Or.inr zk_M_finds, zq_M_finds, ze_M_finds⟩, List.forall_mem_cons.mpr ⟨⟨Or.inr zk_M_keepFound, zq_M_keepFound, ze_M_keepFound⟩, List.forall_mem_cons.mpr ⟨⟨Or.inr zk_M_mayFind, zq_M_mayFind, ze_M_mayFind⟩, List.forall_mem_cons.mpr ⟨⟨Or.inr zk_M_find, zq_M_find, ze_M_find⟩, List.forall_mem_cons.mpr ⟨⟨Or.inr zk_M_keep, zq_M_keep, ze_M_keep⟩, List.forall_mem_cons.mpr ⟨⟨Or.inr zk_M_isApart, zq_M_isApart, ze_M_isApart⟩, List.forall_mem_cons.mpr ⟨⟨Or.inr zk_M_can, zq_M_can, ze_M_can⟩, List.forall_mem_cons.mpr ⟨⟨Or.inr zk_M_why, zq_M_why, ze_M_why⟩, List.forall_mem_cons.mpr ⟨⟨Or.inr zk_M_plain, zq_M_plain, ze_M_plain⟩, List.forall_mem_cons.mpr ⟨⟨Or.inr zk_M_isHow, zq_M_isHow, ze_M_isHow⟩, List.forall_mem_cons.mpr ⟨⟨Or.inr zk_M_isFound, zq_M_isFound, ze_M_isFound⟩, List.forall_mem_cons.mpr ⟨⟨Or.inr zk_M_cheat, zq_M_cheat, ze_M_cheat⟩, fun _ h => absurd h List.not_mem_nil⟩⟩⟩⟩⟩⟩⟩⟩⟩⟩⟩⟩⟩⟩⟩⟩
theorem zev_9 : ∀ M ∈ [m_M_soon, m_M_hidden, m_M_kept, m_M_isGood, m_M_rate, m_M_round, m_M_trade, m_M_follows, m_M_whole, m_M_knows, m_M_woman, m_M_digits, m_M_digitSum, m_M_isNumber, m_M_places, m_M_pebbles], zEv M := List.forall_mem_cons.mpr ⟨⟨Or.inr zk_M_soon, zq_M_soon, ze_M_soon⟩, List.forall_mem_cons.mpr ⟨⟨Or.inr zk_M_hidden, zq_M_hidden, ze_M_hidden⟩, List.forall_mem_cons.mpr ⟨⟨Or.inr zk_M_kept, zq_M_kept, ze_M_kept⟩, List.forall_mem_cons.mpr ⟨⟨Or.inr zk_M_isGood, zq_M_isGood, ze_M_isGood⟩, List.forall_mem_cons.mpr ⟨⟨Or.inr zk_M_rate, zq_M_rate, ze_M_rate⟩, List.forall_mem_cons.mpr ⟨⟨Or.inr zk_M_round, zq_M_round, ze_M_round⟩, List.forall_mem_cons.mpr ⟨⟨Or.inr zk_M_trade, zq_M_trade, ze_M_trade⟩, List.forall_mem_cons.mpr ⟨⟨Or.inr zk_M_follows, zq_M_follows, ze_M_follows⟩, List.forall_mem_cons.mpr ⟨⟨Or.inr zk_M_whole, zq_M_whole, ze_M_whole⟩, List.forall_mem_cons.mpr ⟨⟨Or.inr zk_M_knows, zq_M_knows, ze_M_knows⟩, List.forall_mem_cons.mpr ⟨⟨Or.inr zk_M_woman, zq_M_woman, ze_M_woman⟩, List.forall_mem_cons.mpr ⟨⟨Or.inr zk_M_digits, zq_M_digits, ze_M_digits⟩, List.forall_mem_cons.mpr ⟨⟨Or.inr zk_M_digitSum, zq_M_digitSum, ze_M_digitSum⟩, List.forall_mem_cons.mpr ⟨⟨Or.inr zk_M_isNumber, zq_M_isNumber, ze_M_isNumber⟩, List.forall_mem_cons.mpr ⟨⟨Or.inr zk_M_places, zq_M_places, ze_M_places⟩, List.forall_mem_cons.mpr ⟨⟨Or.inr zk_M_pebbles, zq_M_pebbles, ze_M_pebbles⟩, fun _ h => absurd h List.not_mem_nil⟩⟩⟩⟩⟩⟩⟩⟩⟩⟩⟩⟩⟩⟩⟩⟩
theorem zev_10 : ∀ M ∈ [m_M_fewest, m_M_tellBy, m_M_mayTell, m_M_tell, m_M_wordx, m_M_stranger, m_M_field, m_M_owner, m_M_thinks, m_M_envious, m_M_isSharing, m_M_mayShare, m_M_share, m_M_even, m_M_envy, m_M_mind], zEv M := List.forall_mem_cons.mpr ⟨⟨Or.inr zk_M_fewest, zq_M_fewest, ze_M_fewest⟩, List.forall_mem_cons.mpr ⟨⟨Or.inr zk_M_tellBy, zq_M_tellBy, ze_M_tellBy⟩, List.forall_mem_cons.mpr ⟨⟨Or.inr zk_M_mayTell, zq_M_mayTell, ze_M_mayTell⟩, List.forall_mem_cons.mpr ⟨⟨Or.inr zk_M_tell, zq_M_tell, ze_M_tell⟩, List.forall_mem_cons.mpr ⟨⟨Or.inr zk_M_wordx, zq_M_wordx, ze_M_wordx⟩, List.forall_mem_cons.mpr ⟨⟨Or.inr zk_M_stranger, zq_M_stranger, ze_M_stranger⟩, List.forall_mem_cons.mpr ⟨⟨Or.inr zk_M_field, zq_M_field, ze_M_field⟩, List.forall_mem_cons.mpr ⟨⟨Or.inr zk_M_owner, zq_M_owner, ze_M_owner⟩, List.forall_mem_cons.mpr ⟨⟨Or.inr zk_M_thinks, zq_M_thinks, ze_M_thinks⟩, List.forall_mem_cons.mpr ⟨⟨Or.inr zk_M_envious, zq_M_envious, ze_M_envious⟩, List.forall_mem_cons.mpr ⟨⟨Or.inr zk_M_isSharing, zq_M_isSharing, ze_M_isSharing⟩, List.forall_mem_cons.mpr ⟨⟨Or.inr zk_M_mayShare, zq_M_mayShare, ze_M_mayShare⟩, List.forall_mem_cons.mpr ⟨⟨Or.inr zk_M_share, zq_M_share, ze_M_share⟩, List.forall_mem_cons.mpr ⟨⟨Or.inr zk_M_even, zq_M_even, ze_M_even⟩, List.forall_mem_cons.mpr ⟨⟨Or.inr zk_M_envy, zq_M_envy, ze_M_envy⟩, List.forall_mem_cons.mpr ⟨⟨Or.inr zk_M_mind, zq_M_mind, ze_M_mind⟩, fun _ h => absurd h List.not_mem_nil⟩⟩⟩⟩⟩⟩⟩⟩⟩⟩⟩⟩⟩⟩⟩⟩
theorem zev_11 : ∀ M ∈ [m_M_mark, m_M_areAlike, m_M_agree, m_M_image, m_M_restore, m_M_status, m_M_count, m_Re_init, m_Re_placesFor, m_Re_pebblesOf, m_Re_mostPebbles, m_Re_telling, m_Re_fewStates, m_Re_comesAgain, m_Re_wholeNumbers, m_Re_lengthen], zEv M := List.forall_mem_cons.mpr ⟨⟨Or.inr zk_M_mark, zq_M_mark, ze_M_mark⟩, List.forall_mem_cons.mpr ⟨⟨Or.inr zk_M_areAlike, zq_M_areAlike, ze_M_areAlike⟩, List.forall_mem_cons.mpr ⟨⟨Or.inr zk_M_agree, zq_M_agree, ze_M_agree⟩, List.forall_mem_cons.mpr ⟨⟨Or.inr zk_M_image, zq_M_image, ze_M_image⟩, List.forall_mem_cons.mpr ⟨⟨Or.inr zk_M_restore, zq_M_restore, ze_M_restore⟩, List.forall_mem_cons.mpr ⟨⟨Or.inr zk_M_status, zq_M_status, ze_M_status⟩, List.forall_mem_cons.mpr ⟨⟨Or.inr zk_M_count, zq_M_count, ze_M_count⟩, List.forall_mem_cons.mpr ⟨⟨Or.inr zk_Re_init, zq_Re_init, ze_Re_init⟩, List.forall_mem_cons.mpr ⟨⟨Or.inr zk_Re_placesFor, zq_Re_placesFor, ze_Re_placesFor⟩, List.forall_mem_cons.mpr ⟨⟨Or.inr zk_Re_pebblesOf, zq_Re_pebblesOf, ze_Re_pebblesOf⟩, List.forall_mem_cons.mpr ⟨⟨Or.inr zk_Re_mostPebbles, zq_Re_mostPebbles, ze_Re_mostPebbles⟩, List.forall_mem_cons.mpr ⟨⟨Or.inr zk_Re_telling, zq_Re_telling, ze_Re_telling⟩, List.forall_mem_cons.mpr ⟨⟨Or.inr zk_Re_fewStates, zq_Re_fewStates, ze_Re_fewStates⟩, List.forall_mem_cons.mpr ⟨⟨Or.inr zk_Re_comesAgain, zq_Re_comesAgain, ze_Re_comesAgain⟩, List.forall_mem_cons.mpr ⟨⟨Or.inr zk_Re_wholeNumbers, zq_Re_wholeNumbers, ze_Re_wholeNumbers⟩, List.forall_mem_cons.mpr ⟨⟨Or.inr zk_Re_lengthen, zq_Re_lengthen, ze_Re_lengthen⟩, fun _ h => absurd h List.not_mem_nil⟩⟩⟩⟩⟩⟩⟩⟩⟩⟩⟩⟩⟩⟩⟩⟩
theorem zev_12 : ∀ M ∈ [m_Re_addEnding, m_Re_oldWoman, m_Re_commonMultiple, m_Re_leastThatLeaves, m_Re_fewestAnswers, m_Re_areAlike, m_Re_leastParting, m_Re_greater, m_Re_seekGain, m_Re_isRound, m_Re_isTraded, m_Re_gainOfThousand, m_Ru_init, m_Ru_startFrom, m_Ru_startSmall, m_Ru_begin], zEv M := List.forall_mem_cons.mpr ⟨⟨Or.inr zk_Re_addEnding, zq_Re_addEnding, ze_Re_addEnding⟩, List.forall_mem_cons.mpr ⟨⟨Or.inr zk_Re_oldWoman, zq_Re_oldWoman, ze_Re_oldWoman⟩, List.forall_mem_cons.mpr ⟨⟨Or.inr zk_Re_commonMultiple, zq_Re_commonMultiple, ze_Re_commonMultiple⟩, List.forall_mem_cons.mpr ⟨⟨Or.inr zk_Re_leastThatLeaves, zq_Re_leastThatLeaves, ze_Re_leastThatLeaves⟩, List.forall_mem_cons.mpr ⟨⟨Or.inr zk_Re_fewestAnswers, zq_Re_fewestAnswers, ze_Re_fewestAnswers⟩, List.forall_mem_cons.mpr ⟨⟨Or.inr zk_Re_areAlike, zq_Re_areAlike, ze_Re_areAlike⟩, List.forall_mem_cons.mpr ⟨⟨Or.inr zk_Re_leastParting, zq_Re_leastParting, ze_Re_leastParting⟩, List.forall_mem_cons.mpr ⟨⟨Or.inr zk_Re_greater, zq_Re_greater, ze_Re_greater⟩, List.forall_mem_cons.mpr ⟨⟨Or.inr zk_Re_seekGain, zq_Re_seekGain, ze_Re_seekGain⟩, List.forall_mem_cons.mpr ⟨⟨Or.inr zk_Re_isRound, zq_Re_isRound, ze_Re_isRound⟩, List.forall_mem_cons.mpr ⟨⟨Or.inr zk_Re_isTraded, zq_Re_isTraded, ze_Re_isTraded⟩, List.forall_mem_cons.mpr ⟨⟨Or.inr zk_Re_gainOfThousand, zq_Re_gainOfThousand, ze_Re_gainOfThousand⟩, List.forall_mem_cons.mpr ⟨⟨Or.inr zk_Ru_init, zq_Ru_init, ze_Ru_init⟩, List.forall_mem_cons.mpr ⟨⟨Or.inr zk_Ru_startFrom, zq_Ru_startFrom, ze_Ru_startFrom⟩, List.forall_mem_cons.mpr ⟨⟨Or.inr zk_Ru_startSmall, zq_Ru_startSmall, ze_Ru_startSmall⟩, List.forall_mem_cons.mpr ⟨⟨Or.inr zk_Ru_begin, zq_Ru_begin, ze_Ru_begin⟩, fun _ h => absurd h List.not_mem_nil⟩⟩⟩⟩⟩⟩⟩⟩⟩⟩⟩⟩⟩⟩⟩⟩
theorem zev_13 : ∀ M ∈ [m_Ru_flockNumber, m_Ru_follow, m_Ru_followWrong, m_Ru_keepsAt, m_Ru_isDone, m_Ru_isChanged, m_Ru_areChanged, m_Ru_moveOn, m_Ru_has, m_Ru_endBehindLast, m_Sh_init, m_Sh_divide, m_Sh_sharingsOf, m_Sh_firstEnvious, m_Sh_seekFair, m_Sh_ownTogether], zEv M := List.forall_mem_cons.mpr ⟨⟨Or.inr zk_Ru_flockNumber, zq_Ru_flockNumber, ze_Ru_flockNumber⟩, List.forall_mem_cons.mpr ⟨⟨Or.inr zk_Ru_follow, zq_Ru_follow, ze_Ru_follow⟩, List.forall_mem_cons.mpr ⟨⟨Or.inr zk_Ru_followWrong, zq_Ru_followWrong, ze_Ru_followWrong⟩, List.forall_mem_cons.mpr ⟨⟨Or.inr zk_Ru_keepsAt, zq_Ru_keepsAt, ze_Ru_keepsAt⟩, List.forall_mem_cons.mpr ⟨⟨Or.inr zk_Ru_isDone, zq_Ru_isDone, ze_Ru_isDone⟩, List.forall_mem_cons.mpr ⟨⟨Or.inr zk_Ru_isChanged, zq_Ru_isChanged, ze_Ru_isChanged⟩, List.forall_mem_cons.mpr ⟨⟨Or.inr zk_Ru_areChanged, zq_Ru_areChanged, ze_Ru_areChanged⟩, List.forall_mem_cons.mpr ⟨⟨Or.inr zk_Ru_moveOn, zq_Ru_moveOn, ze_Ru_moveOn⟩, List.forall_mem_cons.mpr ⟨⟨Or.inr zk_Ru_has, zq_Ru_has, ze_Ru_has⟩, List.forall_mem_cons.mpr ⟨⟨Or.inr zk_Ru_endBehindLast, zq_Ru_endBehindLast, ze_Ru_endBehindLast⟩, List.forall_mem_cons.mpr ⟨⟨Or.inr zk_Sh_init, zq_Sh_init, ze_Sh_init⟩, List.forall_mem_cons.mpr ⟨⟨Or.inr zk_Sh_divide, zq_Sh_divide, ze_Sh_divide⟩, List.forall_mem_cons.mpr ⟨⟨Or.inr zk_Sh_sharingsOf, zq_Sh_sharingsOf, ze_Sh_sharingsOf⟩, List.forall_mem_cons.mpr ⟨⟨Or.inr zk_Sh_firstEnvious, zq_Sh_firstEnvious, ze_Sh_firstEnvious⟩, List.forall_mem_cons.mpr ⟨⟨Or.inr zk_Sh_seekFair, zq_Sh_seekFair, ze_Sh_seekFair⟩, List.forall_mem_cons.mpr ⟨⟨Or.inr zk_Sh_ownTogether, zq_Sh_ownTogether, ze_Sh_ownTogether⟩, fun _ h => absurd h List.not_mem_nil⟩⟩⟩⟩⟩⟩⟩⟩⟩⟩⟩⟩⟩⟩⟩⟩
theorem zev_14 : ∀ M ∈ [m_Sh_leastSpread, m_Sh_spread, m_St_init, m_St_copyFrom, m_St_settle, m_St_remember, m_St_takeOver, m_Ta_init, m_Ta_add, m_Ta_begin, m_Ta_advance, m_Ta_kindOf, m_Ta_refuse, m_Ta_faultAnswer, m_Ta_isSign, m_Ta_takeSign], zEv M := List.forall_mem_cons.mpr ⟨⟨Or.inr zk_Sh_leastSpread, zq_Sh_leastSpread, ze_Sh_leastSpread⟩, List.forall_mem_cons.mpr ⟨⟨Or.inr zk_Sh_spread, zq_Sh_spread, ze_Sh_spread⟩, List.forall_mem_cons.mpr ⟨⟨Or.inr zk_St_init, zq_St_init, ze_St_init⟩, List.forall_mem_cons.mpr ⟨⟨Or.inr zk_St_copyFrom, zq_St_copyFrom, ze_St_copyFrom⟩, List.forall_mem_cons.mpr ⟨⟨Or.inr zk_St_settle, zq_St_settle, ze_St_settle⟩, List.forall_mem_cons.mpr ⟨⟨Or.inr zk_St_remember, zq_St_remember, ze_St_remember⟩, List.forall_mem_cons.mpr ⟨⟨Or.inr zk_St_takeOver, zq_St_takeOver, ze_St_takeOver⟩, List.forall_mem_cons.mpr ⟨⟨Or.inr zk_Ta_init, zq_Ta_init, ze_Ta_init⟩, List.forall_mem_cons.mpr ⟨⟨Or.inr zk_Ta_add, zq_Ta_add, ze_Ta_add⟩, List.forall_mem_cons.mpr ⟨⟨Or.inr zk_Ta_begin, zq_Ta_begin, ze_Ta_begin⟩, List.forall_mem_cons.mpr ⟨⟨Or.inr zk_Ta_advance, zq_Ta_advance, ze_Ta_advance⟩, List.forall_mem_cons.mpr ⟨⟨Or.inr zk_Ta_kindOf, zq_Ta_kindOf, ze_Ta_kindOf⟩, List.forall_mem_cons.mpr ⟨⟨Or.inr zk_Ta_refuse, zq_Ta_refuse, ze_Ta_refuse⟩, List.forall_mem_cons.mpr ⟨⟨Or.inr zk_Ta_faultAnswer, zq_Ta_faultAnswer, ze_Ta_faultAnswer⟩, List.forall_mem_cons.mpr ⟨⟨Or.inr zk_Ta_isSign, zq_Ta_isSign, ze_Ta_isSign⟩, List.forall_mem_cons.mpr ⟨⟨Or.inr zk_Ta_takeSign, zq_Ta_takeSign, ze_Ta_takeSign⟩, fun _ h => absurd h List.not_mem_nil⟩⟩⟩⟩⟩⟩⟩⟩⟩⟩⟩⟩⟩⟩⟩⟩
theorem zev_15 : ∀ M ∈ [m_Ta_signAmong, m_Ta_wordAmong, m_Ta_isWord, m_Ta_takeNumber, m_Tk_init, m_Tk_isMetBy, m_Tk_isTrueOf, m_Tk_valueOf, m_Tk_worked, m_TR_init, m_TR_made, m_TR_reads, m_TR_faultOfOneMore, m_TR_readsCondition, m_TR_awaitValue, m_TR_complete], zEv M := List.forall_mem_cons.mpr ⟨⟨Or.inr zk_Ta_signAmong, zq_Ta_signAmong, ze_Ta_signAmong⟩, List.forall_mem_cons.mpr ⟨⟨Or.inr zk_Ta_wordAmong, zq_Ta_wordAmong, ze_Ta_wordAmong⟩, List.forall_mem_cons.mpr ⟨⟨Or.inr zk_Ta_isWord, zq_Ta_isWord, ze_Ta_isWord⟩, List.forall_mem_cons.mpr ⟨⟨Or.inr zk_Ta_takeNumber, zq_Ta_takeNumber, ze_Ta_takeNumber⟩, List.forall_mem_cons.mpr ⟨⟨Or.inr zk_Tk_init, zq_Tk_init, ze_Tk_init⟩, List.forall_mem_cons.mpr ⟨⟨Or.inr zk_Tk_isMetBy, zq_Tk_isMetBy, ze_Tk_isMetBy⟩, List.forall_mem_cons.mpr ⟨⟨Or.inr zk_Tk_isTrueOf, zq_Tk_isTrueOf, ze_Tk_isTrueOf⟩, List.forall_mem_cons.mpr ⟨⟨Or.inr zk_Tk_valueOf, zq_Tk_valueOf, ze_Tk_valueOf⟩, List.forall_mem_cons.mpr ⟨⟨Or.inr zk_Tk_worked, zq_Tk_worked, ze_Tk_worked⟩, List.forall_mem_cons.mpr ⟨⟨Or.inr zk_TR_init, zq_TR_init, ze_TR_init⟩, List.forall_mem_cons.mpr ⟨⟨Or.inr zk_TR_made, zq_TR_made, ze_TR_made⟩, List.forall_mem_cons.mpr ⟨⟨Or.inr zk_TR_reads, zq_TR_reads, ze_TR_reads⟩, List.forall_mem_cons.mpr ⟨⟨Or.inr zk_TR_faultOfOneMore, zq_TR_faultOfOneMore, ze_TR_faultOfOneMore⟩, List.forall_mem_cons.mpr ⟨⟨Or.inr zk_TR_readsCondition, zq_TR_readsCondition, ze_TR_readsCondition⟩, List.forall_mem_cons.mpr ⟨⟨Or.inr zk_TR_awaitValue, zq_TR_awaitValue, ze_TR_awaitValue⟩, List.forall_mem_cons.mpr ⟨⟨Or.inr zk_TR_complete, zq_TR_complete, ze_TR_complete⟩, fun _ h => absurd h List.not_mem_nil⟩⟩⟩⟩⟩⟩⟩⟩⟩⟩⟩⟩⟩⟩⟩⟩
theorem zev_16 : ∀ M ∈ [m_TR_readsValue, m_TR_opens, m_TR_readsSign, m_TR_joins, m_TR_closes, m_TR_endsCondition, m_TR_letWait, m_TR_workOff, m_TR_rankOf, m_TR_innermostOpen, m_TR_add, m_Tr_init, m_Tr_seek, m_Tr_countRivals, m_Tr_pickAt, m_Tr_tellApart], zEv M := List.forall_mem_cons.mpr ⟨⟨Or.inr zk_TR_readsValue, zq_TR_readsValue, ze_TR_readsValue⟩, List.forall_mem_cons.mpr ⟨⟨Or.inr zk_TR_opens, zq_TR_opens, ze_TR_opens⟩, List.forall_mem_cons.mpr ⟨⟨Or.inr zk_TR_readsSign, zq_TR_readsSign, ze_TR_readsSign⟩, List.forall_mem_cons.mpr ⟨⟨Or.inr zk_TR_joins, zq_TR_joins, ze_TR_joins⟩, List.forall_mem_cons.mpr ⟨⟨Or.inr zk_TR_closes, zq_TR_closes, ze_TR_closes⟩, List.forall_mem_cons.mpr ⟨⟨Or.inr zk_TR_endsCondition, zq_TR_endsCondition, ze_TR_endsCondition⟩, List.forall_mem_cons.mpr ⟨⟨Or.inr zk_TR_letWait, zq_TR_letWait, ze_TR_letWait⟩, List.forall_mem_cons.mpr ⟨⟨Or.inr zk_TR_workOff, zq_TR_workOff, ze_TR_workOff⟩, List.forall_mem_cons.mpr ⟨⟨Or.inr zk_TR_rankOf, zq_TR_rankOf, ze_TR_rankOf⟩, List.forall_mem_cons.mpr ⟨⟨Or.inr zk_TR_innermostOpen, zq_TR_innermostOpen, ze_TR_innermostOpen⟩, List.forall_mem_cons.mpr ⟨⟨Or.inr zk_TR_add, zq_TR_add, ze_TR_add⟩, List.forall_mem_cons.mpr ⟨⟨Or.inr zk_Tr_init, zq_Tr_init, ze_Tr_init⟩, List.forall_mem_cons.mpr ⟨⟨Or.inr zk_Tr_seek, zq_Tr_seek, ze_Tr_seek⟩, List.forall_mem_cons.mpr ⟨⟨Or.inr zk_Tr_countRivals, zq_Tr_countRivals, ze_Tr_countRivals⟩, List.forall_mem_cons.mpr ⟨⟨Or.inr zk_Tr_pickAt, zq_Tr_pickAt, ze_Tr_pickAt⟩, List.forall_mem_cons.mpr ⟨⟨Or.inr zk_Tr_tellApart, zq_Tr_tellApart, ze_Tr_tellApart⟩, fun _ h => absurd h List.not_mem_nil⟩⟩⟩⟩⟩⟩⟩⟩⟩⟩⟩⟩⟩⟩⟩⟩
theorem zev_17 : ∀ M ∈ [m_Tr_endOf, m_Tr_doesAll, m_Tr_waysOfLength, m_Tr_begin, m_Tr_addChanges, m_Tr_addPairs, m_Tr_addJumps, m_Tr_add, m_Tr_pick, m_Tr_advance, m_VR_init, m_VR_reads, m_VR_readsClause, m_Wa_init, m_Wa_add, m_Wa_change], zEv M := List.forall_mem_cons.mpr ⟨⟨Or.inr zk_Tr_endOf, zq_Tr_endOf, ze_Tr_endOf⟩, List.forall_mem_cons.mpr ⟨⟨Or.inr zk_Tr_doesAll, zq_Tr_doesAll, ze_Tr_doesAll⟩, List.forall_mem_cons.mpr ⟨⟨Or.inr zk_Tr_waysOfLength, zq_Tr_waysOfLength, ze_Tr_waysOfLength⟩, List.forall_mem_cons.mpr ⟨⟨Or.inr zk_Tr_begin, zq_Tr_begin, ze_Tr_begin⟩, List.forall_mem_cons.mpr ⟨⟨Or.inr zk_Tr_addChanges, zq_Tr_addChanges, ze_Tr_addChanges⟩, List.forall_mem_cons.mpr ⟨⟨Or.inr zk_Tr_addPairs, zq_Tr_addPairs, ze_Tr_addPairs⟩, List.forall_mem_cons.mpr ⟨⟨Or.inr zk_Tr_addJumps, zq_Tr_addJumps, ze_Tr_addJumps⟩, List.forall_mem_cons.mpr ⟨⟨Or.inr zk_Tr_add, zq_Tr_add, ze_Tr_add⟩, List.forall_mem_cons.mpr ⟨⟨Or.inr zk_Tr_pick, zq_Tr_pick, ze_Tr_pick⟩, List.forall_mem_cons.mpr ⟨⟨Or.inr zk_Tr_advance, zq_Tr_advance, ze_Tr_advance⟩, List.forall_mem_cons.mpr ⟨⟨Or.inr zk_VR_init, zq_VR_init, ze_VR_init⟩, List.forall_mem_cons.mpr ⟨⟨Or.inr zk_VR_reads, zq_VR_reads, ze_VR_reads⟩, List.forall_mem_cons.mpr ⟨⟨Or.inr zk_VR_readsClause, zq_VR_readsClause, ze_VR_readsClause⟩, List.forall_mem_cons.mpr ⟨⟨Or.inr zk_Wa_init, zq_Wa_init, ze_Wa_init⟩, List.forall_mem_cons.mpr ⟨⟨Or.inr zk_Wa_add, zq_Wa_add, ze_Wa_add⟩, List.forall_mem_cons.mpr ⟨⟨Or.inr zk_Wa_change, zq_Wa_change, ze_Wa_change⟩, fun _ h => absurd h List.not_mem_nil⟩⟩⟩⟩⟩⟩⟩⟩⟩⟩⟩⟩⟩⟩⟩⟩
theorem zev_18 : ∀ M ∈ [m_Wa_copyFrom, m_Wa_firstBarred, m_Wa_allows, m_WR_init, m_WR_reads, m_WR_readsNumbers, m_L_valley, m_L_way, m_L_task, m_L_told, m_L_act, m_L_judge, m_L_heap, m_L_place, m_L_run, m_L_ends], zEv M := List.forall_mem_cons.mpr ⟨⟨Or.inr zk_Wa_copyFrom, zq_Wa_copyFrom, ze_Wa_copyFrom⟩, List.forall_mem_cons.mpr ⟨⟨Or.inr zk_Wa_firstBarred, zq_Wa_firstBarred, ze_Wa_firstBarred⟩, List.forall_mem_cons.mpr ⟨⟨Or.inr zk_Wa_allows, zq_Wa_allows, ze_Wa_allows⟩, List.forall_mem_cons.mpr ⟨⟨Or.inr zk_WR_init, zq_WR_init, ze_WR_init⟩, List.forall_mem_cons.mpr ⟨⟨Or.inr zk_WR_reads, zq_WR_reads, ze_WR_reads⟩, List.forall_mem_cons.mpr ⟨⟨Or.inr zk_WR_readsNumbers, zq_WR_readsNumbers, ze_WR_readsNumbers⟩, List.forall_mem_cons.mpr ⟨⟨Or.inr zk_L_valley, zq_L_valley, ze_L_valley⟩, List.forall_mem_cons.mpr ⟨⟨Or.inr zk_L_way, zq_L_way, ze_L_way⟩, List.forall_mem_cons.mpr ⟨⟨Or.inr zk_L_task, zq_L_task, ze_L_task⟩, List.forall_mem_cons.mpr ⟨⟨Or.inr zk_L_told, zq_L_told, ze_L_told⟩, List.forall_mem_cons.mpr ⟨⟨Or.inr zk_L_act, zq_L_act, ze_L_act⟩, List.forall_mem_cons.mpr ⟨⟨Or.inr zk_L_judge, zq_L_judge, ze_L_judge⟩, List.forall_mem_cons.mpr ⟨⟨Or.inr zk_L_heap, zq_L_heap, ze_L_heap⟩, List.forall_mem_cons.mpr ⟨⟨Or.inr zk_L_place, zq_L_place, ze_L_place⟩, List.forall_mem_cons.mpr ⟨⟨Or.inr zk_L_run, zq_L_run, ze_L_run⟩, List.forall_mem_cons.mpr ⟨⟨Or.inr zk_L_ends, zq_L_ends, ze_L_ends⟩, fun _ h => absurd h List.not_mem_nil⟩⟩⟩⟩⟩⟩⟩⟩⟩⟩⟩⟩⟩⟩⟩⟩
theorem zev_19 : ∀ M ∈ [m_L_row, m_L_left, m_L_holds, m_L_right, m_L_least, m_L_find, m_L_keep, m_L_can, m_L_why, m_L_cheat, m_L_soon, m_L_hidden, m_L_places, m_L_pebbles, m_L_fewest, m_L_tell], zEv M := List.forall_mem_cons.mpr ⟨⟨Or.inr zk_L_row, zq_L_row, ze_L_row⟩, List.forall_mem_cons.mpr ⟨⟨Or.inr zk_L_left, zq_L_left, ze_L_left⟩, List.forall_mem_cons.mpr ⟨⟨Or.inr zk_L_holds, zq_L_holds, ze_L_holds⟩, List.forall_mem_cons.mpr ⟨⟨Or.inr zk_L_right, zq_L_right, ze_L_right⟩, List.forall_mem_cons.mpr ⟨⟨Or.inr zk_L_least, zq_L_least, ze_L_least⟩, List.forall_mem_cons.mpr ⟨⟨Or.inr zk_L_find, zq_L_find, ze_L_find⟩, List.forall_mem_cons.mpr ⟨⟨Or.inr zk_L_keep, zq_L_keep, ze_L_keep⟩, List.forall_mem_cons.mpr ⟨⟨Or.inr zk_L_can, zq_L_can, ze_L_can⟩, List.forall_mem_cons.mpr ⟨⟨Or.inr zk_L_why, zq_L_why, ze_L_why⟩, List.forall_mem_cons.mpr ⟨⟨Or.inr zk_L_cheat, zq_L_cheat, ze_L_cheat⟩, List.forall_mem_cons.mpr ⟨⟨Or.inr zk_L_soon, zq_L_soon, ze_L_soon⟩, List.forall_mem_cons.mpr ⟨⟨Or.inr zk_L_hidden, zq_L_hidden, ze_L_hidden⟩, List.forall_mem_cons.mpr ⟨⟨Or.inr zk_L_places, zq_L_places, ze_L_places⟩, List.forall_mem_cons.mpr ⟨⟨Or.inr zk_L_pebbles, zq_L_pebbles, ze_L_pebbles⟩, List.forall_mem_cons.mpr ⟨⟨Or.inr zk_L_fewest, zq_L_fewest, ze_L_fewest⟩, List.forall_mem_cons.mpr ⟨⟨Or.inr zk_L_tell, zq_L_tell, ze_L_tell⟩, fun _ h => absurd h List.not_mem_nil⟩⟩⟩⟩⟩⟩⟩⟩⟩⟩⟩⟩⟩⟩⟩⟩
theorem zev_20 : ∀ M ∈ [m_L_word, m_L_stranger, m_L_field, m_L_share, m_L_even, m_L_envy, m_L_mind, m_L_mark, m_L_agree, m_L_kept, m_L_rate, m_L_trade, m_L_whole, m_L_knows, m_L_woman, m_L_law], zEv M := List.forall_mem_cons.mpr ⟨⟨Or.inr zk_L_word, zq_L_word, ze_L_word⟩, List.forall_mem_cons.mpr ⟨⟨Or.inr zk_L_stranger, zq_L_stranger, ze_L_stranger⟩, List.forall_mem_cons.mpr ⟨⟨Or.inr zk_L_field, zq_L_field, ze_L_field⟩, List.forall_mem_cons.mpr ⟨⟨Or.inr zk_L_share, zq_L_share, ze_L_share⟩, List.forall_mem_cons.mpr ⟨⟨Or.inr zk_L_even, zq_L_even, ze_L_even⟩, List.forall_mem_cons.mpr ⟨⟨Or.inr zk_L_envy, zq_L_envy, ze_L_envy⟩, List.forall_mem_cons.mpr ⟨⟨Or.inr zk_L_mind, zq_L_mind, ze_L_mind⟩, List.forall_mem_cons.mpr ⟨⟨Or.inr zk_L_mark, zq_L_mark, ze_L_mark⟩, List.forall_mem_cons.mpr ⟨⟨Or.inr zk_L_agree, zq_L_agree, ze_L_agree⟩, List.forall_mem_cons.mpr ⟨⟨Or.inr zk_L_kept, zq_L_kept, ze_L_kept⟩, List.forall_mem_cons.mpr ⟨⟨Or.inr zk_L_rate, zq_L_rate, ze_L_rate⟩, List.forall_mem_cons.mpr ⟨⟨Or.inr zk_L_trade, zq_L_trade, ze_L_trade⟩, List.forall_mem_cons.mpr ⟨⟨Or.inr zk_L_whole, zq_L_whole, ze_L_whole⟩, List.forall_mem_cons.mpr ⟨⟨Or.inr zk_L_knows, zq_L_knows, ze_L_knows⟩, List.forall_mem_cons.mpr ⟨⟨Or.inr zk_L_woman, zq_L_woman, ze_L_woman⟩, List.forall_mem_cons.mpr ⟨⟨Or.inl rfl, zq_L_law, ze_L_law⟩, fun _ h => absurd h List.not_mem_nil⟩⟩⟩⟩⟩⟩⟩⟩⟩⟩⟩⟩⟩⟩⟩⟩
theorem zev_21 : ∀ M ∈ [m_JS_charAt, m_JS_coder, m_JS_isLatin1, m_JS_length, m_JS_checkIndex, m_JL_charAt, m_JA_copyOf, m_JA_fill, m_JP_checkIndex], zEv M := List.forall_mem_cons.mpr ⟨⟨Or.inr zk_JS_charAt, zq_JS_charAt, ze_JS_charAt⟩, List.forall_mem_cons.mpr ⟨⟨Or.inr zk_JS_coder, zq_JS_coder, ze_JS_coder⟩, List.forall_mem_cons.mpr ⟨⟨Or.inr zk_JS_isLatin1, zq_JS_isLatin1, ze_JS_isLatin1⟩, List.forall_mem_cons.mpr ⟨⟨Or.inr zk_JS_length, zq_JS_length, ze_JS_length⟩, List.forall_mem_cons.mpr ⟨⟨Or.inr zk_JS_checkIndex, zq_JS_checkIndex, ze_JS_checkIndex⟩, List.forall_mem_cons.mpr ⟨⟨Or.inr zk_JL_charAt, zq_JL_charAt, ze_JL_charAt⟩, List.forall_mem_cons.mpr ⟨⟨Or.inr zk_JA_copyOf, zq_JA_copyOf, ze_JA_copyOf⟩, List.forall_mem_cons.mpr ⟨⟨Or.inr zk_JA_fill, zq_JA_fill, ze_JA_fill⟩, List.forall_mem_cons.mpr ⟨⟨Or.inr zk_JP_checkIndex, zq_JP_checkIndex, ze_JP_checkIndex⟩, fun _ h => absurd h List.not_mem_nil⟩⟩⟩⟩⟩⟩⟩⟩⟩
theorem zev_all : ∀ l ∈ zPl, ∀ M ∈ l, zEv M := List.forall_mem_cons.mpr ⟨zev_0, List.forall_mem_cons.mpr ⟨zev_1, List.forall_mem_cons.mpr ⟨zev_2, List.forall_mem_cons.mpr ⟨zev_3, List.forall_mem_cons.mpr ⟨zev_4, List.forall_mem_cons.mpr ⟨zev_5, List.forall_mem_cons.mpr ⟨zev_6, List.forall_mem_cons.mpr ⟨zev_7, List.forall_mem_cons.mpr ⟨zev_8, List.forall_mem_cons.mpr ⟨zev_9, List.forall_mem_cons.mpr ⟨zev_10, List.forall_mem_cons.mpr ⟨zev_11, List.forall_mem_cons.mpr ⟨zev_12, List.forall_mem_cons.mpr ⟨zev_13, List.forall_mem_cons.mpr ⟨zev_14, List.forall_mem_cons.mpr ⟨zev_15, List.forall_mem_cons.mpr ⟨zev_16, List.forall_mem_cons.mpr ⟨zev_17, List.forall_mem_cons.mpr ⟨zev_18, List.forall_mem_cons.mpr ⟨zev_19, List.forall_mem_cons.mpr ⟨zev_20, List.forall_mem_cons.mpr ⟨zev_21, fun _ h => absurd h List.not_mem_nil⟩⟩⟩⟩⟩⟩⟩⟩⟩⟩⟩⟩⟩⟩⟩⟩⟩⟩⟩⟩⟩⟩
theorem zP_ev (k : Nat) : zEv (zP k) := by
  unfold zP
  split
  · rename_i l hl
    have h := zev_all l (List.mem_of_getElem? hl)
    rw [List.getD_eq_getElem?_getD]
    cases hk : l[k % 16]? with
    | none => exact ⟨Or.inl rfl, zq_L_law, ze_L_law⟩
    | some M => exact h M (List.mem_of_getElem? hk)
  · exact ⟨Or.inl rfl, zq_L_law, ze_L_law⟩
