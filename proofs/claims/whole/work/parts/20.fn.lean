abbrev MX0_forget : mm_M := (yX0_forget, cX0_forget, 2, none, [])
abbrev MX4_fanAt : mm_M := (yX4_fanAt, cX4_fanAt, 2, (some (.object "SootQueen$Fan")), [])
abbrev MX3_copyFrom : mm_M := (yX3_copyFrom, cX3_copyFrom, 3, none, [])
abbrev MX3_clear : mm_M := (yX3_clear, cX3_clear, 1, none, [])
abbrev MX3_card : mm_M := (yX3_card, cX3_card, 2, (some .int), [])
abbrev MX0_spread : mm_M := (yX0_spread, cX0_spread, 5, none, [])
abbrev MX5_at : mm_M := (yX5_at, cX5_at, 3, (some (.object "SootQueen$Draw")), [])
abbrev MX0_fanOf : mm_M := (yX0_fanOf, cX0_fanOf, 3, (some (.object "SootQueen$Fan")), [])
abbrev MX3_placeOf : mm_M := (yX3_placeOf, cX3_placeOf, 3, (some .int), [])
abbrev MX3_takeOut : mm_M := (yX3_takeOut, cX3_takeOut, 3, none, [])
abbrev MX3_putIn : mm_M := (yX3_putIn, cX3_putIn, 4, none, [])
abbrev MX0_wentSo : mm_M := (yX0_wentSo, cX0_wentSo, 7, (some .boolean), [])
abbrev MX0_weighArrangement : mm_M := (yX0_weighArrangement, cX0_weighArrangement, 3, none, [])
abbrev MX0_tryCard : mm_M := (yX0_tryCard, cX0_tryCard, 5, (some .boolean), [])
abbrev MX0_tryAt : mm_M := (yX0_tryAt, cX0_tryAt, 4, (some .boolean), [])
abbrev MX0_weigh : mm_M := (yX0_weigh, cX0_weigh, 6, (some .boolean), [])
abbrev MX0_holding : mm_M := (yX0_holding, cX0_holding, 2, (some .int), [])
abbrev MX0_queenAt : mm_M := (yX0_queenAt, cX0_queenAt, 2, (some .int), [])
abbrev MX9_signAt : mm_M := (yX9_signAt, cX9_signAt, 2, (some .int), [])
abbrev MX9_isLetter : mm_M := (yX9_isLetter, cX9_isLetter, 1, (some .boolean), [])
abbrev MX9_isDigit : mm_M := (yX9_isDigit, cX9_isDigit, 1, (some .boolean), [])
abbrev MX9_readNumber : mm_M := (yX9_readNumber, cX9_readNumber, 1, none, [])
abbrev MX9_isSign : mm_M := (yX9_isSign, cX9_isSign, 1, (some .boolean), [])
abbrev MX9_next : mm_M := (yX9_next, cX9_next, 1, none, [])
abbrev MX1_waitingAt : mm_M := (yX1_waitingAt, cX1_waitingAt, 2, (some .int), [])
abbrev MX1_level : mm_M := (yX1_level, cX1_level, 1, (some .int), [])
abbrev MX10_emit : mm_M := (yX10_emit, cX10_emit, 2, none, [])
abbrev MX1_settle : mm_M := (yX1_settle, cX1_settle, 3, none, [])
abbrev MX10_setRule : mm_M := (yX10_setRule, cX10_setRule, 3, none, [])
abbrev MX1_push : mm_M := (yX1_push, cX1_push, 2, none, [])
abbrev MX9_isWord : mm_M := (yX9_isWord, cX9_isWord, 4, (some .boolean), [])
abbrev MX1_pushNot : mm_M := (yX1_pushNot, cX1_pushNot, 2, (some .int), [])
abbrev MX1_valueCode : mm_M := (yX1_valueCode, cX1_valueCode, 1, (some .int), [])
abbrev MX9_isTooLong : mm_M := (yX9_isTooLong, cX9_isTooLong, 1, (some .boolean), [])
abbrev MX1_part : mm_M := (yX1_part, cX1_part, 2, (some .int), [])
abbrev MX1_operatorCode : mm_M := (yX1_operatorCode, cX1_operatorCode, 1, (some .int), [])
abbrev MX1_isTest : mm_M := (yX1_isTest, cX1_isTest, 1, (some .boolean), [])
abbrev MX1_behindPart : mm_M := (yX1_behindPart, cX1_behindPart, 2, (some .int), [])
abbrev MX1_compile : mm_M := (yX1_compile, cX1_compile, 6, (some .int), [])
abbrev MX2_copyFrom : mm_M := (yX2_copyFrom, cX2_copyFrom, 2, none, [])
abbrev MX3_hasPlace : mm_M := (yX3_hasPlace, cX3_hasPlace, 2, (some .boolean), [])
abbrev MX4_open : mm_M := (yX4_open, cX4_open, 5, none, [])
abbrev MX4_isEmpty : mm_M := (yX4_isEmpty, cX4_isEmpty, 2, (some .boolean), [])
abbrev MX4_beside : mm_M := (yX4_beside, cX4_beside, 5, (some .int), [])
abbrev MX4_start : mm_M := (yX4_start, cX4_start, 2, none, [])
abbrev MX4_takeTold : mm_M := (yX4_takeTold, cX4_takeTold, 2, none, [])
abbrev MJ9_min_7cf53 : mm_M := (yJ9_min_7cf53, cJ9_min_7cf53, 2, (some .int), [])
abbrev MX4_drawOf : mm_M := (yX4_drawOf, cX4_drawOf, 2, (some .int), [])
abbrev MX4_dealTo : mm_M := (yX4_dealTo, cX4_dealTo, 4, none, [])
abbrev MX4_deal : mm_M := (yX4_deal, cX4_deal, 6, none, [])
abbrev MX4_sitDown : mm_M := (yX4_sitDown, cX4_sitDown, 4, none, [])
abbrev MX4_copyFrom : mm_M := (yX4_copyFrom, cX4_copyFrom, 3, none, [])
abbrev MX4_sitterAt : mm_M := (yX4_sitterAt, cX4_sitterAt, 2, (some .int), [])
abbrev MX4_lastOf : mm_M := (yX4_lastOf, cX4_lastOf, 2, (some .int), [])
abbrev MX4_setLast : mm_M := (yX4_setLast, cX4_setLast, 3, none, [])
abbrev MX4_source : mm_M := (yX4_source, cX4_source, 2, (some .int), [])
abbrev MX4_over : mm_M := (yX4_over, cX4_over, 3, (some .boolean), [])
abbrev MX4_queenHolder : mm_M := (yX4_queenHolder, cX4_queenHolder, 2, (some .int), [])
abbrev MX4_loser : mm_M := (yX4_loser, cX4_loser, 1, (some .int), [])
abbrev MX4_see : mm_M := (yX4_see, cX4_see, 4, none, [])
abbrev MX10_hasRule : mm_M := (yX10_hasRule, cX10_hasRule, 2, (some .boolean), [])
abbrev MX10_seenAs : mm_M := (yX10_seenAs, cX10_seenAs, 3, (some .int), [])
abbrev MX10_done : mm_M := (yX10_done, cX10_done, 3, (some .int), [])
abbrev MX10_answer : mm_M := (yX10_answer, cX10_answer, 8, (some .int), [])
abbrev MJ9_floorMod_7cf53 : mm_M := (yJ9_floorMod_7cf53, cJ9_floorMod_7cf53, 3, (some .int), [])
abbrev MX4_rulePlace : mm_M := (yX4_rulePlace, cX4_rulePlace, 5, (some .int), [])
abbrev MX4_placeNow : mm_M := (yX4_placeNow, cX4_placeNow, 1, (some .int), [])
abbrev MX4_holdPlace : mm_M := (yX4_holdPlace, cX4_holdPlace, 6, (some .int), [])
abbrev MX4_step : mm_M := (yX4_step, cX4_step, 6, none, [])
abbrev MX4_takeBack : mm_M := (yX4_takeBack, cX4_takeBack, 3, none, [])
abbrev MX5_fresh : mm_M := (yX5_fresh, cX5_fresh, 1, (some (.object "SootQueen$Draw")), [])
abbrev MX5_dropLast : mm_M := (yX5_dropLast, cX5_dropLast, 1, none, [])
abbrev MX5_clear : mm_M := (yX5_clear, cX5_clear, 1, none, [])
abbrev MX5_copyFrom : mm_M := (yX5_copyFrom, cX5_copyFrom, 3, none, [])
abbrev MX6_spreadFrom : mm_M := (yX6_spreadFrom, cX6_spreadFrom, 10, (some .boolean), [])
abbrev MX6_spread : mm_M := (yX6_spread, cX6_spread, 5, (some .boolean), [])
abbrev MX6_begin : mm_M := (yX6_begin, cX6_begin, 2, none, [])
abbrev MJ9_max_7cf53 : mm_M := (yJ9_max_7cf53, cJ9_max_7cf53, 2, (some .int), [])
abbrev MX7_noteQueen : mm_M := (yX7_noteQueen, cX7_noteQueen, 2, none, [])
abbrev MX7_noteOut : mm_M := (yX7_noteOut, cX7_noteOut, 3, none, [])
abbrev MX7_watch : mm_M := (yX7_watch, cX7_watch, 3, none, [])
abbrev MX6_playOut : mm_M := (yX6_playOut, cX6_playOut, 3, (some .int), [])
abbrev MX6_orderAsNumber : mm_M := (yX6_orderAsNumber, cX6_orderAsNumber, 4, (some .int), [])
abbrev MX6_swap : mm_M := (yX6_swap, cX6_swap, 4, none, [])
abbrev MX6_nextOrder : mm_M := (yX6_nextOrder, cX6_nextOrder, 6, (some .boolean), [])
abbrev MX6_trySeats : mm_M := (yX6_trySeats, cX6_trySeats, 7, none, [])
abbrev MX6_losses : mm_M := (yX6_losses, cX6_losses, 2, (some .int), [])
abbrev MX6_mostByLeast : mm_M := (yX6_mostByLeast, cX6_mostByLeast, 5, (some .int), [])
abbrev MX7_behind : mm_M := (yX7_behind, cX7_behind, 3, (some .int), [])
abbrev MX7_outBehind : mm_M := (yX7_outBehind, cX7_outBehind, 2, (some .int), [])
abbrev MX10_clear : mm_M := (yX10_clear, cX10_clear, 2, none, [])
abbrev MX8_forget : mm_M := (yX8_forget, cX8_forget, 2, none, [])
abbrev MX9_open : mm_M := (yX9_open, cX9_open, 3, none, [])
abbrev MX8_lineKind : mm_M := (yX8_lineKind, cX8_lineKind, 1, (some .int), [])
abbrev MX8_isTold : mm_M := (yX8_isTold, cX8_isTold, 4, (some .boolean), [])
abbrev MX8_numberFault : mm_M := (yX8_numberFault, cX8_numberFault, 4, (some .int), [])
abbrev MX8_endFault : mm_M := (yX8_endFault, cX8_endFault, 1, (some .int), [])
abbrev MX8_numberLine : mm_M := (yX8_numberLine, cX8_numberLine, 5, (some .int), [])
abbrev MX8_cardFault : mm_M := (yX8_cardFault, cX8_cardFault, 5, (some .int), [])
abbrev MX8_cards : mm_M := (yX8_cards, cX8_cards, 5, (some .int), [])
abbrev MX10_setWeight : mm_M := (yX10_setWeight, cX10_setWeight, 5, none, [])
abbrev MX8_weights : mm_M := (yX8_weights, cX8_weights, 4, (some .int), [])
abbrev MX8_personLine : mm_M := (yX8_personLine, cX8_personLine, 4, (some .int), [])
abbrev MX8_allCardsTold : mm_M := (yX8_allCardsTold, cX8_allCardsTold, 2, (some .boolean), [])
abbrev MX8_read : mm_M := (yX8_read, cX8_read, 7, (some .int), [])
abbrev MX10_weight : mm_M := (yX10_weight, cX10_weight, 4, (some .int), [])
abbrev MX11_append : mm_M := (yX11_append, cX11_append, 3, none, [])
abbrev MX11_feed : mm_M := (yX11_feed, cX11_feed, 6, (some .int), [])
abbrev MX11_fault : mm_M := (yX11_fault, cX11_fault, 1, (some .int), [])
abbrev MX11_draw : mm_M := (yX11_draw, cX11_draw, 3, (some .int), [])
abbrev MX11_undo : mm_M := (yX11_undo, cX11_undo, 1, (some .int), [])
abbrev MX11_image : mm_M := (yX11_image, cX11_image, 1, none, [])
abbrev MX11_restore : mm_M := (yX11_restore, cX11_restore, 1, (some .boolean), [])
abbrev MX11_lay : mm_M := (yX11_lay, cX11_lay, 1, none, [])
abbrev MX11_isPerson : mm_M := (yX11_isPerson, cX11_isPerson, 2, (some .boolean), [])
abbrev MX11_playFromNow : mm_M := (yX11_playFromNow, cX11_playFromNow, 1, none, [])
abbrev MX11_loserIf : mm_M := (yX11_loserIf, cX11_loserIf, 2, (some .int), [])
abbrev MX11_believe : mm_M := (yX11_believe, cX11_believe, 3, (some .boolean), [])
abbrev MX11_drawnAt : mm_M := (yX11_drawnAt, cX11_drawnAt, 6, (some .int), [])
abbrev MX11_favourite : mm_M := (yX11_favourite, cX11_favourite, 6, (some .int), [])
abbrev MX11_lowest : mm_M := (yX11_lowest, cX11_lowest, 12, (some .long), [])
abbrev MX11_twoWithout : mm_M := (yX11_twoWithout, cX11_twoWithout, 8, (some .long), [])
abbrev MX11_twoWithQueen : mm_M := (yX11_twoWithQueen, cX11_twoWithQueen, 4, (some .long), [])
abbrev MX12_thrown : mm_M := (yX12_thrown, cX12_thrown, 1, (some .int), [])
abbrev MX12_right : mm_M := (yX12_right, cX12_right, 3, (some .boolean), [])
abbrev MX12_within : mm_M := (yX12_within, cX12_within, 3, (some .boolean), [])
abbrev MX12_copies : mm_M := (yX12_copies, cX12_copies, 4, none, [])
abbrev MX12_lays : mm_M := (yX12_lays, cX12_lays, 3, none, [])
abbrev MX12_feed : mm_M := (yX12_feed, cX12_feed, 6, (some .int), [])
abbrev MX12_byteAt : mm_M := (yX12_byteAt, cX12_byteAt, 2, (some .int), [])
abbrev MX12_isLetter : mm_M := (yX12_isLetter, cX12_isLetter, 1, (some .boolean), [])
abbrev MX12_isDigit : mm_M := (yX12_isDigit, cX12_isDigit, 1, (some .boolean), [])
abbrev MX12_goes : mm_M := (yX12_goes, cX12_goes, 2, none, [])
abbrev MX12_spelled : mm_M := (yX12_spelled, cX12_spelled, 8, (some .long), [])
abbrev MX12_letters : mm_M := (yX12_letters, cX12_letters, 1, (some .long), [])
abbrev MX12_knownWord : mm_M := (yX12_knownWord, cX12_knownWord, 2, (some .int), [])
abbrev MX12_wrong : mm_M := (yX12_wrong, cX12_wrong, 2, none, [])
abbrev MX12_isGood : mm_M := (yX12_isGood, cX12_isGood, 1, (some .boolean), [])
abbrev MX12_isSign : mm_M := (yX12_isSign, cX12_isSign, 2, (some .boolean), [])
abbrev MX12_need : mm_M := (yX12_need, cX12_need, 2, none, [])
abbrev MX12_number : mm_M := (yX12_number, cX12_number, 4, (some .int), [])
abbrev MX12_puts : mm_M := (yX12_puts, cX12_puts, 2, none, [])
abbrev MX12_isOpen : mm_M := (yX12_isOpen, cX12_isOpen, 1, (some .boolean), [])
abbrev MX12_strength : mm_M := (yX12_strength, cX12_strength, 1, (some .int), [])
abbrev MX12_drops : mm_M := (yX12_drops, cX12_drops, 2, none, [])
abbrev MX12_waitsFor : mm_M := (yX12_waitsFor, cX12_waitsFor, 2, none, [])
abbrev MX12_part : mm_M := (yX12_part, cX12_part, 2, none, [])
abbrev MX12_deeper : mm_M := (yX12_deeper, cX12_deeper, 1, none, [])
abbrev MX12_operand : mm_M := (yX12_operand, cX12_operand, 5, none, [])
abbrev MX12_isOpened : mm_M := (yX12_isOpened, cX12_isOpened, 2, (some .boolean), [])
abbrev MX12_closes : mm_M := (yX12_closes, cX12_closes, 1, none, [])
abbrev MX12_expression : mm_M := (yX12_expression, cX12_expression, 3, none, [])
abbrev MX12_personHere : mm_M := (yX12_personHere, cX12_personHere, 3, (some .int), [])
abbrev MX12_once : mm_M := (yX12_once, cX12_once, 2, none, [])
abbrev MX12_readsFan : mm_M := (yX12_readsFan, cX12_readsFan, 8, none, [])
abbrev MX12_line : mm_M := (yX12_line, cX12_line, 4, none, [])
abbrev MX12_clears : mm_M := (yX12_clears, cX12_clears, 3, none, [])
abbrev MX12_size : mm_M := (yX12_size, cX12_size, 2, (some .int), [])
abbrev MX12_card : mm_M := (yX12_card, cX12_card, 3, (some .int), [])
abbrev MX12_inserts : mm_M := (yX12_inserts, cX12_inserts, 5, none, [])
abbrev MX12_isOver : mm_M := (yX12_isOver, cX12_isOver, 4, (some .boolean), [])
abbrev MX12_nextOf : mm_M := (yX12_nextOf, cX12_nextOf, 5, (some .int), [])
abbrev MX12_opens : mm_M := (yX12_opens, cX12_opens, 2, none, [])
abbrev MX12_tells : mm_M := (yX12_tells, cX12_tells, 4, none, [])
abbrev MX12_draws : mm_M := (yX12_draws, cX12_draws, 2, (some .int), [])
abbrev MX12_placeOf : mm_M := (yX12_placeOf, cX12_placeOf, 4, (some .int), [])
abbrev MX12_takes : mm_M := (yX12_takes, cX12_takes, 5, (some .int), [])
abbrev MX12_deals : mm_M := (yX12_deals, cX12_deals, 8, none, [])
abbrev MX12_begins : mm_M := (yX12_begins, cX12_begins, 1, none, [])
abbrev MX12_table : mm_M := (yX12_table, cX12_table, 4, (some .int), [])
abbrev MX12_fault : mm_M := (yX12_fault, cX12_fault, 1, (some .int), [])
abbrev MX12_aheadOf : mm_M := (yX12_aheadOf, cX12_aheadOf, 5, (some .int), [])
abbrev MX12_queen : mm_M := (yX12_queen, cX12_queen, 3, (some .int), [])
abbrev MX12_count : mm_M := (yX12_count, cX12_count, 2, (some .int), [])
abbrev MX12_isPerson : mm_M := (yX12_isPerson, cX12_isPerson, 2, (some .boolean), [])
abbrev MX12_isWhat : mm_M := (yX12_isWhat, cX12_isWhat, 3, (some .boolean), [])
abbrev MX12_fan : mm_M := (yX12_fan, cX12_fan, 3, (some .int), [])
abbrev MX12_works : mm_M := (yX12_works, cX12_works, 3, (some .int), [])
abbrev MX12_valueOf : mm_M := (yX12_valueOf, cX12_valueOf, 6, (some .int), [])
abbrev MX12_reckons : mm_M := (yX12_reckons, cX12_reckons, 9, (some .int), [])
abbrev MX12_mod : mm_M := (yX12_mod, cX12_mod, 3, (some .int), [])
abbrev MX12_drawsAt : mm_M := (yX12_drawsAt, cX12_drawsAt, 6, (some .int), [])
abbrev MX12_holdsAt : mm_M := (yX12_holdsAt, cX12_holdsAt, 6, (some .int), [])
abbrev MX12_person : mm_M := (yX12_person, cX12_person, 4, (some .int), [])
abbrev MX12_drawsOf : mm_M := (yX12_drawsOf, cX12_drawsOf, 6, none, [])
abbrev MX12_drawsByRule : mm_M := (yX12_drawsByRule, cX12_drawsByRule, 3, none, [])
abbrev MX12_did : mm_M := (yX12_did, cX12_did, 3, (some .int), [])
abbrev MX12_drawsNow : mm_M := (yX12_drawsNow, cX12_drawsNow, 5, none, [])
abbrev MX12_draw : mm_M := (yX12_draw, cX12_draw, 2, (some .int), [])
abbrev MX12_play : mm_M := (yX12_play, cX12_play, 3, (some .int), [])
abbrev MX12_undo : mm_M := (yX12_undo, cX12_undo, 2, (some .int), [])
abbrev MX12_plays : mm_M := (yX12_plays, cX12_plays, 4, none, [])
abbrev MX12_playsOn : mm_M := (yX12_playsOn, cX12_playsOn, 1, none, [])
abbrev MX12_loser : mm_M := (yX12_loser, cX12_loser, 2, (some .int), [])
abbrev MX12_ends : mm_M := (yX12_ends, cX12_ends, 2, (some .int), [])
abbrev MX12_has : mm_M := (yX12_has, cX12_has, 3, (some .int), [])
abbrev MX12_wouldLose : mm_M := (yX12_wouldLose, cX12_wouldLose, 8, (some .int), [])
abbrev MX12_isOut : mm_M := (yX12_isOut, cX12_isOut, 2, (some .int), [])
abbrev MX12_rank : mm_M := (yX12_rank, cX12_rank, 4, (some .int), [])
abbrev MX12_common : mm_M := (yX12_common, cX12_common, 10, (some .long), [])
abbrev MX12_portion : mm_M := (yX12_portion, cX12_portion, 5, (some .long), [])
abbrev MX12_blind : mm_M := (yX12_blind, cX12_blind, 12, (some .long), [])
abbrev MX12_two : mm_M := (yX12_two, cX12_two, 14, (some .long), [])
abbrev MX12_goesSo : mm_M := (yX12_goesSo, cX12_goesSo, 7, (some .boolean), [])
abbrev MX12_counts : mm_M := (yX12_counts, cX12_counts, 4, none, [])
abbrev MX12_isThere : mm_M := (yX12_isThere, cX12_isThere, 3, (some .boolean), [])
abbrev MX12_believes : mm_M := (yX12_believes, cX12_believes, 5, (some .boolean), [])
abbrev MX12_belief : mm_M := (yX12_belief, cX12_belief, 3, (some .int), [])
abbrev MX12_choose : mm_M := (yX12_choose, cX12_choose, 5, (some .int), [])
abbrev MX12_peeped : mm_M := (yX12_peeped, cX12_peeped, 10, (some .long), [])
abbrev MX12_hold : mm_M := (yX12_hold, cX12_hold, 7, (some .int), [])
abbrev MX12_oftenAt : mm_M := (yX12_oftenAt, cX12_oftenAt, 5, (some .int), [])
abbrev MX12_habit : mm_M := (yX12_habit, cX12_habit, 5, (some .int), [])
abbrev MX12_face : mm_M := (yX12_face, cX12_face, 5, (some .int), [])
abbrev MX12_swaps : mm_M := (yX12_swaps, cX12_swaps, 4, none, [])
abbrev MX12_countsUp : mm_M := (yX12_countsUp, cX12_countsUp, 5, (some .boolean), [])
abbrev MX12_sitsAsEver : mm_M := (yX12_sitsAsEver, cX12_sitsAsEver, 2, none, [])
abbrev MX12_figures : mm_M := (yX12_figures, cX12_figures, 3, (some .int), [])
abbrev MX12_seats : mm_M := (yX12_seats, cX12_seats, 9, (some .int), [])
abbrev MX12_evens : mm_M := (yX12_evens, cX12_evens, 7, (some .int), [])
abbrev MX12_evenings : mm_M := (yX12_evenings, cX12_evenings, 11, (some .int), [])
abbrev MX12_image : mm_M := (yX12_image, cX12_image, 1, none, [])
abbrev MX12_restore : mm_M := (yX12_restore, cX12_restore, 1, (some .boolean), [])
theorem kb_6 : (Int8.ofInt (6)).toInt32 = (6 : Int32) := by decide
theorem tw_435 : Cond.fieldLink "SootQueen$Belief" 32 "SootQueen$Belief" "holders" "[I" ∈ lw_tbl := List.mem_append_right _ (List.mem_of_getElem? (i := 435) (by decide +kernel))
theorem fl_X0_32 : mm_FL RX0 32 0 5 13 := ⟨(RX0, TX0, 13), rfl, rfl, by decide, by decide, Or.inl tw_435⟩
theorem kc_0 : Int32.ofInt (0) = (0 : Int32) := by decide
theorem kc_1 : Int32.ofInt (1) = (1 : Int32) := by decide
theorem kb_10 : (Int8.ofInt (10)).toInt32 = (10 : Int32) := by decide
theorem tw_433 : Cond.fieldLink "SootQueen$Belief" 25 "SootQueen$Belief" "left" "[I" ∈ lw_tbl := List.mem_append_right _ (List.mem_of_getElem? (i := 433) (by decide +kernel))
theorem fl_X0_25 : mm_FL RX0 25 0 3 13 := ⟨(RX0, TX0, 13), rfl, rfl, by decide, by decide, Or.inl tw_433⟩
theorem tw_436 : Cond.fieldLink "SootQueen$Belief" 35 "SootQueen$Belief" "places" "[I" ∈ lw_tbl := List.mem_append_right _ (List.mem_of_getElem? (i := 436) (by decide +kernel))
theorem fl_X0_35 : mm_FL RX0 35 0 6 13 := ⟨(RX0, TX0, 13), rfl, rfl, by decide, by decide, Or.inl tw_436⟩
theorem tw_440 : Cond.fieldLink "SootQueen$Belief" 73 "SootQueen$Belief" "spots" "I" ∈ lw_tbl := List.mem_append_right _ (List.mem_of_getElem? (i := 440) (by decide +kernel))
theorem fl_X0_73 : mm_FL RX0 73 0 10 13 := ⟨(RX0, TX0, 13), rfl, rfl, by decide, by decide, Or.inl tw_440⟩
theorem fp_X0_73 : mm_FP RX0 73 0 10 13 .int := ⟨fl_X0_73, (RX0, TX0, 13), rfl, rfl, by decide +kernel⟩
theorem tw_441 : Cond.fieldLink "SootQueen$Belief" 76 "SootQueen$Belief" "tries" "I" ∈ lw_tbl := List.mem_append_right _ (List.mem_of_getElem? (i := 441) (by decide +kernel))
theorem fl_X0_76 : mm_FL RX0 76 0 11 13 := ⟨(RX0, TX0, 13), rfl, rfl, by decide, by decide, Or.inl tw_441⟩
theorem fp_X0_76 : mm_FP RX0 76 0 11 13 .int := ⟨fl_X0_76, (RX0, TX0, 13), rfl, rfl, by decide +kernel⟩
theorem tw_442 : Cond.fieldLink "SootQueen$Belief" 79 "SootQueen$Belief" "all" "I" ∈ lw_tbl := List.mem_append_right _ (List.mem_of_getElem? (i := 442) (by decide +kernel))
theorem fl_X0_79 : mm_FL RX0 79 0 12 13 := ⟨(RX0, TX0, 13), rfl, rfl, by decide, by decide, Or.inl tw_442⟩
theorem fp_X0_79 : mm_FP RX0 79 0 12 13 .int := ⟨fl_X0_79, (RX0, TX0, 13), rfl, rfl, by decide +kernel⟩
theorem tw_286 : Cond.fieldLink "SootQueen$Game" 18 "SootQueen$Game" "nobody" "LSootQueen$Fan;" ∈ lw_tbl := List.mem_append_right _ (List.mem_of_getElem? (i := 286) (by decide +kernel))
theorem fl_X4_18 : mm_FL RX4 18 4 1 12 := ⟨(RX4, TX4, 12), rfl, rfl, by decide, by decide, Or.inl tw_286⟩
theorem tw_285 : Cond.fieldLink "SootQueen$Game" 11 "SootQueen$Game" "fans" "[LSootQueen$Fan;" ∈ lw_tbl := List.mem_append_right _ (List.mem_of_getElem? (i := 285) (by decide +kernel))
theorem fl_X4_11 : mm_FL RX4 11 4 0 12 := ⟨(RX4, TX4, 12), rfl, rfl, by decide, by decide, Or.inl tw_285⟩
theorem tw_46 : Cond.fieldLink "SootQueen$Fan" 15 "SootQueen$Fan" "size" "I" ∈ lw_tbl := List.mem_append_right _ (List.mem_of_getElem? (i := 46) (by decide +kernel))
theorem fl_X3_15 : mm_FL RX3 15 3 1 2 := ⟨(RX3, TX3, 2), rfl, rfl, by decide, by decide, Or.inl tw_46⟩
theorem fp_X3_15 : mm_FP RX3 15 3 1 2 .int := ⟨fl_X3_15, (RX3, TX3, 2), rfl, rfl, by decide +kernel⟩
theorem tw_45 : Cond.fieldLink "SootQueen$Fan" 9 "SootQueen$Fan" "cards" "[I" ∈ lw_tbl := List.mem_append_right _ (List.mem_of_getElem? (i := 45) (by decide +kernel))
theorem fl_X3_9 : mm_FL RX3 9 3 0 2 := ⟨(RX3, TX3, 2), rfl, rfl, by decide, by decide, Or.inl tw_45⟩
theorem kc_m1 : Int32.ofInt (-1) = (-1 : Int32) := by decide
theorem tw_434 : Cond.fieldLink "SootQueen$Belief" 29 "SootQueen$Belief" "owner" "[I" ∈ lw_tbl := List.mem_append_right _ (List.mem_of_getElem? (i := 434) (by decide +kernel))
theorem fl_X0_29 : mm_FL RX0 29 0 4 13 := ⟨(RX0, TX0, 13), rfl, rfl, by decide, by decide, Or.inl tw_434⟩
theorem tw_48 : Cond.fieldLinkNest "SootQueen$Belief" 82 "SootQueen$Fan" "size" "I" "SootQueen" ∈ lw_tbl := List.mem_append_right _ (List.mem_of_getElem? (i := 48) (by decide +kernel))
theorem fl_X0_82 : mm_FL RX0 82 3 1 2 := ⟨(RX3, TX3, 2), rfl, rfl, by decide, by decide, Or.inr ⟨_, tw_48⟩⟩
theorem kb_19 : (Int8.ofInt (19)).toInt32 = (19 : Int32) := by decide
theorem tw_1183 : Cond.methodLink "SootQueen$Belief" 85 ⟨"SootQueen$Fan", "card", "(I)I"⟩ ∈ lw_tbl := List.mem_append_right _ (List.mem_of_getElem? (i := 1183) (by decide +kernel))
theorem tw_643 : Cond.code ⟨"SootQueen$Fan", "card", "(I)I"⟩ prog_5_method_3_code 2 (some .int) ∈ lw_tbl := List.mem_append_right _ (List.mem_of_getElem? (i := 643) (by decide +kernel))
theorem tw_3 : Cond.initialized "SootQueen$Fan" ∈ lw_tbl := List.mem_append_right _ (List.mem_of_getElem? (i := 3) (by decide +kernel))
theorem tw_641 : Cond.instanceMethod ⟨"SootQueen$Fan", "card", "(I)I"⟩ ∈ lw_tbl := List.mem_append_right _ (List.mem_of_getElem? (i := 641) (by decide +kernel))
theorem tw_642 : Cond.selects "SootQueen$Fan" ⟨"SootQueen$Fan", "card", "(I)I"⟩ ⟨"SootQueen$Fan", "card", "(I)I"⟩ ∈ lw_tbl := List.mem_append_right _ (List.mem_of_getElem? (i := 642) (by decide +kernel))
theorem cw_X0_85 : mm_CV RX0 85 MX3_card 3 1 := ⟨⟨Or.inl tw_1183, tw_643, tw_3, ⟨by decide, by decide⟩, by decide +kernel, by decide⟩, tw_641, by decide, (RX3, TX3, 2), rfl, tw_642⟩
theorem tw_263 : Cond.fieldLink "SootQueen$Log" 18 "SootQueen$Log" "nothing" "LSootQueen$Draw;" ∈ lw_tbl := List.mem_append_right _ (List.mem_of_getElem? (i := 263) (by decide +kernel))
theorem fl_X5_18 : mm_FL RX5 18 5 1 4 := ⟨(RX5, TX5, 4), rfl, rfl, by decide, by decide, Or.inl tw_263⟩
theorem kb_60 : (Int8.ofInt (60)).toInt32 = (60 : Int32) := by decide
theorem tw_262 : Cond.fieldLink "SootQueen$Log" 11 "SootQueen$Log" "rows" "[LSootQueen$Draw;" ∈ lw_tbl := List.mem_append_right _ (List.mem_of_getElem? (i := 262) (by decide +kernel))
theorem fl_X5_11 : mm_FL RX5 11 5 0 4 := ⟨(RX5, TX5, 4), rfl, rfl, by decide, by decide, Or.inl tw_262⟩
theorem tw_264 : Cond.fieldLink "SootQueen$Log" 26 "SootQueen$Log" "first" "I" ∈ lw_tbl := List.mem_append_right _ (List.mem_of_getElem? (i := 264) (by decide +kernel))
theorem fl_X5_26 : mm_FL RX5 26 5 2 4 := ⟨(RX5, TX5, 4), rfl, rfl, by decide, by decide, Or.inl tw_264⟩
theorem tw_432 : Cond.fieldLink "SootQueen$Belief" 21 "SootQueen$Belief" "nobody" "LSootQueen$Fan;" ∈ lw_tbl := List.mem_append_right _ (List.mem_of_getElem? (i := 432) (by decide +kernel))
theorem fl_X0_21 : mm_FL RX0 21 0 2 13 := ⟨(RX0, TX0, 13), rfl, rfl, by decide, by decide, Or.inl tw_432⟩
theorem tw_221 : Cond.fieldLinkNest "SootQueen$Belief" 130 "SootQueen$Draw" "place" "I" "SootQueen" ∈ lw_tbl := List.mem_append_right _ (List.mem_of_getElem? (i := 221) (by decide +kernel))
theorem fl_X0_130 : mm_FL RX0 130 2 2 9 := ⟨(RX2, TX2, 9), rfl, rfl, by decide, by decide, Or.inr ⟨_, tw_221⟩⟩
theorem tw_1202 : Cond.methodLink "SootQueen$Belief" 107 ⟨"SootQueen$Fan", "takeOut", "(I)V"⟩ ∈ lw_tbl := List.mem_append_right _ (List.mem_of_getElem? (i := 1202) (by decide +kernel))
theorem tw_531 : Cond.code ⟨"SootQueen$Fan", "takeOut", "(I)V"⟩ prog_5_method_6_code 3 none ∈ lw_tbl := List.mem_append_right _ (List.mem_of_getElem? (i := 531) (by decide +kernel))
theorem tw_529 : Cond.instanceMethod ⟨"SootQueen$Fan", "takeOut", "(I)V"⟩ ∈ lw_tbl := List.mem_append_right _ (List.mem_of_getElem? (i := 529) (by decide +kernel))
theorem tw_530 : Cond.selects "SootQueen$Fan" ⟨"SootQueen$Fan", "takeOut", "(I)V"⟩ ⟨"SootQueen$Fan", "takeOut", "(I)V"⟩ ∈ lw_tbl := List.mem_append_right _ (List.mem_of_getElem? (i := 530) (by decide +kernel))
theorem cw_X0_107 : mm_CV RX0 107 MX3_takeOut 3 1 := ⟨⟨Or.inl tw_1202, tw_531, tw_3, ⟨by decide, by decide⟩, by decide +kernel, by decide⟩, tw_529, by decide, (RX3, TX3, 2), rfl, tw_530⟩
theorem tw_235 : Cond.fieldLinkNest "SootQueen$Belief" 133 "SootQueen$Draw" "aside" "Z" "SootQueen" ∈ lw_tbl := List.mem_append_right _ (List.mem_of_getElem? (i := 235) (by decide +kernel))
theorem fl_X0_133 : mm_FL RX0 133 2 6 9 := ⟨(RX2, TX2, 9), rfl, rfl, by decide, by decide, Or.inr ⟨_, tw_235⟩⟩
theorem tw_239 : Cond.fieldLinkNest "SootQueen$Belief" 139 "SootQueen$Draw" "ownPlace" "I" "SootQueen" ∈ lw_tbl := List.mem_append_right _ (List.mem_of_getElem? (i := 239) (by decide +kernel))
theorem fl_X0_139 : mm_FL RX0 139 2 7 9 := ⟨(RX2, TX2, 9), rfl, rfl, by decide, by decide, Or.inr ⟨_, tw_239⟩⟩
theorem tw_1203 : Cond.methodLink "SootQueen$Belief" 103 ⟨"SootQueen$Fan", "putIn", "(II)V"⟩ ∈ lw_tbl := List.mem_append_right _ (List.mem_of_getElem? (i := 1203) (by decide +kernel))
theorem tw_527 : Cond.code ⟨"SootQueen$Fan", "putIn", "(II)V"⟩ prog_5_method_5_code 4 none ∈ lw_tbl := List.mem_append_right _ (List.mem_of_getElem? (i := 527) (by decide +kernel))
theorem tw_525 : Cond.instanceMethod ⟨"SootQueen$Fan", "putIn", "(II)V"⟩ ∈ lw_tbl := List.mem_append_right _ (List.mem_of_getElem? (i := 525) (by decide +kernel))
theorem tw_526 : Cond.selects "SootQueen$Fan" ⟨"SootQueen$Fan", "putIn", "(II)V"⟩ ⟨"SootQueen$Fan", "putIn", "(II)V"⟩ ∈ lw_tbl := List.mem_append_right _ (List.mem_of_getElem? (i := 526) (by decide +kernel))
theorem cw_X0_103 : mm_CV RX0 103 MX3_putIn 3 2 := ⟨⟨Or.inl tw_1203, tw_527, tw_3, ⟨by decide, by decide⟩, by decide +kernel, by decide⟩, tw_525, by decide, (RX3, TX3, 2), rfl, tw_526⟩
theorem tw_1201 : Cond.methodLink "SootQueen$Belief" 96 ⟨"SootQueen$Fan", "placeOf", "(I)I"⟩ ∈ lw_tbl := List.mem_append_right _ (List.mem_of_getElem? (i := 1201) (by decide +kernel))
theorem tw_523 : Cond.code ⟨"SootQueen$Fan", "placeOf", "(I)I"⟩ prog_5_method_4_code 3 (some .int) ∈ lw_tbl := List.mem_append_right _ (List.mem_of_getElem? (i := 523) (by decide +kernel))
theorem tw_521 : Cond.instanceMethod ⟨"SootQueen$Fan", "placeOf", "(I)I"⟩ ∈ lw_tbl := List.mem_append_right _ (List.mem_of_getElem? (i := 521) (by decide +kernel))
theorem tw_522 : Cond.selects "SootQueen$Fan" ⟨"SootQueen$Fan", "placeOf", "(I)I"⟩ ⟨"SootQueen$Fan", "placeOf", "(I)I"⟩ ∈ lw_tbl := List.mem_append_right _ (List.mem_of_getElem? (i := 522) (by decide +kernel))
theorem cw_X0_96 : mm_CV RX0 96 MX3_placeOf 3 1 := ⟨⟨Or.inl tw_1201, tw_523, tw_3, ⟨by decide, by decide⟩, by decide +kernel, by decide⟩, tw_521, by decide, (RX3, TX3, 2), rfl, tw_522⟩
theorem tw_232 : Cond.fieldLinkNest "SootQueen$Belief" 137 "SootQueen$Draw" "card" "I" "SootQueen" ∈ lw_tbl := List.mem_append_right _ (List.mem_of_getElem? (i := 232) (by decide +kernel))
theorem fl_X0_137 : mm_FL RX0 137 2 5 9 := ⟨(RX2, TX2, 9), rfl, rfl, by decide, by decide, Or.inr ⟨_, tw_232⟩⟩
theorem tw_431 : Cond.fieldLink "SootQueen$Belief" 17 "SootQueen$Belief" "now" "[LSootQueen$Fan;" ∈ lw_tbl := List.mem_append_right _ (List.mem_of_getElem? (i := 431) (by decide +kernel))
theorem fl_X0_17 : mm_FL RX0 17 0 1 13 := ⟨(RX0, TX0, 13), rfl, rfl, by decide, by decide, Or.inl tw_431⟩
theorem tw_217 : Cond.fieldLinkNest "SootQueen$Belief" 122 "SootQueen$Draw" "from" "I" "SootQueen" ∈ lw_tbl := List.mem_append_right _ (List.mem_of_getElem? (i := 217) (by decide +kernel))
theorem fl_X0_122 : mm_FL RX0 122 2 1 9 := ⟨(RX2, TX2, 9), rfl, rfl, by decide, by decide, Or.inr ⟨_, tw_217⟩⟩
theorem tw_1197 : Cond.methodLink "SootQueen$Belief" 92 ⟨"SootQueen$Belief", "fanOf", "([LSootQueen$Fan;I)LSootQueen$Fan;"⟩ ∈ lw_tbl := List.mem_append_right _ (List.mem_of_getElem? (i := 1197) (by decide +kernel))
theorem tw_1200 : Cond.code ⟨"SootQueen$Belief", "fanOf", "([LSootQueen$Fan;I)LSootQueen$Fan;"⟩ prog_2_method_9_code 3 (some (.object "SootQueen$Fan")) ∈ lw_tbl := List.mem_append_right _ (List.mem_of_getElem? (i := 1200) (by decide +kernel))
theorem tw_12 : Cond.initialized "SootQueen$Belief" ∈ lw_tbl := List.mem_append_right _ (List.mem_of_getElem? (i := 12) (by decide +kernel))
theorem tw_1199 : Cond.instanceMethod ⟨"SootQueen$Belief", "fanOf", "([LSootQueen$Fan;I)LSootQueen$Fan;"⟩ ∈ lw_tbl := List.mem_append_right _ (List.mem_of_getElem? (i := 1199) (by decide +kernel))
theorem sw_44 : Cond.selects "SootQueen$Belief" ⟨"SootQueen$Belief", "fanOf", "([LSootQueen$Fan;I)LSootQueen$Fan;"⟩ ⟨"SootQueen$Belief", "fanOf", "([LSootQueen$Fan;I)LSootQueen$Fan;"⟩ ∈ lw_tbl := List.mem_append_left _ (List.mem_of_getElem? (i := 44) (by decide +kernel))
theorem cw_X0_92 : mm_CV RX0 92 MX0_fanOf 0 2 := ⟨⟨Or.inl tw_1197, tw_1200, tw_12, ⟨by decide, by decide⟩, by decide +kernel, by decide⟩, tw_1199, by decide, (RX0, TX0, 13), rfl, sw_44⟩
theorem tw_213 : Cond.fieldLinkNest "SootQueen$Belief" 127 "SootQueen$Draw" "drawer" "I" "SootQueen" ∈ lw_tbl := List.mem_append_right _ (List.mem_of_getElem? (i := 213) (by decide +kernel))
theorem fl_X0_127 : mm_FL RX0 127 2 0 9 := ⟨(RX2, TX2, 9), rfl, rfl, by decide, by decide, Or.inr ⟨_, tw_213⟩⟩
theorem tw_438 : Cond.fieldLink "SootQueen$Belief" 42 "SootQueen$Belief" "person" "I" ∈ lw_tbl := List.mem_append_right _ (List.mem_of_getElem? (i := 438) (by decide +kernel))
theorem fl_X0_42 : mm_FL RX0 42 0 8 13 := ⟨(RX0, TX0, 13), rfl, rfl, by decide, by decide, Or.inl tw_438⟩
theorem tw_439 : Cond.fieldLink "SootQueen$Belief" 46 "SootQueen$Belief" "watched" "I" ∈ lw_tbl := List.mem_append_right _ (List.mem_of_getElem? (i := 439) (by decide +kernel))
theorem fl_X0_46 : mm_FL RX0 46 0 9 13 := ⟨(RX0, TX0, 13), rfl, rfl, by decide, by decide, Or.inl tw_439⟩
theorem tw_437 : Cond.fieldLink "SootQueen$Belief" 38 "SootQueen$Belief" "log" "LSootQueen$Log;" ∈ lw_tbl := List.mem_append_right _ (List.mem_of_getElem? (i := 437) (by decide +kernel))
theorem fl_X0_38 : mm_FL RX0 38 0 7 13 := ⟨(RX0, TX0, 13), rfl, rfl, by decide, by decide, Or.inl tw_437⟩
theorem tw_267 : Cond.fieldLinkNest "SootQueen$Belief" 111 "SootQueen$Log" "size" "I" "SootQueen" ∈ lw_tbl := List.mem_append_right _ (List.mem_of_getElem? (i := 267) (by decide +kernel))
theorem fl_X0_111 : mm_FL RX0 111 5 3 4 := ⟨(RX5, TX5, 4), rfl, rfl, by decide, by decide, Or.inr ⟨_, tw_267⟩⟩
theorem tw_1192 : Cond.methodLink "SootQueen$Belief" 114 ⟨"SootQueen$Log", "at", "(I)LSootQueen$Draw;"⟩ ∈ lw_tbl := List.mem_append_right _ (List.mem_of_getElem? (i := 1192) (by decide +kernel))
theorem tw_634 : Cond.code ⟨"SootQueen$Log", "at", "(I)LSootQueen$Draw;"⟩ prog_7_method_3_code 3 (some (.object "SootQueen$Draw")) ∈ lw_tbl := List.mem_append_right _ (List.mem_of_getElem? (i := 634) (by decide +kernel))
theorem tw_7 : Cond.initialized "SootQueen$Log" ∈ lw_tbl := List.mem_append_right _ (List.mem_of_getElem? (i := 7) (by decide +kernel))
theorem tw_632 : Cond.instanceMethod ⟨"SootQueen$Log", "at", "(I)LSootQueen$Draw;"⟩ ∈ lw_tbl := List.mem_append_right _ (List.mem_of_getElem? (i := 632) (by decide +kernel))
theorem tw_633 : Cond.selects "SootQueen$Log" ⟨"SootQueen$Log", "at", "(I)LSootQueen$Draw;"⟩ ⟨"SootQueen$Log", "at", "(I)LSootQueen$Draw;"⟩ ∈ lw_tbl := List.mem_append_right _ (List.mem_of_getElem? (i := 633) (by decide +kernel))
theorem cw_X0_114 : mm_CV RX0 114 MX5_at 5 1 := ⟨⟨Or.inl tw_1192, tw_634, tw_7, ⟨by decide, by decide⟩, by decide +kernel, by decide⟩, tw_632, by decide, (RX5, TX5, 4), rfl, tw_633⟩
theorem tw_1193 : Cond.methodLink "SootQueen$Belief" 118 ⟨"SootQueen$Belief", "wentSo", "(LSootQueen$Draw;)Z"⟩ ∈ lw_tbl := List.mem_append_right _ (List.mem_of_getElem? (i := 1193) (by decide +kernel))
theorem tw_1196 : Cond.code ⟨"SootQueen$Belief", "wentSo", "(LSootQueen$Draw;)Z"⟩ prog_2_method_8_code 7 (some .boolean) ∈ lw_tbl := List.mem_append_right _ (List.mem_of_getElem? (i := 1196) (by decide +kernel))
theorem tw_1195 : Cond.instanceMethod ⟨"SootQueen$Belief", "wentSo", "(LSootQueen$Draw;)Z"⟩ ∈ lw_tbl := List.mem_append_right _ (List.mem_of_getElem? (i := 1195) (by decide +kernel))
theorem sw_43 : Cond.selects "SootQueen$Belief" ⟨"SootQueen$Belief", "wentSo", "(LSootQueen$Draw;)Z"⟩ ⟨"SootQueen$Belief", "wentSo", "(LSootQueen$Draw;)Z"⟩ ∈ lw_tbl := List.mem_append_left _ (List.mem_of_getElem? (i := 43) (by decide +kernel))
theorem cw_X0_118 : mm_CV RX0 118 MX0_wentSo 0 1 := ⟨⟨Or.inl tw_1193, tw_1196, tw_12, ⟨by decide, by decide⟩, by decide +kernel, by decide⟩, tw_1195, by decide, (RX0, TX0, 13), rfl, sw_43⟩
theorem tw_430 : Cond.fieldLink "SootQueen$Belief" 11 "SootQueen$Belief" "then" "[LSootQueen$Fan;" ∈ lw_tbl := List.mem_append_right _ (List.mem_of_getElem? (i := 430) (by decide +kernel))
theorem fl_X0_11 : mm_FL RX0 11 0 0 13 := ⟨(RX0, TX0, 13), rfl, rfl, by decide, by decide, Or.inl tw_430⟩
theorem tw_1177 : Cond.methodLink "SootQueen$Belief" 58 ⟨"SootQueen$Fan", "copyFrom", "(LSootQueen$Fan;)V"⟩ ∈ lw_tbl := List.mem_append_right _ (List.mem_of_getElem? (i := 1177) (by decide +kernel))
theorem tw_487 : Cond.code ⟨"SootQueen$Fan", "copyFrom", "(LSootQueen$Fan;)V"⟩ prog_5_method_8_code 3 none ∈ lw_tbl := List.mem_append_right _ (List.mem_of_getElem? (i := 487) (by decide +kernel))
theorem tw_485 : Cond.instanceMethod ⟨"SootQueen$Fan", "copyFrom", "(LSootQueen$Fan;)V"⟩ ∈ lw_tbl := List.mem_append_right _ (List.mem_of_getElem? (i := 485) (by decide +kernel))
theorem tw_486 : Cond.selects "SootQueen$Fan" ⟨"SootQueen$Fan", "copyFrom", "(LSootQueen$Fan;)V"⟩ ⟨"SootQueen$Fan", "copyFrom", "(LSootQueen$Fan;)V"⟩ ∈ lw_tbl := List.mem_append_right _ (List.mem_of_getElem? (i := 486) (by decide +kernel))
theorem cw_X0_58 : mm_CV RX0 58 MX3_copyFrom 3 1 := ⟨⟨Or.inl tw_1177, tw_487, tw_3, ⟨by decide, by decide⟩, by decide +kernel, by decide⟩, tw_485, by decide, (RX3, TX3, 2), rfl, tw_486⟩
theorem tw_1184 : Cond.methodLink "SootQueen$Belief" 69 ⟨"SootQueen$Belief", "tryAt", "(I)Z"⟩ ∈ lw_tbl := List.mem_append_right _ (List.mem_of_getElem? (i := 1184) (by decide +kernel))
theorem tw_1187 : Cond.code ⟨"SootQueen$Belief", "tryAt", "(I)Z"⟩ prog_2_method_5_code 4 (some .boolean) ∈ lw_tbl := List.mem_append_right _ (List.mem_of_getElem? (i := 1187) (by decide +kernel))
theorem tw_1186 : Cond.instanceMethod ⟨"SootQueen$Belief", "tryAt", "(I)Z"⟩ ∈ lw_tbl := List.mem_append_right _ (List.mem_of_getElem? (i := 1186) (by decide +kernel))
theorem sw_41 : Cond.selects "SootQueen$Belief" ⟨"SootQueen$Belief", "tryAt", "(I)Z"⟩ ⟨"SootQueen$Belief", "tryAt", "(I)Z"⟩ ∈ lw_tbl := List.mem_append_left _ (List.mem_of_getElem? (i := 41) (by decide +kernel))
theorem cw_X0_69 : mm_CV RX0 69 MX0_tryAt 0 1 := ⟨⟨Or.inl tw_1184, tw_1187, tw_12, ⟨by decide, by decide⟩, by decide +kernel, by decide⟩, tw_1186, by decide, (RX0, TX0, 13), rfl, sw_41⟩
theorem ks_20000 : (Int16.ofInt (20000)).toInt32 = (20000 : Int32) := by decide
theorem tw_1204 : Cond.methodLink "SootQueen$Belief" 99 ⟨"SootQueen$Belief", "tryCard", "(ILSootQueen$Fan;I)Z"⟩ ∈ lw_tbl := List.mem_append_right _ (List.mem_of_getElem? (i := 1204) (by decide +kernel))
theorem tw_1207 : Cond.code ⟨"SootQueen$Belief", "tryCard", "(ILSootQueen$Fan;I)Z"⟩ prog_2_method_6_code 5 (some .boolean) ∈ lw_tbl := List.mem_append_right _ (List.mem_of_getElem? (i := 1207) (by decide +kernel))
theorem tw_1206 : Cond.instanceMethod ⟨"SootQueen$Belief", "tryCard", "(ILSootQueen$Fan;I)Z"⟩ ∈ lw_tbl := List.mem_append_right _ (List.mem_of_getElem? (i := 1206) (by decide +kernel))
theorem sw_45 : Cond.selects "SootQueen$Belief" ⟨"SootQueen$Belief", "tryCard", "(ILSootQueen$Fan;I)Z"⟩ ⟨"SootQueen$Belief", "tryCard", "(ILSootQueen$Fan;I)Z"⟩ ∈ lw_tbl := List.mem_append_left _ (List.mem_of_getElem? (i := 45) (by decide +kernel))
theorem cw_X0_99 : mm_CV RX0 99 MX0_tryCard 0 3 := ⟨⟨Or.inl tw_1204, tw_1207, tw_12, ⟨by decide, by decide⟩, by decide +kernel, by decide⟩, tw_1206, by decide, (RX0, TX0, 13), rfl, sw_45⟩
theorem tw_1188 : Cond.methodLink "SootQueen$Belief" 89 ⟨"SootQueen$Belief", "weighArrangement", "()V"⟩ ∈ lw_tbl := List.mem_append_right _ (List.mem_of_getElem? (i := 1188) (by decide +kernel))
theorem tw_1191 : Cond.code ⟨"SootQueen$Belief", "weighArrangement", "()V"⟩ prog_2_method_7_code 3 none ∈ lw_tbl := List.mem_append_right _ (List.mem_of_getElem? (i := 1191) (by decide +kernel))
theorem tw_1190 : Cond.instanceMethod ⟨"SootQueen$Belief", "weighArrangement", "()V"⟩ ∈ lw_tbl := List.mem_append_right _ (List.mem_of_getElem? (i := 1190) (by decide +kernel))
theorem sw_42 : Cond.selects "SootQueen$Belief" ⟨"SootQueen$Belief", "weighArrangement", "()V"⟩ ⟨"SootQueen$Belief", "weighArrangement", "()V"⟩ ∈ lw_tbl := List.mem_append_left _ (List.mem_of_getElem? (i := 42) (by decide +kernel))
theorem cw_X0_89 : mm_CV RX0 89 MX0_weighArrangement 0 0 := ⟨⟨Or.inl tw_1188, tw_1191, tw_12, ⟨by decide, by decide⟩, by decide +kernel, by decide⟩, tw_1190, by decide, (RX0, TX0, 13), rfl, sw_42⟩
theorem tw_1178 : Cond.methodLink "SootQueen$Belief" 62 ⟨"SootQueen$Fan", "clear", "()V"⟩ ∈ lw_tbl := List.mem_append_right _ (List.mem_of_getElem? (i := 1178) (by decide +kernel))
theorem tw_65 : Cond.code ⟨"SootQueen$Fan", "clear", "()V"⟩ prog_5_method_7_code 1 none ∈ lw_tbl := List.mem_append_right _ (List.mem_of_getElem? (i := 65) (by decide +kernel))
theorem tw_63 : Cond.instanceMethod ⟨"SootQueen$Fan", "clear", "()V"⟩ ∈ lw_tbl := List.mem_append_right _ (List.mem_of_getElem? (i := 63) (by decide +kernel))
theorem tw_64 : Cond.selects "SootQueen$Fan" ⟨"SootQueen$Fan", "clear", "()V"⟩ ⟨"SootQueen$Fan", "clear", "()V"⟩ ∈ lw_tbl := List.mem_append_right _ (List.mem_of_getElem? (i := 64) (by decide +kernel))
theorem cw_X0_62 : mm_CV RX0 62 MX3_clear 3 0 := ⟨⟨Or.inl tw_1178, tw_65, tw_3, ⟨by decide, by decide⟩, by decide +kernel, by decide⟩, tw_63, by decide, (RX3, TX3, 2), rfl, tw_64⟩
theorem tw_1176 : Cond.methodLink "SootQueen$Belief" 52 ⟨"SootQueen$Game", "fanAt", "(I)LSootQueen$Fan;"⟩ ∈ lw_tbl := List.mem_append_right _ (List.mem_of_getElem? (i := 1176) (by decide +kernel))
theorem tw_499 : Cond.code ⟨"SootQueen$Game", "fanAt", "(I)LSootQueen$Fan;"⟩ prog_6_method_10_code 2 (some (.object "SootQueen$Fan")) ∈ lw_tbl := List.mem_append_right _ (List.mem_of_getElem? (i := 499) (by decide +kernel))
theorem tw_9 : Cond.initialized "SootQueen$Game" ∈ lw_tbl := List.mem_append_right _ (List.mem_of_getElem? (i := 9) (by decide +kernel))
theorem tw_497 : Cond.instanceMethod ⟨"SootQueen$Game", "fanAt", "(I)LSootQueen$Fan;"⟩ ∈ lw_tbl := List.mem_append_right _ (List.mem_of_getElem? (i := 497) (by decide +kernel))
theorem tw_498 : Cond.selects "SootQueen$Game" ⟨"SootQueen$Game", "fanAt", "(I)LSootQueen$Fan;"⟩ ⟨"SootQueen$Game", "fanAt", "(I)LSootQueen$Fan;"⟩ ∈ lw_tbl := List.mem_append_right _ (List.mem_of_getElem? (i := 498) (by decide +kernel))
theorem cw_X0_52 : mm_CV RX0 52 MX4_fanAt 4 1 := ⟨⟨Or.inl tw_1176, tw_499, tw_9, ⟨by decide, by decide⟩, by decide +kernel, by decide⟩, tw_497, by decide, (RX4, TX4, 12), rfl, tw_498⟩
theorem tw_1179 : Cond.methodLink "SootQueen$Belief" 65 ⟨"SootQueen$Belief", "spread", "(ILSootQueen$Fan;)V"⟩ ∈ lw_tbl := List.mem_append_right _ (List.mem_of_getElem? (i := 1179) (by decide +kernel))
theorem tw_1182 : Cond.code ⟨"SootQueen$Belief", "spread", "(ILSootQueen$Fan;)V"⟩ prog_2_method_4_code 5 none ∈ lw_tbl := List.mem_append_right _ (List.mem_of_getElem? (i := 1182) (by decide +kernel))
theorem tw_1181 : Cond.instanceMethod ⟨"SootQueen$Belief", "spread", "(ILSootQueen$Fan;)V"⟩ ∈ lw_tbl := List.mem_append_right _ (List.mem_of_getElem? (i := 1181) (by decide +kernel))
theorem sw_40 : Cond.selects "SootQueen$Belief" ⟨"SootQueen$Belief", "spread", "(ILSootQueen$Fan;)V"⟩ ⟨"SootQueen$Belief", "spread", "(ILSootQueen$Fan;)V"⟩ ∈ lw_tbl := List.mem_append_left _ (List.mem_of_getElem? (i := 40) (by decide +kernel))
theorem cw_X0_65 : mm_CV RX0 65 MX0_spread 0 2 := ⟨⟨Or.inl tw_1179, tw_1182, tw_12, ⟨by decide, by decide⟩, by decide +kernel, by decide⟩, tw_1181, by decide, (RX0, TX0, 13), rfl, sw_40⟩
theorem fp_X0_38 : mm_FP RX0 38 0 7 13 (.object "SootQueen$Log") := ⟨fl_X0_38, (RX0, TX0, 13), rfl, rfl, by decide +kernel⟩
theorem fp_X0_42 : mm_FP RX0 42 0 8 13 .int := ⟨fl_X0_42, (RX0, TX0, 13), rfl, rfl, by decide +kernel⟩
theorem fp_X0_46 : mm_FP RX0 46 0 9 13 .int := ⟨fl_X0_46, (RX0, TX0, 13), rfl, rfl, by decide +kernel⟩
theorem tw_1172 : Cond.methodLink "SootQueen$Belief" 49 ⟨"SootQueen$Belief", "forget", "()V"⟩ ∈ lw_tbl := List.mem_append_right _ (List.mem_of_getElem? (i := 1172) (by decide +kernel))
theorem tw_1175 : Cond.code ⟨"SootQueen$Belief", "forget", "()V"⟩ prog_2_method_3_code 2 none ∈ lw_tbl := List.mem_append_right _ (List.mem_of_getElem? (i := 1175) (by decide +kernel))
theorem tw_1174 : Cond.instanceMethod ⟨"SootQueen$Belief", "forget", "()V"⟩ ∈ lw_tbl := List.mem_append_right _ (List.mem_of_getElem? (i := 1174) (by decide +kernel))
theorem sw_39 : Cond.selects "SootQueen$Belief" ⟨"SootQueen$Belief", "forget", "()V"⟩ ⟨"SootQueen$Belief", "forget", "()V"⟩ ∈ lw_tbl := List.mem_append_left _ (List.mem_of_getElem? (i := 39) (by decide +kernel))
theorem cw_X0_49 : mm_CV RX0 49 MX0_forget 0 0 := ⟨⟨Or.inl tw_1172, tw_1175, tw_12, ⟨by decide, by decide⟩, by decide +kernel, by decide⟩, tw_1174, by decide, (RX0, TX0, 13), rfl, sw_39⟩
theorem tw_126 : Cond.fieldLink "SootQueen$Tokens" 9 "SootQueen$Tokens" "text" "[I" ∈ lw_tbl := List.mem_append_right _ (List.mem_of_getElem? (i := 126) (by decide +kernel))
theorem fl_X9_9 : mm_FL RX9 9 9 0 6 := ⟨(RX9, TX9, 6), rfl, rfl, by decide, by decide, Or.inl tw_126⟩
theorem kb_97 : (Int8.ofInt (97)).toInt32 = (97 : Int32) := by decide
theorem kb_122 : (Int8.ofInt (122)).toInt32 = (122 : Int32) := by decide
theorem kb_48 : (Int8.ofInt (48)).toInt32 = (48 : Int32) := by decide
theorem kb_57 : (Int8.ofInt (57)).toInt32 = (57 : Int32) := by decide
theorem tw_130 : Cond.fieldLink "SootQueen$Tokens" 28 "SootQueen$Tokens" "behind" "I" ∈ lw_tbl := List.mem_append_right _ (List.mem_of_getElem? (i := 130) (by decide +kernel))
theorem fl_X9_28 : mm_FL RX9 28 9 3 6 := ⟨(RX9, TX9, 6), rfl, rfl, by decide, by decide, Or.inl tw_130⟩
theorem tw_127 : Cond.fieldLink "SootQueen$Tokens" 25 "SootQueen$Tokens" "length" "I" ∈ lw_tbl := List.mem_append_right _ (List.mem_of_getElem? (i := 127) (by decide +kernel))
theorem fl_X9_25 : mm_FL RX9 25 9 1 6 := ⟨(RX9, TX9, 6), rfl, rfl, by decide, by decide, Or.inl tw_127⟩
theorem tw_798 : Cond.methodLink "SootQueen$Tokens" 37 ⟨"SootQueen$Tokens", "signAt", "(I)I"⟩ ∈ lw_tbl := List.mem_append_right _ (List.mem_of_getElem? (i := 798) (by decide +kernel))
theorem tw_801 : Cond.code ⟨"SootQueen$Tokens", "signAt", "(I)I"⟩ prog_11_method_7_code 2 (some .int) ∈ lw_tbl := List.mem_append_right _ (List.mem_of_getElem? (i := 801) (by decide +kernel))
theorem tw_5 : Cond.initialized "SootQueen$Tokens" ∈ lw_tbl := List.mem_append_right _ (List.mem_of_getElem? (i := 5) (by decide +kernel))
theorem tw_800 : Cond.instanceMethod ⟨"SootQueen$Tokens", "signAt", "(I)I"⟩ ∈ lw_tbl := List.mem_append_right _ (List.mem_of_getElem? (i := 800) (by decide +kernel))
theorem sw_12 : Cond.selects "SootQueen$Tokens" ⟨"SootQueen$Tokens", "signAt", "(I)I"⟩ ⟨"SootQueen$Tokens", "signAt", "(I)I"⟩ ∈ lw_tbl := List.mem_append_left _ (List.mem_of_getElem? (i := 12) (by decide +kernel))
theorem cw_X9_37 : mm_CV RX9 37 MX9_signAt 9 1 := ⟨⟨Or.inl tw_798, tw_801, tw_5, ⟨by decide, by decide⟩, by decide +kernel, by decide⟩, tw_800, by decide, (RX9, TX9, 6), rfl, sw_12⟩
theorem tw_805 : Cond.methodLink "SootQueen$Tokens" 45 ⟨"SootQueen$Tokens", "isDigit", "(I)Z"⟩ ∈ lw_tbl := List.mem_append_right _ (List.mem_of_getElem? (i := 805) (by decide +kernel))
theorem tw_807 : Cond.code ⟨"SootQueen$Tokens", "isDigit", "(I)Z"⟩ prog_11_method_9_code 1 (some .boolean) ∈ lw_tbl := List.mem_append_right _ (List.mem_of_getElem? (i := 807) (by decide +kernel))
theorem tw_806 : Cond.static ⟨"SootQueen$Tokens", "isDigit", "(I)Z"⟩ ∈ lw_tbl := List.mem_append_right _ (List.mem_of_getElem? (i := 806) (by decide +kernel))
theorem cw_X9_45 : mm_CS RX9 45 MX9_isDigit 1 := ⟨⟨Or.inl tw_805, tw_807, tw_5, ⟨by decide, by decide⟩, by decide +kernel, by decide⟩, tw_806⟩
theorem tw_136 : Cond.fieldLink "SootQueen$Tokens" 63 "SootQueen$Tokens" "number" "I" ∈ lw_tbl := List.mem_append_right _ (List.mem_of_getElem? (i := 136) (by decide +kernel))
theorem fl_X9_63 : mm_FL RX9 63 9 5 6 := ⟨(RX9, TX9, 6), rfl, rfl, by decide, by decide, Or.inl tw_136⟩
theorem fp_X9_63 : mm_FP RX9 63 9 5 6 .int := ⟨fl_X9_63, (RX9, TX9, 6), rfl, rfl, by decide +kernel⟩
theorem fp_X9_28 : mm_FP RX9 28 9 3 6 .int := ⟨fl_X9_28, (RX9, TX9, 6), rfl, rfl, by decide +kernel⟩
theorem tw_131 : Cond.fieldLink "SootQueen$Tokens" 15 "SootQueen$Tokens" "kind" "I" ∈ lw_tbl := List.mem_append_right _ (List.mem_of_getElem? (i := 131) (by decide +kernel))
theorem fl_X9_15 : mm_FL RX9 15 9 4 6 := ⟨(RX9, TX9, 6), rfl, rfl, by decide, by decide, Or.inl tw_131⟩
theorem fp_X9_15 : mm_FP RX9 15 9 4 6 .int := ⟨fl_X9_15, (RX9, TX9, 6), rfl, rfl, by decide +kernel⟩
theorem tw_802 : Cond.methodLink "SootQueen$Tokens" 41 ⟨"SootQueen$Tokens", "isLetter", "(I)Z"⟩ ∈ lw_tbl := List.mem_append_right _ (List.mem_of_getElem? (i := 802) (by decide +kernel))
theorem tw_804 : Cond.code ⟨"SootQueen$Tokens", "isLetter", "(I)Z"⟩ prog_11_method_8_code 1 (some .boolean) ∈ lw_tbl := List.mem_append_right _ (List.mem_of_getElem? (i := 804) (by decide +kernel))
theorem tw_803 : Cond.static ⟨"SootQueen$Tokens", "isLetter", "(I)Z"⟩ ∈ lw_tbl := List.mem_append_right _ (List.mem_of_getElem? (i := 803) (by decide +kernel))
theorem cw_X9_41 : mm_CS RX9 41 MX9_isLetter 1 := ⟨⟨Or.inl tw_802, tw_804, tw_5, ⟨by decide, by decide⟩, by decide +kernel, by decide⟩, tw_803⟩
theorem tw_129 : Cond.fieldLink "SootQueen$Tokens" 34 "SootQueen$Tokens" "start" "I" ∈ lw_tbl := List.mem_append_right _ (List.mem_of_getElem? (i := 129) (by decide +kernel))
theorem fl_X9_34 : mm_FL RX9 34 9 2 6 := ⟨(RX9, TX9, 6), rfl, rfl, by decide, by decide, Or.inl tw_129⟩
theorem tw_812 : Cond.methodLink "SootQueen$Tokens" 51 ⟨"SootQueen$Tokens", "isSign", "(I)Z"⟩ ∈ lw_tbl := List.mem_append_right _ (List.mem_of_getElem? (i := 812) (by decide +kernel))
theorem tw_814 : Cond.code ⟨"SootQueen$Tokens", "isSign", "(I)Z"⟩ prog_11_method_10_code 1 (some .boolean) ∈ lw_tbl := List.mem_append_right _ (List.mem_of_getElem? (i := 814) (by decide +kernel))
theorem tw_813 : Cond.static ⟨"SootQueen$Tokens", "isSign", "(I)Z"⟩ ∈ lw_tbl := List.mem_append_right _ (List.mem_of_getElem? (i := 813) (by decide +kernel))
theorem cw_X9_51 : mm_CS RX9 51 MX9_isSign 1 := ⟨⟨Or.inl tw_812, tw_814, tw_5, ⟨by decide, by decide⟩, by decide +kernel, by decide⟩, tw_813⟩
theorem tw_808 : Cond.methodLink "SootQueen$Tokens" 48 ⟨"SootQueen$Tokens", "readNumber", "()V"⟩ ∈ lw_tbl := List.mem_append_right _ (List.mem_of_getElem? (i := 808) (by decide +kernel))
theorem tw_811 : Cond.code ⟨"SootQueen$Tokens", "readNumber", "()V"⟩ prog_11_method_6_code 1 none ∈ lw_tbl := List.mem_append_right _ (List.mem_of_getElem? (i := 811) (by decide +kernel))
theorem tw_810 : Cond.instanceMethod ⟨"SootQueen$Tokens", "readNumber", "()V"⟩ ∈ lw_tbl := List.mem_append_right _ (List.mem_of_getElem? (i := 810) (by decide +kernel))
theorem sw_13 : Cond.selects "SootQueen$Tokens" ⟨"SootQueen$Tokens", "readNumber", "()V"⟩ ⟨"SootQueen$Tokens", "readNumber", "()V"⟩ ∈ lw_tbl := List.mem_append_left _ (List.mem_of_getElem? (i := 13) (by decide +kernel))
theorem cw_X9_48 : mm_CV RX9 48 MX9_readNumber 9 0 := ⟨⟨Or.inl tw_808, tw_811, tw_5, ⟨by decide, by decide⟩, by decide +kernel, by decide⟩, tw_810, by decide, (RX9, TX9, 6), rfl, sw_13⟩
theorem fp_X9_34 : mm_FP RX9 34 9 2 6 .int := ⟨fl_X9_34, (RX9, TX9, 6), rfl, rfl, by decide +kernel⟩
theorem kb_32 : (Int8.ofInt (32)).toInt32 = (32 : Int32) := by decide
theorem kb_m20 : (Int8.ofInt (-20)).toInt32 = (-20 : Int32) := by decide
theorem tw_156 : Cond.fieldLink "SootQueen$Compiler" 9 "SootQueen$Compiler" "waiting" "[I" ∈ lw_tbl := List.mem_append_right _ (List.mem_of_getElem? (i := 156) (by decide +kernel))
theorem fl_X1_9 : mm_FL RX1 9 1 0 6 := ⟨(RX1, TX1, 6), rfl, rfl, by decide, by decide, Or.inl tw_156⟩
theorem kc_5 : Int32.ofInt (5) = (5 : Int32) := by decide
theorem kc_4 : Int32.ofInt (4) = (4 : Int32) := by decide
theorem kc_3 : Int32.ofInt (3) = (3 : Int32) := by decide
theorem kc_2 : Int32.ofInt (2) = (2 : Int32) := by decide
theorem tw_86 : Cond.fieldLink "SootQueen$Told" 47 "SootQueen$Told" "codeCount" "I" ∈ lw_tbl := List.mem_append_right _ (List.mem_of_getElem? (i := 86) (by decide +kernel))
theorem fl_X10_47 : mm_FL RX10 47 10 9 11 := ⟨(RX10, TX10, 11), rfl, rfl, by decide, by decide, Or.inl tw_86⟩
theorem tw_70 : Cond.fieldLink "SootQueen$Told" 21 "SootQueen$Told" "codes" "[I" ∈ lw_tbl := List.mem_append_right _ (List.mem_of_getElem? (i := 70) (by decide +kernel))
theorem fl_X10_21 : mm_FL RX10 21 10 2 11 := ⟨(RX10, TX10, 11), rfl, rfl, by decide, by decide, Or.inl tw_70⟩
theorem fp_X10_47 : mm_FP RX10 47 10 9 11 .int := ⟨fl_X10_47, (RX10, TX10, 11), rfl, rfl, by decide +kernel⟩
theorem tw_923 : Cond.methodLink "SootQueen$Compiler" 71 ⟨"SootQueen$Compiler", "waitingAt", "(I)I"⟩ ∈ lw_tbl := List.mem_append_right _ (List.mem_of_getElem? (i := 923) (by decide +kernel))
theorem tw_926 : Cond.code ⟨"SootQueen$Compiler", "waitingAt", "(I)I"⟩ prog_3_method_8_code 2 (some .int) ∈ lw_tbl := List.mem_append_right _ (List.mem_of_getElem? (i := 926) (by decide +kernel))
theorem tw_6 : Cond.initialized "SootQueen$Compiler" ∈ lw_tbl := List.mem_append_right _ (List.mem_of_getElem? (i := 6) (by decide +kernel))
theorem tw_925 : Cond.instanceMethod ⟨"SootQueen$Compiler", "waitingAt", "(I)I"⟩ ∈ lw_tbl := List.mem_append_right _ (List.mem_of_getElem? (i := 925) (by decide +kernel))
theorem sw_23 : Cond.selects "SootQueen$Compiler" ⟨"SootQueen$Compiler", "waitingAt", "(I)I"⟩ ⟨"SootQueen$Compiler", "waitingAt", "(I)I"⟩ ∈ lw_tbl := List.mem_append_left _ (List.mem_of_getElem? (i := 23) (by decide +kernel))
theorem cw_X1_71 : mm_CV RX1 71 MX1_waitingAt 1 1 := ⟨⟨Or.inl tw_923, tw_926, tw_6, ⟨by decide, by decide⟩, by decide +kernel, by decide⟩, tw_925, by decide, (RX1, TX1, 6), rfl, sw_23⟩
theorem tw_927 : Cond.methodLink "SootQueen$Compiler" 75 ⟨"SootQueen$Compiler", "level", "(I)I"⟩ ∈ lw_tbl := List.mem_append_right _ (List.mem_of_getElem? (i := 927) (by decide +kernel))
theorem tw_929 : Cond.code ⟨"SootQueen$Compiler", "level", "(I)I"⟩ prog_3_method_12_code 1 (some .int) ∈ lw_tbl := List.mem_append_right _ (List.mem_of_getElem? (i := 929) (by decide +kernel))
theorem tw_928 : Cond.static ⟨"SootQueen$Compiler", "level", "(I)I"⟩ ∈ lw_tbl := List.mem_append_right _ (List.mem_of_getElem? (i := 928) (by decide +kernel))
theorem cw_X1_75 : mm_CS RX1 75 MX1_level 1 := ⟨⟨Or.inl tw_927, tw_929, tw_6, ⟨by decide, by decide⟩, by decide +kernel, by decide⟩, tw_928⟩
theorem tw_161 : Cond.fieldLink "SootQueen$Compiler" 19 "SootQueen$Compiler" "told" "LSootQueen$Told;" ∈ lw_tbl := List.mem_append_right _ (List.mem_of_getElem? (i := 161) (by decide +kernel))
theorem fl_X1_19 : mm_FL RX1 19 1 5 6 := ⟨(RX1, TX1, 6), rfl, rfl, by decide, by decide, Or.inl tw_161⟩
theorem tw_930 : Cond.methodLink "SootQueen$Compiler" 91 ⟨"SootQueen$Told", "emit", "(I)V"⟩ ∈ lw_tbl := List.mem_append_right _ (List.mem_of_getElem? (i := 930) (by decide +kernel))
theorem tw_933 : Cond.code ⟨"SootQueen$Told", "emit", "(I)V"⟩ prog_12_method_5_code 2 none ∈ lw_tbl := List.mem_append_right _ (List.mem_of_getElem? (i := 933) (by decide +kernel))
theorem tw_2 : Cond.initialized "SootQueen$Told" ∈ lw_tbl := List.mem_append_right _ (List.mem_of_getElem? (i := 2) (by decide +kernel))
theorem tw_931 : Cond.instanceMethod ⟨"SootQueen$Told", "emit", "(I)V"⟩ ∈ lw_tbl := List.mem_append_right _ (List.mem_of_getElem? (i := 931) (by decide +kernel))
theorem tw_932 : Cond.selects "SootQueen$Told" ⟨"SootQueen$Told", "emit", "(I)V"⟩ ⟨"SootQueen$Told", "emit", "(I)V"⟩ ∈ lw_tbl := List.mem_append_right _ (List.mem_of_getElem? (i := 932) (by decide +kernel))
theorem cw_X1_91 : mm_CV RX1 91 MX10_emit 10 1 := ⟨⟨Or.inl tw_930, tw_933, tw_2, ⟨by decide, by decide⟩, by decide +kernel, by decide⟩, tw_931, by decide, (RX10, TX10, 11), rfl, tw_932⟩
theorem tw_157 : Cond.fieldLink "SootQueen$Compiler" 23 "SootQueen$Compiler" "top" "I" ∈ lw_tbl := List.mem_append_right _ (List.mem_of_getElem? (i := 157) (by decide +kernel))
theorem fl_X1_23 : mm_FL RX1 23 1 1 6 := ⟨(RX1, TX1, 6), rfl, rfl, by decide, by decide, Or.inl tw_157⟩
theorem fp_X1_23 : mm_FP RX1 23 1 1 6 .int := ⟨fl_X1_23, (RX1, TX1, 6), rfl, rfl, by decide +kernel⟩
theorem kb_12 : (Int8.ofInt (12)).toInt32 = (12 : Int32) := by decide
theorem tw_71 : Cond.fieldLink "SootQueen$Told" 24 "SootQueen$Told" "ruleStart" "[I" ∈ lw_tbl := List.mem_append_right _ (List.mem_of_getElem? (i := 71) (by decide +kernel))
theorem fl_X10_24 : mm_FL RX10 24 10 3 11 := ⟨(RX10, TX10, 11), rfl, rfl, by decide, by decide, Or.inl tw_71⟩
theorem tw_72 : Cond.fieldLink "SootQueen$Told" 27 "SootQueen$Told" "ruleEnd" "[I" ∈ lw_tbl := List.mem_append_right _ (List.mem_of_getElem? (i := 72) (by decide +kernel))
theorem fl_X10_27 : mm_FL RX10 27 10 4 11 := ⟨(RX10, TX10, 11), rfl, rfl, by decide, by decide, Or.inl tw_72⟩
theorem dX0_forget_0 : decode cX0_forget 0 = .ok (.aload_n 0, 1) := by decide +kernel
theorem dX0_forget_1 : decode cX0_forget 1 = .ok (.iconst 0, 1) := by decide +kernel
theorem dX0_forget_2 : decode cX0_forget 2 = .ok (.putfield 73, 3) := by decide +kernel
theorem dX0_forget_5 : decode cX0_forget 5 = .ok (.aload_n 0, 1) := by decide +kernel
theorem dX0_forget_6 : decode cX0_forget 6 = .ok (.iconst 0, 1) := by decide +kernel
theorem dX0_forget_7 : decode cX0_forget 7 = .ok (.putfield 76, 3) := by decide +kernel
theorem dX0_forget_10 : decode cX0_forget 10 = .ok (.aload_n 0, 1) := by decide +kernel
theorem dX0_forget_11 : decode cX0_forget 11 = .ok (.iconst 0, 1) := by decide +kernel
theorem dX0_forget_12 : decode cX0_forget 12 = .ok (.putfield 79, 3) := by decide +kernel
theorem dX0_forget_15 : decode cX0_forget 15 = .ok (.iconst 0, 1) := by decide +kernel
theorem dX0_forget_16 : decode cX0_forget 16 = .ok (.istore_n 1, 1) := by decide +kernel
theorem dX0_forget_17 : decode cX0_forget 17 = .ok (.iload_n 1, 1) := by decide +kernel
theorem dX0_forget_18 : decode cX0_forget 18 = .ok (.bipush 10, 2) := by decide +kernel
theorem dX0_forget_20 : decode cX0_forget 20 = .ok (.if_icmp .ge 23, 3) := by decide +kernel
theorem dX0_forget_23 : decode cX0_forget 23 = .ok (.aload_n 0, 1) := by decide +kernel
theorem dX0_forget_24 : decode cX0_forget 24 = .ok (.getfield 25, 3) := by decide +kernel
theorem dX0_forget_27 : decode cX0_forget 27 = .ok (.iload_n 1, 1) := by decide +kernel
theorem dX0_forget_28 : decode cX0_forget 28 = .ok (.iconst 0, 1) := by decide +kernel
theorem dX0_forget_29 : decode cX0_forget 29 = .ok (.iastore, 1) := by decide +kernel
theorem dX0_forget_30 : decode cX0_forget 30 = .ok (.aload_n 0, 1) := by decide +kernel
theorem dX0_forget_31 : decode cX0_forget 31 = .ok (.getfield 35, 3) := by decide +kernel
theorem dX0_forget_34 : decode cX0_forget 34 = .ok (.iload_n 1, 1) := by decide +kernel
theorem dX0_forget_35 : decode cX0_forget 35 = .ok (.iconst 0, 1) := by decide +kernel
theorem dX0_forget_36 : decode cX0_forget 36 = .ok (.iastore, 1) := by decide +kernel
theorem dX0_forget_37 : decode cX0_forget 37 = .ok (.iinc 1 1, 3) := by decide +kernel
theorem dX0_forget_40 : decode cX0_forget 40 = .ok (.goto (-23), 3) := by decide +kernel
theorem dX0_forget_43 : decode cX0_forget 43 = .ok (.iconst 0, 1) := by decide +kernel
theorem dX0_forget_44 : decode cX0_forget 44 = .ok (.istore_n 1, 1) := by decide +kernel
theorem dX0_forget_45 : decode cX0_forget 45 = .ok (.iload_n 1, 1) := by decide +kernel
theorem dX0_forget_46 : decode cX0_forget 46 = .ok (.bipush 6, 2) := by decide +kernel
theorem dX0_forget_48 : decode cX0_forget 48 = .ok (.if_icmp .ge 16, 3) := by decide +kernel
theorem dX0_forget_51 : decode cX0_forget 51 = .ok (.aload_n 0, 1) := by decide +kernel
theorem dX0_forget_52 : decode cX0_forget 52 = .ok (.getfield 32, 3) := by decide +kernel
theorem dX0_forget_55 : decode cX0_forget 55 = .ok (.iload_n 1, 1) := by decide +kernel
theorem dX0_forget_56 : decode cX0_forget 56 = .ok (.iconst 0, 1) := by decide +kernel
theorem dX0_forget_57 : decode cX0_forget 57 = .ok (.iastore, 1) := by decide +kernel
theorem dX0_forget_58 : decode cX0_forget 58 = .ok (.iinc 1 1, 3) := by decide +kernel
theorem dX0_forget_61 : decode cX0_forget 61 = .ok (.goto (-16), 3) := by decide +kernel
theorem dX0_forget_64 : decode cX0_forget 64 = .ok (.return_, 1) := by decide +kernel
def X0_forget_L45 (e : mm_E) (a0 : Nat) : Nat → Int32 → mm_V → Option mm_V
  | 0, _, _ => none
  | n + 1, i1, m => if (6 : Int32) ≤ i1 then (some m) else ((mm_gr e.1 m 0 13 a0 5).bind fun c1 => (mm_si e.1 m c1 i1 (0 : Int32)).bind fun m2 => X0_forget_L45 e a0 n (i1 + 1) m2)
theorem X0_forget_L45_ok {K : mm_K} {nx : Option Nat} {e : mm_E} (hz : e.2.1 = K.2.2.2.2) {d : Nat} (hd : 0 ≤ d) {a0 : Nat} (h0 : e.1 a0 = some (0, 13)) : ∀ (n : Nat) (i1 : Int32) (m : mm_V) (r : mm_V), X0_forget_L45 e a0 n i1 m = some r → mm_G K MX0_forget d (mm_Fv e.1 nx r) 45 [some (.ref a0), some (.int i1)] [] (e.1, m) nx 0 0 := by
  intro n
  induction n with
  | zero => intro i1 m r hr; unfold X0_forget_L45 at hr; cases hr
  | succ n ih =>
    intro i1 m r hr
    unfold X0_forget_L45 at hr
    refine ml_iload_n (pc := 45) dX0_forget_45 rfl (mm_get_s mm_get_0) ?_
    refine mg_bipush (pc := 46) dX0_forget_46 kb_6 ?_
    refine mb_icmp_ge (pc := 48) 64 dX0_forget_48 rfl hr (fun hr => ?_) (fun hr => ?_)
    · exact mb_vret dX0_forget_64 rfl hr
    · refine ml_aload_n (pc := 51) dX0_forget_51 rfl mm_get_0 ?_
      refine mb_gr (pc := 52) dX0_forget_52 fl_X0_32 hr (fun c1 hr => ?_)
      refine ml_iload_n (pc := 55) dX0_forget_55 rfl (mm_get_s mm_get_0) ?_
      refine mg_iconst (pc := 56) dX0_forget_56 kc_0 ?_
      refine mb_si (pc := 57) dX0_forget_57 hr (fun m2 hr => ?_)
      refine ml_iinc (pc := 58) dX0_forget_58 (mm_get_s mm_get_0) (congrArg (fun z => i1 + z) kc_1) (Nat.le_of_ble_eq_true rfl) mm_st1_r ?_
      refine mg_goto (pc := 61) 45 dX0_forget_61 rfl ?_
      exact mg_weak (mm_le_s (mm_le_s mm_le_0)) (ih _ _ _ hr)
def X0_forget_L17 (e : mm_E) (a0 : Nat) : Nat → Int32 → mm_V → Option mm_V
  | 0, _, _ => none
  | n + 1, i1, m => if (10 : Int32) ≤ i1 then (X0_forget_L45 e a0 e.2.2 (0 : Int32) m) else ((mm_gr e.1 m 0 13 a0 3).bind fun c1 => (mm_si e.1 m c1 i1 (0 : Int32)).bind fun m2 => (mm_gr e.1 m2 0 13 a0 6).bind fun c3 => (mm_si e.1 m2 c3 i1 (0 : Int32)).bind fun m4 => X0_forget_L17 e a0 n (i1 + 1) m4)
theorem X0_forget_L17_ok {K : mm_K} {nx : Option Nat} {e : mm_E} (hz : e.2.1 = K.2.2.2.2) {d : Nat} (hd : 0 ≤ d) {a0 : Nat} (h0 : e.1 a0 = some (0, 13)) : ∀ (n : Nat) (i1 : Int32) (m : mm_V) (r : mm_V), X0_forget_L17 e a0 n i1 m = some r → mm_G K MX0_forget d (mm_Fv e.1 nx r) 17 [some (.ref a0), some (.int i1)] [] (e.1, m) nx 0 0 := by
  intro n
  induction n with
  | zero => intro i1 m r hr; unfold X0_forget_L17 at hr; cases hr
  | succ n ih =>
    intro i1 m r hr
    unfold X0_forget_L17 at hr
    refine ml_iload_n (pc := 17) dX0_forget_17 rfl (mm_get_s mm_get_0) ?_
    refine mg_bipush (pc := 18) dX0_forget_18 kb_10 ?_
    refine mb_icmp_ge (pc := 20) 43 dX0_forget_20 rfl hr (fun hr => ?_) (fun hr => ?_)
    · refine mg_iconst (pc := 43) dX0_forget_43 kc_0 ?_
      refine ml_istore_n (pc := 44) dX0_forget_44 rfl (Nat.le_of_ble_eq_true rfl) mm_st1_r ?_
      exact mg_weak (mm_le_s (mm_le_s mm_le_0)) (X0_forget_L45_ok hz hd h0 _ _ _ _ hr)
    · refine ml_aload_n (pc := 23) dX0_forget_23 rfl mm_get_0 ?_
      refine mb_gr (pc := 24) dX0_forget_24 fl_X0_25 hr (fun c1 hr => ?_)
      refine ml_iload_n (pc := 27) dX0_forget_27 rfl (mm_get_s mm_get_0) ?_
      refine mg_iconst (pc := 28) dX0_forget_28 kc_0 ?_
      refine mb_si (pc := 29) dX0_forget_29 hr (fun m2 hr => ?_)
      refine ml_aload_n (pc := 30) dX0_forget_30 rfl mm_get_0 ?_
      refine mb_gr (pc := 31) dX0_forget_31 fl_X0_35 hr (fun c3 hr => ?_)
      refine ml_iload_n (pc := 34) dX0_forget_34 rfl (mm_get_s mm_get_0) ?_
      refine mg_iconst (pc := 35) dX0_forget_35 kc_0 ?_
      refine mb_si (pc := 36) dX0_forget_36 hr (fun m4 hr => ?_)
      refine ml_iinc (pc := 37) dX0_forget_37 (mm_get_s mm_get_0) (congrArg (fun z => i1 + z) kc_1) (Nat.le_of_ble_eq_true rfl) mm_st1_r ?_
      refine mg_goto (pc := 40) 17 dX0_forget_40 rfl ?_
      exact mg_weak (mm_le_s (mm_le_s mm_le_0)) (ih _ _ _ hr)
def X0_forget (e : mm_E) (a0 : Nat) (m : mm_V) : Option mm_V := (mm_pf e.1 m 0 13 a0 10 (.int (0 : Int32))).bind fun m1 => (mm_pf e.1 m1 0 13 a0 11 (.int (0 : Int32))).bind fun m2 => (mm_pf e.1 m2 0 13 a0 12 (.int (0 : Int32))).bind fun m3 => X0_forget_L17 e a0 e.2.2 (0 : Int32) m3
theorem X0_forget_ok {K : mm_K} {nx : Option Nat} {e : mm_E} (hz : e.2.1 = K.2.2.2.2) {d : Nat} (hd : 0 ≤ d) {a0 : Nat} (h0 : e.1 a0 = some (0, 13)) {m : mm_V} {r : mm_V} (hr : X0_forget e a0 m = some r) : mm_Cn K MX0_forget d (mm_Fv e.1 nx r) [.ref a0] (e.1, m) nx := by
  refine mm_entry (by decide) (Nat.le_of_ble_eq_true rfl) rfl (fun hok => ?_)
  unfold X0_forget at hr
  refine mg_weak (L' := [some (.ref a0), none]) (mm_le_s (mm_le_e mm_le_0)) ?_
  refine ml_aload_n (pc := 0) dX0_forget_0 rfl mm_get_0 ?_
  refine mg_iconst (pc := 1) dX0_forget_1 kc_0 ?_
  refine mb_pi (pc := 2) dX0_forget_2 fp_X0_73 hr (fun m1 hr => ?_)
  refine ml_aload_n (pc := 5) dX0_forget_5 rfl mm_get_0 ?_
  refine mg_iconst (pc := 6) dX0_forget_6 kc_0 ?_
  refine mb_pi (pc := 7) dX0_forget_7 fp_X0_76 hr (fun m2 hr => ?_)
  refine ml_aload_n (pc := 10) dX0_forget_10 rfl mm_get_0 ?_
  refine mg_iconst (pc := 11) dX0_forget_11 kc_0 ?_
  refine mb_pi (pc := 12) dX0_forget_12 fp_X0_79 hr (fun m3 hr => ?_)
  refine mg_iconst (pc := 15) dX0_forget_15 kc_0 ?_
  refine ml_istore_n (pc := 16) dX0_forget_16 rfl (Nat.le_of_ble_eq_true rfl) mm_st1_r ?_
  exact mg_weak (mm_le_s (mm_le_s mm_le_0)) (X0_forget_L17_ok hz hd h0 _ _ _ _ hr)
theorem dX4_fanAt_0 : decode cX4_fanAt 0 = .ok (.iload_n 1, 1) := by decide +kernel
theorem dX4_fanAt_1 : decode cX4_fanAt 1 = .ok (.ifCond .lt 18, 3) := by decide +kernel
theorem dX4_fanAt_4 : decode cX4_fanAt 4 = .ok (.iload_n 1, 1) := by decide +kernel
theorem dX4_fanAt_5 : decode cX4_fanAt 5 = .ok (.bipush 6, 2) := by decide +kernel
theorem dX4_fanAt_7 : decode cX4_fanAt 7 = .ok (.if_icmp .ge 12, 3) := by decide +kernel
theorem dX4_fanAt_10 : decode cX4_fanAt 10 = .ok (.aload_n 0, 1) := by decide +kernel
theorem dX4_fanAt_11 : decode cX4_fanAt 11 = .ok (.getfield 11, 3) := by decide +kernel
theorem dX4_fanAt_14 : decode cX4_fanAt 14 = .ok (.iload_n 1, 1) := by decide +kernel
theorem dX4_fanAt_15 : decode cX4_fanAt 15 = .ok (.aaload, 1) := by decide +kernel
theorem dX4_fanAt_16 : decode cX4_fanAt 16 = .ok (.goto 7, 3) := by decide +kernel
theorem dX4_fanAt_19 : decode cX4_fanAt 19 = .ok (.aload_n 0, 1) := by decide +kernel
theorem dX4_fanAt_20 : decode cX4_fanAt 20 = .ok (.getfield 18, 3) := by decide +kernel
theorem dX4_fanAt_23 : decode cX4_fanAt 23 = .ok (.areturn, 1) := by decide +kernel
def X4_fanAt_b23 (e : mm_E) (t0 : Nat) (m : mm_V) : Option (Nat × mm_V) := some (t0, m)
theorem X4_fanAt_b23_ok {K : mm_K} {nx : Option Nat} {e : mm_E} (hz : e.2.1 = K.2.2.2.2) {d : Nat} (hd : 0 ≤ d) {t0 : Nat} {a0 : Nat} (h0 : e.1 a0 = some (4, 12)) {m : mm_V} {r : (Nat × mm_V)} (hr : X4_fanAt_b23 e t0 m = some r) : mm_G K MX4_fanAt d (mm_Fr e.1 nx r) 23 [none, none] [.ref t0] (e.1, m) nx 0 0 := by
  unfold X4_fanAt_b23 at hr
  exact mb_aret dX4_fanAt_23 rfl hr
def X4_fanAt_b19 (e : mm_E) (a0 : Nat) (m : mm_V) : Option (Nat × mm_V) := (mm_gr e.1 m 4 12 a0 1).bind fun c1 => X4_fanAt_b23 e  c1 m
theorem X4_fanAt_b19_ok {K : mm_K} {nx : Option Nat} {e : mm_E} (hz : e.2.1 = K.2.2.2.2) {d : Nat} (hd : 0 ≤ d) {a0 : Nat} (h0 : e.1 a0 = some (4, 12)) {m : mm_V} {r : (Nat × mm_V)} (hr : X4_fanAt_b19 e a0 m = some r) : mm_G K MX4_fanAt d (mm_Fr e.1 nx r) 19 [some (.ref a0), none] [] (e.1, m) nx 0 0 := by
  unfold X4_fanAt_b19 at hr
  refine ml_aload_n (pc := 19) dX4_fanAt_19 rfl mm_get_0 ?_
  refine mb_gr (pc := 20) dX4_fanAt_20 fl_X4_18 hr (fun c1 hr => ?_)
  exact mg_weak (mm_le_n (mm_le_n mm_le_0)) (X4_fanAt_b23_ok hz hd h0 hr)
def X4_fanAt (e : mm_E) (a0 : Nat) (i1 : Int32) (m : mm_V) : Option (Nat × mm_V) := if i1 < 0 then (X4_fanAt_b19 e a0  m) else (if (6 : Int32) ≤ i1 then (X4_fanAt_b19 e a0  m) else ((mm_gr e.1 m 4 12 a0 0).bind fun c1 => (mm_aq e.1 m 23 c1 i1).bind fun c2 => X4_fanAt_b23 e  c2 m))
theorem X4_fanAt_ok {K : mm_K} {nx : Option Nat} {e : mm_E} (hz : e.2.1 = K.2.2.2.2) {d : Nat} (hd : 0 ≤ d) {a0 : Nat} {i1 : Int32} (h0 : e.1 a0 = some (4, 12)) {m : mm_V} {r : (Nat × mm_V)} (hr : X4_fanAt e a0 i1 m = some r) : mm_Cn K MX4_fanAt d (mm_Fr e.1 nx r) [.ref a0, .int i1] (e.1, m) nx := by
  refine mm_entry (by decide) (Nat.le_of_ble_eq_true rfl) rfl (fun hok => ?_)
  unfold X4_fanAt at hr
  refine mg_weak (L' := [some (.ref a0), some (.int i1)]) (mm_le_s (mm_le_s mm_le_0)) ?_
  refine ml_iload_n (pc := 0) dX4_fanAt_0 rfl (mm_get_s mm_get_0) ?_
  refine mb_if_lt (pc := 1) 19 dX4_fanAt_1 rfl hr (fun hr => ?_) (fun hr => ?_)
  · exact mg_weak (mm_le_s (mm_le_n mm_le_0)) (X4_fanAt_b19_ok hz hd h0 hr)
  · refine ml_iload_n (pc := 4) dX4_fanAt_4 rfl (mm_get_s mm_get_0) ?_
    refine mg_bipush (pc := 5) dX4_fanAt_5 kb_6 ?_
    refine mb_icmp_ge (pc := 7) 19 dX4_fanAt_7 rfl hr (fun hr => ?_) (fun hr => ?_)
    · exact mg_weak (mm_le_s (mm_le_n mm_le_0)) (X4_fanAt_b19_ok hz hd h0 hr)
    · refine ml_aload_n (pc := 10) dX4_fanAt_10 rfl mm_get_0 ?_
      refine mb_gr (pc := 11) dX4_fanAt_11 fl_X4_11 hr (fun c1 hr => ?_)
      refine ml_iload_n (pc := 14) dX4_fanAt_14 rfl (mm_get_s mm_get_0) ?_
      refine mb_aq (pc := 15) dX4_fanAt_15 (by decide) (by decide) hr (fun c2 hr => ?_)
      refine mg_goto (pc := 16) 23 dX4_fanAt_16 rfl ?_
      exact mg_weak (mm_le_n (mm_le_n mm_le_0)) (X4_fanAt_b23_ok hz hd h0 hr)
theorem dX3_copyFrom_0 : decode cX3_copyFrom 0 = .ok (.iconst 0, 1) := by decide +kernel
theorem dX3_copyFrom_1 : decode cX3_copyFrom 1 = .ok (.istore_n 2, 1) := by decide +kernel
theorem dX3_copyFrom_2 : decode cX3_copyFrom 2 = .ok (.iload_n 2, 1) := by decide +kernel
theorem dX3_copyFrom_3 : decode cX3_copyFrom 3 = .ok (.aload_n 1, 1) := by decide +kernel
theorem dX3_copyFrom_4 : decode cX3_copyFrom 4 = .ok (.getfield 15, 3) := by decide +kernel
theorem dX3_copyFrom_7 : decode cX3_copyFrom 7 = .ok (.if_icmp .ge 30, 3) := by decide +kernel
theorem dX3_copyFrom_10 : decode cX3_copyFrom 10 = .ok (.iload_n 2, 1) := by decide +kernel
theorem dX3_copyFrom_11 : decode cX3_copyFrom 11 = .ok (.aload_n 0, 1) := by decide +kernel
theorem dX3_copyFrom_12 : decode cX3_copyFrom 12 = .ok (.getfield 9, 3) := by decide +kernel
theorem dX3_copyFrom_15 : decode cX3_copyFrom 15 = .ok (.arraylength, 1) := by decide +kernel
theorem dX3_copyFrom_16 : decode cX3_copyFrom 16 = .ok (.if_icmp .ge 21, 3) := by decide +kernel
theorem dX3_copyFrom_19 : decode cX3_copyFrom 19 = .ok (.aload_n 0, 1) := by decide +kernel
theorem dX3_copyFrom_20 : decode cX3_copyFrom 20 = .ok (.getfield 9, 3) := by decide +kernel
theorem dX3_copyFrom_23 : decode cX3_copyFrom 23 = .ok (.iload_n 2, 1) := by decide +kernel
theorem dX3_copyFrom_24 : decode cX3_copyFrom 24 = .ok (.aload_n 1, 1) := by decide +kernel
theorem dX3_copyFrom_25 : decode cX3_copyFrom 25 = .ok (.getfield 9, 3) := by decide +kernel
theorem dX3_copyFrom_28 : decode cX3_copyFrom 28 = .ok (.iload_n 2, 1) := by decide +kernel
theorem dX3_copyFrom_29 : decode cX3_copyFrom 29 = .ok (.iaload, 1) := by decide +kernel
theorem dX3_copyFrom_30 : decode cX3_copyFrom 30 = .ok (.iastore, 1) := by decide +kernel
theorem dX3_copyFrom_31 : decode cX3_copyFrom 31 = .ok (.iinc 2 1, 3) := by decide +kernel
theorem dX3_copyFrom_34 : decode cX3_copyFrom 34 = .ok (.goto (-32), 3) := by decide +kernel
theorem dX3_copyFrom_37 : decode cX3_copyFrom 37 = .ok (.aload_n 0, 1) := by decide +kernel
theorem dX3_copyFrom_38 : decode cX3_copyFrom 38 = .ok (.aload_n 1, 1) := by decide +kernel
theorem dX3_copyFrom_39 : decode cX3_copyFrom 39 = .ok (.getfield 15, 3) := by decide +kernel
theorem dX3_copyFrom_42 : decode cX3_copyFrom 42 = .ok (.putfield 15, 3) := by decide +kernel
theorem dX3_copyFrom_45 : decode cX3_copyFrom 45 = .ok (.return_, 1) := by decide +kernel
def X3_copyFrom_b37 (e : mm_E) (a0 : Nat) (a1 : Nat) (m : mm_V) : Option mm_V := (mm_gi e.1 m 3 2 a1 1).bind fun x1 => (mm_pf e.1 m 3 2 a0 1 (.int x1)).bind fun m2 => some m2
theorem X3_copyFrom_b37_ok {K : mm_K} {nx : Option Nat} {e : mm_E} (hz : e.2.1 = K.2.2.2.2) {d : Nat} (hd : 0 ≤ d) {a0 : Nat} {a1 : Nat} (h0 : e.1 a0 = some (3, 2)) {m : mm_V} {r : mm_V} (hr : X3_copyFrom_b37 e a0 a1 m = some r) : mm_G K MX3_copyFrom d (mm_Fv e.1 nx r) 37 [some (.ref a0), some (.ref a1), none] [] (e.1, m) nx 0 0 := by
  unfold X3_copyFrom_b37 at hr
  refine ml_aload_n (pc := 37) dX3_copyFrom_37 rfl mm_get_0 ?_
  refine ml_aload_n (pc := 38) dX3_copyFrom_38 rfl (mm_get_s mm_get_0) ?_
  refine mb_gi (pc := 39) dX3_copyFrom_39 fl_X3_15 hr (fun x1 hr => ?_)
  refine mb_pi (pc := 42) dX3_copyFrom_42 fp_X3_15 hr (fun m2 hr => ?_)
  exact mb_vret dX3_copyFrom_45 rfl hr
def X3_copyFrom_L2 (e : mm_E) (a0 : Nat) (a1 : Nat) : Nat → Int32 → mm_V → Option mm_V
  | 0, _, _ => none
  | n + 1, i2, m => (mm_gi e.1 m 3 2 a1 1).bind fun x1 => if x1 ≤ i2 then (X3_copyFrom_b37 e a0 a1  m) else ((mm_gr e.1 m 3 2 a0 0).bind fun c2 => (mm_ln e.1 c2).bind fun x3 => if x3 ≤ i2 then (X3_copyFrom_b37 e a0 a1  m) else ((mm_gr e.1 m 3 2 a0 0).bind fun c4 => (mm_gr e.1 m 3 2 a1 0).bind fun c5 => (mm_ai e.1 m 20 c5 i2).bind fun x6 => (mm_si e.1 m c4 i2 x6).bind fun m7 => X3_copyFrom_L2 e a0 a1 n (i2 + 1) m7))
theorem X3_copyFrom_L2_ok {K : mm_K} {nx : Option Nat} {e : mm_E} (hz : e.2.1 = K.2.2.2.2) {d : Nat} (hd : 0 ≤ d) {a0 : Nat} {a1 : Nat} (h0 : e.1 a0 = some (3, 2)) : ∀ (n : Nat) (i2 : Int32) (m : mm_V) (r : mm_V), X3_copyFrom_L2 e a0 a1 n i2 m = some r → mm_G K MX3_copyFrom d (mm_Fv e.1 nx r) 2 [some (.ref a0), some (.ref a1), some (.int i2)] [] (e.1, m) nx 0 0 := by
  intro n
  induction n with
  | zero => intro i2 m r hr; unfold X3_copyFrom_L2 at hr; cases hr
  | succ n ih =>
    intro i2 m r hr
    unfold X3_copyFrom_L2 at hr
    refine ml_iload_n (pc := 2) dX3_copyFrom_2 rfl (mm_get_s (mm_get_s mm_get_0)) ?_
    refine ml_aload_n (pc := 3) dX3_copyFrom_3 rfl (mm_get_s mm_get_0) ?_
    refine mb_gi (pc := 4) dX3_copyFrom_4 fl_X3_15 hr (fun x1 hr => ?_)
    refine mb_icmp_ge (pc := 7) 37 dX3_copyFrom_7 rfl hr (fun hr => ?_) (fun hr => ?_)
    · exact mg_weak (mm_le_s (mm_le_s (mm_le_n mm_le_0))) (X3_copyFrom_b37_ok hz hd h0 hr)
    · refine ml_iload_n (pc := 10) dX3_copyFrom_10 rfl (mm_get_s (mm_get_s mm_get_0)) ?_
      refine ml_aload_n (pc := 11) dX3_copyFrom_11 rfl mm_get_0 ?_
      refine mb_gr (pc := 12) dX3_copyFrom_12 fl_X3_9 hr (fun c2 hr => ?_)
      refine mb_ln (pc := 15) dX3_copyFrom_15 hr (fun x3 hr => ?_)
      refine mb_icmp_ge (pc := 16) 37 dX3_copyFrom_16 rfl hr (fun hr => ?_) (fun hr => ?_)
      · exact mg_weak (mm_le_s (mm_le_s (mm_le_n mm_le_0))) (X3_copyFrom_b37_ok hz hd h0 hr)
      · refine ml_aload_n (pc := 19) dX3_copyFrom_19 rfl mm_get_0 ?_
        refine mb_gr (pc := 20) dX3_copyFrom_20 fl_X3_9 hr (fun c4 hr => ?_)
        refine ml_iload_n (pc := 23) dX3_copyFrom_23 rfl (mm_get_s (mm_get_s mm_get_0)) ?_
        refine ml_aload_n (pc := 24) dX3_copyFrom_24 rfl (mm_get_s mm_get_0) ?_
        refine mb_gr (pc := 25) dX3_copyFrom_25 fl_X3_9 hr (fun c5 hr => ?_)
        refine ml_iload_n (pc := 28) dX3_copyFrom_28 rfl (mm_get_s (mm_get_s mm_get_0)) ?_
        refine mb_ai (pc := 29) dX3_copyFrom_29 hr (fun x6 hr => ?_)
        refine mb_si (pc := 30) dX3_copyFrom_30 hr (fun m7 hr => ?_)
        refine ml_iinc (pc := 31) dX3_copyFrom_31 (mm_get_s (mm_get_s mm_get_0)) (congrArg (fun z => i2 + z) kc_1) (Nat.le_of_ble_eq_true rfl) (mm_st1_s mm_st1_r) ?_
        refine mg_goto (pc := 34) 2 dX3_copyFrom_34 rfl ?_
        exact mg_weak (mm_le_s (mm_le_s (mm_le_s mm_le_0))) (ih _ _ _ hr)
def X3_copyFrom (e : mm_E) (a0 : Nat) (a1 : Nat) (m : mm_V) : Option mm_V := X3_copyFrom_L2 e a0 a1 e.2.2 (0 : Int32) m
theorem X3_copyFrom_ok {K : mm_K} {nx : Option Nat} {e : mm_E} (hz : e.2.1 = K.2.2.2.2) {d : Nat} (hd : 0 ≤ d) {a0 : Nat} {a1 : Nat} (h0 : e.1 a0 = some (3, 2)) {m : mm_V} {r : mm_V} (hr : X3_copyFrom e a0 a1 m = some r) : mm_Cn K MX3_copyFrom d (mm_Fv e.1 nx r) [.ref a0, .ref a1] (e.1, m) nx := by
  refine mm_entry (by decide) (Nat.le_of_ble_eq_true rfl) rfl (fun hok => ?_)
  unfold X3_copyFrom at hr
  refine mg_weak (L' := [some (.ref a0), some (.ref a1), none]) (mm_le_s (mm_le_s (mm_le_e mm_le_0))) ?_
  refine mg_iconst (pc := 0) dX3_copyFrom_0 kc_0 ?_
  refine ml_istore_n (pc := 1) dX3_copyFrom_1 rfl (Nat.le_of_ble_eq_true rfl) (mm_st1_s mm_st1_r) ?_
  exact mg_weak (mm_le_s (mm_le_s (mm_le_s mm_le_0))) (X3_copyFrom_L2_ok hz hd h0 _ _ _ _ hr)
theorem dX3_clear_0 : decode cX3_clear 0 = .ok (.aload_n 0, 1) := by decide +kernel
theorem dX3_clear_1 : decode cX3_clear 1 = .ok (.iconst 0, 1) := by decide +kernel
theorem dX3_clear_2 : decode cX3_clear 2 = .ok (.putfield 15, 3) := by decide +kernel
theorem dX3_clear_5 : decode cX3_clear 5 = .ok (.return_, 1) := by decide +kernel
def X3_clear (e : mm_E) (a0 : Nat) (m : mm_V) : Option mm_V := (mm_pf e.1 m 3 2 a0 1 (.int (0 : Int32))).bind fun m1 => some m1
theorem X3_clear_ok {K : mm_K} {nx : Option Nat} {e : mm_E} (hz : e.2.1 = K.2.2.2.2) {d : Nat} (hd : 0 ≤ d) {a0 : Nat} (h0 : e.1 a0 = some (3, 2)) {m : mm_V} {r : mm_V} (hr : X3_clear e a0 m = some r) : mm_Cn K MX3_clear d (mm_Fv e.1 nx r) [.ref a0] (e.1, m) nx := by
  refine mm_entry (by decide) (Nat.le_of_ble_eq_true rfl) rfl (fun hok => ?_)
  unfold X3_clear at hr
  refine mg_weak (L' := [some (.ref a0)]) (mm_le_s mm_le_0) ?_
  refine ml_aload_n (pc := 0) dX3_clear_0 rfl mm_get_0 ?_
  refine mg_iconst (pc := 1) dX3_clear_1 kc_0 ?_
  refine mb_pi (pc := 2) dX3_clear_2 fp_X3_15 hr (fun m1 hr => ?_)
  exact mb_vret dX3_clear_5 rfl hr
theorem dX3_card_0 : decode cX3_card 0 = .ok (.iload_n 1, 1) := by decide +kernel
theorem dX3_card_1 : decode cX3_card 1 = .ok (.ifCond .lt 29, 3) := by decide +kernel
theorem dX3_card_4 : decode cX3_card 4 = .ok (.iload_n 1, 1) := by decide +kernel
theorem dX3_card_5 : decode cX3_card 5 = .ok (.aload_n 0, 1) := by decide +kernel
theorem dX3_card_6 : decode cX3_card 6 = .ok (.getfield 15, 3) := by decide +kernel
theorem dX3_card_9 : decode cX3_card 9 = .ok (.if_icmp .ge 21, 3) := by decide +kernel
theorem dX3_card_12 : decode cX3_card 12 = .ok (.iload_n 1, 1) := by decide +kernel
theorem dX3_card_13 : decode cX3_card 13 = .ok (.aload_n 0, 1) := by decide +kernel
theorem dX3_card_14 : decode cX3_card 14 = .ok (.getfield 9, 3) := by decide +kernel
theorem dX3_card_17 : decode cX3_card 17 = .ok (.arraylength, 1) := by decide +kernel
theorem dX3_card_18 : decode cX3_card 18 = .ok (.if_icmp .ge 12, 3) := by decide +kernel
theorem dX3_card_21 : decode cX3_card 21 = .ok (.aload_n 0, 1) := by decide +kernel
theorem dX3_card_22 : decode cX3_card 22 = .ok (.getfield 9, 3) := by decide +kernel
theorem dX3_card_25 : decode cX3_card 25 = .ok (.iload_n 1, 1) := by decide +kernel
theorem dX3_card_26 : decode cX3_card 26 = .ok (.iaload, 1) := by decide +kernel
theorem dX3_card_27 : decode cX3_card 27 = .ok (.goto 4, 3) := by decide +kernel
theorem dX3_card_30 : decode cX3_card 30 = .ok (.iconst (-1), 1) := by decide +kernel
theorem dX3_card_31 : decode cX3_card 31 = .ok (.ireturn, 1) := by decide +kernel
def X3_card_b31 (e : mm_E) (t0 : Int32) (m : mm_V) : Option (Int32 × mm_V) := some (t0, m)
theorem X3_card_b31_ok {K : mm_K} {nx : Option Nat} {e : mm_E} (hz : e.2.1 = K.2.2.2.2) {d : Nat} (hd : 0 ≤ d) {t0 : Int32} {a0 : Nat} (h0 : e.1 a0 = some (3, 2)) {m : mm_V} {r : (Int32 × mm_V)} (hr : X3_card_b31 e t0 m = some r) : mm_G K MX3_card d (mm_Fi e.1 nx r) 31 [none, none] [.int t0] (e.1, m) nx 0 0 := by
  unfold X3_card_b31 at hr
  exact mb_iret dX3_card_31 rfl hr
def X3_card_b30 (e : mm_E) (m : mm_V) : Option (Int32 × mm_V) := X3_card_b31 e  (-1 : Int32) m
theorem X3_card_b30_ok {K : mm_K} {nx : Option Nat} {e : mm_E} (hz : e.2.1 = K.2.2.2.2) {d : Nat} (hd : 0 ≤ d) {a0 : Nat} (h0 : e.1 a0 = some (3, 2)) {m : mm_V} {r : (Int32 × mm_V)} (hr : X3_card_b30 e m = some r) : mm_G K MX3_card d (mm_Fi e.1 nx r) 30 [none, none] [] (e.1, m) nx 0 0 := by
  unfold X3_card_b30 at hr
  refine mg_iconst (pc := 30) dX3_card_30 kc_m1 ?_
  exact mg_weak (mm_le_n (mm_le_n mm_le_0)) (X3_card_b31_ok hz hd h0 hr)
def X3_card (e : mm_E) (a0 : Nat) (i1 : Int32) (m : mm_V) : Option (Int32 × mm_V) := if i1 < 0 then (X3_card_b30 e   m) else ((mm_gi e.1 m 3 2 a0 1).bind fun x1 => if x1 ≤ i1 then (X3_card_b30 e   m) else ((mm_gr e.1 m 3 2 a0 0).bind fun c2 => (mm_ln e.1 c2).bind fun x3 => if x3 ≤ i1 then (X3_card_b30 e   m) else ((mm_gr e.1 m 3 2 a0 0).bind fun c4 => (mm_ai e.1 m 20 c4 i1).bind fun x5 => X3_card_b31 e  x5 m)))
theorem X3_card_ok {K : mm_K} {nx : Option Nat} {e : mm_E} (hz : e.2.1 = K.2.2.2.2) {d : Nat} (hd : 0 ≤ d) {a0 : Nat} {i1 : Int32} (h0 : e.1 a0 = some (3, 2)) {m : mm_V} {r : (Int32 × mm_V)} (hr : X3_card e a0 i1 m = some r) : mm_Cn K MX3_card d (mm_Fi e.1 nx r) [.ref a0, .int i1] (e.1, m) nx := by
  refine mm_entry (by decide) (Nat.le_of_ble_eq_true rfl) rfl (fun hok => ?_)
  unfold X3_card at hr
  refine mg_weak (L' := [some (.ref a0), some (.int i1)]) (mm_le_s (mm_le_s mm_le_0)) ?_
  refine ml_iload_n (pc := 0) dX3_card_0 rfl (mm_get_s mm_get_0) ?_
  refine mb_if_lt (pc := 1) 30 dX3_card_1 rfl hr (fun hr => ?_) (fun hr => ?_)
  · exact mg_weak (mm_le_n (mm_le_n mm_le_0)) (X3_card_b30_ok hz hd h0 hr)
  · refine ml_iload_n (pc := 4) dX3_card_4 rfl (mm_get_s mm_get_0) ?_
    refine ml_aload_n (pc := 5) dX3_card_5 rfl mm_get_0 ?_
    refine mb_gi (pc := 6) dX3_card_6 fl_X3_15 hr (fun x1 hr => ?_)
    refine mb_icmp_ge (pc := 9) 30 dX3_card_9 rfl hr (fun hr => ?_) (fun hr => ?_)
    · exact mg_weak (mm_le_n (mm_le_n mm_le_0)) (X3_card_b30_ok hz hd h0 hr)
    · refine ml_iload_n (pc := 12) dX3_card_12 rfl (mm_get_s mm_get_0) ?_
      refine ml_aload_n (pc := 13) dX3_card_13 rfl mm_get_0 ?_
      refine mb_gr (pc := 14) dX3_card_14 fl_X3_9 hr (fun c2 hr => ?_)
      refine mb_ln (pc := 17) dX3_card_17 hr (fun x3 hr => ?_)
      refine mb_icmp_ge (pc := 18) 30 dX3_card_18 rfl hr (fun hr => ?_) (fun hr => ?_)
      · exact mg_weak (mm_le_n (mm_le_n mm_le_0)) (X3_card_b30_ok hz hd h0 hr)
      · refine ml_aload_n (pc := 21) dX3_card_21 rfl mm_get_0 ?_
        refine mb_gr (pc := 22) dX3_card_22 fl_X3_9 hr (fun c4 hr => ?_)
        refine ml_iload_n (pc := 25) dX3_card_25 rfl (mm_get_s mm_get_0) ?_
        refine mb_ai (pc := 26) dX3_card_26 hr (fun x5 hr => ?_)
        refine mg_goto (pc := 27) 31 dX3_card_27 rfl ?_
        exact mg_weak (mm_le_n (mm_le_n mm_le_0)) (X3_card_b31_ok hz hd h0 hr)
theorem dX0_spread_0 : decode cX0_spread 0 = .ok (.iconst 0, 1) := by decide +kernel
theorem dX0_spread_1 : decode cX0_spread 1 = .ok (.istore_n 3, 1) := by decide +kernel
theorem dX0_spread_2 : decode cX0_spread 2 = .ok (.iload_n 3, 1) := by decide +kernel
theorem dX0_spread_3 : decode cX0_spread 3 = .ok (.aload_n 2, 1) := by decide +kernel
theorem dX0_spread_4 : decode cX0_spread 4 = .ok (.getfield 82, 3) := by decide +kernel
theorem dX0_spread_7 : decode cX0_spread 7 = .ok (.if_icmp .ge 68, 3) := by decide +kernel
theorem dX0_spread_10 : decode cX0_spread 10 = .ok (.aload_n 0, 1) := by decide +kernel
theorem dX0_spread_11 : decode cX0_spread 11 = .ok (.getfield 73, 3) := by decide +kernel
theorem dX0_spread_14 : decode cX0_spread 14 = .ok (.bipush 19, 2) := by decide +kernel
theorem dX0_spread_16 : decode cX0_spread 16 = .ok (.if_icmp .ge 59, 3) := by decide +kernel
theorem dX0_spread_19 : decode cX0_spread 19 = .ok (.aload_n 2, 1) := by decide +kernel
theorem dX0_spread_20 : decode cX0_spread 20 = .ok (.iload_n 3, 1) := by decide +kernel
theorem dX0_spread_21 : decode cX0_spread 21 = .ok (.invokevirtual 85, 3) := by decide +kernel
theorem dX0_spread_24 : decode cX0_spread 24 = .ok (.istore 4, 2) := by decide +kernel
theorem dX0_spread_26 : decode cX0_spread 26 = .ok (.iload 4, 2) := by decide +kernel
theorem dX0_spread_28 : decode cX0_spread 28 = .ok (.ifCond .lt 21, 3) := by decide +kernel
theorem dX0_spread_31 : decode cX0_spread 31 = .ok (.iload 4, 2) := by decide +kernel
theorem dX0_spread_33 : decode cX0_spread 33 = .ok (.bipush 10, 2) := by decide +kernel
theorem dX0_spread_35 : decode cX0_spread 35 = .ok (.if_icmp .ge 14, 3) := by decide +kernel
theorem dX0_spread_38 : decode cX0_spread 38 = .ok (.aload_n 0, 1) := by decide +kernel
theorem dX0_spread_39 : decode cX0_spread 39 = .ok (.getfield 25, 3) := by decide +kernel
theorem dX0_spread_42 : decode cX0_spread 42 = .ok (.iload 4, 2) := by decide +kernel
theorem dX0_spread_44 : decode cX0_spread 44 = .ok (.dup2, 1) := by decide +kernel
theorem dX0_spread_45 : decode cX0_spread 45 = .ok (.iaload, 1) := by decide +kernel
theorem dX0_spread_46 : decode cX0_spread 46 = .ok (.iconst 1, 1) := by decide +kernel
theorem dX0_spread_47 : decode cX0_spread 47 = .ok (.iadd, 1) := by decide +kernel
theorem dX0_spread_48 : decode cX0_spread 48 = .ok (.iastore, 1) := by decide +kernel
theorem dX0_spread_49 : decode cX0_spread 49 = .ok (.aload_n 0, 1) := by decide +kernel
theorem dX0_spread_50 : decode cX0_spread 50 = .ok (.getfield 29, 3) := by decide +kernel
theorem dX0_spread_53 : decode cX0_spread 53 = .ok (.aload_n 0, 1) := by decide +kernel
theorem dX0_spread_54 : decode cX0_spread 54 = .ok (.getfield 73, 3) := by decide +kernel
theorem dX0_spread_57 : decode cX0_spread 57 = .ok (.iload_n 1, 1) := by decide +kernel
theorem dX0_spread_58 : decode cX0_spread 58 = .ok (.iastore, 1) := by decide +kernel
theorem dX0_spread_59 : decode cX0_spread 59 = .ok (.aload_n 0, 1) := by decide +kernel
theorem dX0_spread_60 : decode cX0_spread 60 = .ok (.dup, 1) := by decide +kernel
theorem dX0_spread_61 : decode cX0_spread 61 = .ok (.getfield 73, 3) := by decide +kernel
theorem dX0_spread_64 : decode cX0_spread 64 = .ok (.iconst 1, 1) := by decide +kernel
theorem dX0_spread_65 : decode cX0_spread 65 = .ok (.iadd, 1) := by decide +kernel
theorem dX0_spread_66 : decode cX0_spread 66 = .ok (.putfield 73, 3) := by decide +kernel
theorem dX0_spread_69 : decode cX0_spread 69 = .ok (.iinc 3 1, 3) := by decide +kernel
theorem dX0_spread_72 : decode cX0_spread 72 = .ok (.goto (-70), 3) := by decide +kernel
theorem dX0_spread_75 : decode cX0_spread 75 = .ok (.return_, 1) := by decide +kernel
def X0_spread_b75 (e : mm_E) (m : mm_V) : Option mm_V := some m
theorem X0_spread_b75_ok {K : mm_K} {nx : Option Nat} {e : mm_E} (hz : e.2.1 = K.2.2.2.2) {d : Nat} (hd : 1 ≤ d) {a0 : Nat} (h0 : e.1 a0 = some (0, 13)) {m : mm_V} {r : mm_V} (hr : X0_spread_b75 e m = some r) : mm_G K MX0_spread d (mm_Fv e.1 nx r) 75 [none, none, none, none, none] [] (e.1, m) nx 0 0 := by
  obtain ⟨d, rfl⟩ : ∃ d', d = d' + 1 := ⟨d - 1, by omega⟩
  unfold X0_spread_b75 at hr
  exact mb_vret dX0_spread_75 rfl hr
def X0_spread_b49 (e : mm_E) (k2 : Int32 → mm_V → Option mm_V) (a0 : Nat) (i1 : Int32) (a2 : Nat) (i3 : Int32) (m : mm_V) : Option mm_V := (mm_gr e.1 m 0 13 a0 4).bind fun c1 => (mm_gi e.1 m 0 13 a0 10).bind fun x2 => (mm_si e.1 m c1 x2 i1).bind fun m3 => (mm_gi e.1 m3 0 13 a0 10).bind fun x4 => (mm_pf e.1 m3 0 13 a0 10 (.int (x4 + (1 : Int32)))).bind fun m5 => k2 (i3 + 1) m5
theorem X0_spread_b49_ok {K : mm_K} {nx : Option Nat} {e : mm_E} (hz : e.2.1 = K.2.2.2.2) {d : Nat} (hd : 1 ≤ d) {a0 : Nat} {i1 : Int32} {a2 : Nat} {i3 : Int32} (h0 : e.1 a0 = some (0, 13)) {k2 : Int32 → mm_V → Option mm_V} (hk2 : ∀ (w3 : Int32) (m : mm_V) (r : mm_V), k2 w3 m = some r → mm_G K MX0_spread d (mm_Fv e.1 nx r) 2 [some (.ref a0), some (.int i1), some (.ref a2), some (.int w3), none] [] (e.1, m) nx 0 0) {m : mm_V} {r : mm_V} (hr : X0_spread_b49 e k2 a0 i1 a2 i3 m = some r) : mm_G K MX0_spread d (mm_Fv e.1 nx r) 49 [some (.ref a0), some (.int i1), some (.ref a2), some (.int i3), none] [] (e.1, m) nx 0 0 := by
  obtain ⟨d, rfl⟩ : ∃ d', d = d' + 1 := ⟨d - 1, by omega⟩
  unfold X0_spread_b49 at hr
  refine ml_aload_n (pc := 49) dX0_spread_49 rfl mm_get_0 ?_
  refine mb_gr (pc := 50) dX0_spread_50 fl_X0_29 hr (fun c1 hr => ?_)
  refine ml_aload_n (pc := 53) dX0_spread_53 rfl mm_get_0 ?_
  refine mb_gi (pc := 54) dX0_spread_54 fl_X0_73 hr (fun x2 hr => ?_)
  refine ml_iload_n (pc := 57) dX0_spread_57 rfl (mm_get_s mm_get_0) ?_
  refine mb_si (pc := 58) dX0_spread_58 hr (fun m3 hr => ?_)
  refine ml_aload_n (pc := 59) dX0_spread_59 rfl mm_get_0 ?_
  refine mg_dup (pc := 60) dX0_spread_60 rfl ?_
  refine mb_gi (pc := 61) dX0_spread_61 fl_X0_73 hr (fun x4 hr => ?_)
  refine mg_iconst (pc := 64) dX0_spread_64 kc_1 ?_
  refine mg_iadd (pc := 65) dX0_spread_65 ?_
  refine mb_pi (pc := 66) dX0_spread_66 fp_X0_73 hr (fun m5 hr => ?_)
  refine ml_iinc (pc := 69) dX0_spread_69 (mm_get_s (mm_get_s (mm_get_s mm_get_0))) (congrArg (fun z => i3 + z) kc_1) (Nat.le_of_ble_eq_true rfl) (mm_st1_s (mm_st1_s mm_st1_r)) ?_
  refine mg_goto (pc := 72) 2 dX0_spread_72 rfl ?_
  exact mg_weak (mm_le_s (mm_le_s (mm_le_s (mm_le_s (mm_le_n mm_le_0))))) (hk2 _ _ _ hr)
def X0_spread_L2 (e : mm_E) (a0 : Nat) (i1 : Int32) (a2 : Nat) : Nat → Int32 → mm_V → Option mm_V
  | 0, _, _ => none
  | n + 1, i3, m => (mm_gi e.1 m 3 2 a2 1).bind fun x1 => if x1 ≤ i3 then (X0_spread_b75 e   m) else ((mm_gi e.1 m 0 13 a0 10).bind fun x2 => if (19 : Int32) ≤ x2 then (X0_spread_b75 e   m) else (if e.1 a2 = some (3, 2) then ((X3_card e a2 i3 m).bind fun r3 => if r3.1 < 0 then (X0_spread_b49 e (X0_spread_L2 e a0 i1 a2 n) a0 i1 a2 i3  r3.2) else (if (10 : Int32) ≤ r3.1 then (X0_spread_b49 e (X0_spread_L2 e a0 i1 a2 n) a0 i1 a2 i3  r3.2) else ((mm_gr e.1 r3.2 0 13 a0 3).bind fun c5 => (mm_ai e.1 r3.2 20 c5 r3.1).bind fun x6 => (mm_si e.1 r3.2 c5 r3.1 (x6 + (1 : Int32))).bind fun m7 => X0_spread_b49 e (X0_spread_L2 e a0 i1 a2 n) a0 i1 a2 i3  m7))) else none))
theorem X0_spread_L2_ok {K : mm_K} {nx : Option Nat} {e : mm_E} (hz : e.2.1 = K.2.2.2.2) {d : Nat} (hd : 1 ≤ d) {a0 : Nat} {i1 : Int32} {a2 : Nat} (h0 : e.1 a0 = some (0, 13)) : ∀ (n : Nat) (i3 : Int32) (m : mm_V) (r : mm_V), X0_spread_L2 e a0 i1 a2 n i3 m = some r → mm_G K MX0_spread d (mm_Fv e.1 nx r) 2 [some (.ref a0), some (.int i1), some (.ref a2), some (.int i3), none] [] (e.1, m) nx 0 0 := by
  obtain ⟨d, rfl⟩ : ∃ d', d = d' + 1 := ⟨d - 1, by omega⟩
  intro n
  induction n with
  | zero => intro i3 m r hr; unfold X0_spread_L2 at hr; cases hr
  | succ n ih =>
    intro i3 m r hr
    unfold X0_spread_L2 at hr
    refine ml_iload_n (pc := 2) dX0_spread_2 rfl (mm_get_s (mm_get_s (mm_get_s mm_get_0))) ?_
    refine ml_aload_n (pc := 3) dX0_spread_3 rfl (mm_get_s (mm_get_s mm_get_0)) ?_
    refine mb_gi (pc := 4) dX0_spread_4 fl_X0_82 hr (fun x1 hr => ?_)
    refine mb_icmp_ge (pc := 7) 75 dX0_spread_7 rfl hr (fun hr => ?_) (fun hr => ?_)
    · exact mg_weak (mm_le_n (mm_le_n (mm_le_n (mm_le_n (mm_le_n mm_le_0))))) (X0_spread_b75_ok hz hd h0 hr)
    · refine ml_aload_n (pc := 10) dX0_spread_10 rfl mm_get_0 ?_
      refine mb_gi (pc := 11) dX0_spread_11 fl_X0_73 hr (fun x2 hr => ?_)
      refine mg_bipush (pc := 14) dX0_spread_14 kb_19 ?_
      refine mb_icmp_ge (pc := 16) 75 dX0_spread_16 rfl hr (fun hr => ?_) (fun hr => ?_)
      · exact mg_weak (mm_le_n (mm_le_n (mm_le_n (mm_le_n (mm_le_n mm_le_0))))) (X0_spread_b75_ok hz hd h0 hr)
      · refine ml_aload_n (pc := 19) dX0_spread_19 rfl (mm_get_s (mm_get_s mm_get_0)) ?_
        refine ml_iload_n (pc := 20) dX0_spread_20 rfl (mm_get_s (mm_get_s (mm_get_s mm_get_0))) ?_
        refine mb_ck hr (fun hb4 hr => ?_)
        refine mb_cVi (pc := 21) (As := [.int i3]) (rest := []) dX0_spread_21 cw_X0_85 hb4 hr (fun v hv => X3_card_ok hz (by omega) hb4 hv) rfl (Nat.le_of_ble_eq_true rfl) (Nat.zero_le _) (Nat.zero_le _) (fun r3 hr => ?_)
        refine ml_istore (pc := 24) dX0_spread_24 (Nat.le_of_ble_eq_true rfl) (mm_st1_s (mm_st1_s (mm_st1_s mm_st1_i))) ?_
        refine ml_iload (pc := 26) dX0_spread_26 (mm_get_s (mm_get_s (mm_get_s (mm_get_s mm_get_0)))) ?_
        refine mb_if_lt (pc := 28) 49 dX0_spread_28 rfl hr (fun hr => ?_) (fun hr => ?_)
        · exact mg_weak (mm_le_s (mm_le_s (mm_le_s (mm_le_s (mm_le_n mm_le_0))))) (X0_spread_b49_ok hz hd h0 ih hr)
        · refine ml_iload (pc := 31) dX0_spread_31 (mm_get_s (mm_get_s (mm_get_s (mm_get_s mm_get_0)))) ?_
          refine mg_bipush (pc := 33) dX0_spread_33 kb_10 ?_
          refine mb_icmp_ge (pc := 35) 49 dX0_spread_35 rfl hr (fun hr => ?_) (fun hr => ?_)
          · exact mg_weak (mm_le_s (mm_le_s (mm_le_s (mm_le_s (mm_le_n mm_le_0))))) (X0_spread_b49_ok hz hd h0 ih hr)
          · refine ml_aload_n (pc := 38) dX0_spread_38 rfl mm_get_0 ?_
            refine mb_gr (pc := 39) dX0_spread_39 fl_X0_25 hr (fun c5 hr => ?_)
            refine ml_iload (pc := 42) dX0_spread_42 (mm_get_s (mm_get_s (mm_get_s (mm_get_s mm_get_0)))) ?_
            refine mg_dup2 (pc := 44) dX0_spread_44 rfl rfl ?_
            refine mb_ai (pc := 45) dX0_spread_45 hr (fun x6 hr => ?_)
            refine mg_iconst (pc := 46) dX0_spread_46 kc_1 ?_
            refine mg_iadd (pc := 47) dX0_spread_47 ?_
            refine mb_si (pc := 48) dX0_spread_48 hr (fun m7 hr => ?_)
            exact mg_weak (mm_le_s (mm_le_s (mm_le_s (mm_le_s (mm_le_n mm_le_0))))) (X0_spread_b49_ok hz hd h0 ih hr)
def X0_spread (e : mm_E) (a0 : Nat) (i1 : Int32) (a2 : Nat) (m : mm_V) : Option mm_V := X0_spread_L2 e a0 i1 a2 e.2.2 (0 : Int32) m
theorem X0_spread_ok {K : mm_K} {nx : Option Nat} {e : mm_E} (hz : e.2.1 = K.2.2.2.2) {d : Nat} (hd : 1 ≤ d) {a0 : Nat} {i1 : Int32} {a2 : Nat} (h0 : e.1 a0 = some (0, 13)) {m : mm_V} {r : mm_V} (hr : X0_spread e a0 i1 a2 m = some r) : mm_Cn K MX0_spread d (mm_Fv e.1 nx r) [.ref a0, .int i1, .ref a2] (e.1, m) nx := by
  obtain ⟨d, rfl⟩ : ∃ d', d = d' + 1 := ⟨d - 1, by omega⟩
  refine mm_entry (by decide) (Nat.le_of_ble_eq_true rfl) rfl (fun hok => ?_)
  unfold X0_spread at hr
  refine mg_weak (L' := [some (.ref a0), some (.int i1), some (.ref a2), none, none]) (mm_le_s (mm_le_s (mm_le_s (mm_le_e (mm_le_e mm_le_0))))) ?_
  refine mg_iconst (pc := 0) dX0_spread_0 kc_0 ?_
  refine ml_istore_n (pc := 1) dX0_spread_1 rfl (Nat.le_of_ble_eq_true rfl) (mm_st1_s (mm_st1_s mm_st1_r)) ?_
  exact mg_weak (mm_le_s (mm_le_s (mm_le_s (mm_le_s (mm_le_n mm_le_0))))) (X0_spread_L2_ok hz hd h0 _ _ _ _ hr)
theorem dX5_at_0 : decode cX5_at 0 = .ok (.aload_n 0, 1) := by decide +kernel
theorem dX5_at_1 : decode cX5_at 1 = .ok (.getfield 26, 3) := by decide +kernel
theorem dX5_at_4 : decode cX5_at 4 = .ok (.iload_n 1, 1) := by decide +kernel
theorem dX5_at_5 : decode cX5_at 5 = .ok (.iadd, 1) := by decide +kernel
theorem dX5_at_6 : decode cX5_at 6 = .ok (.istore_n 2, 1) := by decide +kernel
theorem dX5_at_7 : decode cX5_at 7 = .ok (.iload_n 2, 1) := by decide +kernel
theorem dX5_at_8 : decode cX5_at 8 = .ok (.bipush 60, 2) := by decide +kernel
theorem dX5_at_10 : decode cX5_at 10 = .ok (.if_icmp .lt 10, 3) := by decide +kernel
theorem dX5_at_13 : decode cX5_at 13 = .ok (.iload_n 2, 1) := by decide +kernel
theorem dX5_at_14 : decode cX5_at 14 = .ok (.bipush 60, 2) := by decide +kernel
theorem dX5_at_16 : decode cX5_at 16 = .ok (.isub, 1) := by decide +kernel
theorem dX5_at_17 : decode cX5_at 17 = .ok (.goto 4, 3) := by decide +kernel
theorem dX5_at_20 : decode cX5_at 20 = .ok (.iload_n 2, 1) := by decide +kernel
theorem dX5_at_21 : decode cX5_at 21 = .ok (.istore_n 2, 1) := by decide +kernel
theorem dX5_at_22 : decode cX5_at 22 = .ok (.iload_n 2, 1) := by decide +kernel
theorem dX5_at_23 : decode cX5_at 23 = .ok (.ifCond .lt 18, 3) := by decide +kernel
theorem dX5_at_26 : decode cX5_at 26 = .ok (.iload_n 2, 1) := by decide +kernel
theorem dX5_at_27 : decode cX5_at 27 = .ok (.bipush 60, 2) := by decide +kernel
theorem dX5_at_29 : decode cX5_at 29 = .ok (.if_icmp .ge 12, 3) := by decide +kernel
theorem dX5_at_32 : decode cX5_at 32 = .ok (.aload_n 0, 1) := by decide +kernel
theorem dX5_at_33 : decode cX5_at 33 = .ok (.getfield 11, 3) := by decide +kernel
theorem dX5_at_36 : decode cX5_at 36 = .ok (.iload_n 2, 1) := by decide +kernel
theorem dX5_at_37 : decode cX5_at 37 = .ok (.aaload, 1) := by decide +kernel
theorem dX5_at_38 : decode cX5_at 38 = .ok (.goto 7, 3) := by decide +kernel
theorem dX5_at_41 : decode cX5_at 41 = .ok (.aload_n 0, 1) := by decide +kernel
theorem dX5_at_42 : decode cX5_at 42 = .ok (.getfield 18, 3) := by decide +kernel
theorem dX5_at_45 : decode cX5_at 45 = .ok (.areturn, 1) := by decide +kernel
def X5_at_b45 (e : mm_E) (t0 : Nat) (m : mm_V) : Option (Nat × mm_V) := some (t0, m)
theorem X5_at_b45_ok {K : mm_K} {nx : Option Nat} {e : mm_E} (hz : e.2.1 = K.2.2.2.2) {d : Nat} (hd : 0 ≤ d) {t0 : Nat} {a0 : Nat} (h0 : e.1 a0 = some (5, 4)) {m : mm_V} {r : (Nat × mm_V)} (hr : X5_at_b45 e t0 m = some r) : mm_G K MX5_at d (mm_Fr e.1 nx r) 45 [none, none, none] [.ref t0] (e.1, m) nx 0 0 := by
  unfold X5_at_b45 at hr
  exact mb_aret dX5_at_45 rfl hr
def X5_at_b41 (e : mm_E) (a0 : Nat) (m : mm_V) : Option (Nat × mm_V) := (mm_gr e.1 m 5 4 a0 1).bind fun c1 => X5_at_b45 e  c1 m
theorem X5_at_b41_ok {K : mm_K} {nx : Option Nat} {e : mm_E} (hz : e.2.1 = K.2.2.2.2) {d : Nat} (hd : 0 ≤ d) {a0 : Nat} (h0 : e.1 a0 = some (5, 4)) {m : mm_V} {r : (Nat × mm_V)} (hr : X5_at_b41 e a0 m = some r) : mm_G K MX5_at d (mm_Fr e.1 nx r) 41 [some (.ref a0), none, none] [] (e.1, m) nx 0 0 := by
  unfold X5_at_b41 at hr
  refine ml_aload_n (pc := 41) dX5_at_41 rfl mm_get_0 ?_
  refine mb_gr (pc := 42) dX5_at_42 fl_X5_18 hr (fun c1 hr => ?_)
  exact mg_weak (mm_le_n (mm_le_n (mm_le_n mm_le_0))) (X5_at_b45_ok hz hd h0 hr)
def X5_at_b21 (e : mm_E) (a0 : Nat) (t0 : Int32) (m : mm_V) : Option (Nat × mm_V) := if t0 < 0 then (X5_at_b41 e a0  m) else (if (60 : Int32) ≤ t0 then (X5_at_b41 e a0  m) else ((mm_gr e.1 m 5 4 a0 0).bind fun c1 => (mm_aq e.1 m 24 c1 t0).bind fun c2 => X5_at_b45 e  c2 m))
theorem X5_at_b21_ok {K : mm_K} {nx : Option Nat} {e : mm_E} (hz : e.2.1 = K.2.2.2.2) {d : Nat} (hd : 0 ≤ d) {a0 : Nat} {t0 : Int32} (h0 : e.1 a0 = some (5, 4)) {m : mm_V} {r : (Nat × mm_V)} (hr : X5_at_b21 e a0 t0 m = some r) : mm_G K MX5_at d (mm_Fr e.1 nx r) 21 [some (.ref a0), none, none] [.int t0] (e.1, m) nx 0 0 := by
  unfold X5_at_b21 at hr
  refine ml_istore_n (pc := 21) dX5_at_21 rfl (Nat.le_of_ble_eq_true rfl) (mm_st1_s mm_st1_n) ?_
  refine ml_iload_n (pc := 22) dX5_at_22 rfl (mm_get_s (mm_get_s mm_get_0)) ?_
  refine mb_if_lt (pc := 23) 41 dX5_at_23 rfl hr (fun hr => ?_) (fun hr => ?_)
  · exact mg_weak (mm_le_s (mm_le_n (mm_le_n mm_le_0))) (X5_at_b41_ok hz hd h0 hr)
  · refine ml_iload_n (pc := 26) dX5_at_26 rfl (mm_get_s (mm_get_s mm_get_0)) ?_
    refine mg_bipush (pc := 27) dX5_at_27 kb_60 ?_
    refine mb_icmp_ge (pc := 29) 41 dX5_at_29 rfl hr (fun hr => ?_) (fun hr => ?_)
    · exact mg_weak (mm_le_s (mm_le_n (mm_le_n mm_le_0))) (X5_at_b41_ok hz hd h0 hr)
    · refine ml_aload_n (pc := 32) dX5_at_32 rfl mm_get_0 ?_
      refine mb_gr (pc := 33) dX5_at_33 fl_X5_11 hr (fun c1 hr => ?_)
      refine ml_iload_n (pc := 36) dX5_at_36 rfl (mm_get_s (mm_get_s mm_get_0)) ?_
      refine mb_aq (pc := 37) dX5_at_37 (by decide) (by decide) hr (fun c2 hr => ?_)
      refine mg_goto (pc := 38) 45 dX5_at_38 rfl ?_
      exact mg_weak (mm_le_n (mm_le_n (mm_le_n mm_le_0))) (X5_at_b45_ok hz hd h0 hr)
def X5_at (e : mm_E) (a0 : Nat) (i1 : Int32) (m : mm_V) : Option (Nat × mm_V) := (mm_gi e.1 m 5 4 a0 2).bind fun x1 => if (x1 + i1) < (60 : Int32) then (X5_at_b21 e a0 (x1 + i1) m) else (X5_at_b21 e a0 ((x1 + i1) - (60 : Int32)) m)
theorem X5_at_ok {K : mm_K} {nx : Option Nat} {e : mm_E} (hz : e.2.1 = K.2.2.2.2) {d : Nat} (hd : 0 ≤ d) {a0 : Nat} {i1 : Int32} (h0 : e.1 a0 = some (5, 4)) {m : mm_V} {r : (Nat × mm_V)} (hr : X5_at e a0 i1 m = some r) : mm_Cn K MX5_at d (mm_Fr e.1 nx r) [.ref a0, .int i1] (e.1, m) nx := by
  refine mm_entry (by decide) (Nat.le_of_ble_eq_true rfl) rfl (fun hok => ?_)
  unfold X5_at at hr
  refine mg_weak (L' := [some (.ref a0), some (.int i1), none]) (mm_le_s (mm_le_s (mm_le_e mm_le_0))) ?_
  refine ml_aload_n (pc := 0) dX5_at_0 rfl mm_get_0 ?_
  refine mb_gi (pc := 1) dX5_at_1 fl_X5_26 hr (fun x1 hr => ?_)
  refine ml_iload_n (pc := 4) dX5_at_4 rfl (mm_get_s mm_get_0) ?_
  refine mg_iadd (pc := 5) dX5_at_5 ?_
  refine ml_istore_n (pc := 6) dX5_at_6 rfl (Nat.le_of_ble_eq_true rfl) (mm_st1_s mm_st1_i) ?_
  refine ml_iload_n (pc := 7) dX5_at_7 rfl (mm_get_s (mm_get_s mm_get_0)) ?_
  refine mg_bipush (pc := 8) dX5_at_8 kb_60 ?_
  refine mb_icmp_lt (pc := 10) 20 dX5_at_10 rfl hr (fun hr => ?_) (fun hr => ?_)
  · refine ml_iload_n (pc := 20) dX5_at_20 rfl (mm_get_s (mm_get_s mm_get_0)) ?_
    exact mg_weak (mm_le_s (mm_le_n (mm_le_n mm_le_0))) (X5_at_b21_ok hz hd h0 hr)
  · refine ml_iload_n (pc := 13) dX5_at_13 rfl (mm_get_s (mm_get_s mm_get_0)) ?_
    refine mg_bipush (pc := 14) dX5_at_14 kb_60 ?_
    refine mg_isub (pc := 16) dX5_at_16 ?_
    refine mg_goto (pc := 17) 21 dX5_at_17 rfl ?_
    exact mg_weak (mm_le_s (mm_le_n (mm_le_n mm_le_0))) (X5_at_b21_ok hz hd h0 hr)
theorem dX0_fanOf_0 : decode cX0_fanOf 0 = .ok (.iload_n 2, 1) := by decide +kernel
theorem dX0_fanOf_1 : decode cX0_fanOf 1 = .ok (.ifCond .lt 15, 3) := by decide +kernel
theorem dX0_fanOf_4 : decode cX0_fanOf 4 = .ok (.iload_n 2, 1) := by decide +kernel
theorem dX0_fanOf_5 : decode cX0_fanOf 5 = .ok (.aload_n 1, 1) := by decide +kernel
theorem dX0_fanOf_6 : decode cX0_fanOf 6 = .ok (.arraylength, 1) := by decide +kernel
theorem dX0_fanOf_7 : decode cX0_fanOf 7 = .ok (.if_icmp .ge 9, 3) := by decide +kernel
theorem dX0_fanOf_10 : decode cX0_fanOf 10 = .ok (.aload_n 1, 1) := by decide +kernel
theorem dX0_fanOf_11 : decode cX0_fanOf 11 = .ok (.iload_n 2, 1) := by decide +kernel
theorem dX0_fanOf_12 : decode cX0_fanOf 12 = .ok (.aaload, 1) := by decide +kernel
theorem dX0_fanOf_13 : decode cX0_fanOf 13 = .ok (.goto 7, 3) := by decide +kernel
theorem dX0_fanOf_16 : decode cX0_fanOf 16 = .ok (.aload_n 0, 1) := by decide +kernel
theorem dX0_fanOf_17 : decode cX0_fanOf 17 = .ok (.getfield 21, 3) := by decide +kernel
theorem dX0_fanOf_20 : decode cX0_fanOf 20 = .ok (.areturn, 1) := by decide +kernel
def X0_fanOf_b20 (e : mm_E) (t0 : Nat) (m : mm_V) : Option (Nat × mm_V) := some (t0, m)
theorem X0_fanOf_b20_ok {K : mm_K} {nx : Option Nat} {e : mm_E} (hz : e.2.1 = K.2.2.2.2) {d : Nat} (hd : 0 ≤ d) {t0 : Nat} {a0 : Nat} (h0 : e.1 a0 = some (0, 13)) {m : mm_V} {r : (Nat × mm_V)} (hr : X0_fanOf_b20 e t0 m = some r) : mm_G K MX0_fanOf d (mm_Fr e.1 nx r) 20 [none, none, none] [.ref t0] (e.1, m) nx 0 0 := by
  unfold X0_fanOf_b20 at hr
  exact mb_aret dX0_fanOf_20 rfl hr
def X0_fanOf_b16 (e : mm_E) (a0 : Nat) (m : mm_V) : Option (Nat × mm_V) := (mm_gr e.1 m 0 13 a0 2).bind fun c1 => X0_fanOf_b20 e  c1 m
theorem X0_fanOf_b16_ok {K : mm_K} {nx : Option Nat} {e : mm_E} (hz : e.2.1 = K.2.2.2.2) {d : Nat} (hd : 0 ≤ d) {a0 : Nat} (h0 : e.1 a0 = some (0, 13)) {m : mm_V} {r : (Nat × mm_V)} (hr : X0_fanOf_b16 e a0 m = some r) : mm_G K MX0_fanOf d (mm_Fr e.1 nx r) 16 [some (.ref a0), none, none] [] (e.1, m) nx 0 0 := by
  unfold X0_fanOf_b16 at hr
  refine ml_aload_n (pc := 16) dX0_fanOf_16 rfl mm_get_0 ?_
  refine mb_gr (pc := 17) dX0_fanOf_17 fl_X0_21 hr (fun c1 hr => ?_)
  exact mg_weak (mm_le_n (mm_le_n (mm_le_n mm_le_0))) (X0_fanOf_b20_ok hz hd h0 hr)
def X0_fanOf (e : mm_E) (a0 : Nat) (a1 : Nat) (i2 : Int32) (m : mm_V) : Option (Nat × mm_V) := if i2 < 0 then (X0_fanOf_b16 e a0  m) else ((mm_ln e.1 a1).bind fun x1 => if x1 ≤ i2 then (X0_fanOf_b16 e a0  m) else ((mm_aq e.1 m 23 a1 i2).bind fun c2 => X0_fanOf_b20 e  c2 m))
theorem X0_fanOf_ok {K : mm_K} {nx : Option Nat} {e : mm_E} (hz : e.2.1 = K.2.2.2.2) {d : Nat} (hd : 0 ≤ d) {a0 : Nat} {a1 : Nat} {i2 : Int32} (h0 : e.1 a0 = some (0, 13)) {m : mm_V} {r : (Nat × mm_V)} (hr : X0_fanOf e a0 a1 i2 m = some r) : mm_Cn K MX0_fanOf d (mm_Fr e.1 nx r) [.ref a0, .ref a1, .int i2] (e.1, m) nx := by
  refine mm_entry (by decide) (Nat.le_of_ble_eq_true rfl) rfl (fun hok => ?_)
  unfold X0_fanOf at hr
  refine mg_weak (L' := [some (.ref a0), some (.ref a1), some (.int i2)]) (mm_le_s (mm_le_s (mm_le_s mm_le_0))) ?_
  refine ml_iload_n (pc := 0) dX0_fanOf_0 rfl (mm_get_s (mm_get_s mm_get_0)) ?_
  refine mb_if_lt (pc := 1) 16 dX0_fanOf_1 rfl hr (fun hr => ?_) (fun hr => ?_)
  · exact mg_weak (mm_le_s (mm_le_n (mm_le_n mm_le_0))) (X0_fanOf_b16_ok hz hd h0 hr)
  · refine ml_iload_n (pc := 4) dX0_fanOf_4 rfl (mm_get_s (mm_get_s mm_get_0)) ?_
    refine ml_aload_n (pc := 5) dX0_fanOf_5 rfl (mm_get_s mm_get_0) ?_
    refine mb_ln (pc := 6) dX0_fanOf_6 hr (fun x1 hr => ?_)
    refine mb_icmp_ge (pc := 7) 16 dX0_fanOf_7 rfl hr (fun hr => ?_) (fun hr => ?_)
    · exact mg_weak (mm_le_s (mm_le_n (mm_le_n mm_le_0))) (X0_fanOf_b16_ok hz hd h0 hr)
    · refine ml_aload_n (pc := 10) dX0_fanOf_10 rfl (mm_get_s mm_get_0) ?_
      refine ml_iload_n (pc := 11) dX0_fanOf_11 rfl (mm_get_s (mm_get_s mm_get_0)) ?_
      refine mb_aq (pc := 12) dX0_fanOf_12 (by decide) (by decide) hr (fun c2 hr => ?_)
      refine mg_goto (pc := 13) 20 dX0_fanOf_13 rfl ?_
      exact mg_weak (mm_le_n (mm_le_n (mm_le_n mm_le_0))) (X0_fanOf_b20_ok hz hd h0 hr)
theorem dX3_placeOf_0 : decode cX3_placeOf 0 = .ok (.iconst 0, 1) := by decide +kernel
theorem dX3_placeOf_1 : decode cX3_placeOf 1 = .ok (.istore_n 2, 1) := by decide +kernel
theorem dX3_placeOf_2 : decode cX3_placeOf 2 = .ok (.iload_n 2, 1) := by decide +kernel
theorem dX3_placeOf_3 : decode cX3_placeOf 3 = .ok (.aload_n 0, 1) := by decide +kernel
theorem dX3_placeOf_4 : decode cX3_placeOf 4 = .ok (.getfield 15, 3) := by decide +kernel
theorem dX3_placeOf_7 : decode cX3_placeOf 7 = .ok (.if_icmp .ge 30, 3) := by decide +kernel
theorem dX3_placeOf_10 : decode cX3_placeOf 10 = .ok (.iload_n 2, 1) := by decide +kernel
theorem dX3_placeOf_11 : decode cX3_placeOf 11 = .ok (.aload_n 0, 1) := by decide +kernel
theorem dX3_placeOf_12 : decode cX3_placeOf 12 = .ok (.getfield 9, 3) := by decide +kernel
theorem dX3_placeOf_15 : decode cX3_placeOf 15 = .ok (.arraylength, 1) := by decide +kernel
theorem dX3_placeOf_16 : decode cX3_placeOf 16 = .ok (.if_icmp .ge 21, 3) := by decide +kernel
theorem dX3_placeOf_19 : decode cX3_placeOf 19 = .ok (.aload_n 0, 1) := by decide +kernel
theorem dX3_placeOf_20 : decode cX3_placeOf 20 = .ok (.getfield 9, 3) := by decide +kernel
theorem dX3_placeOf_23 : decode cX3_placeOf 23 = .ok (.iload_n 2, 1) := by decide +kernel
theorem dX3_placeOf_24 : decode cX3_placeOf 24 = .ok (.iaload, 1) := by decide +kernel
theorem dX3_placeOf_25 : decode cX3_placeOf 25 = .ok (.iload_n 1, 1) := by decide +kernel
theorem dX3_placeOf_26 : decode cX3_placeOf 26 = .ok (.if_icmp .ne 5, 3) := by decide +kernel
theorem dX3_placeOf_29 : decode cX3_placeOf 29 = .ok (.iload_n 2, 1) := by decide +kernel
theorem dX3_placeOf_30 : decode cX3_placeOf 30 = .ok (.ireturn, 1) := by decide +kernel
theorem dX3_placeOf_31 : decode cX3_placeOf 31 = .ok (.iinc 2 1, 3) := by decide +kernel
theorem dX3_placeOf_34 : decode cX3_placeOf 34 = .ok (.goto (-32), 3) := by decide +kernel
theorem dX3_placeOf_37 : decode cX3_placeOf 37 = .ok (.iconst (-1), 1) := by decide +kernel
theorem dX3_placeOf_38 : decode cX3_placeOf 38 = .ok (.ireturn, 1) := by decide +kernel
def X3_placeOf_b37 (e : mm_E) (m : mm_V) : Option (Int32 × mm_V) := some ((-1 : Int32), m)
theorem X3_placeOf_b37_ok {K : mm_K} {nx : Option Nat} {e : mm_E} (hz : e.2.1 = K.2.2.2.2) {d : Nat} (hd : 0 ≤ d) {a0 : Nat} (h0 : e.1 a0 = some (3, 2)) {m : mm_V} {r : (Int32 × mm_V)} (hr : X3_placeOf_b37 e m = some r) : mm_G K MX3_placeOf d (mm_Fi e.1 nx r) 37 [none, none, none] [] (e.1, m) nx 0 0 := by
  unfold X3_placeOf_b37 at hr
  refine mg_iconst (pc := 37) dX3_placeOf_37 kc_m1 ?_
  exact mb_iret dX3_placeOf_38 rfl hr
def X3_placeOf_L2 (e : mm_E) (a0 : Nat) (i1 : Int32) : Nat → Int32 → mm_V → Option (Int32 × mm_V)
  | 0, _, _ => none
  | n + 1, i2, m => (mm_gi e.1 m 3 2 a0 1).bind fun x1 => if x1 ≤ i2 then (X3_placeOf_b37 e   m) else ((mm_gr e.1 m 3 2 a0 0).bind fun c2 => (mm_ln e.1 c2).bind fun x3 => if x3 ≤ i2 then (X3_placeOf_b37 e   m) else ((mm_gr e.1 m 3 2 a0 0).bind fun c4 => (mm_ai e.1 m 20 c4 i2).bind fun x5 => if ¬ x5 = i1 then (X3_placeOf_L2 e a0 i1 n (i2 + 1) m) else (some (i2, m))))
theorem X3_placeOf_L2_ok {K : mm_K} {nx : Option Nat} {e : mm_E} (hz : e.2.1 = K.2.2.2.2) {d : Nat} (hd : 0 ≤ d) {a0 : Nat} {i1 : Int32} (h0 : e.1 a0 = some (3, 2)) : ∀ (n : Nat) (i2 : Int32) (m : mm_V) (r : (Int32 × mm_V)), X3_placeOf_L2 e a0 i1 n i2 m = some r → mm_G K MX3_placeOf d (mm_Fi e.1 nx r) 2 [some (.ref a0), some (.int i1), some (.int i2)] [] (e.1, m) nx 0 0 := by
  intro n
  induction n with
  | zero => intro i2 m r hr; unfold X3_placeOf_L2 at hr; cases hr
  | succ n ih =>
    intro i2 m r hr
    unfold X3_placeOf_L2 at hr
    refine ml_iload_n (pc := 2) dX3_placeOf_2 rfl (mm_get_s (mm_get_s mm_get_0)) ?_
    refine ml_aload_n (pc := 3) dX3_placeOf_3 rfl mm_get_0 ?_
    refine mb_gi (pc := 4) dX3_placeOf_4 fl_X3_15 hr (fun x1 hr => ?_)
    refine mb_icmp_ge (pc := 7) 37 dX3_placeOf_7 rfl hr (fun hr => ?_) (fun hr => ?_)
    · exact mg_weak (mm_le_n (mm_le_n (mm_le_n mm_le_0))) (X3_placeOf_b37_ok hz hd h0 hr)
    · refine ml_iload_n (pc := 10) dX3_placeOf_10 rfl (mm_get_s (mm_get_s mm_get_0)) ?_
      refine ml_aload_n (pc := 11) dX3_placeOf_11 rfl mm_get_0 ?_
      refine mb_gr (pc := 12) dX3_placeOf_12 fl_X3_9 hr (fun c2 hr => ?_)
      refine mb_ln (pc := 15) dX3_placeOf_15 hr (fun x3 hr => ?_)
      refine mb_icmp_ge (pc := 16) 37 dX3_placeOf_16 rfl hr (fun hr => ?_) (fun hr => ?_)
      · exact mg_weak (mm_le_n (mm_le_n (mm_le_n mm_le_0))) (X3_placeOf_b37_ok hz hd h0 hr)
      · refine ml_aload_n (pc := 19) dX3_placeOf_19 rfl mm_get_0 ?_
        refine mb_gr (pc := 20) dX3_placeOf_20 fl_X3_9 hr (fun c4 hr => ?_)
        refine ml_iload_n (pc := 23) dX3_placeOf_23 rfl (mm_get_s (mm_get_s mm_get_0)) ?_
        refine mb_ai (pc := 24) dX3_placeOf_24 hr (fun x5 hr => ?_)
        refine ml_iload_n (pc := 25) dX3_placeOf_25 rfl (mm_get_s mm_get_0) ?_
        refine mb_icmp_ne (pc := 26) 31 dX3_placeOf_26 rfl hr (fun hr => ?_) (fun hr => ?_)
        · refine ml_iinc (pc := 31) dX3_placeOf_31 (mm_get_s (mm_get_s mm_get_0)) (congrArg (fun z => i2 + z) kc_1) (Nat.le_of_ble_eq_true rfl) (mm_st1_s mm_st1_i) ?_
          refine mg_goto (pc := 34) 2 dX3_placeOf_34 rfl ?_
          exact mg_weak (mm_le_s (mm_le_s (mm_le_s mm_le_0))) (ih _ _ _ hr)
        · refine ml_iload_n (pc := 29) dX3_placeOf_29 rfl (mm_get_s (mm_get_s mm_get_0)) ?_
          exact mb_iret dX3_placeOf_30 rfl hr
def X3_placeOf (e : mm_E) (a0 : Nat) (i1 : Int32) (m : mm_V) : Option (Int32 × mm_V) := X3_placeOf_L2 e a0 i1 e.2.2 (0 : Int32) m
theorem X3_placeOf_ok {K : mm_K} {nx : Option Nat} {e : mm_E} (hz : e.2.1 = K.2.2.2.2) {d : Nat} (hd : 0 ≤ d) {a0 : Nat} {i1 : Int32} (h0 : e.1 a0 = some (3, 2)) {m : mm_V} {r : (Int32 × mm_V)} (hr : X3_placeOf e a0 i1 m = some r) : mm_Cn K MX3_placeOf d (mm_Fi e.1 nx r) [.ref a0, .int i1] (e.1, m) nx := by
  refine mm_entry (by decide) (Nat.le_of_ble_eq_true rfl) rfl (fun hok => ?_)
  unfold X3_placeOf at hr
  refine mg_weak (L' := [some (.ref a0), some (.int i1), none]) (mm_le_s (mm_le_s (mm_le_e mm_le_0))) ?_
  refine mg_iconst (pc := 0) dX3_placeOf_0 kc_0 ?_
  refine ml_istore_n (pc := 1) dX3_placeOf_1 rfl (Nat.le_of_ble_eq_true rfl) (mm_st1_s mm_st1_i) ?_
  exact mg_weak (mm_le_s (mm_le_s (mm_le_s mm_le_0))) (X3_placeOf_L2_ok hz hd h0 _ _ _ _ hr)
theorem dX3_takeOut_0 : decode cX3_takeOut 0 = .ok (.iload_n 1, 1) := by decide +kernel
theorem dX3_takeOut_1 : decode cX3_takeOut 1 = .ok (.ifCond .lt 23, 3) := by decide +kernel
theorem dX3_takeOut_4 : decode cX3_takeOut 4 = .ok (.iload_n 1, 1) := by decide +kernel
theorem dX3_takeOut_5 : decode cX3_takeOut 5 = .ok (.aload_n 0, 1) := by decide +kernel
theorem dX3_takeOut_6 : decode cX3_takeOut 6 = .ok (.getfield 15, 3) := by decide +kernel
theorem dX3_takeOut_9 : decode cX3_takeOut 9 = .ok (.if_icmp .ge 15, 3) := by decide +kernel
theorem dX3_takeOut_12 : decode cX3_takeOut 12 = .ok (.aload_n 0, 1) := by decide +kernel
theorem dX3_takeOut_13 : decode cX3_takeOut 13 = .ok (.getfield 15, 3) := by decide +kernel
theorem dX3_takeOut_16 : decode cX3_takeOut 16 = .ok (.aload_n 0, 1) := by decide +kernel
theorem dX3_takeOut_17 : decode cX3_takeOut 17 = .ok (.getfield 9, 3) := by decide +kernel
theorem dX3_takeOut_20 : decode cX3_takeOut 20 = .ok (.arraylength, 1) := by decide +kernel
theorem dX3_takeOut_21 : decode cX3_takeOut 21 = .ok (.if_icmp .le 4, 3) := by decide +kernel
theorem dX3_takeOut_24 : decode cX3_takeOut 24 = .ok (.return_, 1) := by decide +kernel
theorem dX3_takeOut_25 : decode cX3_takeOut 25 = .ok (.iload_n 1, 1) := by decide +kernel
theorem dX3_takeOut_26 : decode cX3_takeOut 26 = .ok (.iconst 1, 1) := by decide +kernel
theorem dX3_takeOut_27 : decode cX3_takeOut 27 = .ok (.iadd, 1) := by decide +kernel
theorem dX3_takeOut_28 : decode cX3_takeOut 28 = .ok (.istore_n 2, 1) := by decide +kernel
theorem dX3_takeOut_29 : decode cX3_takeOut 29 = .ok (.iload_n 2, 1) := by decide +kernel
theorem dX3_takeOut_30 : decode cX3_takeOut 30 = .ok (.aload_n 0, 1) := by decide +kernel
theorem dX3_takeOut_31 : decode cX3_takeOut 31 = .ok (.getfield 15, 3) := by decide +kernel
theorem dX3_takeOut_34 : decode cX3_takeOut 34 = .ok (.if_icmp .ge 23, 3) := by decide +kernel
theorem dX3_takeOut_37 : decode cX3_takeOut 37 = .ok (.aload_n 0, 1) := by decide +kernel
theorem dX3_takeOut_38 : decode cX3_takeOut 38 = .ok (.getfield 9, 3) := by decide +kernel
theorem dX3_takeOut_41 : decode cX3_takeOut 41 = .ok (.iload_n 2, 1) := by decide +kernel
theorem dX3_takeOut_42 : decode cX3_takeOut 42 = .ok (.iconst 1, 1) := by decide +kernel
theorem dX3_takeOut_43 : decode cX3_takeOut 43 = .ok (.isub, 1) := by decide +kernel
theorem dX3_takeOut_44 : decode cX3_takeOut 44 = .ok (.aload_n 0, 1) := by decide +kernel
theorem dX3_takeOut_45 : decode cX3_takeOut 45 = .ok (.getfield 9, 3) := by decide +kernel
theorem dX3_takeOut_48 : decode cX3_takeOut 48 = .ok (.iload_n 2, 1) := by decide +kernel
theorem dX3_takeOut_49 : decode cX3_takeOut 49 = .ok (.iaload, 1) := by decide +kernel
theorem dX3_takeOut_50 : decode cX3_takeOut 50 = .ok (.iastore, 1) := by decide +kernel
theorem dX3_takeOut_51 : decode cX3_takeOut 51 = .ok (.iinc 2 1, 3) := by decide +kernel
theorem dX3_takeOut_54 : decode cX3_takeOut 54 = .ok (.goto (-25), 3) := by decide +kernel
theorem dX3_takeOut_57 : decode cX3_takeOut 57 = .ok (.aload_n 0, 1) := by decide +kernel
theorem dX3_takeOut_58 : decode cX3_takeOut 58 = .ok (.dup, 1) := by decide +kernel
theorem dX3_takeOut_59 : decode cX3_takeOut 59 = .ok (.getfield 15, 3) := by decide +kernel
theorem dX3_takeOut_62 : decode cX3_takeOut 62 = .ok (.iconst 1, 1) := by decide +kernel
theorem dX3_takeOut_63 : decode cX3_takeOut 63 = .ok (.isub, 1) := by decide +kernel
theorem dX3_takeOut_64 : decode cX3_takeOut 64 = .ok (.putfield 15, 3) := by decide +kernel
theorem dX3_takeOut_67 : decode cX3_takeOut 67 = .ok (.return_, 1) := by decide +kernel
def X3_takeOut_L29 (e : mm_E) (a0 : Nat) : Nat → Int32 → mm_V → Option mm_V
  | 0, _, _ => none
  | n + 1, i2, m => (mm_gi e.1 m 3 2 a0 1).bind fun x1 => if x1 ≤ i2 then ((mm_gi e.1 m 3 2 a0 1).bind fun x2 => (mm_pf e.1 m 3 2 a0 1 (.int (x2 - (1 : Int32)))).bind fun m3 => some m3) else ((mm_gr e.1 m 3 2 a0 0).bind fun c4 => (mm_gr e.1 m 3 2 a0 0).bind fun c5 => (mm_ai e.1 m 20 c5 i2).bind fun x6 => (mm_si e.1 m c4 (i2 - (1 : Int32)) x6).bind fun m7 => X3_takeOut_L29 e a0 n (i2 + 1) m7)
theorem X3_takeOut_L29_ok {K : mm_K} {nx : Option Nat} {e : mm_E} (hz : e.2.1 = K.2.2.2.2) {d : Nat} (hd : 0 ≤ d) {a0 : Nat} (h0 : e.1 a0 = some (3, 2)) : ∀ (n : Nat) (i2 : Int32) (m : mm_V) (r : mm_V), X3_takeOut_L29 e a0 n i2 m = some r → mm_G K MX3_takeOut d (mm_Fv e.1 nx r) 29 [some (.ref a0), none, some (.int i2)] [] (e.1, m) nx 0 0 := by
  intro n
  induction n with
  | zero => intro i2 m r hr; unfold X3_takeOut_L29 at hr; cases hr
  | succ n ih =>
    intro i2 m r hr
    unfold X3_takeOut_L29 at hr
    refine ml_iload_n (pc := 29) dX3_takeOut_29 rfl (mm_get_s (mm_get_s mm_get_0)) ?_
    refine ml_aload_n (pc := 30) dX3_takeOut_30 rfl mm_get_0 ?_
    refine mb_gi (pc := 31) dX3_takeOut_31 fl_X3_15 hr (fun x1 hr => ?_)
    refine mb_icmp_ge (pc := 34) 57 dX3_takeOut_34 rfl hr (fun hr => ?_) (fun hr => ?_)
    · refine ml_aload_n (pc := 57) dX3_takeOut_57 rfl mm_get_0 ?_
      refine mg_dup (pc := 58) dX3_takeOut_58 rfl ?_
      refine mb_gi (pc := 59) dX3_takeOut_59 fl_X3_15 hr (fun x2 hr => ?_)
      refine mg_iconst (pc := 62) dX3_takeOut_62 kc_1 ?_
      refine mg_isub (pc := 63) dX3_takeOut_63 ?_
      refine mb_pi (pc := 64) dX3_takeOut_64 fp_X3_15 hr (fun m3 hr => ?_)
      exact mb_vret dX3_takeOut_67 rfl hr
    · refine ml_aload_n (pc := 37) dX3_takeOut_37 rfl mm_get_0 ?_
      refine mb_gr (pc := 38) dX3_takeOut_38 fl_X3_9 hr (fun c4 hr => ?_)
      refine ml_iload_n (pc := 41) dX3_takeOut_41 rfl (mm_get_s (mm_get_s mm_get_0)) ?_
      refine mg_iconst (pc := 42) dX3_takeOut_42 kc_1 ?_
      refine mg_isub (pc := 43) dX3_takeOut_43 ?_
      refine ml_aload_n (pc := 44) dX3_takeOut_44 rfl mm_get_0 ?_
      refine mb_gr (pc := 45) dX3_takeOut_45 fl_X3_9 hr (fun c5 hr => ?_)
      refine ml_iload_n (pc := 48) dX3_takeOut_48 rfl (mm_get_s (mm_get_s mm_get_0)) ?_
      refine mb_ai (pc := 49) dX3_takeOut_49 hr (fun x6 hr => ?_)
      refine mb_si (pc := 50) dX3_takeOut_50 hr (fun m7 hr => ?_)
      refine ml_iinc (pc := 51) dX3_takeOut_51 (mm_get_s (mm_get_s mm_get_0)) (congrArg (fun z => i2 + z) kc_1) (Nat.le_of_ble_eq_true rfl) (mm_st1_s mm_st1_n) ?_
      refine mg_goto (pc := 54) 29 dX3_takeOut_54 rfl ?_
      exact mg_weak (mm_le_s (mm_le_n (mm_le_s mm_le_0))) (ih _ _ _ hr)
def X3_takeOut_b24 (e : mm_E) (m : mm_V) : Option mm_V := some m
theorem X3_takeOut_b24_ok {K : mm_K} {nx : Option Nat} {e : mm_E} (hz : e.2.1 = K.2.2.2.2) {d : Nat} (hd : 0 ≤ d) {a0 : Nat} (h0 : e.1 a0 = some (3, 2)) {m : mm_V} {r : mm_V} (hr : X3_takeOut_b24 e m = some r) : mm_G K MX3_takeOut d (mm_Fv e.1 nx r) 24 [none, none, none] [] (e.1, m) nx 0 0 := by
  unfold X3_takeOut_b24 at hr
  exact mb_vret dX3_takeOut_24 rfl hr
def X3_takeOut (e : mm_E) (a0 : Nat) (i1 : Int32) (m : mm_V) : Option mm_V := if i1 < 0 then (X3_takeOut_b24 e   m) else ((mm_gi e.1 m 3 2 a0 1).bind fun x1 => if x1 ≤ i1 then (X3_takeOut_b24 e   m) else ((mm_gi e.1 m 3 2 a0 1).bind fun x2 => (mm_gr e.1 m 3 2 a0 0).bind fun c3 => (mm_ln e.1 c3).bind fun x4 => if x2 ≤ x4 then (X3_takeOut_L29 e a0 e.2.2 (i1 + (1 : Int32)) m) else (X3_takeOut_b24 e   m)))
theorem X3_takeOut_ok {K : mm_K} {nx : Option Nat} {e : mm_E} (hz : e.2.1 = K.2.2.2.2) {d : Nat} (hd : 0 ≤ d) {a0 : Nat} {i1 : Int32} (h0 : e.1 a0 = some (3, 2)) {m : mm_V} {r : mm_V} (hr : X3_takeOut e a0 i1 m = some r) : mm_Cn K MX3_takeOut d (mm_Fv e.1 nx r) [.ref a0, .int i1] (e.1, m) nx := by
  refine mm_entry (by decide) (Nat.le_of_ble_eq_true rfl) rfl (fun hok => ?_)
  unfold X3_takeOut at hr
  refine mg_weak (L' := [some (.ref a0), some (.int i1), none]) (mm_le_s (mm_le_s (mm_le_e mm_le_0))) ?_
  refine ml_iload_n (pc := 0) dX3_takeOut_0 rfl (mm_get_s mm_get_0) ?_
  refine mb_if_lt (pc := 1) 24 dX3_takeOut_1 rfl hr (fun hr => ?_) (fun hr => ?_)
  · exact mg_weak (mm_le_n (mm_le_n (mm_le_n mm_le_0))) (X3_takeOut_b24_ok hz hd h0 hr)
  · refine ml_iload_n (pc := 4) dX3_takeOut_4 rfl (mm_get_s mm_get_0) ?_
    refine ml_aload_n (pc := 5) dX3_takeOut_5 rfl mm_get_0 ?_
    refine mb_gi (pc := 6) dX3_takeOut_6 fl_X3_15 hr (fun x1 hr => ?_)
    refine mb_icmp_ge (pc := 9) 24 dX3_takeOut_9 rfl hr (fun hr => ?_) (fun hr => ?_)
    · exact mg_weak (mm_le_n (mm_le_n (mm_le_n mm_le_0))) (X3_takeOut_b24_ok hz hd h0 hr)
    · refine ml_aload_n (pc := 12) dX3_takeOut_12 rfl mm_get_0 ?_
      refine mb_gi (pc := 13) dX3_takeOut_13 fl_X3_15 hr (fun x2 hr => ?_)
      refine ml_aload_n (pc := 16) dX3_takeOut_16 rfl mm_get_0 ?_
      refine mb_gr (pc := 17) dX3_takeOut_17 fl_X3_9 hr (fun c3 hr => ?_)
      refine mb_ln (pc := 20) dX3_takeOut_20 hr (fun x4 hr => ?_)
      refine mb_icmp_le (pc := 21) 25 dX3_takeOut_21 rfl hr (fun hr => ?_) (fun hr => ?_)
      · refine ml_iload_n (pc := 25) dX3_takeOut_25 rfl (mm_get_s mm_get_0) ?_
        refine mg_iconst (pc := 26) dX3_takeOut_26 kc_1 ?_
        refine mg_iadd (pc := 27) dX3_takeOut_27 ?_
        refine ml_istore_n (pc := 28) dX3_takeOut_28 rfl (Nat.le_of_ble_eq_true rfl) (mm_st1_s mm_st1_i) ?_
        exact mg_weak (mm_le_s (mm_le_n (mm_le_s mm_le_0))) (X3_takeOut_L29_ok hz hd h0 _ _ _ _ hr)
      · exact mg_weak (mm_le_n (mm_le_n (mm_le_n mm_le_0))) (X3_takeOut_b24_ok hz hd h0 hr)
theorem dX3_putIn_0 : decode cX3_putIn 0 = .ok (.iload_n 1, 1) := by decide +kernel
theorem dX3_putIn_1 : decode cX3_putIn 1 = .ok (.ifCond .lt 23, 3) := by decide +kernel
theorem dX3_putIn_4 : decode cX3_putIn 4 = .ok (.iload_n 1, 1) := by decide +kernel
theorem dX3_putIn_5 : decode cX3_putIn 5 = .ok (.aload_n 0, 1) := by decide +kernel
theorem dX3_putIn_6 : decode cX3_putIn 6 = .ok (.getfield 15, 3) := by decide +kernel
theorem dX3_putIn_9 : decode cX3_putIn 9 = .ok (.if_icmp .gt 15, 3) := by decide +kernel
theorem dX3_putIn_12 : decode cX3_putIn 12 = .ok (.aload_n 0, 1) := by decide +kernel
theorem dX3_putIn_13 : decode cX3_putIn 13 = .ok (.getfield 15, 3) := by decide +kernel
theorem dX3_putIn_16 : decode cX3_putIn 16 = .ok (.aload_n 0, 1) := by decide +kernel
theorem dX3_putIn_17 : decode cX3_putIn 17 = .ok (.getfield 9, 3) := by decide +kernel
theorem dX3_putIn_20 : decode cX3_putIn 20 = .ok (.arraylength, 1) := by decide +kernel
theorem dX3_putIn_21 : decode cX3_putIn 21 = .ok (.if_icmp .lt 4, 3) := by decide +kernel
theorem dX3_putIn_24 : decode cX3_putIn 24 = .ok (.return_, 1) := by decide +kernel
theorem dX3_putIn_25 : decode cX3_putIn 25 = .ok (.aload_n 0, 1) := by decide +kernel
theorem dX3_putIn_26 : decode cX3_putIn 26 = .ok (.getfield 15, 3) := by decide +kernel
theorem dX3_putIn_29 : decode cX3_putIn 29 = .ok (.istore_n 3, 1) := by decide +kernel
theorem dX3_putIn_30 : decode cX3_putIn 30 = .ok (.iload_n 3, 1) := by decide +kernel
theorem dX3_putIn_31 : decode cX3_putIn 31 = .ok (.iload_n 1, 1) := by decide +kernel
theorem dX3_putIn_32 : decode cX3_putIn 32 = .ok (.if_icmp .le 23, 3) := by decide +kernel
theorem dX3_putIn_35 : decode cX3_putIn 35 = .ok (.aload_n 0, 1) := by decide +kernel
theorem dX3_putIn_36 : decode cX3_putIn 36 = .ok (.getfield 9, 3) := by decide +kernel
theorem dX3_putIn_39 : decode cX3_putIn 39 = .ok (.iload_n 3, 1) := by decide +kernel
theorem dX3_putIn_40 : decode cX3_putIn 40 = .ok (.aload_n 0, 1) := by decide +kernel
theorem dX3_putIn_41 : decode cX3_putIn 41 = .ok (.getfield 9, 3) := by decide +kernel
theorem dX3_putIn_44 : decode cX3_putIn 44 = .ok (.iload_n 3, 1) := by decide +kernel
theorem dX3_putIn_45 : decode cX3_putIn 45 = .ok (.iconst 1, 1) := by decide +kernel
theorem dX3_putIn_46 : decode cX3_putIn 46 = .ok (.isub, 1) := by decide +kernel
theorem dX3_putIn_47 : decode cX3_putIn 47 = .ok (.iaload, 1) := by decide +kernel
theorem dX3_putIn_48 : decode cX3_putIn 48 = .ok (.iastore, 1) := by decide +kernel
theorem dX3_putIn_49 : decode cX3_putIn 49 = .ok (.iinc 3 (-1), 3) := by decide +kernel
theorem dX3_putIn_52 : decode cX3_putIn 52 = .ok (.goto (-22), 3) := by decide +kernel
theorem dX3_putIn_55 : decode cX3_putIn 55 = .ok (.aload_n 0, 1) := by decide +kernel
theorem dX3_putIn_56 : decode cX3_putIn 56 = .ok (.getfield 9, 3) := by decide +kernel
theorem dX3_putIn_59 : decode cX3_putIn 59 = .ok (.iload_n 1, 1) := by decide +kernel
theorem dX3_putIn_60 : decode cX3_putIn 60 = .ok (.iload_n 2, 1) := by decide +kernel
theorem dX3_putIn_61 : decode cX3_putIn 61 = .ok (.iastore, 1) := by decide +kernel
theorem dX3_putIn_62 : decode cX3_putIn 62 = .ok (.aload_n 0, 1) := by decide +kernel
theorem dX3_putIn_63 : decode cX3_putIn 63 = .ok (.dup, 1) := by decide +kernel
theorem dX3_putIn_64 : decode cX3_putIn 64 = .ok (.getfield 15, 3) := by decide +kernel
theorem dX3_putIn_67 : decode cX3_putIn 67 = .ok (.iconst 1, 1) := by decide +kernel
theorem dX3_putIn_68 : decode cX3_putIn 68 = .ok (.iadd, 1) := by decide +kernel
theorem dX3_putIn_69 : decode cX3_putIn 69 = .ok (.putfield 15, 3) := by decide +kernel
theorem dX3_putIn_72 : decode cX3_putIn 72 = .ok (.return_, 1) := by decide +kernel
def X3_putIn_L30 (e : mm_E) (a0 : Nat) (i1 : Int32) (i2 : Int32) : Nat → Int32 → mm_V → Option mm_V
  | 0, _, _ => none
  | n + 1, i3, m => if i3 ≤ i1 then ((mm_gr e.1 m 3 2 a0 0).bind fun c1 => (mm_si e.1 m c1 i1 i2).bind fun m2 => (mm_gi e.1 m2 3 2 a0 1).bind fun x3 => (mm_pf e.1 m2 3 2 a0 1 (.int (x3 + (1 : Int32)))).bind fun m4 => some m4) else ((mm_gr e.1 m 3 2 a0 0).bind fun c5 => (mm_gr e.1 m 3 2 a0 0).bind fun c6 => (mm_ai e.1 m 20 c6 (i3 - (1 : Int32))).bind fun x7 => (mm_si e.1 m c5 i3 x7).bind fun m8 => X3_putIn_L30 e a0 i1 i2 n (i3 + (-1)) m8)
theorem X3_putIn_L30_ok {K : mm_K} {nx : Option Nat} {e : mm_E} (hz : e.2.1 = K.2.2.2.2) {d : Nat} (hd : 0 ≤ d) {a0 : Nat} {i1 : Int32} {i2 : Int32} (h0 : e.1 a0 = some (3, 2)) : ∀ (n : Nat) (i3 : Int32) (m : mm_V) (r : mm_V), X3_putIn_L30 e a0 i1 i2 n i3 m = some r → mm_G K MX3_putIn d (mm_Fv e.1 nx r) 30 [some (.ref a0), some (.int i1), some (.int i2), some (.int i3)] [] (e.1, m) nx 0 0 := by
  intro n
  induction n with
  | zero => intro i3 m r hr; unfold X3_putIn_L30 at hr; cases hr
  | succ n ih =>
    intro i3 m r hr
    unfold X3_putIn_L30 at hr
    refine ml_iload_n (pc := 30) dX3_putIn_30 rfl (mm_get_s (mm_get_s (mm_get_s mm_get_0))) ?_
    refine ml_iload_n (pc := 31) dX3_putIn_31 rfl (mm_get_s mm_get_0) ?_
    refine mb_icmp_le (pc := 32) 55 dX3_putIn_32 rfl hr (fun hr => ?_) (fun hr => ?_)
    · refine ml_aload_n (pc := 55) dX3_putIn_55 rfl mm_get_0 ?_
      refine mb_gr (pc := 56) dX3_putIn_56 fl_X3_9 hr (fun c1 hr => ?_)
      refine ml_iload_n (pc := 59) dX3_putIn_59 rfl (mm_get_s mm_get_0) ?_
      refine ml_iload_n (pc := 60) dX3_putIn_60 rfl (mm_get_s (mm_get_s mm_get_0)) ?_
      refine mb_si (pc := 61) dX3_putIn_61 hr (fun m2 hr => ?_)
      refine ml_aload_n (pc := 62) dX3_putIn_62 rfl mm_get_0 ?_
      refine mg_dup (pc := 63) dX3_putIn_63 rfl ?_
      refine mb_gi (pc := 64) dX3_putIn_64 fl_X3_15 hr (fun x3 hr => ?_)
      refine mg_iconst (pc := 67) dX3_putIn_67 kc_1 ?_
      refine mg_iadd (pc := 68) dX3_putIn_68 ?_
      refine mb_pi (pc := 69) dX3_putIn_69 fp_X3_15 hr (fun m4 hr => ?_)
      exact mb_vret dX3_putIn_72 rfl hr
    · refine ml_aload_n (pc := 35) dX3_putIn_35 rfl mm_get_0 ?_
      refine mb_gr (pc := 36) dX3_putIn_36 fl_X3_9 hr (fun c5 hr => ?_)
      refine ml_iload_n (pc := 39) dX3_putIn_39 rfl (mm_get_s (mm_get_s (mm_get_s mm_get_0))) ?_
      refine ml_aload_n (pc := 40) dX3_putIn_40 rfl mm_get_0 ?_
      refine mb_gr (pc := 41) dX3_putIn_41 fl_X3_9 hr (fun c6 hr => ?_)
      refine ml_iload_n (pc := 44) dX3_putIn_44 rfl (mm_get_s (mm_get_s (mm_get_s mm_get_0))) ?_
      refine mg_iconst (pc := 45) dX3_putIn_45 kc_1 ?_
      refine mg_isub (pc := 46) dX3_putIn_46 ?_
      refine mb_ai (pc := 47) dX3_putIn_47 hr (fun x7 hr => ?_)
      refine mb_si (pc := 48) dX3_putIn_48 hr (fun m8 hr => ?_)
      refine ml_iinc (pc := 49) dX3_putIn_49 (mm_get_s (mm_get_s (mm_get_s mm_get_0))) (congrArg (fun z => i3 + z) kc_m1) (Nat.le_of_ble_eq_true rfl) (mm_st1_s (mm_st1_s mm_st1_i)) ?_
      refine mg_goto (pc := 52) 30 dX3_putIn_52 rfl ?_
      exact mg_weak (mm_le_s (mm_le_s (mm_le_s (mm_le_s mm_le_0)))) (ih _ _ _ hr)
def X3_putIn_b24 (e : mm_E) (m : mm_V) : Option mm_V := some m
theorem X3_putIn_b24_ok {K : mm_K} {nx : Option Nat} {e : mm_E} (hz : e.2.1 = K.2.2.2.2) {d : Nat} (hd : 0 ≤ d) {a0 : Nat} (h0 : e.1 a0 = some (3, 2)) {m : mm_V} {r : mm_V} (hr : X3_putIn_b24 e m = some r) : mm_G K MX3_putIn d (mm_Fv e.1 nx r) 24 [none, none, none, none] [] (e.1, m) nx 0 0 := by
  unfold X3_putIn_b24 at hr
  exact mb_vret dX3_putIn_24 rfl hr
def X3_putIn (e : mm_E) (a0 : Nat) (i1 : Int32) (i2 : Int32) (m : mm_V) : Option mm_V := if i1 < 0 then (X3_putIn_b24 e   m) else ((mm_gi e.1 m 3 2 a0 1).bind fun x1 => if x1 < i1 then (X3_putIn_b24 e   m) else ((mm_gi e.1 m 3 2 a0 1).bind fun x2 => (mm_gr e.1 m 3 2 a0 0).bind fun c3 => (mm_ln e.1 c3).bind fun x4 => if x2 < x4 then ((mm_gi e.1 m 3 2 a0 1).bind fun x5 => X3_putIn_L30 e a0 i1 i2 e.2.2 x5 m) else (X3_putIn_b24 e   m)))
theorem X3_putIn_ok {K : mm_K} {nx : Option Nat} {e : mm_E} (hz : e.2.1 = K.2.2.2.2) {d : Nat} (hd : 0 ≤ d) {a0 : Nat} {i1 : Int32} {i2 : Int32} (h0 : e.1 a0 = some (3, 2)) {m : mm_V} {r : mm_V} (hr : X3_putIn e a0 i1 i2 m = some r) : mm_Cn K MX3_putIn d (mm_Fv e.1 nx r) [.ref a0, .int i1, .int i2] (e.1, m) nx := by
  refine mm_entry (by decide) (Nat.le_of_ble_eq_true rfl) rfl (fun hok => ?_)
  unfold X3_putIn at hr
  refine mg_weak (L' := [some (.ref a0), some (.int i1), some (.int i2), none]) (mm_le_s (mm_le_s (mm_le_s (mm_le_e mm_le_0)))) ?_
  refine ml_iload_n (pc := 0) dX3_putIn_0 rfl (mm_get_s mm_get_0) ?_
  refine mb_if_lt (pc := 1) 24 dX3_putIn_1 rfl hr (fun hr => ?_) (fun hr => ?_)
  · exact mg_weak (mm_le_n (mm_le_n (mm_le_n (mm_le_n mm_le_0)))) (X3_putIn_b24_ok hz hd h0 hr)
  · refine ml_iload_n (pc := 4) dX3_putIn_4 rfl (mm_get_s mm_get_0) ?_
    refine ml_aload_n (pc := 5) dX3_putIn_5 rfl mm_get_0 ?_
    refine mb_gi (pc := 6) dX3_putIn_6 fl_X3_15 hr (fun x1 hr => ?_)
    refine mb_icmp_gt (pc := 9) 24 dX3_putIn_9 rfl hr (fun hr => ?_) (fun hr => ?_)
    · exact mg_weak (mm_le_n (mm_le_n (mm_le_n (mm_le_n mm_le_0)))) (X3_putIn_b24_ok hz hd h0 hr)
    · refine ml_aload_n (pc := 12) dX3_putIn_12 rfl mm_get_0 ?_
      refine mb_gi (pc := 13) dX3_putIn_13 fl_X3_15 hr (fun x2 hr => ?_)
      refine ml_aload_n (pc := 16) dX3_putIn_16 rfl mm_get_0 ?_
      refine mb_gr (pc := 17) dX3_putIn_17 fl_X3_9 hr (fun c3 hr => ?_)
      refine mb_ln (pc := 20) dX3_putIn_20 hr (fun x4 hr => ?_)
      refine mb_icmp_lt (pc := 21) 25 dX3_putIn_21 rfl hr (fun hr => ?_) (fun hr => ?_)
      · refine ml_aload_n (pc := 25) dX3_putIn_25 rfl mm_get_0 ?_
        refine mb_gi (pc := 26) dX3_putIn_26 fl_X3_15 hr (fun x5 hr => ?_)
        refine ml_istore_n (pc := 29) dX3_putIn_29 rfl (Nat.le_of_ble_eq_true rfl) (mm_st1_s (mm_st1_s mm_st1_i)) ?_
        exact mg_weak (mm_le_s (mm_le_s (mm_le_s (mm_le_s mm_le_0)))) (X3_putIn_L30_ok hz hd h0 _ _ _ _ hr)
      · exact mg_weak (mm_le_n (mm_le_n (mm_le_n (mm_le_n mm_le_0)))) (X3_putIn_b24_ok hz hd h0 hr)
theorem dX0_wentSo_0 : decode cX0_wentSo 0 = .ok (.aload_n 0, 1) := by decide +kernel
theorem dX0_wentSo_1 : decode cX0_wentSo 1 = .ok (.aload_n 0, 1) := by decide +kernel
theorem dX0_wentSo_2 : decode cX0_wentSo 2 = .ok (.getfield 17, 3) := by decide +kernel
theorem dX0_wentSo_5 : decode cX0_wentSo 5 = .ok (.aload_n 1, 1) := by decide +kernel
theorem dX0_wentSo_6 : decode cX0_wentSo 6 = .ok (.getfield 122, 3) := by decide +kernel
theorem dX0_wentSo_9 : decode cX0_wentSo 9 = .ok (.invokevirtual 92, 3) := by decide +kernel
theorem dX0_wentSo_12 : decode cX0_wentSo 12 = .ok (.astore_n 2, 1) := by decide +kernel
theorem dX0_wentSo_13 : decode cX0_wentSo 13 = .ok (.aload_n 0, 1) := by decide +kernel
theorem dX0_wentSo_14 : decode cX0_wentSo 14 = .ok (.aload_n 0, 1) := by decide +kernel
theorem dX0_wentSo_15 : decode cX0_wentSo 15 = .ok (.getfield 17, 3) := by decide +kernel
theorem dX0_wentSo_18 : decode cX0_wentSo 18 = .ok (.aload_n 1, 1) := by decide +kernel
theorem dX0_wentSo_19 : decode cX0_wentSo 19 = .ok (.getfield 127, 3) := by decide +kernel
theorem dX0_wentSo_22 : decode cX0_wentSo 22 = .ok (.invokevirtual 92, 3) := by decide +kernel
theorem dX0_wentSo_25 : decode cX0_wentSo 25 = .ok (.astore_n 3, 1) := by decide +kernel
theorem dX0_wentSo_26 : decode cX0_wentSo 26 = .ok (.aload_n 2, 1) := by decide +kernel
theorem dX0_wentSo_27 : decode cX0_wentSo 27 = .ok (.aload_n 1, 1) := by decide +kernel
theorem dX0_wentSo_28 : decode cX0_wentSo 28 = .ok (.getfield 130, 3) := by decide +kernel
theorem dX0_wentSo_31 : decode cX0_wentSo 31 = .ok (.invokevirtual 85, 3) := by decide +kernel
theorem dX0_wentSo_34 : decode cX0_wentSo 34 = .ok (.istore 4, 2) := by decide +kernel
theorem dX0_wentSo_36 : decode cX0_wentSo 36 = .ok (.aload_n 1, 1) := by decide +kernel
theorem dX0_wentSo_37 : decode cX0_wentSo 37 = .ok (.getfield 133, 3) := by decide +kernel
theorem dX0_wentSo_40 : decode cX0_wentSo 40 = .ok (.ifCond .ne 25, 3) := by decide +kernel
theorem dX0_wentSo_43 : decode cX0_wentSo 43 = .ok (.aload_n 1, 1) := by decide +kernel
theorem dX0_wentSo_44 : decode cX0_wentSo 44 = .ok (.getfield 127, 3) := by decide +kernel
theorem dX0_wentSo_47 : decode cX0_wentSo 47 = .ok (.aload_n 0, 1) := by decide +kernel
theorem dX0_wentSo_48 : decode cX0_wentSo 48 = .ok (.getfield 42, 3) := by decide +kernel
theorem dX0_wentSo_51 : decode cX0_wentSo 51 = .ok (.if_icmp .eq 14, 3) := by decide +kernel
theorem dX0_wentSo_54 : decode cX0_wentSo 54 = .ok (.aload_n 1, 1) := by decide +kernel
theorem dX0_wentSo_55 : decode cX0_wentSo 55 = .ok (.getfield 122, 3) := by decide +kernel
theorem dX0_wentSo_58 : decode cX0_wentSo 58 = .ok (.aload_n 0, 1) := by decide +kernel
theorem dX0_wentSo_59 : decode cX0_wentSo 59 = .ok (.getfield 42, 3) := by decide +kernel
theorem dX0_wentSo_62 : decode cX0_wentSo 62 = .ok (.if_icmp .ne 7, 3) := by decide +kernel
theorem dX0_wentSo_65 : decode cX0_wentSo 65 = .ok (.iconst 1, 1) := by decide +kernel
theorem dX0_wentSo_66 : decode cX0_wentSo 66 = .ok (.goto 4, 3) := by decide +kernel
theorem dX0_wentSo_69 : decode cX0_wentSo 69 = .ok (.iconst 0, 1) := by decide +kernel
theorem dX0_wentSo_70 : decode cX0_wentSo 70 = .ok (.istore 5, 2) := by decide +kernel
theorem dX0_wentSo_72 : decode cX0_wentSo 72 = .ok (.iload 5, 2) := by decide +kernel
theorem dX0_wentSo_74 : decode cX0_wentSo 74 = .ok (.ifCond .eq 14, 3) := by decide +kernel
theorem dX0_wentSo_77 : decode cX0_wentSo 77 = .ok (.iload 4, 2) := by decide +kernel
theorem dX0_wentSo_79 : decode cX0_wentSo 79 = .ok (.aload_n 1, 1) := by decide +kernel
theorem dX0_wentSo_80 : decode cX0_wentSo 80 = .ok (.getfield 137, 3) := by decide +kernel
theorem dX0_wentSo_83 : decode cX0_wentSo 83 = .ok (.if_icmp .eq 5, 3) := by decide +kernel
theorem dX0_wentSo_86 : decode cX0_wentSo 86 = .ok (.iconst 0, 1) := by decide +kernel
theorem dX0_wentSo_87 : decode cX0_wentSo 87 = .ok (.ireturn, 1) := by decide +kernel
theorem dX0_wentSo_88 : decode cX0_wentSo 88 = .ok (.aload_n 3, 1) := by decide +kernel
theorem dX0_wentSo_89 : decode cX0_wentSo 89 = .ok (.iload 4, 2) := by decide +kernel
theorem dX0_wentSo_91 : decode cX0_wentSo 91 = .ok (.invokevirtual 96, 3) := by decide +kernel
theorem dX0_wentSo_94 : decode cX0_wentSo 94 = .ok (.istore 6, 2) := by decide +kernel
theorem dX0_wentSo_96 : decode cX0_wentSo 96 = .ok (.aload_n 1, 1) := by decide +kernel
theorem dX0_wentSo_97 : decode cX0_wentSo 97 = .ok (.getfield 133, 3) := by decide +kernel
theorem dX0_wentSo_100 : decode cX0_wentSo 100 = .ok (.iload 6, 2) := by decide +kernel
theorem dX0_wentSo_102 : decode cX0_wentSo 102 = .ok (.iconst (-1), 1) := by decide +kernel
theorem dX0_wentSo_103 : decode cX0_wentSo 103 = .ok (.if_icmp .eq 7, 3) := by decide +kernel
theorem dX0_wentSo_106 : decode cX0_wentSo 106 = .ok (.iconst 1, 1) := by decide +kernel
theorem dX0_wentSo_107 : decode cX0_wentSo 107 = .ok (.goto 4, 3) := by decide +kernel
theorem dX0_wentSo_110 : decode cX0_wentSo 110 = .ok (.iconst 0, 1) := by decide +kernel
theorem dX0_wentSo_111 : decode cX0_wentSo 111 = .ok (.if_icmp .eq 5, 3) := by decide +kernel
theorem dX0_wentSo_114 : decode cX0_wentSo 114 = .ok (.iconst 0, 1) := by decide +kernel
theorem dX0_wentSo_115 : decode cX0_wentSo 115 = .ok (.ireturn, 1) := by decide +kernel
theorem dX0_wentSo_116 : decode cX0_wentSo 116 = .ok (.aload_n 2, 1) := by decide +kernel
theorem dX0_wentSo_117 : decode cX0_wentSo 117 = .ok (.aload_n 1, 1) := by decide +kernel
theorem dX0_wentSo_118 : decode cX0_wentSo 118 = .ok (.getfield 130, 3) := by decide +kernel
theorem dX0_wentSo_121 : decode cX0_wentSo 121 = .ok (.invokevirtual 107, 3) := by decide +kernel
theorem dX0_wentSo_124 : decode cX0_wentSo 124 = .ok (.aload_n 1, 1) := by decide +kernel
theorem dX0_wentSo_125 : decode cX0_wentSo 125 = .ok (.getfield 133, 3) := by decide +kernel
theorem dX0_wentSo_128 : decode cX0_wentSo 128 = .ok (.ifCond .eq 12, 3) := by decide +kernel
theorem dX0_wentSo_131 : decode cX0_wentSo 131 = .ok (.aload_n 3, 1) := by decide +kernel
theorem dX0_wentSo_132 : decode cX0_wentSo 132 = .ok (.iload 6, 2) := by decide +kernel
theorem dX0_wentSo_134 : decode cX0_wentSo 134 = .ok (.invokevirtual 107, 3) := by decide +kernel
theorem dX0_wentSo_137 : decode cX0_wentSo 137 = .ok (.goto 13, 3) := by decide +kernel
theorem dX0_wentSo_140 : decode cX0_wentSo 140 = .ok (.aload_n 3, 1) := by decide +kernel
theorem dX0_wentSo_141 : decode cX0_wentSo 141 = .ok (.aload_n 1, 1) := by decide +kernel
theorem dX0_wentSo_142 : decode cX0_wentSo 142 = .ok (.getfield 139, 3) := by decide +kernel
theorem dX0_wentSo_145 : decode cX0_wentSo 145 = .ok (.iload 4, 2) := by decide +kernel
theorem dX0_wentSo_147 : decode cX0_wentSo 147 = .ok (.invokevirtual 103, 3) := by decide +kernel
theorem dX0_wentSo_150 : decode cX0_wentSo 150 = .ok (.iconst 1, 1) := by decide +kernel
theorem dX0_wentSo_151 : decode cX0_wentSo 151 = .ok (.ireturn, 1) := by decide +kernel
def X0_wentSo_b150 (e : mm_E) (m : mm_V) : Option (Int32 × mm_V) := mm_rz (1 : Int32) m
theorem X0_wentSo_b150_ok {K : mm_K} {nx : Option Nat} {e : mm_E} (hz : e.2.1 = K.2.2.2.2) {d : Nat} (hd : 1 ≤ d) {a0 : Nat} (h0 : e.1 a0 = some (0, 13)) {m : mm_V} {r : (Int32 × mm_V)} (hr : X0_wentSo_b150 e m = some r) : mm_G K MX0_wentSo d (mm_Fi e.1 nx r) 150 [none, none, none, none, none, none, none] [] (e.1, m) nx 0 0 := by
  obtain ⟨d, rfl⟩ : ∃ d', d = d' + 1 := ⟨d - 1, by omega⟩
  unfold X0_wentSo_b150 at hr
  refine mg_iconst (pc := 150) dX0_wentSo_150 kc_1 ?_
  exact mb_zret dX0_wentSo_151 rfl hr
def X0_wentSo_b111 (e : mm_E) (a1 : Nat) (a2 : Nat) (a3 : Nat) (i4 : Int32) (i6 : Int32) (t0 : Int32) (t1 : Int32) (m : mm_V) : Option (Int32 × mm_V) := if t0 = t1 then ((mm_gi e.1 m 2 9 a1 2).bind fun x1 => if e.1 a2 = some (3, 2) then ((X3_takeOut e a2 x1 m).bind fun r2 => (mm_gi e.1 r2 2 9 a1 6).bind fun x4 => if x4 = 0 then ((mm_gi e.1 r2 2 9 a1 7).bind fun x5 => if e.1 a3 = some (3, 2) then ((X3_putIn e a3 x5 i4 r2).bind fun r6 => X0_wentSo_b150 e   r6) else none) else (if e.1 a3 = some (3, 2) then ((X3_takeOut e a3 i6 r2).bind fun r8 => X0_wentSo_b150 e   r8) else none)) else none) else (mm_rz (0 : Int32) m)
theorem X0_wentSo_b111_ok {K : mm_K} {nx : Option Nat} {e : mm_E} (hz : e.2.1 = K.2.2.2.2) {d : Nat} (hd : 1 ≤ d) {a1 : Nat} {a2 : Nat} {a3 : Nat} {i4 : Int32} {i6 : Int32} {t0 : Int32} {t1 : Int32} {a0 : Nat} (h0 : e.1 a0 = some (0, 13)) {m : mm_V} {r : (Int32 × mm_V)} (hr : X0_wentSo_b111 e a1 a2 a3 i4 i6 t0 t1 m = some r) : mm_G K MX0_wentSo d (mm_Fi e.1 nx r) 111 [none, some (.ref a1), some (.ref a2), some (.ref a3), some (.int i4), none, some (.int i6)] [.int t1, .int t0] (e.1, m) nx 0 0 := by
  obtain ⟨d, rfl⟩ : ∃ d', d = d' + 1 := ⟨d - 1, by omega⟩
  unfold X0_wentSo_b111 at hr
  refine mb_icmp_eq (pc := 111) 116 dX0_wentSo_111 rfl hr (fun hr => ?_) (fun hr => ?_)
  · refine ml_aload_n (pc := 116) dX0_wentSo_116 rfl (mm_get_s (mm_get_s mm_get_0)) ?_
    refine ml_aload_n (pc := 117) dX0_wentSo_117 rfl (mm_get_s mm_get_0) ?_
    refine mb_gi (pc := 118) dX0_wentSo_118 fl_X0_130 hr (fun x1 hr => ?_)
    refine mb_ck hr (fun hb3 hr => ?_)
    refine mb_cVv (pc := 121) (As := [.int x1]) (rest := []) dX0_wentSo_121 cw_X0_107 hb3 hr (fun v hv => X3_takeOut_ok hz (by omega) hb3 hv) rfl (Nat.le_of_ble_eq_true rfl) (Nat.zero_le _) (Nat.zero_le _) (fun r2 hr => ?_)
    refine ml_aload_n (pc := 124) dX0_wentSo_124 rfl (mm_get_s mm_get_0) ?_
    refine mb_gi (pc := 125) dX0_wentSo_125 fl_X0_133 hr (fun x4 hr => ?_)
    refine mb_if_eq (pc := 128) 140 dX0_wentSo_128 rfl hr (fun hr => ?_) (fun hr => ?_)
    · refine ml_aload_n (pc := 140) dX0_wentSo_140 rfl (mm_get_s (mm_get_s (mm_get_s mm_get_0))) ?_
      refine ml_aload_n (pc := 141) dX0_wentSo_141 rfl (mm_get_s mm_get_0) ?_
      refine mb_gi (pc := 142) dX0_wentSo_142 fl_X0_139 hr (fun x5 hr => ?_)
      refine ml_iload (pc := 145) dX0_wentSo_145 (mm_get_s (mm_get_s (mm_get_s (mm_get_s mm_get_0)))) ?_
      refine mb_ck hr (fun hb7 hr => ?_)
      refine mb_cVv (pc := 147) (As := [.int x5, .int i4]) (rest := []) dX0_wentSo_147 cw_X0_103 hb7 hr (fun v hv => X3_putIn_ok hz (by omega) hb7 hv) rfl (Nat.le_of_ble_eq_true rfl) (Nat.zero_le _) (Nat.zero_le _) (fun r6 hr => ?_)
      exact mg_weak (mm_le_n (mm_le_n (mm_le_n (mm_le_n (mm_le_n (mm_le_n (mm_le_n mm_le_0))))))) (X0_wentSo_b150_ok hz hd h0 hr)
    · refine ml_aload_n (pc := 131) dX0_wentSo_131 rfl (mm_get_s (mm_get_s (mm_get_s mm_get_0))) ?_
      refine ml_iload (pc := 132) dX0_wentSo_132 (mm_get_s (mm_get_s (mm_get_s (mm_get_s (mm_get_s (mm_get_s mm_get_0)))))) ?_
      refine mb_ck hr (fun hb9 hr => ?_)
      refine mb_cVv (pc := 134) (As := [.int i6]) (rest := []) dX0_wentSo_134 cw_X0_107 hb9 hr (fun v hv => X3_takeOut_ok hz (by omega) hb9 hv) rfl (Nat.le_of_ble_eq_true rfl) (Nat.zero_le _) (Nat.zero_le _) (fun r8 hr => ?_)
      refine mg_goto (pc := 137) 150 dX0_wentSo_137 rfl ?_
      exact mg_weak (mm_le_n (mm_le_n (mm_le_n (mm_le_n (mm_le_n (mm_le_n (mm_le_n mm_le_0))))))) (X0_wentSo_b150_ok hz hd h0 hr)
  · refine mg_iconst (pc := 114) dX0_wentSo_114 kc_0 ?_
    exact mb_zret dX0_wentSo_115 rfl hr
def X0_wentSo_b88 (e : mm_E) (a1 : Nat) (a2 : Nat) (a3 : Nat) (i4 : Int32) (m : mm_V) : Option (Int32 × mm_V) := if e.1 a3 = some (3, 2) then ((X3_placeOf e a3 i4 m).bind fun r1 => (mm_gi e.1 r1.2 2 9 a1 6).bind fun x3 => if r1.1 = (-1 : Int32) then (X0_wentSo_b111 e a1 a2 a3 i4 r1.1 x3 (0 : Int32) r1.2) else (X0_wentSo_b111 e a1 a2 a3 i4 r1.1 x3 (1 : Int32) r1.2)) else none
theorem X0_wentSo_b88_ok {K : mm_K} {nx : Option Nat} {e : mm_E} (hz : e.2.1 = K.2.2.2.2) {d : Nat} (hd : 1 ≤ d) {a1 : Nat} {a2 : Nat} {a3 : Nat} {i4 : Int32} {a0 : Nat} (h0 : e.1 a0 = some (0, 13)) {m : mm_V} {r : (Int32 × mm_V)} (hr : X0_wentSo_b88 e a1 a2 a3 i4 m = some r) : mm_G K MX0_wentSo d (mm_Fi e.1 nx r) 88 [none, some (.ref a1), some (.ref a2), some (.ref a3), some (.int i4), none, none] [] (e.1, m) nx 0 0 := by
  obtain ⟨d, rfl⟩ : ∃ d', d = d' + 1 := ⟨d - 1, by omega⟩
  unfold X0_wentSo_b88 at hr
  refine ml_aload_n (pc := 88) dX0_wentSo_88 rfl (mm_get_s (mm_get_s (mm_get_s mm_get_0))) ?_
  refine ml_iload (pc := 89) dX0_wentSo_89 (mm_get_s (mm_get_s (mm_get_s (mm_get_s mm_get_0)))) ?_
  refine mb_ck hr (fun hb2 hr => ?_)
  refine mb_cVi (pc := 91) (As := [.int i4]) (rest := []) dX0_wentSo_91 cw_X0_96 hb2 hr (fun v hv => X3_placeOf_ok hz (by omega) hb2 hv) rfl (Nat.le_of_ble_eq_true rfl) (Nat.zero_le _) (Nat.zero_le _) (fun r1 hr => ?_)
  refine ml_istore (pc := 94) dX0_wentSo_94 (Nat.le_of_ble_eq_true rfl) (mm_st1_s (mm_st1_s (mm_st1_s (mm_st1_s (mm_st1_s mm_st1_n))))) ?_
  refine ml_aload_n (pc := 96) dX0_wentSo_96 rfl (mm_get_s mm_get_0) ?_
  refine mb_gi (pc := 97) dX0_wentSo_97 fl_X0_133 hr (fun x3 hr => ?_)
  refine ml_iload (pc := 100) dX0_wentSo_100 (mm_get_s (mm_get_s (mm_get_s (mm_get_s (mm_get_s (mm_get_s mm_get_0)))))) ?_
  refine mg_iconst (pc := 102) dX0_wentSo_102 kc_m1 ?_
  refine mb_icmp_eq (pc := 103) 110 dX0_wentSo_103 rfl hr (fun hr => ?_) (fun hr => ?_)
  · refine mg_iconst (pc := 110) dX0_wentSo_110 kc_0 ?_
    exact mg_weak (mm_le_n (mm_le_s (mm_le_s (mm_le_s (mm_le_s (mm_le_n (mm_le_s mm_le_0))))))) (X0_wentSo_b111_ok hz hd h0 hr)
  · refine mg_iconst (pc := 106) dX0_wentSo_106 kc_1 ?_
    refine mg_goto (pc := 107) 111 dX0_wentSo_107 rfl ?_
    exact mg_weak (mm_le_n (mm_le_s (mm_le_s (mm_le_s (mm_le_s (mm_le_n (mm_le_s mm_le_0))))))) (X0_wentSo_b111_ok hz hd h0 hr)
def X0_wentSo_b70 (e : mm_E) (a1 : Nat) (a2 : Nat) (a3 : Nat) (i4 : Int32) (t0 : Int32) (m : mm_V) : Option (Int32 × mm_V) := if t0 = 0 then (X0_wentSo_b88 e a1 a2 a3 i4  m) else ((mm_gi e.1 m 2 9 a1 5).bind fun x1 => if i4 = x1 then (X0_wentSo_b88 e a1 a2 a3 i4  m) else (mm_rz (0 : Int32) m))
theorem X0_wentSo_b70_ok {K : mm_K} {nx : Option Nat} {e : mm_E} (hz : e.2.1 = K.2.2.2.2) {d : Nat} (hd : 1 ≤ d) {a1 : Nat} {a2 : Nat} {a3 : Nat} {i4 : Int32} {t0 : Int32} {a0 : Nat} (h0 : e.1 a0 = some (0, 13)) {m : mm_V} {r : (Int32 × mm_V)} (hr : X0_wentSo_b70 e a1 a2 a3 i4 t0 m = some r) : mm_G K MX0_wentSo d (mm_Fi e.1 nx r) 70 [none, some (.ref a1), some (.ref a2), some (.ref a3), some (.int i4), none, none] [.int t0] (e.1, m) nx 0 0 := by
  obtain ⟨d, rfl⟩ : ∃ d', d = d' + 1 := ⟨d - 1, by omega⟩
  unfold X0_wentSo_b70 at hr
  refine ml_istore (pc := 70) dX0_wentSo_70 (Nat.le_of_ble_eq_true rfl) (mm_st1_s (mm_st1_s (mm_st1_s (mm_st1_s mm_st1_i)))) ?_
  refine ml_iload (pc := 72) dX0_wentSo_72 (mm_get_s (mm_get_s (mm_get_s (mm_get_s (mm_get_s mm_get_0))))) ?_
  refine mb_if_eq (pc := 74) 88 dX0_wentSo_74 rfl hr (fun hr => ?_) (fun hr => ?_)
  · exact mg_weak (mm_le_n (mm_le_s (mm_le_s (mm_le_s (mm_le_s (mm_le_n (mm_le_n mm_le_0))))))) (X0_wentSo_b88_ok hz hd h0 hr)
  · refine ml_iload (pc := 77) dX0_wentSo_77 (mm_get_s (mm_get_s (mm_get_s (mm_get_s mm_get_0)))) ?_
    refine ml_aload_n (pc := 79) dX0_wentSo_79 rfl (mm_get_s mm_get_0) ?_
    refine mb_gi (pc := 80) dX0_wentSo_80 fl_X0_137 hr (fun x1 hr => ?_)
    refine mb_icmp_eq (pc := 83) 88 dX0_wentSo_83 rfl hr (fun hr => ?_) (fun hr => ?_)
    · exact mg_weak (mm_le_n (mm_le_s (mm_le_s (mm_le_s (mm_le_s (mm_le_n (mm_le_n mm_le_0))))))) (X0_wentSo_b88_ok hz hd h0 hr)
    · refine mg_iconst (pc := 86) dX0_wentSo_86 kc_0 ?_
      exact mb_zret dX0_wentSo_87 rfl hr
def X0_wentSo_b65 (e : mm_E) (a1 : Nat) (a2 : Nat) (a3 : Nat) (i4 : Int32) (m : mm_V) : Option (Int32 × mm_V) := X0_wentSo_b70 e a1 a2 a3 i4 (1 : Int32) m
theorem X0_wentSo_b65_ok {K : mm_K} {nx : Option Nat} {e : mm_E} (hz : e.2.1 = K.2.2.2.2) {d : Nat} (hd : 1 ≤ d) {a1 : Nat} {a2 : Nat} {a3 : Nat} {i4 : Int32} {a0 : Nat} (h0 : e.1 a0 = some (0, 13)) {m : mm_V} {r : (Int32 × mm_V)} (hr : X0_wentSo_b65 e a1 a2 a3 i4 m = some r) : mm_G K MX0_wentSo d (mm_Fi e.1 nx r) 65 [none, some (.ref a1), some (.ref a2), some (.ref a3), some (.int i4), none, none] [] (e.1, m) nx 0 0 := by
  obtain ⟨d, rfl⟩ : ∃ d', d = d' + 1 := ⟨d - 1, by omega⟩
  unfold X0_wentSo_b65 at hr
  refine mg_iconst (pc := 65) dX0_wentSo_65 kc_1 ?_
  refine mg_goto (pc := 66) 70 dX0_wentSo_66 rfl ?_
  exact mg_weak (mm_le_n (mm_le_s (mm_le_s (mm_le_s (mm_le_s (mm_le_n (mm_le_n mm_le_0))))))) (X0_wentSo_b70_ok hz hd h0 hr)
def X0_wentSo (e : mm_E) (a0 : Nat) (a1 : Nat) (m : mm_V) : Option (Int32 × mm_V) := (mm_gr e.1 m 0 13 a0 1).bind fun c1 => (mm_gi e.1 m 2 9 a1 1).bind fun x2 => (X0_fanOf e a0 c1 x2 m).bind fun r3 => (mm_gr e.1 r3.2 0 13 a0 1).bind fun c4 => (mm_gi e.1 r3.2 2 9 a1 0).bind fun x5 => (X0_fanOf e a0 c4 x5 r3.2).bind fun r6 => (mm_gi e.1 r6.2 2 9 a1 2).bind fun x7 => if e.1 r3.1 = some (3, 2) then ((X3_card e r3.1 x7 r6.2).bind fun r8 => (mm_gi e.1 r8.2 2 9 a1 6).bind fun x10 => if ¬ x10 = 0 then (X0_wentSo_b65 e a1 r3.1 r6.1 r8.1  r8.2) else ((mm_gi e.1 r8.2 2 9 a1 0).bind fun x11 => (mm_gi e.1 r8.2 0 13 a0 8).bind fun x12 => if x11 = x12 then (X0_wentSo_b65 e a1 r3.1 r6.1 r8.1  r8.2) else ((mm_gi e.1 r8.2 2 9 a1 1).bind fun x13 => (mm_gi e.1 r8.2 0 13 a0 8).bind fun x14 => if ¬ x13 = x14 then (X0_wentSo_b70 e a1 r3.1 r6.1 r8.1 (0 : Int32) r8.2) else (X0_wentSo_b65 e a1 r3.1 r6.1 r8.1  r8.2)))) else none
theorem X0_wentSo_ok {K : mm_K} {nx : Option Nat} {e : mm_E} (hz : e.2.1 = K.2.2.2.2) {d : Nat} (hd : 1 ≤ d) {a0 : Nat} {a1 : Nat} (h0 : e.1 a0 = some (0, 13)) {m : mm_V} {r : (Int32 × mm_V)} (hr : X0_wentSo e a0 a1 m = some r) : mm_Cn K MX0_wentSo d (mm_Fi e.1 nx r) [.ref a0, .ref a1] (e.1, m) nx := by
  obtain ⟨d, rfl⟩ : ∃ d', d = d' + 1 := ⟨d - 1, by omega⟩
  refine mm_entry (by decide) (Nat.le_of_ble_eq_true rfl) rfl (fun hok => ?_)
  unfold X0_wentSo at hr
  refine mg_weak (L' := [some (.ref a0), some (.ref a1), none, none, none, none, none]) (mm_le_s (mm_le_s (mm_le_e (mm_le_e (mm_le_e (mm_le_e (mm_le_e mm_le_0))))))) ?_
  refine ml_aload_n (pc := 0) dX0_wentSo_0 rfl mm_get_0 ?_
  refine ml_aload_n (pc := 1) dX0_wentSo_1 rfl mm_get_0 ?_
  refine mb_gr (pc := 2) dX0_wentSo_2 fl_X0_17 hr (fun c1 hr => ?_)
  refine ml_aload_n (pc := 5) dX0_wentSo_5 rfl (mm_get_s mm_get_0) ?_
  refine mb_gi (pc := 6) dX0_wentSo_6 fl_X0_122 hr (fun x2 hr => ?_)
  refine mb_cVr (pc := 9) (As := [.ref c1, .int x2]) (rest := []) dX0_wentSo_9 cw_X0_92 h0 hr (fun v hv => X0_fanOf_ok hz (by omega) h0 hv) rfl (Nat.le_of_ble_eq_true rfl) (Nat.zero_le _) (Nat.zero_le _) (fun r3 hr => ?_)
  refine ml_astore_n (pc := 12) dX0_wentSo_12 rfl (Nat.le_of_ble_eq_true rfl) (mm_st1_s mm_st1_r) ?_
  refine ml_aload_n (pc := 13) dX0_wentSo_13 rfl mm_get_0 ?_
  refine ml_aload_n (pc := 14) dX0_wentSo_14 rfl mm_get_0 ?_
  refine mb_gr (pc := 15) dX0_wentSo_15 fl_X0_17 hr (fun c4 hr => ?_)
  refine ml_aload_n (pc := 18) dX0_wentSo_18 rfl (mm_get_s mm_get_0) ?_
  refine mb_gi (pc := 19) dX0_wentSo_19 fl_X0_127 hr (fun x5 hr => ?_)
  refine mb_cVr (pc := 22) (As := [.ref c4, .int x5]) (rest := []) dX0_wentSo_22 cw_X0_92 h0 hr (fun v hv => X0_fanOf_ok hz (by omega) h0 hv) rfl (Nat.le_of_ble_eq_true rfl) (Nat.zero_le _) (Nat.zero_le _) (fun r6 hr => ?_)
  refine ml_astore_n (pc := 25) dX0_wentSo_25 rfl (Nat.le_of_ble_eq_true rfl) (mm_st1_s (mm_st1_s mm_st1_r)) ?_
  refine ml_aload_n (pc := 26) dX0_wentSo_26 rfl (mm_get_s (mm_get_s mm_get_0)) ?_
  refine ml_aload_n (pc := 27) dX0_wentSo_27 rfl (mm_get_s mm_get_0) ?_
  refine mb_gi (pc := 28) dX0_wentSo_28 fl_X0_130 hr (fun x7 hr => ?_)
  refine mb_ck hr (fun hb9 hr => ?_)
  refine mb_cVi (pc := 31) (As := [.int x7]) (rest := []) dX0_wentSo_31 cw_X0_85 hb9 hr (fun v hv => X3_card_ok hz (by omega) hb9 hv) rfl (Nat.le_of_ble_eq_true rfl) (Nat.zero_le _) (Nat.zero_le _) (fun r8 hr => ?_)
  refine ml_istore (pc := 34) dX0_wentSo_34 (Nat.le_of_ble_eq_true rfl) (mm_st1_s (mm_st1_s (mm_st1_s mm_st1_r))) ?_
  refine ml_aload_n (pc := 36) dX0_wentSo_36 rfl (mm_get_s mm_get_0) ?_
  refine mb_gi (pc := 37) dX0_wentSo_37 fl_X0_133 hr (fun x10 hr => ?_)
  refine mb_if_ne (pc := 40) 65 dX0_wentSo_40 rfl hr (fun hr => ?_) (fun hr => ?_)
  · exact mg_weak (mm_le_n (mm_le_s (mm_le_s (mm_le_s (mm_le_s (mm_le_n (mm_le_n mm_le_0))))))) (X0_wentSo_b65_ok hz hd h0 hr)
  · refine ml_aload_n (pc := 43) dX0_wentSo_43 rfl (mm_get_s mm_get_0) ?_
    refine mb_gi (pc := 44) dX0_wentSo_44 fl_X0_127 hr (fun x11 hr => ?_)
    refine ml_aload_n (pc := 47) dX0_wentSo_47 rfl mm_get_0 ?_
    refine mb_gi (pc := 48) dX0_wentSo_48 fl_X0_42 hr (fun x12 hr => ?_)
    refine mb_icmp_eq (pc := 51) 65 dX0_wentSo_51 rfl hr (fun hr => ?_) (fun hr => ?_)
    · exact mg_weak (mm_le_n (mm_le_s (mm_le_s (mm_le_s (mm_le_s (mm_le_n (mm_le_n mm_le_0))))))) (X0_wentSo_b65_ok hz hd h0 hr)
    · refine ml_aload_n (pc := 54) dX0_wentSo_54 rfl (mm_get_s mm_get_0) ?_
      refine mb_gi (pc := 55) dX0_wentSo_55 fl_X0_122 hr (fun x13 hr => ?_)
      refine ml_aload_n (pc := 58) dX0_wentSo_58 rfl mm_get_0 ?_
      refine mb_gi (pc := 59) dX0_wentSo_59 fl_X0_42 hr (fun x14 hr => ?_)
      refine mb_icmp_ne (pc := 62) 69 dX0_wentSo_62 rfl hr (fun hr => ?_) (fun hr => ?_)
      · refine mg_iconst (pc := 69) dX0_wentSo_69 kc_0 ?_
        exact mg_weak (mm_le_n (mm_le_s (mm_le_s (mm_le_s (mm_le_s (mm_le_n (mm_le_n mm_le_0))))))) (X0_wentSo_b70_ok hz hd h0 hr)
      · exact mg_weak (mm_le_n (mm_le_s (mm_le_s (mm_le_s (mm_le_s (mm_le_n (mm_le_n mm_le_0))))))) (X0_wentSo_b65_ok hz hd h0 hr)
theorem dX0_weighArrangement_0 : decode cX0_weighArrangement 0 = .ok (.iconst 0, 1) := by decide +kernel
theorem dX0_weighArrangement_1 : decode cX0_weighArrangement 1 = .ok (.istore_n 1, 1) := by decide +kernel
theorem dX0_weighArrangement_2 : decode cX0_weighArrangement 2 = .ok (.iload_n 1, 1) := by decide +kernel
theorem dX0_weighArrangement_3 : decode cX0_weighArrangement 3 = .ok (.bipush 6, 2) := by decide +kernel
theorem dX0_weighArrangement_5 : decode cX0_weighArrangement 5 = .ok (.if_icmp .ge 24, 3) := by decide +kernel
theorem dX0_weighArrangement_8 : decode cX0_weighArrangement 8 = .ok (.aload_n 0, 1) := by decide +kernel
theorem dX0_weighArrangement_9 : decode cX0_weighArrangement 9 = .ok (.getfield 17, 3) := by decide +kernel
theorem dX0_weighArrangement_12 : decode cX0_weighArrangement 12 = .ok (.iload_n 1, 1) := by decide +kernel
theorem dX0_weighArrangement_13 : decode cX0_weighArrangement 13 = .ok (.aaload, 1) := by decide +kernel
theorem dX0_weighArrangement_14 : decode cX0_weighArrangement 14 = .ok (.aload_n 0, 1) := by decide +kernel
theorem dX0_weighArrangement_15 : decode cX0_weighArrangement 15 = .ok (.getfield 11, 3) := by decide +kernel
theorem dX0_weighArrangement_18 : decode cX0_weighArrangement 18 = .ok (.iload_n 1, 1) := by decide +kernel
theorem dX0_weighArrangement_19 : decode cX0_weighArrangement 19 = .ok (.aaload, 1) := by decide +kernel
theorem dX0_weighArrangement_20 : decode cX0_weighArrangement 20 = .ok (.invokevirtual 58, 3) := by decide +kernel
theorem dX0_weighArrangement_23 : decode cX0_weighArrangement 23 = .ok (.iinc 1 1, 3) := by decide +kernel
theorem dX0_weighArrangement_26 : decode cX0_weighArrangement 26 = .ok (.goto (-24), 3) := by decide +kernel
theorem dX0_weighArrangement_29 : decode cX0_weighArrangement 29 = .ok (.iconst 0, 1) := by decide +kernel
theorem dX0_weighArrangement_30 : decode cX0_weighArrangement 30 = .ok (.istore_n 1, 1) := by decide +kernel
theorem dX0_weighArrangement_31 : decode cX0_weighArrangement 31 = .ok (.iload_n 1, 1) := by decide +kernel
theorem dX0_weighArrangement_32 : decode cX0_weighArrangement 32 = .ok (.aload_n 0, 1) := by decide +kernel
theorem dX0_weighArrangement_33 : decode cX0_weighArrangement 33 = .ok (.getfield 38, 3) := by decide +kernel
theorem dX0_weighArrangement_36 : decode cX0_weighArrangement 36 = .ok (.getfield 111, 3) := by decide +kernel
theorem dX0_weighArrangement_39 : decode cX0_weighArrangement 39 = .ok (.if_icmp .ge 25, 3) := by decide +kernel
theorem dX0_weighArrangement_42 : decode cX0_weighArrangement 42 = .ok (.aload_n 0, 1) := by decide +kernel
theorem dX0_weighArrangement_43 : decode cX0_weighArrangement 43 = .ok (.aload_n 0, 1) := by decide +kernel
theorem dX0_weighArrangement_44 : decode cX0_weighArrangement 44 = .ok (.getfield 38, 3) := by decide +kernel
theorem dX0_weighArrangement_47 : decode cX0_weighArrangement 47 = .ok (.iload_n 1, 1) := by decide +kernel
theorem dX0_weighArrangement_48 : decode cX0_weighArrangement 48 = .ok (.invokevirtual 114, 3) := by decide +kernel
theorem dX0_weighArrangement_51 : decode cX0_weighArrangement 51 = .ok (.invokevirtual 118, 3) := by decide +kernel
theorem dX0_weighArrangement_54 : decode cX0_weighArrangement 54 = .ok (.ifCond .ne 4, 3) := by decide +kernel
theorem dX0_weighArrangement_57 : decode cX0_weighArrangement 57 = .ok (.return_, 1) := by decide +kernel
theorem dX0_weighArrangement_58 : decode cX0_weighArrangement 58 = .ok (.iinc 1 1, 3) := by decide +kernel
theorem dX0_weighArrangement_61 : decode cX0_weighArrangement 61 = .ok (.goto (-30), 3) := by decide +kernel
theorem dX0_weighArrangement_64 : decode cX0_weighArrangement 64 = .ok (.aload_n 0, 1) := by decide +kernel
theorem dX0_weighArrangement_65 : decode cX0_weighArrangement 65 = .ok (.dup, 1) := by decide +kernel
theorem dX0_weighArrangement_66 : decode cX0_weighArrangement 66 = .ok (.getfield 79, 3) := by decide +kernel
theorem dX0_weighArrangement_69 : decode cX0_weighArrangement 69 = .ok (.iconst 1, 1) := by decide +kernel
theorem dX0_weighArrangement_70 : decode cX0_weighArrangement 70 = .ok (.iadd, 1) := by decide +kernel
theorem dX0_weighArrangement_71 : decode cX0_weighArrangement 71 = .ok (.putfield 79, 3) := by decide +kernel
theorem dX0_weighArrangement_74 : decode cX0_weighArrangement 74 = .ok (.iconst 0, 1) := by decide +kernel
theorem dX0_weighArrangement_75 : decode cX0_weighArrangement 75 = .ok (.istore_n 1, 1) := by decide +kernel
theorem dX0_weighArrangement_76 : decode cX0_weighArrangement 76 = .ok (.iload_n 1, 1) := by decide +kernel
theorem dX0_weighArrangement_77 : decode cX0_weighArrangement 77 = .ok (.bipush 6, 2) := by decide +kernel
theorem dX0_weighArrangement_79 : decode cX0_weighArrangement 79 = .ok (.if_icmp .ge 62, 3) := by decide +kernel
theorem dX0_weighArrangement_82 : decode cX0_weighArrangement 82 = .ok (.aload_n 0, 1) := by decide +kernel
theorem dX0_weighArrangement_83 : decode cX0_weighArrangement 83 = .ok (.getfield 17, 3) := by decide +kernel
theorem dX0_weighArrangement_86 : decode cX0_weighArrangement 86 = .ok (.iload_n 1, 1) := by decide +kernel
theorem dX0_weighArrangement_87 : decode cX0_weighArrangement 87 = .ok (.aaload, 1) := by decide +kernel
theorem dX0_weighArrangement_88 : decode cX0_weighArrangement 88 = .ok (.iconst 0, 1) := by decide +kernel
theorem dX0_weighArrangement_89 : decode cX0_weighArrangement 89 = .ok (.invokevirtual 96, 3) := by decide +kernel
theorem dX0_weighArrangement_92 : decode cX0_weighArrangement 92 = .ok (.istore_n 2, 1) := by decide +kernel
theorem dX0_weighArrangement_93 : decode cX0_weighArrangement 93 = .ok (.iload_n 2, 1) := by decide +kernel
theorem dX0_weighArrangement_94 : decode cX0_weighArrangement 94 = .ok (.ifCond .lt 41, 3) := by decide +kernel
theorem dX0_weighArrangement_97 : decode cX0_weighArrangement 97 = .ok (.iload_n 2, 1) := by decide +kernel
theorem dX0_weighArrangement_98 : decode cX0_weighArrangement 98 = .ok (.bipush 10, 2) := by decide +kernel
theorem dX0_weighArrangement_100 : decode cX0_weighArrangement 100 = .ok (.if_icmp .ge 35, 3) := by decide +kernel
theorem dX0_weighArrangement_103 : decode cX0_weighArrangement 103 = .ok (.aload_n 0, 1) := by decide +kernel
theorem dX0_weighArrangement_104 : decode cX0_weighArrangement 104 = .ok (.getfield 32, 3) := by decide +kernel
theorem dX0_weighArrangement_107 : decode cX0_weighArrangement 107 = .ok (.iload_n 1, 1) := by decide +kernel
theorem dX0_weighArrangement_108 : decode cX0_weighArrangement 108 = .ok (.dup2, 1) := by decide +kernel
theorem dX0_weighArrangement_109 : decode cX0_weighArrangement 109 = .ok (.iaload, 1) := by decide +kernel
theorem dX0_weighArrangement_110 : decode cX0_weighArrangement 110 = .ok (.iconst 1, 1) := by decide +kernel
theorem dX0_weighArrangement_111 : decode cX0_weighArrangement 111 = .ok (.iadd, 1) := by decide +kernel
theorem dX0_weighArrangement_112 : decode cX0_weighArrangement 112 = .ok (.iastore, 1) := by decide +kernel
theorem dX0_weighArrangement_113 : decode cX0_weighArrangement 113 = .ok (.aload_n 0, 1) := by decide +kernel
theorem dX0_weighArrangement_114 : decode cX0_weighArrangement 114 = .ok (.getfield 35, 3) := by decide +kernel
theorem dX0_weighArrangement_117 : decode cX0_weighArrangement 117 = .ok (.iload_n 2, 1) := by decide +kernel
theorem dX0_weighArrangement_118 : decode cX0_weighArrangement 118 = .ok (.dup2, 1) := by decide +kernel
theorem dX0_weighArrangement_119 : decode cX0_weighArrangement 119 = .ok (.iaload, 1) := by decide +kernel
theorem dX0_weighArrangement_120 : decode cX0_weighArrangement 120 = .ok (.iload_n 1, 1) := by decide +kernel
theorem dX0_weighArrangement_121 : decode cX0_weighArrangement 121 = .ok (.aload_n 0, 1) := by decide +kernel
theorem dX0_weighArrangement_122 : decode cX0_weighArrangement 122 = .ok (.getfield 46, 3) := by decide +kernel
theorem dX0_weighArrangement_125 : decode cX0_weighArrangement 125 = .ok (.if_icmp .ne 7, 3) := by decide +kernel
theorem dX0_weighArrangement_128 : decode cX0_weighArrangement 128 = .ok (.iconst 1, 1) := by decide +kernel
theorem dX0_weighArrangement_129 : decode cX0_weighArrangement 129 = .ok (.goto 4, 3) := by decide +kernel
theorem dX0_weighArrangement_132 : decode cX0_weighArrangement 132 = .ok (.iconst 0, 1) := by decide +kernel
theorem dX0_weighArrangement_133 : decode cX0_weighArrangement 133 = .ok (.iadd, 1) := by decide +kernel
theorem dX0_weighArrangement_134 : decode cX0_weighArrangement 134 = .ok (.iastore, 1) := by decide +kernel
theorem dX0_weighArrangement_135 : decode cX0_weighArrangement 135 = .ok (.iinc 1 1, 3) := by decide +kernel
theorem dX0_weighArrangement_138 : decode cX0_weighArrangement 138 = .ok (.goto (-62), 3) := by decide +kernel
theorem dX0_weighArrangement_141 : decode cX0_weighArrangement 141 = .ok (.return_, 1) := by decide +kernel
def X0_weighArrangement_b135 (e : mm_E) (k76 : Int32 → mm_V → Option mm_V) (a0 : Nat) (i1 : Int32) (m : mm_V) : Option mm_V := k76 (i1 + 1) m
theorem X0_weighArrangement_b135_ok {K : mm_K} {nx : Option Nat} {e : mm_E} (hz : e.2.1 = K.2.2.2.2) {d : Nat} (hd : 2 ≤ d) {a0 : Nat} {i1 : Int32} (h0 : e.1 a0 = some (0, 13)) {k76 : Int32 → mm_V → Option mm_V} (hk76 : ∀ (w1 : Int32) (m : mm_V) (r : mm_V), k76 w1 m = some r → mm_G K MX0_weighArrangement d (mm_Fv e.1 nx r) 76 [some (.ref a0), some (.int w1), none] [] (e.1, m) nx 0 0) {m : mm_V} {r : mm_V} (hr : X0_weighArrangement_b135 e k76 a0 i1 m = some r) : mm_G K MX0_weighArrangement d (mm_Fv e.1 nx r) 135 [some (.ref a0), some (.int i1), none] [] (e.1, m) nx 0 0 := by
  obtain ⟨d, rfl⟩ : ∃ d', d = d' + 1 := ⟨d - 1, by omega⟩
  unfold X0_weighArrangement_b135 at hr
  refine ml_iinc (pc := 135) dX0_weighArrangement_135 (mm_get_s mm_get_0) (congrArg (fun z => i1 + z) kc_1) (Nat.le_of_ble_eq_true rfl) mm_st1_r ?_
  refine mg_goto (pc := 138) 76 dX0_weighArrangement_138 rfl ?_
  exact mg_weak (mm_le_s (mm_le_s (mm_le_n mm_le_0))) (hk76 _ _ _ hr)
def X0_weighArrangement_b133 (e : mm_E) (k76 : Int32 → mm_V → Option mm_V) (a0 : Nat) (i1 : Int32) (t0 : Nat) (t1 : Int32) (t2 : Int32) (t3 : Int32) (m : mm_V) : Option mm_V := (mm_si e.1 m t0 t1 (t2 + t3)).bind fun m1 => X0_weighArrangement_b135 e k76 a0 i1  m1
theorem X0_weighArrangement_b133_ok {K : mm_K} {nx : Option Nat} {e : mm_E} (hz : e.2.1 = K.2.2.2.2) {d : Nat} (hd : 2 ≤ d) {a0 : Nat} {i1 : Int32} {t0 : Nat} {t1 : Int32} {t2 : Int32} {t3 : Int32} (h0 : e.1 a0 = some (0, 13)) {k76 : Int32 → mm_V → Option mm_V} (hk76 : ∀ (w1 : Int32) (m : mm_V) (r : mm_V), k76 w1 m = some r → mm_G K MX0_weighArrangement d (mm_Fv e.1 nx r) 76 [some (.ref a0), some (.int w1), none] [] (e.1, m) nx 0 0) {m : mm_V} {r : mm_V} (hr : X0_weighArrangement_b133 e k76 a0 i1 t0 t1 t2 t3 m = some r) : mm_G K MX0_weighArrangement d (mm_Fv e.1 nx r) 133 [some (.ref a0), some (.int i1), none] [.int t3, .int t2, .int t1, .ref t0] (e.1, m) nx 0 0 := by
  obtain ⟨d, rfl⟩ : ∃ d', d = d' + 1 := ⟨d - 1, by omega⟩
  unfold X0_weighArrangement_b133 at hr
  refine mg_iadd (pc := 133) dX0_weighArrangement_133 ?_
  refine mb_si (pc := 134) dX0_weighArrangement_134 hr (fun m1 hr => ?_)
  exact mg_weak (mm_le_s (mm_le_s (mm_le_n mm_le_0))) (X0_weighArrangement_b135_ok hz hd h0 hk76 hr)
def X0_weighArrangement_L76 (e : mm_E) (a0 : Nat) : Nat → Int32 → mm_V → Option mm_V
  | 0, _, _ => none
  | n + 1, i1, m => if (6 : Int32) ≤ i1 then (some m) else ((mm_gr e.1 m 0 13 a0 1).bind fun c1 => (mm_aq e.1 m 23 c1 i1).bind fun c2 => if e.1 c2 = some (3, 2) then ((X3_placeOf e c2 (0 : Int32) m).bind fun r3 => if r3.1 < 0 then (X0_weighArrangement_b135 e (X0_weighArrangement_L76 e a0 n) a0 i1  r3.2) else (if (10 : Int32) ≤ r3.1 then (X0_weighArrangement_b135 e (X0_weighArrangement_L76 e a0 n) a0 i1  r3.2) else ((mm_gr e.1 r3.2 0 13 a0 5).bind fun c5 => (mm_ai e.1 r3.2 20 c5 i1).bind fun x6 => (mm_si e.1 r3.2 c5 i1 (x6 + (1 : Int32))).bind fun m7 => (mm_gr e.1 m7 0 13 a0 6).bind fun c8 => (mm_ai e.1 m7 20 c8 r3.1).bind fun x9 => (mm_gi e.1 m7 0 13 a0 9).bind fun x10 => if ¬ i1 = x10 then (X0_weighArrangement_b133 e (X0_weighArrangement_L76 e a0 n) a0 i1 c8 r3.1 x9 (0 : Int32) m7) else (X0_weighArrangement_b133 e (X0_weighArrangement_L76 e a0 n) a0 i1 c8 r3.1 x9 (1 : Int32) m7)))) else none)
theorem X0_weighArrangement_L76_ok {K : mm_K} {nx : Option Nat} {e : mm_E} (hz : e.2.1 = K.2.2.2.2) {d : Nat} (hd : 2 ≤ d) {a0 : Nat} (h0 : e.1 a0 = some (0, 13)) : ∀ (n : Nat) (i1 : Int32) (m : mm_V) (r : mm_V), X0_weighArrangement_L76 e a0 n i1 m = some r → mm_G K MX0_weighArrangement d (mm_Fv e.1 nx r) 76 [some (.ref a0), some (.int i1), none] [] (e.1, m) nx 0 0 := by
  obtain ⟨d, rfl⟩ : ∃ d', d = d' + 1 := ⟨d - 1, by omega⟩
  intro n
  induction n with
  | zero => intro i1 m r hr; unfold X0_weighArrangement_L76 at hr; cases hr
  | succ n ih =>
    intro i1 m r hr
    unfold X0_weighArrangement_L76 at hr
    refine ml_iload_n (pc := 76) dX0_weighArrangement_76 rfl (mm_get_s mm_get_0) ?_
    refine mg_bipush (pc := 77) dX0_weighArrangement_77 kb_6 ?_
    refine mb_icmp_ge (pc := 79) 141 dX0_weighArrangement_79 rfl hr (fun hr => ?_) (fun hr => ?_)
    · exact mb_vret dX0_weighArrangement_141 rfl hr
    · refine ml_aload_n (pc := 82) dX0_weighArrangement_82 rfl mm_get_0 ?_
      refine mb_gr (pc := 83) dX0_weighArrangement_83 fl_X0_17 hr (fun c1 hr => ?_)
      refine ml_iload_n (pc := 86) dX0_weighArrangement_86 rfl (mm_get_s mm_get_0) ?_
      refine mb_aq (pc := 87) dX0_weighArrangement_87 (by decide) (by decide) hr (fun c2 hr => ?_)
      refine mg_iconst (pc := 88) dX0_weighArrangement_88 kc_0 ?_
      refine mb_ck hr (fun hb4 hr => ?_)
      refine mb_cVi (pc := 89) (As := [.int (0 : Int32)]) (rest := []) dX0_weighArrangement_89 cw_X0_96 hb4 hr (fun v hv => X3_placeOf_ok hz (by omega) hb4 hv) rfl (Nat.le_of_ble_eq_true rfl) (Nat.zero_le _) (Nat.zero_le _) (fun r3 hr => ?_)
      refine ml_istore_n (pc := 92) dX0_weighArrangement_92 rfl (Nat.le_of_ble_eq_true rfl) (mm_st1_s mm_st1_i) ?_
      refine ml_iload_n (pc := 93) dX0_weighArrangement_93 rfl (mm_get_s (mm_get_s mm_get_0)) ?_
      refine mb_if_lt (pc := 94) 135 dX0_weighArrangement_94 rfl hr (fun hr => ?_) (fun hr => ?_)
      · exact mg_weak (mm_le_s (mm_le_s (mm_le_n mm_le_0))) (X0_weighArrangement_b135_ok hz hd h0 ih hr)
      · refine ml_iload_n (pc := 97) dX0_weighArrangement_97 rfl (mm_get_s (mm_get_s mm_get_0)) ?_
        refine mg_bipush (pc := 98) dX0_weighArrangement_98 kb_10 ?_
        refine mb_icmp_ge (pc := 100) 135 dX0_weighArrangement_100 rfl hr (fun hr => ?_) (fun hr => ?_)
        · exact mg_weak (mm_le_s (mm_le_s (mm_le_n mm_le_0))) (X0_weighArrangement_b135_ok hz hd h0 ih hr)
        · refine ml_aload_n (pc := 103) dX0_weighArrangement_103 rfl mm_get_0 ?_
          refine mb_gr (pc := 104) dX0_weighArrangement_104 fl_X0_32 hr (fun c5 hr => ?_)
          refine ml_iload_n (pc := 107) dX0_weighArrangement_107 rfl (mm_get_s mm_get_0) ?_
          refine mg_dup2 (pc := 108) dX0_weighArrangement_108 rfl rfl ?_
          refine mb_ai (pc := 109) dX0_weighArrangement_109 hr (fun x6 hr => ?_)
          refine mg_iconst (pc := 110) dX0_weighArrangement_110 kc_1 ?_
          refine mg_iadd (pc := 111) dX0_weighArrangement_111 ?_
          refine mb_si (pc := 112) dX0_weighArrangement_112 hr (fun m7 hr => ?_)
          refine ml_aload_n (pc := 113) dX0_weighArrangement_113 rfl mm_get_0 ?_
          refine mb_gr (pc := 114) dX0_weighArrangement_114 fl_X0_35 hr (fun c8 hr => ?_)
          refine ml_iload_n (pc := 117) dX0_weighArrangement_117 rfl (mm_get_s (mm_get_s mm_get_0)) ?_
          refine mg_dup2 (pc := 118) dX0_weighArrangement_118 rfl rfl ?_
          refine mb_ai (pc := 119) dX0_weighArrangement_119 hr (fun x9 hr => ?_)
          refine ml_iload_n (pc := 120) dX0_weighArrangement_120 rfl (mm_get_s mm_get_0) ?_
          refine ml_aload_n (pc := 121) dX0_weighArrangement_121 rfl mm_get_0 ?_
          refine mb_gi (pc := 122) dX0_weighArrangement_122 fl_X0_46 hr (fun x10 hr => ?_)
          refine mb_icmp_ne (pc := 125) 132 dX0_weighArrangement_125 rfl hr (fun hr => ?_) (fun hr => ?_)
          · refine mg_iconst (pc := 132) dX0_weighArrangement_132 kc_0 ?_
            exact mg_weak (mm_le_s (mm_le_s (mm_le_n mm_le_0))) (X0_weighArrangement_b133_ok hz hd h0 ih hr)
          · refine mg_iconst (pc := 128) dX0_weighArrangement_128 kc_1 ?_
            refine mg_goto (pc := 129) 133 dX0_weighArrangement_129 rfl ?_
            exact mg_weak (mm_le_s (mm_le_s (mm_le_n mm_le_0))) (X0_weighArrangement_b133_ok hz hd h0 ih hr)
def X0_weighArrangement_L31 (e : mm_E) (a0 : Nat) : Nat → Int32 → mm_V → Option mm_V
  | 0, _, _ => none
  | n + 1, i1, m => (mm_gr e.1 m 0 13 a0 7).bind fun c1 => (mm_gi e.1 m 5 4 c1 3).bind fun x2 => if x2 ≤ i1 then ((mm_gi e.1 m 0 13 a0 12).bind fun x3 => (mm_pf e.1 m 0 13 a0 12 (.int (x3 + (1 : Int32)))).bind fun m4 => X0_weighArrangement_L76 e a0 e.2.2 (0 : Int32) m4) else ((mm_gr e.1 m 0 13 a0 7).bind fun c5 => if e.1 c5 = some (5, 4) then ((X5_at e c5 i1 m).bind fun r6 => (X0_wentSo e a0 r6.1 r6.2).bind fun r8 => if ¬ r8.1 = 0 then (X0_weighArrangement_L31 e a0 n (i1 + 1) r8.2) else (some r8.2)) else none)
theorem X0_weighArrangement_L31_ok {K : mm_K} {nx : Option Nat} {e : mm_E} (hz : e.2.1 = K.2.2.2.2) {d : Nat} (hd : 2 ≤ d) {a0 : Nat} (h0 : e.1 a0 = some (0, 13)) : ∀ (n : Nat) (i1 : Int32) (m : mm_V) (r : mm_V), X0_weighArrangement_L31 e a0 n i1 m = some r → mm_G K MX0_weighArrangement d (mm_Fv e.1 nx r) 31 [some (.ref a0), some (.int i1), none] [] (e.1, m) nx 0 0 := by
  obtain ⟨d, rfl⟩ : ∃ d', d = d' + 1 := ⟨d - 1, by omega⟩
  intro n
  induction n with
  | zero => intro i1 m r hr; unfold X0_weighArrangement_L31 at hr; cases hr
  | succ n ih =>
    intro i1 m r hr
    unfold X0_weighArrangement_L31 at hr
    refine ml_iload_n (pc := 31) dX0_weighArrangement_31 rfl (mm_get_s mm_get_0) ?_
    refine ml_aload_n (pc := 32) dX0_weighArrangement_32 rfl mm_get_0 ?_
    refine mb_gr (pc := 33) dX0_weighArrangement_33 fl_X0_38 hr (fun c1 hr => ?_)
    refine mb_gi (pc := 36) dX0_weighArrangement_36 fl_X0_111 hr (fun x2 hr => ?_)
    refine mb_icmp_ge (pc := 39) 64 dX0_weighArrangement_39 rfl hr (fun hr => ?_) (fun hr => ?_)
    · refine ml_aload_n (pc := 64) dX0_weighArrangement_64 rfl mm_get_0 ?_
      refine mg_dup (pc := 65) dX0_weighArrangement_65 rfl ?_
      refine mb_gi (pc := 66) dX0_weighArrangement_66 fl_X0_79 hr (fun x3 hr => ?_)
      refine mg_iconst (pc := 69) dX0_weighArrangement_69 kc_1 ?_
      refine mg_iadd (pc := 70) dX0_weighArrangement_70 ?_
      refine mb_pi (pc := 71) dX0_weighArrangement_71 fp_X0_79 hr (fun m4 hr => ?_)
      refine mg_iconst (pc := 74) dX0_weighArrangement_74 kc_0 ?_
      refine ml_istore_n (pc := 75) dX0_weighArrangement_75 rfl (Nat.le_of_ble_eq_true rfl) mm_st1_r ?_
      exact mg_weak (mm_le_s (mm_le_s (mm_le_n mm_le_0))) (X0_weighArrangement_L76_ok hz hd h0 _ _ _ _ hr)
    · refine ml_aload_n (pc := 42) dX0_weighArrangement_42 rfl mm_get_0 ?_
      refine ml_aload_n (pc := 43) dX0_weighArrangement_43 rfl mm_get_0 ?_
      refine mb_gr (pc := 44) dX0_weighArrangement_44 fl_X0_38 hr (fun c5 hr => ?_)
      refine ml_iload_n (pc := 47) dX0_weighArrangement_47 rfl (mm_get_s mm_get_0) ?_
      refine mb_ck hr (fun hb7 hr => ?_)
      refine mb_cVr (pc := 48) (As := [.int i1]) (rest := [.ref a0]) dX0_weighArrangement_48 cw_X0_114 hb7 hr (fun v hv => X5_at_ok hz (by omega) hb7 hv) rfl (Nat.le_of_ble_eq_true rfl) (Nat.zero_le _) (Nat.zero_le _) (fun r6 hr => ?_)
      refine mb_cVi (pc := 51) (As := [.ref r6.1]) (rest := []) dX0_weighArrangement_51 cw_X0_118 h0 hr (fun v hv => X0_wentSo_ok hz (by omega) h0 hv) rfl (Nat.le_of_ble_eq_true rfl) (Nat.zero_le _) (Nat.zero_le _) (fun r8 hr => ?_)
      refine mb_if_ne (pc := 54) 58 dX0_weighArrangement_54 rfl hr (fun hr => ?_) (fun hr => ?_)
      · refine ml_iinc (pc := 58) dX0_weighArrangement_58 (mm_get_s mm_get_0) (congrArg (fun z => i1 + z) kc_1) (Nat.le_of_ble_eq_true rfl) mm_st1_r ?_
        refine mg_goto (pc := 61) 31 dX0_weighArrangement_61 rfl ?_
        exact mg_weak (mm_le_s (mm_le_s (mm_le_n mm_le_0))) (ih _ _ _ hr)
      · exact mb_vret dX0_weighArrangement_57 rfl hr
def X0_weighArrangement_L2 (e : mm_E) (a0 : Nat) : Nat → Int32 → mm_V → Option mm_V
  | 0, _, _ => none
  | n + 1, i1, m => if (6 : Int32) ≤ i1 then (X0_weighArrangement_L31 e a0 e.2.2 (0 : Int32) m) else ((mm_gr e.1 m 0 13 a0 1).bind fun c1 => (mm_aq e.1 m 23 c1 i1).bind fun c2 => (mm_gr e.1 m 0 13 a0 0).bind fun c3 => (mm_aq e.1 m 23 c3 i1).bind fun c4 => if e.1 c2 = some (3, 2) then ((X3_copyFrom e c2 c4 m).bind fun r5 => X0_weighArrangement_L2 e a0 n (i1 + 1) r5) else none)
theorem X0_weighArrangement_L2_ok {K : mm_K} {nx : Option Nat} {e : mm_E} (hz : e.2.1 = K.2.2.2.2) {d : Nat} (hd : 2 ≤ d) {a0 : Nat} (h0 : e.1 a0 = some (0, 13)) : ∀ (n : Nat) (i1 : Int32) (m : mm_V) (r : mm_V), X0_weighArrangement_L2 e a0 n i1 m = some r → mm_G K MX0_weighArrangement d (mm_Fv e.1 nx r) 2 [some (.ref a0), some (.int i1), none] [] (e.1, m) nx 0 0 := by
  obtain ⟨d, rfl⟩ : ∃ d', d = d' + 1 := ⟨d - 1, by omega⟩
  intro n
  induction n with
  | zero => intro i1 m r hr; unfold X0_weighArrangement_L2 at hr; cases hr
  | succ n ih =>
    intro i1 m r hr
    unfold X0_weighArrangement_L2 at hr
    refine ml_iload_n (pc := 2) dX0_weighArrangement_2 rfl (mm_get_s mm_get_0) ?_
    refine mg_bipush (pc := 3) dX0_weighArrangement_3 kb_6 ?_
    refine mb_icmp_ge (pc := 5) 29 dX0_weighArrangement_5 rfl hr (fun hr => ?_) (fun hr => ?_)
    · refine mg_iconst (pc := 29) dX0_weighArrangement_29 kc_0 ?_
      refine ml_istore_n (pc := 30) dX0_weighArrangement_30 rfl (Nat.le_of_ble_eq_true rfl) mm_st1_r ?_
      exact mg_weak (mm_le_s (mm_le_s (mm_le_n mm_le_0))) (X0_weighArrangement_L31_ok hz hd h0 _ _ _ _ hr)
    · refine ml_aload_n (pc := 8) dX0_weighArrangement_8 rfl mm_get_0 ?_
      refine mb_gr (pc := 9) dX0_weighArrangement_9 fl_X0_17 hr (fun c1 hr => ?_)
      refine ml_iload_n (pc := 12) dX0_weighArrangement_12 rfl (mm_get_s mm_get_0) ?_
      refine mb_aq (pc := 13) dX0_weighArrangement_13 (by decide) (by decide) hr (fun c2 hr => ?_)
      refine ml_aload_n (pc := 14) dX0_weighArrangement_14 rfl mm_get_0 ?_
      refine mb_gr (pc := 15) dX0_weighArrangement_15 fl_X0_11 hr (fun c3 hr => ?_)
      refine ml_iload_n (pc := 18) dX0_weighArrangement_18 rfl (mm_get_s mm_get_0) ?_
      refine mb_aq (pc := 19) dX0_weighArrangement_19 (by decide) (by decide) hr (fun c4 hr => ?_)
      refine mb_ck hr (fun hb6 hr => ?_)
      refine mb_cVv (pc := 20) (As := [.ref c4]) (rest := []) dX0_weighArrangement_20 cw_X0_58 hb6 hr (fun v hv => X3_copyFrom_ok hz (by omega) hb6 hv) rfl (Nat.le_of_ble_eq_true rfl) (Nat.zero_le _) (Nat.zero_le _) (fun r5 hr => ?_)
      refine ml_iinc (pc := 23) dX0_weighArrangement_23 (mm_get_s mm_get_0) (congrArg (fun z => i1 + z) kc_1) (Nat.le_of_ble_eq_true rfl) mm_st1_r ?_
      refine mg_goto (pc := 26) 2 dX0_weighArrangement_26 rfl ?_
      exact mg_weak (mm_le_s (mm_le_s (mm_le_n mm_le_0))) (ih _ _ _ hr)
def X0_weighArrangement (e : mm_E) (a0 : Nat) (m : mm_V) : Option mm_V := X0_weighArrangement_L2 e a0 e.2.2 (0 : Int32) m
theorem X0_weighArrangement_ok {K : mm_K} {nx : Option Nat} {e : mm_E} (hz : e.2.1 = K.2.2.2.2) {d : Nat} (hd : 2 ≤ d) {a0 : Nat} (h0 : e.1 a0 = some (0, 13)) {m : mm_V} {r : mm_V} (hr : X0_weighArrangement e a0 m = some r) : mm_Cn K MX0_weighArrangement d (mm_Fv e.1 nx r) [.ref a0] (e.1, m) nx := by
  obtain ⟨d, rfl⟩ : ∃ d', d = d' + 1 := ⟨d - 1, by omega⟩
  refine mm_entry (by decide) (Nat.le_of_ble_eq_true rfl) rfl (fun hok => ?_)
  unfold X0_weighArrangement at hr
  refine mg_weak (L' := [some (.ref a0), none, none]) (mm_le_s (mm_le_e (mm_le_e mm_le_0))) ?_
  refine mg_iconst (pc := 0) dX0_weighArrangement_0 kc_0 ?_
  refine ml_istore_n (pc := 1) dX0_weighArrangement_1 rfl (Nat.le_of_ble_eq_true rfl) mm_st1_r ?_
  exact mg_weak (mm_le_s (mm_le_s (mm_le_n mm_le_0))) (X0_weighArrangement_L2_ok hz hd h0 _ _ _ _ hr)
theorem dX0_tryCard_0 : decode cX0_tryCard 0 = .ok (.iload_n 3, 1) := by decide +kernel
theorem dX0_tryCard_1 : decode cX0_tryCard 1 = .ok (.ifCond .lt 9, 3) := by decide +kernel
theorem dX0_tryCard_4 : decode cX0_tryCard 4 = .ok (.iload_n 3, 1) := by decide +kernel
theorem dX0_tryCard_5 : decode cX0_tryCard 5 = .ok (.bipush 10, 2) := by decide +kernel
theorem dX0_tryCard_7 : decode cX0_tryCard 7 = .ok (.if_icmp .lt 5, 3) := by decide +kernel
theorem dX0_tryCard_10 : decode cX0_tryCard 10 = .ok (.iconst 1, 1) := by decide +kernel
theorem dX0_tryCard_11 : decode cX0_tryCard 11 = .ok (.ireturn, 1) := by decide +kernel
theorem dX0_tryCard_12 : decode cX0_tryCard 12 = .ok (.aload_n 0, 1) := by decide +kernel
theorem dX0_tryCard_13 : decode cX0_tryCard 13 = .ok (.getfield 25, 3) := by decide +kernel
theorem dX0_tryCard_16 : decode cX0_tryCard 16 = .ok (.iload_n 3, 1) := by decide +kernel
theorem dX0_tryCard_17 : decode cX0_tryCard 17 = .ok (.dup2, 1) := by decide +kernel
theorem dX0_tryCard_18 : decode cX0_tryCard 18 = .ok (.iaload, 1) := by decide +kernel
theorem dX0_tryCard_19 : decode cX0_tryCard 19 = .ok (.iconst 1, 1) := by decide +kernel
theorem dX0_tryCard_20 : decode cX0_tryCard 20 = .ok (.isub, 1) := by decide +kernel
theorem dX0_tryCard_21 : decode cX0_tryCard 21 = .ok (.iastore, 1) := by decide +kernel
theorem dX0_tryCard_22 : decode cX0_tryCard 22 = .ok (.aload_n 2, 1) := by decide +kernel
theorem dX0_tryCard_23 : decode cX0_tryCard 23 = .ok (.aload_n 2, 1) := by decide +kernel
theorem dX0_tryCard_24 : decode cX0_tryCard 24 = .ok (.getfield 82, 3) := by decide +kernel
theorem dX0_tryCard_27 : decode cX0_tryCard 27 = .ok (.iload_n 3, 1) := by decide +kernel
theorem dX0_tryCard_28 : decode cX0_tryCard 28 = .ok (.invokevirtual 103, 3) := by decide +kernel
theorem dX0_tryCard_31 : decode cX0_tryCard 31 = .ok (.aload_n 0, 1) := by decide +kernel
theorem dX0_tryCard_32 : decode cX0_tryCard 32 = .ok (.iload_n 1, 1) := by decide +kernel
theorem dX0_tryCard_33 : decode cX0_tryCard 33 = .ok (.iconst 1, 1) := by decide +kernel
theorem dX0_tryCard_34 : decode cX0_tryCard 34 = .ok (.iadd, 1) := by decide +kernel
theorem dX0_tryCard_35 : decode cX0_tryCard 35 = .ok (.invokevirtual 69, 3) := by decide +kernel
theorem dX0_tryCard_38 : decode cX0_tryCard 38 = .ok (.istore 4, 2) := by decide +kernel
theorem dX0_tryCard_40 : decode cX0_tryCard 40 = .ok (.aload_n 2, 1) := by decide +kernel
theorem dX0_tryCard_41 : decode cX0_tryCard 41 = .ok (.aload_n 2, 1) := by decide +kernel
theorem dX0_tryCard_42 : decode cX0_tryCard 42 = .ok (.getfield 82, 3) := by decide +kernel
theorem dX0_tryCard_45 : decode cX0_tryCard 45 = .ok (.iconst 1, 1) := by decide +kernel
theorem dX0_tryCard_46 : decode cX0_tryCard 46 = .ok (.isub, 1) := by decide +kernel
theorem dX0_tryCard_47 : decode cX0_tryCard 47 = .ok (.invokevirtual 107, 3) := by decide +kernel
theorem dX0_tryCard_50 : decode cX0_tryCard 50 = .ok (.aload_n 0, 1) := by decide +kernel
theorem dX0_tryCard_51 : decode cX0_tryCard 51 = .ok (.getfield 25, 3) := by decide +kernel
theorem dX0_tryCard_54 : decode cX0_tryCard 54 = .ok (.iload_n 3, 1) := by decide +kernel
theorem dX0_tryCard_55 : decode cX0_tryCard 55 = .ok (.dup2, 1) := by decide +kernel
theorem dX0_tryCard_56 : decode cX0_tryCard 56 = .ok (.iaload, 1) := by decide +kernel
theorem dX0_tryCard_57 : decode cX0_tryCard 57 = .ok (.iconst 1, 1) := by decide +kernel
theorem dX0_tryCard_58 : decode cX0_tryCard 58 = .ok (.iadd, 1) := by decide +kernel
theorem dX0_tryCard_59 : decode cX0_tryCard 59 = .ok (.iastore, 1) := by decide +kernel
theorem dX0_tryCard_60 : decode cX0_tryCard 60 = .ok (.iload 4, 2) := by decide +kernel
theorem dX0_tryCard_62 : decode cX0_tryCard 62 = .ok (.ireturn, 1) := by decide +kernel
def X0_tryCard_b10 (e : mm_E) (kr : Nat → Int32 → mm_V → Option (Int32 × mm_V)) (m : mm_V) : Option (Int32 × mm_V) := mm_rz (1 : Int32) m
theorem X0_tryCard_b10_ok {K : mm_K} {nx : Option Nat} {e : mm_E} (hz : e.2.1 = K.2.2.2.2) {d dr : Nat} (hd : dr + 1 ≤ d) {a0 : Nat} (h0 : e.1 a0 = some (0, 13)) {kr : Nat → Int32 → mm_V → Option (Int32 × mm_V)} (hkr : ∀ (b0 : Nat) (b1 : Int32) (m : mm_V) r (d9 : Nat), dr ≤ d9 → e.1 b0 = some (0, 13) → kr b0 b1 m = some r → mm_Cn K MX0_tryAt d9 (mm_Fi e.1 nx r) [.ref b0, .int b1] (e.1, m) nx) {m : mm_V} {r : (Int32 × mm_V)} (hr : X0_tryCard_b10 e kr m = some r) : mm_G K MX0_tryCard d (mm_Fi e.1 nx r) 10 [none, none, none, none, none] [] (e.1, m) nx 0 0 := by
  obtain ⟨d, rfl⟩ : ∃ d', d = d' + 1 := ⟨d - 1, by omega⟩
  unfold X0_tryCard_b10 at hr
  refine mg_iconst (pc := 10) dX0_tryCard_10 kc_1 ?_
  exact mb_zret dX0_tryCard_11 rfl hr
def X0_tryCard (e : mm_E) (kr : Nat → Int32 → mm_V → Option (Int32 × mm_V)) (a0 : Nat) (i1 : Int32) (a2 : Nat) (i3 : Int32) (m : mm_V) : Option (Int32 × mm_V) := if i3 < 0 then (X0_tryCard_b10 e kr   m) else (if i3 < (10 : Int32) then ((mm_gr e.1 m 0 13 a0 3).bind fun c1 => (mm_ai e.1 m 20 c1 i3).bind fun x2 => (mm_si e.1 m c1 i3 (x2 - (1 : Int32))).bind fun m3 => (mm_gi e.1 m3 3 2 a2 1).bind fun x4 => if e.1 a2 = some (3, 2) then ((X3_putIn e a2 x4 i3 m3).bind fun r5 => (kr a0 (i1 + (1 : Int32)) r5).bind fun r7 => (mm_gi e.1 r7.2 3 2 a2 1).bind fun x8 => if e.1 a2 = some (3, 2) then ((X3_takeOut e a2 (x8 - (1 : Int32)) r7.2).bind fun r9 => (mm_gr e.1 r9 0 13 a0 3).bind fun c11 => (mm_ai e.1 r9 20 c11 i3).bind fun x12 => (mm_si e.1 r9 c11 i3 (x12 + (1 : Int32))).bind fun m13 => mm_rz r7.1 m13) else none) else none) else (X0_tryCard_b10 e kr   m))
theorem X0_tryCard_ok {K : mm_K} {nx : Option Nat} {e : mm_E} (hz : e.2.1 = K.2.2.2.2) {d dr : Nat} (hd : dr + 1 ≤ d) {a0 : Nat} {i1 : Int32} {a2 : Nat} {i3 : Int32} (h0 : e.1 a0 = some (0, 13)) {kr : Nat → Int32 → mm_V → Option (Int32 × mm_V)} (hkr : ∀ (b0 : Nat) (b1 : Int32) (m : mm_V) r (d9 : Nat), dr ≤ d9 → e.1 b0 = some (0, 13) → kr b0 b1 m = some r → mm_Cn K MX0_tryAt d9 (mm_Fi e.1 nx r) [.ref b0, .int b1] (e.1, m) nx) {m : mm_V} {r : (Int32 × mm_V)} (hr : X0_tryCard e kr a0 i1 a2 i3 m = some r) : mm_Cn K MX0_tryCard d (mm_Fi e.1 nx r) [.ref a0, .int i1, .ref a2, .int i3] (e.1, m) nx := by
  obtain ⟨d, rfl⟩ : ∃ d', d = d' + 1 := ⟨d - 1, by omega⟩
  refine mm_entry (by decide) (Nat.le_of_ble_eq_true rfl) rfl (fun hok => ?_)
  unfold X0_tryCard at hr
  refine mg_weak (L' := [some (.ref a0), some (.int i1), some (.ref a2), some (.int i3), none]) (mm_le_s (mm_le_s (mm_le_s (mm_le_s (mm_le_e mm_le_0))))) ?_
  refine ml_iload_n (pc := 0) dX0_tryCard_0 rfl (mm_get_s (mm_get_s (mm_get_s mm_get_0))) ?_
  refine mb_if_lt (pc := 1) 10 dX0_tryCard_1 rfl hr (fun hr => ?_) (fun hr => ?_)
  · exact mg_weak (mm_le_n (mm_le_n (mm_le_n (mm_le_n (mm_le_n mm_le_0))))) (X0_tryCard_b10_ok hz hd h0 hkr hr)
  · refine ml_iload_n (pc := 4) dX0_tryCard_4 rfl (mm_get_s (mm_get_s (mm_get_s mm_get_0))) ?_
    refine mg_bipush (pc := 5) dX0_tryCard_5 kb_10 ?_
    refine mb_icmp_lt (pc := 7) 12 dX0_tryCard_7 rfl hr (fun hr => ?_) (fun hr => ?_)
    · refine ml_aload_n (pc := 12) dX0_tryCard_12 rfl mm_get_0 ?_
      refine mb_gr (pc := 13) dX0_tryCard_13 fl_X0_25 hr (fun c1 hr => ?_)
      refine ml_iload_n (pc := 16) dX0_tryCard_16 rfl (mm_get_s (mm_get_s (mm_get_s mm_get_0))) ?_
      refine mg_dup2 (pc := 17) dX0_tryCard_17 rfl rfl ?_
      refine mb_ai (pc := 18) dX0_tryCard_18 hr (fun x2 hr => ?_)
      refine mg_iconst (pc := 19) dX0_tryCard_19 kc_1 ?_
      refine mg_isub (pc := 20) dX0_tryCard_20 ?_
      refine mb_si (pc := 21) dX0_tryCard_21 hr (fun m3 hr => ?_)
      refine ml_aload_n (pc := 22) dX0_tryCard_22 rfl (mm_get_s (mm_get_s mm_get_0)) ?_
      refine ml_aload_n (pc := 23) dX0_tryCard_23 rfl (mm_get_s (mm_get_s mm_get_0)) ?_
      refine mb_gi (pc := 24) dX0_tryCard_24 fl_X0_82 hr (fun x4 hr => ?_)
      refine ml_iload_n (pc := 27) dX0_tryCard_27 rfl (mm_get_s (mm_get_s (mm_get_s mm_get_0))) ?_
      refine mb_ck hr (fun hb6 hr => ?_)
      refine mb_cVv (pc := 28) (As := [.int x4, .int i3]) (rest := []) dX0_tryCard_28 cw_X0_103 hb6 hr (fun v hv => X3_putIn_ok hz (by omega) hb6 hv) rfl (Nat.le_of_ble_eq_true rfl) (Nat.zero_le _) (Nat.zero_le _) (fun r5 hr => ?_)
      refine ml_aload_n (pc := 31) dX0_tryCard_31 rfl mm_get_0 ?_
      refine ml_iload_n (pc := 32) dX0_tryCard_32 rfl (mm_get_s mm_get_0) ?_
      refine mg_iconst (pc := 33) dX0_tryCard_33 kc_1 ?_
      refine mg_iadd (pc := 34) dX0_tryCard_34 ?_
      refine mb_cVi (pc := 35) (As := [.int (i1 + (1 : Int32))]) (rest := []) dX0_tryCard_35 cw_X0_69 h0 hr (fun v hv => hkr a0 (i1 + (1 : Int32)) _ v _ (by omega) h0 hv) rfl (Nat.le_of_ble_eq_true rfl) (Nat.zero_le _) (Nat.zero_le _) (fun r7 hr => ?_)
      refine ml_istore (pc := 38) dX0_tryCard_38 (Nat.le_of_ble_eq_true rfl) (mm_st1_s (mm_st1_s (mm_st1_s mm_st1_i))) ?_
      refine ml_aload_n (pc := 40) dX0_tryCard_40 rfl (mm_get_s (mm_get_s mm_get_0)) ?_
      refine ml_aload_n (pc := 41) dX0_tryCard_41 rfl (mm_get_s (mm_get_s mm_get_0)) ?_
      refine mb_gi (pc := 42) dX0_tryCard_42 fl_X0_82 hr (fun x8 hr => ?_)
      refine mg_iconst (pc := 45) dX0_tryCard_45 kc_1 ?_
      refine mg_isub (pc := 46) dX0_tryCard_46 ?_
      refine mb_ck hr (fun hb10 hr => ?_)
      refine mb_cVv (pc := 47) (As := [.int (x8 - (1 : Int32))]) (rest := []) dX0_tryCard_47 cw_X0_107 hb10 hr (fun v hv => X3_takeOut_ok hz (by omega) hb10 hv) rfl (Nat.le_of_ble_eq_true rfl) (Nat.zero_le _) (Nat.zero_le _) (fun r9 hr => ?_)
      refine ml_aload_n (pc := 50) dX0_tryCard_50 rfl mm_get_0 ?_
      refine mb_gr (pc := 51) dX0_tryCard_51 fl_X0_25 hr (fun c11 hr => ?_)
      refine ml_iload_n (pc := 54) dX0_tryCard_54 rfl (mm_get_s (mm_get_s (mm_get_s mm_get_0))) ?_
      refine mg_dup2 (pc := 55) dX0_tryCard_55 rfl rfl ?_
      refine mb_ai (pc := 56) dX0_tryCard_56 hr (fun x12 hr => ?_)
      refine mg_iconst (pc := 57) dX0_tryCard_57 kc_1 ?_
      refine mg_iadd (pc := 58) dX0_tryCard_58 ?_
      refine mb_si (pc := 59) dX0_tryCard_59 hr (fun m13 hr => ?_)
      refine ml_iload (pc := 60) dX0_tryCard_60 (mm_get_s (mm_get_s (mm_get_s (mm_get_s mm_get_0)))) ?_
      exact mb_zret dX0_tryCard_62 rfl hr
    · exact mg_weak (mm_le_n (mm_le_n (mm_le_n (mm_le_n (mm_le_n mm_le_0))))) (X0_tryCard_b10_ok hz hd h0 hkr hr)
theorem dX0_tryAt_0 : decode cX0_tryAt 0 = .ok (.iload_n 1, 1) := by decide +kernel
theorem dX0_tryAt_1 : decode cX0_tryAt 1 = .ok (.ifCond .lt 17, 3) := by decide +kernel
theorem dX0_tryAt_4 : decode cX0_tryAt 4 = .ok (.iload_n 1, 1) := by decide +kernel
theorem dX0_tryAt_5 : decode cX0_tryAt 5 = .ok (.aload_n 0, 1) := by decide +kernel
theorem dX0_tryAt_6 : decode cX0_tryAt 6 = .ok (.getfield 73, 3) := by decide +kernel
theorem dX0_tryAt_9 : decode cX0_tryAt 9 = .ok (.if_icmp .ge 9, 3) := by decide +kernel
theorem dX0_tryAt_12 : decode cX0_tryAt 12 = .ok (.iload_n 1, 1) := by decide +kernel
theorem dX0_tryAt_13 : decode cX0_tryAt 13 = .ok (.bipush 19, 2) := by decide +kernel
theorem dX0_tryAt_15 : decode cX0_tryAt 15 = .ok (.if_icmp .lt 9, 3) := by decide +kernel
theorem dX0_tryAt_18 : decode cX0_tryAt 18 = .ok (.aload_n 0, 1) := by decide +kernel
theorem dX0_tryAt_19 : decode cX0_tryAt 19 = .ok (.invokevirtual 89, 3) := by decide +kernel
theorem dX0_tryAt_22 : decode cX0_tryAt 22 = .ok (.iconst 1, 1) := by decide +kernel
theorem dX0_tryAt_23 : decode cX0_tryAt 23 = .ok (.ireturn, 1) := by decide +kernel
theorem dX0_tryAt_24 : decode cX0_tryAt 24 = .ok (.aload_n 0, 1) := by decide +kernel
theorem dX0_tryAt_25 : decode cX0_tryAt 25 = .ok (.aload_n 0, 1) := by decide +kernel
theorem dX0_tryAt_26 : decode cX0_tryAt 26 = .ok (.getfield 11, 3) := by decide +kernel
theorem dX0_tryAt_29 : decode cX0_tryAt 29 = .ok (.aload_n 0, 1) := by decide +kernel
theorem dX0_tryAt_30 : decode cX0_tryAt 30 = .ok (.getfield 29, 3) := by decide +kernel
theorem dX0_tryAt_33 : decode cX0_tryAt 33 = .ok (.iload_n 1, 1) := by decide +kernel
theorem dX0_tryAt_34 : decode cX0_tryAt 34 = .ok (.iaload, 1) := by decide +kernel
theorem dX0_tryAt_35 : decode cX0_tryAt 35 = .ok (.invokevirtual 92, 3) := by decide +kernel
theorem dX0_tryAt_38 : decode cX0_tryAt 38 = .ok (.astore_n 2, 1) := by decide +kernel
theorem dX0_tryAt_39 : decode cX0_tryAt 39 = .ok (.iconst 0, 1) := by decide +kernel
theorem dX0_tryAt_40 : decode cX0_tryAt 40 = .ok (.istore_n 3, 1) := by decide +kernel
theorem dX0_tryAt_41 : decode cX0_tryAt 41 = .ok (.iload_n 3, 1) := by decide +kernel
theorem dX0_tryAt_42 : decode cX0_tryAt 42 = .ok (.bipush 10, 2) := by decide +kernel
theorem dX0_tryAt_44 : decode cX0_tryAt 44 = .ok (.if_icmp .ge 61, 3) := by decide +kernel
theorem dX0_tryAt_47 : decode cX0_tryAt 47 = .ok (.aload_n 0, 1) := by decide +kernel
theorem dX0_tryAt_48 : decode cX0_tryAt 48 = .ok (.getfield 25, 3) := by decide +kernel
theorem dX0_tryAt_51 : decode cX0_tryAt 51 = .ok (.iload_n 3, 1) := by decide +kernel
theorem dX0_tryAt_52 : decode cX0_tryAt 52 = .ok (.iaload, 1) := by decide +kernel
theorem dX0_tryAt_53 : decode cX0_tryAt 53 = .ok (.ifCond .le 46, 3) := by decide +kernel
theorem dX0_tryAt_56 : decode cX0_tryAt 56 = .ok (.aload_n 0, 1) := by decide +kernel
theorem dX0_tryAt_57 : decode cX0_tryAt 57 = .ok (.dup, 1) := by decide +kernel
theorem dX0_tryAt_58 : decode cX0_tryAt 58 = .ok (.getfield 76, 3) := by decide +kernel
theorem dX0_tryAt_61 : decode cX0_tryAt 61 = .ok (.iconst 1, 1) := by decide +kernel
theorem dX0_tryAt_62 : decode cX0_tryAt 62 = .ok (.iadd, 1) := by decide +kernel
theorem dX0_tryAt_63 : decode cX0_tryAt 63 = .ok (.putfield 76, 3) := by decide +kernel
theorem dX0_tryAt_66 : decode cX0_tryAt 66 = .ok (.aload_n 0, 1) := by decide +kernel
theorem dX0_tryAt_67 : decode cX0_tryAt 67 = .ok (.getfield 76, 3) := by decide +kernel
theorem dX0_tryAt_70 : decode cX0_tryAt 70 = .ok (.sipush 20000, 3) := by decide +kernel
theorem dX0_tryAt_73 : decode cX0_tryAt 73 = .ok (.if_icmp .le 5, 3) := by decide +kernel
theorem dX0_tryAt_76 : decode cX0_tryAt 76 = .ok (.iconst 0, 1) := by decide +kernel
theorem dX0_tryAt_77 : decode cX0_tryAt 77 = .ok (.ireturn, 1) := by decide +kernel
theorem dX0_tryAt_78 : decode cX0_tryAt 78 = .ok (.aload_n 2, 1) := by decide +kernel
theorem dX0_tryAt_79 : decode cX0_tryAt 79 = .ok (.iload_n 3, 1) := by decide +kernel
theorem dX0_tryAt_80 : decode cX0_tryAt 80 = .ok (.invokevirtual 96, 3) := by decide +kernel
theorem dX0_tryAt_83 : decode cX0_tryAt 83 = .ok (.iconst (-1), 1) := by decide +kernel
theorem dX0_tryAt_84 : decode cX0_tryAt 84 = .ok (.if_icmp .ne 15, 3) := by decide +kernel
theorem dX0_tryAt_87 : decode cX0_tryAt 87 = .ok (.aload_n 0, 1) := by decide +kernel
theorem dX0_tryAt_88 : decode cX0_tryAt 88 = .ok (.iload_n 1, 1) := by decide +kernel
theorem dX0_tryAt_89 : decode cX0_tryAt 89 = .ok (.aload_n 2, 1) := by decide +kernel
theorem dX0_tryAt_90 : decode cX0_tryAt 90 = .ok (.iload_n 3, 1) := by decide +kernel
theorem dX0_tryAt_91 : decode cX0_tryAt 91 = .ok (.invokevirtual 99, 3) := by decide +kernel
theorem dX0_tryAt_94 : decode cX0_tryAt 94 = .ok (.ifCond .ne 5, 3) := by decide +kernel
theorem dX0_tryAt_97 : decode cX0_tryAt 97 = .ok (.iconst 0, 1) := by decide +kernel
theorem dX0_tryAt_98 : decode cX0_tryAt 98 = .ok (.ireturn, 1) := by decide +kernel
theorem dX0_tryAt_99 : decode cX0_tryAt 99 = .ok (.iinc 3 1, 3) := by decide +kernel
theorem dX0_tryAt_102 : decode cX0_tryAt 102 = .ok (.goto (-61), 3) := by decide +kernel
theorem dX0_tryAt_105 : decode cX0_tryAt 105 = .ok (.iconst 1, 1) := by decide +kernel
theorem dX0_tryAt_106 : decode cX0_tryAt 106 = .ok (.ireturn, 1) := by decide +kernel
def X0_tryAt_b99 (e : mm_E) (kr : Nat → Int32 → mm_V → Option (Int32 × mm_V)) (k41 : Int32 → mm_V → Option (Int32 × mm_V)) (a0 : Nat) (i1 : Int32) (a2 : Nat) (i3 : Int32) (m : mm_V) : Option (Int32 × mm_V) := k41 (i3 + 1) m
theorem X0_tryAt_b99_ok {K : mm_K} {nx : Option Nat} {e : mm_E} (hz : e.2.1 = K.2.2.2.2) {d dr : Nat} (hd : dr + 3 ≤ d) {a0 : Nat} {i1 : Int32} {a2 : Nat} {i3 : Int32} (h0 : e.1 a0 = some (0, 13)) {kr : Nat → Int32 → mm_V → Option (Int32 × mm_V)} (hkr : ∀ (b0 : Nat) (b1 : Int32) (m : mm_V) r (d9 : Nat), dr ≤ d9 → e.1 b0 = some (0, 13) → kr b0 b1 m = some r → mm_Cn K MX0_tryAt d9 (mm_Fi e.1 nx r) [.ref b0, .int b1] (e.1, m) nx) {k41 : Int32 → mm_V → Option (Int32 × mm_V)} (hk41 : ∀ (w3 : Int32) (m : mm_V) (r : (Int32 × mm_V)), k41 w3 m = some r → mm_G K MX0_tryAt d (mm_Fi e.1 nx r) 41 [some (.ref a0), some (.int i1), some (.ref a2), some (.int w3)] [] (e.1, m) nx 0 0) {m : mm_V} {r : (Int32 × mm_V)} (hr : X0_tryAt_b99 e kr k41 a0 i1 a2 i3 m = some r) : mm_G K MX0_tryAt d (mm_Fi e.1 nx r) 99 [some (.ref a0), some (.int i1), some (.ref a2), some (.int i3)] [] (e.1, m) nx 0 0 := by
  obtain ⟨d, rfl⟩ : ∃ d', d = d' + 1 := ⟨d - 1, by omega⟩
  unfold X0_tryAt_b99 at hr
  refine ml_iinc (pc := 99) dX0_tryAt_99 (mm_get_s (mm_get_s (mm_get_s mm_get_0))) (congrArg (fun z => i3 + z) kc_1) (Nat.le_of_ble_eq_true rfl) (mm_st1_s (mm_st1_s mm_st1_r)) ?_
  refine mg_goto (pc := 102) 41 dX0_tryAt_102 rfl ?_
  exact mg_weak (mm_le_s (mm_le_s (mm_le_s (mm_le_s mm_le_0)))) (hk41 _ _ _ hr)
def X0_tryAt_L41 (e : mm_E) (kr : Nat → Int32 → mm_V → Option (Int32 × mm_V)) (a0 : Nat) (i1 : Int32) (a2 : Nat) : Nat → Int32 → mm_V → Option (Int32 × mm_V)
  | 0, _, _ => none
  | n + 1, i3, m => if (10 : Int32) ≤ i3 then (mm_rz (1 : Int32) m) else ((mm_gr e.1 m 0 13 a0 3).bind fun c1 => (mm_ai e.1 m 20 c1 i3).bind fun x2 => if x2 ≤ 0 then (X0_tryAt_b99 e kr (X0_tryAt_L41 e kr a0 i1 a2 n) a0 i1 a2 i3  m) else ((mm_gi e.1 m 0 13 a0 11).bind fun x3 => (mm_pf e.1 m 0 13 a0 11 (.int (x3 + (1 : Int32)))).bind fun m4 => (mm_gi e.1 m4 0 13 a0 11).bind fun x5 => if x5 ≤ (20000 : Int32) then (if e.1 a2 = some (3, 2) then ((X3_placeOf e a2 i3 m4).bind fun r6 => if ¬ r6.1 = (-1 : Int32) then (X0_tryAt_b99 e kr (X0_tryAt_L41 e kr a0 i1 a2 n) a0 i1 a2 i3  r6.2) else ((X0_tryCard e kr a0 i1 a2 i3 r6.2).bind fun r8 => if ¬ r8.1 = 0 then (X0_tryAt_b99 e kr (X0_tryAt_L41 e kr a0 i1 a2 n) a0 i1 a2 i3  r8.2) else (mm_rz (0 : Int32) r8.2))) else none) else (mm_rz (0 : Int32) m4)))
theorem X0_tryAt_L41_ok {K : mm_K} {nx : Option Nat} {e : mm_E} (hz : e.2.1 = K.2.2.2.2) {d dr : Nat} (hd : dr + 3 ≤ d) {a0 : Nat} {i1 : Int32} {a2 : Nat} (h0 : e.1 a0 = some (0, 13)) {kr : Nat → Int32 → mm_V → Option (Int32 × mm_V)} (hkr : ∀ (b0 : Nat) (b1 : Int32) (m : mm_V) r (d9 : Nat), dr ≤ d9 → e.1 b0 = some (0, 13) → kr b0 b1 m = some r → mm_Cn K MX0_tryAt d9 (mm_Fi e.1 nx r) [.ref b0, .int b1] (e.1, m) nx) : ∀ (n : Nat) (i3 : Int32) (m : mm_V) (r : (Int32 × mm_V)), X0_tryAt_L41 e kr a0 i1 a2 n i3 m = some r → mm_G K MX0_tryAt d (mm_Fi e.1 nx r) 41 [some (.ref a0), some (.int i1), some (.ref a2), some (.int i3)] [] (e.1, m) nx 0 0 := by
  obtain ⟨d, rfl⟩ : ∃ d', d = d' + 1 := ⟨d - 1, by omega⟩
  intro n
  induction n with
  | zero => intro i3 m r hr; unfold X0_tryAt_L41 at hr; cases hr
  | succ n ih =>
    intro i3 m r hr
    unfold X0_tryAt_L41 at hr
    refine ml_iload_n (pc := 41) dX0_tryAt_41 rfl (mm_get_s (mm_get_s (mm_get_s mm_get_0))) ?_
    refine mg_bipush (pc := 42) dX0_tryAt_42 kb_10 ?_
    refine mb_icmp_ge (pc := 44) 105 dX0_tryAt_44 rfl hr (fun hr => ?_) (fun hr => ?_)
    · refine mg_iconst (pc := 105) dX0_tryAt_105 kc_1 ?_
      exact mb_zret dX0_tryAt_106 rfl hr
    · refine ml_aload_n (pc := 47) dX0_tryAt_47 rfl mm_get_0 ?_
      refine mb_gr (pc := 48) dX0_tryAt_48 fl_X0_25 hr (fun c1 hr => ?_)
      refine ml_iload_n (pc := 51) dX0_tryAt_51 rfl (mm_get_s (mm_get_s (mm_get_s mm_get_0))) ?_
      refine mb_ai (pc := 52) dX0_tryAt_52 hr (fun x2 hr => ?_)
      refine mb_if_le (pc := 53) 99 dX0_tryAt_53 rfl hr (fun hr => ?_) (fun hr => ?_)
      · exact mg_weak (mm_le_s (mm_le_s (mm_le_s (mm_le_s mm_le_0)))) (X0_tryAt_b99_ok hz hd h0 hkr ih hr)
      · refine ml_aload_n (pc := 56) dX0_tryAt_56 rfl mm_get_0 ?_
        refine mg_dup (pc := 57) dX0_tryAt_57 rfl ?_
        refine mb_gi (pc := 58) dX0_tryAt_58 fl_X0_76 hr (fun x3 hr => ?_)
        refine mg_iconst (pc := 61) dX0_tryAt_61 kc_1 ?_
        refine mg_iadd (pc := 62) dX0_tryAt_62 ?_
        refine mb_pi (pc := 63) dX0_tryAt_63 fp_X0_76 hr (fun m4 hr => ?_)
        refine ml_aload_n (pc := 66) dX0_tryAt_66 rfl mm_get_0 ?_
        refine mb_gi (pc := 67) dX0_tryAt_67 fl_X0_76 hr (fun x5 hr => ?_)
        refine mg_sipush (pc := 70) dX0_tryAt_70 ks_20000 ?_
        refine mb_icmp_le (pc := 73) 78 dX0_tryAt_73 rfl hr (fun hr => ?_) (fun hr => ?_)
        · refine ml_aload_n (pc := 78) dX0_tryAt_78 rfl (mm_get_s (mm_get_s mm_get_0)) ?_
          refine ml_iload_n (pc := 79) dX0_tryAt_79 rfl (mm_get_s (mm_get_s (mm_get_s mm_get_0))) ?_
          refine mb_ck hr (fun hb7 hr => ?_)
          refine mb_cVi (pc := 80) (As := [.int i3]) (rest := []) dX0_tryAt_80 cw_X0_96 hb7 hr (fun v hv => X3_placeOf_ok hz (by omega) hb7 hv) rfl (Nat.le_of_ble_eq_true rfl) (Nat.zero_le _) (Nat.zero_le _) (fun r6 hr => ?_)
          refine mg_iconst (pc := 83) dX0_tryAt_83 kc_m1 ?_
          refine mb_icmp_ne (pc := 84) 99 dX0_tryAt_84 rfl hr (fun hr => ?_) (fun hr => ?_)
          · exact mg_weak (mm_le_s (mm_le_s (mm_le_s (mm_le_s mm_le_0)))) (X0_tryAt_b99_ok hz hd h0 hkr ih hr)
          · refine ml_aload_n (pc := 87) dX0_tryAt_87 rfl mm_get_0 ?_
            refine ml_iload_n (pc := 88) dX0_tryAt_88 rfl (mm_get_s mm_get_0) ?_
            refine ml_aload_n (pc := 89) dX0_tryAt_89 rfl (mm_get_s (mm_get_s mm_get_0)) ?_
            refine ml_iload_n (pc := 90) dX0_tryAt_90 rfl (mm_get_s (mm_get_s (mm_get_s mm_get_0))) ?_
            refine mb_cVi (pc := 91) (As := [.int i1, .ref a2, .int i3]) (rest := []) dX0_tryAt_91 cw_X0_99 h0 hr (fun v hv => X0_tryCard_ok hz (by omega) h0 hkr hv) rfl (Nat.le_of_ble_eq_true rfl) (Nat.zero_le _) (Nat.zero_le _) (fun r8 hr => ?_)
            refine mb_if_ne (pc := 94) 99 dX0_tryAt_94 rfl hr (fun hr => ?_) (fun hr => ?_)
            · exact mg_weak (mm_le_s (mm_le_s (mm_le_s (mm_le_s mm_le_0)))) (X0_tryAt_b99_ok hz hd h0 hkr ih hr)
            · refine mg_iconst (pc := 97) dX0_tryAt_97 kc_0 ?_
              exact mb_zret dX0_tryAt_98 rfl hr
        · refine mg_iconst (pc := 76) dX0_tryAt_76 kc_0 ?_
          exact mb_zret dX0_tryAt_77 rfl hr
def X0_tryAt_b18 (e : mm_E) (kr : Nat → Int32 → mm_V → Option (Int32 × mm_V)) (a0 : Nat) (m : mm_V) : Option (Int32 × mm_V) := (X0_weighArrangement e a0 m).bind fun r1 => mm_rz (1 : Int32) r1
theorem X0_tryAt_b18_ok {K : mm_K} {nx : Option Nat} {e : mm_E} (hz : e.2.1 = K.2.2.2.2) {d dr : Nat} (hd : dr + 3 ≤ d) {a0 : Nat} (h0 : e.1 a0 = some (0, 13)) {kr : Nat → Int32 → mm_V → Option (Int32 × mm_V)} (hkr : ∀ (b0 : Nat) (b1 : Int32) (m : mm_V) r (d9 : Nat), dr ≤ d9 → e.1 b0 = some (0, 13) → kr b0 b1 m = some r → mm_Cn K MX0_tryAt d9 (mm_Fi e.1 nx r) [.ref b0, .int b1] (e.1, m) nx) {m : mm_V} {r : (Int32 × mm_V)} (hr : X0_tryAt_b18 e kr a0 m = some r) : mm_G K MX0_tryAt d (mm_Fi e.1 nx r) 18 [some (.ref a0), none, none, none] [] (e.1, m) nx 0 0 := by
  obtain ⟨d, rfl⟩ : ∃ d', d = d' + 1 := ⟨d - 1, by omega⟩
  unfold X0_tryAt_b18 at hr
  refine ml_aload_n (pc := 18) dX0_tryAt_18 rfl mm_get_0 ?_
  refine mb_cVv (pc := 19) (As := []) (rest := []) dX0_tryAt_19 cw_X0_89 h0 hr (fun v hv => X0_weighArrangement_ok hz (by omega) h0 hv) rfl (Nat.le_of_ble_eq_true rfl) (Nat.zero_le _) (Nat.zero_le _) (fun r1 hr => ?_)
  refine mg_iconst (pc := 22) dX0_tryAt_22 kc_1 ?_
  exact mb_zret dX0_tryAt_23 rfl hr
def X0_tryAt_one (e : mm_E) (kr : Nat → Int32 → mm_V → Option (Int32 × mm_V)) (a0 : Nat) (i1 : Int32) (m : mm_V) : Option (Int32 × mm_V) := if i1 < 0 then (X0_tryAt_b18 e kr a0  m) else ((mm_gi e.1 m 0 13 a0 10).bind fun x1 => if x1 ≤ i1 then (X0_tryAt_b18 e kr a0  m) else (if i1 < (19 : Int32) then ((mm_gr e.1 m 0 13 a0 0).bind fun c2 => (mm_gr e.1 m 0 13 a0 4).bind fun c3 => (mm_ai e.1 m 20 c3 i1).bind fun x4 => (X0_fanOf e a0 c2 x4 m).bind fun r5 => X0_tryAt_L41 e kr a0 i1 r5.1 e.2.2 (0 : Int32) r5.2) else (X0_tryAt_b18 e kr a0  m)))
theorem X0_tryAt_one_ok {K : mm_K} {nx : Option Nat} {e : mm_E} (hz : e.2.1 = K.2.2.2.2) {d dr : Nat} (hd : dr + 3 ≤ d) {a0 : Nat} {i1 : Int32} (h0 : e.1 a0 = some (0, 13)) {kr : Nat → Int32 → mm_V → Option (Int32 × mm_V)} (hkr : ∀ (b0 : Nat) (b1 : Int32) (m : mm_V) r (d9 : Nat), dr ≤ d9 → e.1 b0 = some (0, 13) → kr b0 b1 m = some r → mm_Cn K MX0_tryAt d9 (mm_Fi e.1 nx r) [.ref b0, .int b1] (e.1, m) nx) {m : mm_V} {r : (Int32 × mm_V)} (hr : X0_tryAt_one e kr a0 i1 m = some r) : mm_Cn K MX0_tryAt d (mm_Fi e.1 nx r) [.ref a0, .int i1] (e.1, m) nx := by
  obtain ⟨d, rfl⟩ : ∃ d', d = d' + 1 := ⟨d - 1, by omega⟩
  refine mm_entry (by decide) (Nat.le_of_ble_eq_true rfl) rfl (fun hok => ?_)
  unfold X0_tryAt_one at hr
  refine mg_weak (L' := [some (.ref a0), some (.int i1), none, none]) (mm_le_s (mm_le_s (mm_le_e (mm_le_e mm_le_0)))) ?_
  refine ml_iload_n (pc := 0) dX0_tryAt_0 rfl (mm_get_s mm_get_0) ?_
  refine mb_if_lt (pc := 1) 18 dX0_tryAt_1 rfl hr (fun hr => ?_) (fun hr => ?_)
  · exact mg_weak (mm_le_s (mm_le_n (mm_le_n (mm_le_n mm_le_0)))) (X0_tryAt_b18_ok hz hd h0 hkr hr)
  · refine ml_iload_n (pc := 4) dX0_tryAt_4 rfl (mm_get_s mm_get_0) ?_
    refine ml_aload_n (pc := 5) dX0_tryAt_5 rfl mm_get_0 ?_
    refine mb_gi (pc := 6) dX0_tryAt_6 fl_X0_73 hr (fun x1 hr => ?_)
    refine mb_icmp_ge (pc := 9) 18 dX0_tryAt_9 rfl hr (fun hr => ?_) (fun hr => ?_)
    · exact mg_weak (mm_le_s (mm_le_n (mm_le_n (mm_le_n mm_le_0)))) (X0_tryAt_b18_ok hz hd h0 hkr hr)
    · refine ml_iload_n (pc := 12) dX0_tryAt_12 rfl (mm_get_s mm_get_0) ?_
      refine mg_bipush (pc := 13) dX0_tryAt_13 kb_19 ?_
      refine mb_icmp_lt (pc := 15) 24 dX0_tryAt_15 rfl hr (fun hr => ?_) (fun hr => ?_)
      · refine ml_aload_n (pc := 24) dX0_tryAt_24 rfl mm_get_0 ?_
        refine ml_aload_n (pc := 25) dX0_tryAt_25 rfl mm_get_0 ?_
        refine mb_gr (pc := 26) dX0_tryAt_26 fl_X0_11 hr (fun c2 hr => ?_)
        refine ml_aload_n (pc := 29) dX0_tryAt_29 rfl mm_get_0 ?_
        refine mb_gr (pc := 30) dX0_tryAt_30 fl_X0_29 hr (fun c3 hr => ?_)
        refine ml_iload_n (pc := 33) dX0_tryAt_33 rfl (mm_get_s mm_get_0) ?_
        refine mb_ai (pc := 34) dX0_tryAt_34 hr (fun x4 hr => ?_)
        refine mb_cVr (pc := 35) (As := [.ref c2, .int x4]) (rest := []) dX0_tryAt_35 cw_X0_92 h0 hr (fun v hv => X0_fanOf_ok hz (by omega) h0 hv) rfl (Nat.le_of_ble_eq_true rfl) (Nat.zero_le _) (Nat.zero_le _) (fun r5 hr => ?_)
        refine ml_astore_n (pc := 38) dX0_tryAt_38 rfl (Nat.le_of_ble_eq_true rfl) (mm_st1_s mm_st1_i) ?_
        refine mg_iconst (pc := 39) dX0_tryAt_39 kc_0 ?_
        refine ml_istore_n (pc := 40) dX0_tryAt_40 rfl (Nat.le_of_ble_eq_true rfl) (mm_st1_s (mm_st1_s mm_st1_r)) ?_
        exact mg_weak (mm_le_s (mm_le_s (mm_le_s (mm_le_s mm_le_0)))) (X0_tryAt_L41_ok hz hd h0 hkr _ _ _ _ hr)
      · exact mg_weak (mm_le_s (mm_le_n (mm_le_n (mm_le_n mm_le_0)))) (X0_tryAt_b18_ok hz hd h0 hkr hr)
def X0_tryAt (e : mm_E) : Nat → Nat → Int32 → mm_V → Option (Int32 × mm_V)
  | 0, _, _, _ => none
  | n + 1, a0, i1, m => X0_tryAt_one e (X0_tryAt e n) a0 i1 m
theorem X0_tryAt_ok {K : mm_K} {nx : Option Nat} {e : mm_E} (hz : e.2.1 = K.2.2.2.2) : ∀ {n d : Nat} (hd : 12 * n ≤ d) {a0 : Nat} {i1 : Int32} (h0 : e.1 a0 = some (0, 13)) {m : mm_V} {r : (Int32 × mm_V)} (hr : X0_tryAt e n a0 i1 m = some r), mm_Cn K MX0_tryAt d (mm_Fi e.1 nx r) [.ref a0, .int i1] (e.1, m) nx := by
  intro n
  induction n with
  | zero => intro d hd a0 i1 h0 m r hr; unfold X0_tryAt at hr; cases hr
  | succ n ih =>
    intro d hd a0 i1 h0 m r hr
    unfold X0_tryAt at hr
    exact X0_tryAt_one_ok hz (dr := 12 * n) (by omega) h0 (fun b0 b1 m r d9 hd9 hb hv => ih hd9 hb hv) hr
theorem dX0_weigh_0 : decode cX0_weigh 0 = .ok (.aload_n 0, 1) := by decide +kernel
theorem dX0_weigh_1 : decode cX0_weigh 1 = .ok (.aload_n 2, 1) := by decide +kernel
theorem dX0_weigh_2 : decode cX0_weigh 2 = .ok (.putfield 38, 3) := by decide +kernel
theorem dX0_weigh_5 : decode cX0_weigh 5 = .ok (.aload_n 0, 1) := by decide +kernel
theorem dX0_weigh_6 : decode cX0_weigh 6 = .ok (.iload_n 3, 1) := by decide +kernel
theorem dX0_weigh_7 : decode cX0_weigh 7 = .ok (.putfield 42, 3) := by decide +kernel
theorem dX0_weigh_10 : decode cX0_weigh 10 = .ok (.aload_n 0, 1) := by decide +kernel
theorem dX0_weigh_11 : decode cX0_weigh 11 = .ok (.iload 4, 2) := by decide +kernel
theorem dX0_weigh_13 : decode cX0_weigh 13 = .ok (.putfield 46, 3) := by decide +kernel
theorem dX0_weigh_16 : decode cX0_weigh 16 = .ok (.aload_n 0, 1) := by decide +kernel
theorem dX0_weigh_17 : decode cX0_weigh 17 = .ok (.invokevirtual 49, 3) := by decide +kernel
theorem dX0_weigh_20 : decode cX0_weigh 20 = .ok (.iconst 0, 1) := by decide +kernel
theorem dX0_weigh_21 : decode cX0_weigh 21 = .ok (.istore 5, 2) := by decide +kernel
theorem dX0_weigh_23 : decode cX0_weigh 23 = .ok (.iload 5, 2) := by decide +kernel
theorem dX0_weigh_25 : decode cX0_weigh 25 = .ok (.bipush 6, 2) := by decide +kernel
theorem dX0_weigh_27 : decode cX0_weigh 27 = .ok (.if_icmp .ge 59, 3) := by decide +kernel
theorem dX0_weigh_30 : decode cX0_weigh 30 = .ok (.iload 5, 2) := by decide +kernel
theorem dX0_weigh_32 : decode cX0_weigh 32 = .ok (.aload_n 0, 1) := by decide +kernel
theorem dX0_weigh_33 : decode cX0_weigh 33 = .ok (.getfield 42, 3) := by decide +kernel
theorem dX0_weigh_36 : decode cX0_weigh 36 = .ok (.if_icmp .ne 22, 3) := by decide +kernel
theorem dX0_weigh_39 : decode cX0_weigh 39 = .ok (.aload_n 0, 1) := by decide +kernel
theorem dX0_weigh_40 : decode cX0_weigh 40 = .ok (.getfield 11, 3) := by decide +kernel
theorem dX0_weigh_43 : decode cX0_weigh 43 = .ok (.iload 5, 2) := by decide +kernel
theorem dX0_weigh_45 : decode cX0_weigh 45 = .ok (.aaload, 1) := by decide +kernel
theorem dX0_weigh_46 : decode cX0_weigh 46 = .ok (.aload_n 1, 1) := by decide +kernel
theorem dX0_weigh_47 : decode cX0_weigh 47 = .ok (.iload 5, 2) := by decide +kernel
theorem dX0_weigh_49 : decode cX0_weigh 49 = .ok (.invokevirtual 52, 3) := by decide +kernel
theorem dX0_weigh_52 : decode cX0_weigh 52 = .ok (.invokevirtual 58, 3) := by decide +kernel
theorem dX0_weigh_55 : decode cX0_weigh 55 = .ok (.goto 25, 3) := by decide +kernel
theorem dX0_weigh_58 : decode cX0_weigh 58 = .ok (.aload_n 0, 1) := by decide +kernel
theorem dX0_weigh_59 : decode cX0_weigh 59 = .ok (.getfield 11, 3) := by decide +kernel
theorem dX0_weigh_62 : decode cX0_weigh 62 = .ok (.iload 5, 2) := by decide +kernel
theorem dX0_weigh_64 : decode cX0_weigh 64 = .ok (.aaload, 1) := by decide +kernel
theorem dX0_weigh_65 : decode cX0_weigh 65 = .ok (.invokevirtual 62, 3) := by decide +kernel
theorem dX0_weigh_68 : decode cX0_weigh 68 = .ok (.aload_n 0, 1) := by decide +kernel
theorem dX0_weigh_69 : decode cX0_weigh 69 = .ok (.iload 5, 2) := by decide +kernel
theorem dX0_weigh_71 : decode cX0_weigh 71 = .ok (.aload_n 1, 1) := by decide +kernel
theorem dX0_weigh_72 : decode cX0_weigh 72 = .ok (.iload 5, 2) := by decide +kernel
theorem dX0_weigh_74 : decode cX0_weigh 74 = .ok (.invokevirtual 52, 3) := by decide +kernel
theorem dX0_weigh_77 : decode cX0_weigh 77 = .ok (.invokevirtual 65, 3) := by decide +kernel
theorem dX0_weigh_80 : decode cX0_weigh 80 = .ok (.iinc 5 1, 3) := by decide +kernel
theorem dX0_weigh_83 : decode cX0_weigh 83 = .ok (.goto (-60), 3) := by decide +kernel
theorem dX0_weigh_86 : decode cX0_weigh 86 = .ok (.aload_n 0, 1) := by decide +kernel
theorem dX0_weigh_87 : decode cX0_weigh 87 = .ok (.iconst 0, 1) := by decide +kernel
theorem dX0_weigh_88 : decode cX0_weigh 88 = .ok (.invokevirtual 69, 3) := by decide +kernel
theorem dX0_weigh_91 : decode cX0_weigh 91 = .ok (.ireturn, 1) := by decide +kernel
def X0_weigh_b80 (e : mm_E) (k23 : Int32 → mm_V → Option (Int32 × mm_V)) (a0 : Nat) (a1 : Nat) (i5 : Int32) (m : mm_V) : Option (Int32 × mm_V) := k23 (i5 + 1) m
theorem X0_weigh_b80_ok {K : mm_K} {nx : Option Nat} {e : mm_E} (hz : e.2.1 = K.2.2.2.2) {d : Nat} (hd : 253 ≤ d) {a0 : Nat} {a1 : Nat} {i5 : Int32} (h0 : e.1 a0 = some (0, 13)) {k23 : Int32 → mm_V → Option (Int32 × mm_V)} (hk23 : ∀ (w5 : Int32) (m : mm_V) (r : (Int32 × mm_V)), k23 w5 m = some r → mm_G K MX0_weigh d (mm_Fi e.1 nx r) 23 [some (.ref a0), some (.ref a1), none, none, none, some (.int w5)] [] (e.1, m) nx 0 0) {m : mm_V} {r : (Int32 × mm_V)} (hr : X0_weigh_b80 e k23 a0 a1 i5 m = some r) : mm_G K MX0_weigh d (mm_Fi e.1 nx r) 80 [some (.ref a0), some (.ref a1), none, none, none, some (.int i5)] [] (e.1, m) nx 0 0 := by
  obtain ⟨d, rfl⟩ : ∃ d', d = d' + 1 := ⟨d - 1, by omega⟩
  unfold X0_weigh_b80 at hr
  refine ml_iinc (pc := 80) dX0_weigh_80 (mm_get_s (mm_get_s (mm_get_s (mm_get_s (mm_get_s mm_get_0))))) (congrArg (fun z => i5 + z) kc_1) (Nat.le_of_ble_eq_true rfl) (mm_st1_s (mm_st1_s (mm_st1_s (mm_st1_s mm_st1_n)))) ?_
  refine mg_goto (pc := 83) 23 dX0_weigh_83 rfl ?_
  exact mg_weak (mm_le_s (mm_le_s (mm_le_n (mm_le_n (mm_le_n (mm_le_s mm_le_0)))))) (hk23 _ _ _ hr)
def X0_weigh_L23 (e : mm_E) (a0 : Nat) (a1 : Nat) : Nat → Int32 → mm_V → Option (Int32 × mm_V)
  | 0, _, _ => none
  | n + 1, i5, m => if (6 : Int32) ≤ i5 then ((X0_tryAt e 21 a0 (0 : Int32) m).bind fun r1 => mm_rz r1.1 r1.2) else ((mm_gi e.1 m 0 13 a0 8).bind fun x2 => if ¬ i5 = x2 then ((mm_gr e.1 m 0 13 a0 0).bind fun c3 => (mm_aq e.1 m 23 c3 i5).bind fun c4 => if e.1 c4 = some (3, 2) then ((X3_clear e c4 m).bind fun r5 => if e.1 a1 = some (4, 12) then ((X4_fanAt e a1 i5 r5).bind fun r7 => (X0_spread e a0 i5 r7.1 r7.2).bind fun r9 => X0_weigh_b80 e (X0_weigh_L23 e a0 a1 n) a0 a1 i5  r9) else none) else none) else ((mm_gr e.1 m 0 13 a0 0).bind fun c10 => (mm_aq e.1 m 23 c10 i5).bind fun c11 => if e.1 a1 = some (4, 12) then ((X4_fanAt e a1 i5 m).bind fun r12 => if e.1 c11 = some (3, 2) then ((X3_copyFrom e c11 r12.1 r12.2).bind fun r14 => X0_weigh_b80 e (X0_weigh_L23 e a0 a1 n) a0 a1 i5  r14) else none) else none))
theorem X0_weigh_L23_ok {K : mm_K} {nx : Option Nat} {e : mm_E} (hz : e.2.1 = K.2.2.2.2) {d : Nat} (hd : 253 ≤ d) {a0 : Nat} {a1 : Nat} (h0 : e.1 a0 = some (0, 13)) : ∀ (n : Nat) (i5 : Int32) (m : mm_V) (r : (Int32 × mm_V)), X0_weigh_L23 e a0 a1 n i5 m = some r → mm_G K MX0_weigh d (mm_Fi e.1 nx r) 23 [some (.ref a0), some (.ref a1), none, none, none, some (.int i5)] [] (e.1, m) nx 0 0 := by
  obtain ⟨d, rfl⟩ : ∃ d', d = d' + 1 := ⟨d - 1, by omega⟩
  intro n
  induction n with
  | zero => intro i5 m r hr; unfold X0_weigh_L23 at hr; cases hr
  | succ n ih =>
    intro i5 m r hr
    unfold X0_weigh_L23 at hr
    refine ml_iload (pc := 23) dX0_weigh_23 (mm_get_s (mm_get_s (mm_get_s (mm_get_s (mm_get_s mm_get_0))))) ?_
    refine mg_bipush (pc := 25) dX0_weigh_25 kb_6 ?_
    refine mb_icmp_ge (pc := 27) 86 dX0_weigh_27 rfl hr (fun hr => ?_) (fun hr => ?_)
    · refine ml_aload_n (pc := 86) dX0_weigh_86 rfl mm_get_0 ?_
      refine mg_iconst (pc := 87) dX0_weigh_87 kc_0 ?_
      refine mb_cVi (pc := 88) (As := [.int (0 : Int32)]) (rest := []) dX0_weigh_88 cw_X0_69 h0 hr (fun v hv => X0_tryAt_ok hz (n := 21) (by omega) h0 hv) rfl (Nat.le_of_ble_eq_true rfl) (Nat.zero_le _) (Nat.zero_le _) (fun r1 hr => ?_)
      exact mb_zret dX0_weigh_91 rfl hr
    · refine ml_iload (pc := 30) dX0_weigh_30 (mm_get_s (mm_get_s (mm_get_s (mm_get_s (mm_get_s mm_get_0))))) ?_
      refine ml_aload_n (pc := 32) dX0_weigh_32 rfl mm_get_0 ?_
      refine mb_gi (pc := 33) dX0_weigh_33 fl_X0_42 hr (fun x2 hr => ?_)
      refine mb_icmp_ne (pc := 36) 58 dX0_weigh_36 rfl hr (fun hr => ?_) (fun hr => ?_)
      · refine ml_aload_n (pc := 58) dX0_weigh_58 rfl mm_get_0 ?_
        refine mb_gr (pc := 59) dX0_weigh_59 fl_X0_11 hr (fun c3 hr => ?_)
        refine ml_iload (pc := 62) dX0_weigh_62 (mm_get_s (mm_get_s (mm_get_s (mm_get_s (mm_get_s mm_get_0))))) ?_
        refine mb_aq (pc := 64) dX0_weigh_64 (by decide) (by decide) hr (fun c4 hr => ?_)
        refine mb_ck hr (fun hb6 hr => ?_)
        refine mb_cVv (pc := 65) (As := []) (rest := []) dX0_weigh_65 cw_X0_62 hb6 hr (fun v hv => X3_clear_ok hz (by omega) hb6 hv) rfl (Nat.le_of_ble_eq_true rfl) (Nat.zero_le _) (Nat.zero_le _) (fun r5 hr => ?_)
        refine ml_aload_n (pc := 68) dX0_weigh_68 rfl mm_get_0 ?_
        refine ml_iload (pc := 69) dX0_weigh_69 (mm_get_s (mm_get_s (mm_get_s (mm_get_s (mm_get_s mm_get_0))))) ?_
        refine ml_aload_n (pc := 71) dX0_weigh_71 rfl (mm_get_s mm_get_0) ?_
        refine ml_iload (pc := 72) dX0_weigh_72 (mm_get_s (mm_get_s (mm_get_s (mm_get_s (mm_get_s mm_get_0))))) ?_
        refine mb_ck hr (fun hb8 hr => ?_)
        refine mb_cVr (pc := 74) (As := [.int i5]) (rest := [.int i5, .ref a0]) dX0_weigh_74 cw_X0_52 hb8 hr (fun v hv => X4_fanAt_ok hz (by omega) hb8 hv) rfl (Nat.le_of_ble_eq_true rfl) (Nat.zero_le _) (Nat.zero_le _) (fun r7 hr => ?_)
        refine mb_cVv (pc := 77) (As := [.int i5, .ref r7.1]) (rest := []) dX0_weigh_77 cw_X0_65 h0 hr (fun v hv => X0_spread_ok hz (by omega) h0 hv) rfl (Nat.le_of_ble_eq_true rfl) (Nat.zero_le _) (Nat.zero_le _) (fun r9 hr => ?_)
        exact mg_weak (mm_le_s (mm_le_s (mm_le_n (mm_le_n (mm_le_n (mm_le_s mm_le_0)))))) (X0_weigh_b80_ok hz hd h0 ih hr)
      · refine ml_aload_n (pc := 39) dX0_weigh_39 rfl mm_get_0 ?_
        refine mb_gr (pc := 40) dX0_weigh_40 fl_X0_11 hr (fun c10 hr => ?_)
        refine ml_iload (pc := 43) dX0_weigh_43 (mm_get_s (mm_get_s (mm_get_s (mm_get_s (mm_get_s mm_get_0))))) ?_
        refine mb_aq (pc := 45) dX0_weigh_45 (by decide) (by decide) hr (fun c11 hr => ?_)
        refine ml_aload_n (pc := 46) dX0_weigh_46 rfl (mm_get_s mm_get_0) ?_
        refine ml_iload (pc := 47) dX0_weigh_47 (mm_get_s (mm_get_s (mm_get_s (mm_get_s (mm_get_s mm_get_0))))) ?_
        refine mb_ck hr (fun hb13 hr => ?_)
        refine mb_cVr (pc := 49) (As := [.int i5]) (rest := [.ref c11]) dX0_weigh_49 cw_X0_52 hb13 hr (fun v hv => X4_fanAt_ok hz (by omega) hb13 hv) rfl (Nat.le_of_ble_eq_true rfl) (Nat.zero_le _) (Nat.zero_le _) (fun r12 hr => ?_)
        refine mb_ck hr (fun hb15 hr => ?_)
        refine mb_cVv (pc := 52) (As := [.ref r12.1]) (rest := []) dX0_weigh_52 cw_X0_58 hb15 hr (fun v hv => X3_copyFrom_ok hz (by omega) hb15 hv) rfl (Nat.le_of_ble_eq_true rfl) (Nat.zero_le _) (Nat.zero_le _) (fun r14 hr => ?_)
        refine mg_goto (pc := 55) 80 dX0_weigh_55 rfl ?_
        exact mg_weak (mm_le_s (mm_le_s (mm_le_n (mm_le_n (mm_le_n (mm_le_s mm_le_0)))))) (X0_weigh_b80_ok hz hd h0 ih hr)
def X0_weigh (e : mm_E) (a0 : Nat) (a1 : Nat) (a2 : Nat) (i3 : Int32) (i4 : Int32) (m : mm_V) : Option (Int32 × mm_V) := (mm_pf e.1 m 0 13 a0 7 (.ref a2)).bind fun m1 => (mm_pf e.1 m1 0 13 a0 8 (.int i3)).bind fun m2 => (mm_pf e.1 m2 0 13 a0 9 (.int i4)).bind fun m3 => (X0_forget e a0 m3).bind fun r4 => X0_weigh_L23 e a0 a1 e.2.2 (0 : Int32) r4
theorem X0_weigh_ok {K : mm_K} {nx : Option Nat} {e : mm_E} (hz : e.2.1 = K.2.2.2.2) {d : Nat} (hd : 253 ≤ d) {a0 : Nat} {a1 : Nat} {a2 : Nat} {i3 : Int32} {i4 : Int32} (h0 : e.1 a0 = some (0, 13)) {m : mm_V} {r : (Int32 × mm_V)} (hr : X0_weigh e a0 a1 a2 i3 i4 m = some r) : mm_Cn K MX0_weigh d (mm_Fi e.1 nx r) [.ref a0, .ref a1, .ref a2, .int i3, .int i4] (e.1, m) nx := by
  obtain ⟨d, rfl⟩ : ∃ d', d = d' + 1 := ⟨d - 1, by omega⟩
  refine mm_entry (by decide) (Nat.le_of_ble_eq_true rfl) rfl (fun hok => ?_)
  unfold X0_weigh at hr
  refine mg_weak (L' := [some (.ref a0), some (.ref a1), some (.ref a2), some (.int i3), some (.int i4), none]) (mm_le_s (mm_le_s (mm_le_s (mm_le_s (mm_le_s (mm_le_e mm_le_0)))))) ?_
  refine ml_aload_n (pc := 0) dX0_weigh_0 rfl mm_get_0 ?_
  refine ml_aload_n (pc := 1) dX0_weigh_1 rfl (mm_get_s (mm_get_s mm_get_0)) ?_
  refine mb_pr (pc := 2) dX0_weigh_2 fp_X0_38 hr (fun m1 hr => ?_)
  refine ml_aload_n (pc := 5) dX0_weigh_5 rfl mm_get_0 ?_
  refine ml_iload_n (pc := 6) dX0_weigh_6 rfl (mm_get_s (mm_get_s (mm_get_s mm_get_0))) ?_
  refine mb_pi (pc := 7) dX0_weigh_7 fp_X0_42 hr (fun m2 hr => ?_)
  refine ml_aload_n (pc := 10) dX0_weigh_10 rfl mm_get_0 ?_
  refine ml_iload (pc := 11) dX0_weigh_11 (mm_get_s (mm_get_s (mm_get_s (mm_get_s mm_get_0)))) ?_
  refine mb_pi (pc := 13) dX0_weigh_13 fp_X0_46 hr (fun m3 hr => ?_)
  refine ml_aload_n (pc := 16) dX0_weigh_16 rfl mm_get_0 ?_
  refine mb_cVv (pc := 17) (As := []) (rest := []) dX0_weigh_17 cw_X0_49 h0 hr (fun v hv => X0_forget_ok hz (by omega) h0 hv) rfl (Nat.le_of_ble_eq_true rfl) (Nat.zero_le _) (Nat.zero_le _) (fun r4 hr => ?_)
  refine mg_iconst (pc := 20) dX0_weigh_20 kc_0 ?_
  refine ml_istore (pc := 21) dX0_weigh_21 (Nat.le_of_ble_eq_true rfl) (mm_st1_s (mm_st1_s (mm_st1_s (mm_st1_s mm_st1_i)))) ?_
  exact mg_weak (mm_le_s (mm_le_s (mm_le_n (mm_le_n (mm_le_n (mm_le_s mm_le_0)))))) (X0_weigh_L23_ok hz hd h0 _ _ _ _ hr)
theorem dX0_holding_0 : decode cX0_holding 0 = .ok (.iload_n 1, 1) := by decide +kernel
theorem dX0_holding_1 : decode cX0_holding 1 = .ok (.ifCond .lt 18, 3) := by decide +kernel
theorem dX0_holding_4 : decode cX0_holding 4 = .ok (.iload_n 1, 1) := by decide +kernel
theorem dX0_holding_5 : decode cX0_holding 5 = .ok (.bipush 6, 2) := by decide +kernel
theorem dX0_holding_7 : decode cX0_holding 7 = .ok (.if_icmp .ge 12, 3) := by decide +kernel
theorem dX0_holding_10 : decode cX0_holding 10 = .ok (.aload_n 0, 1) := by decide +kernel
theorem dX0_holding_11 : decode cX0_holding 11 = .ok (.getfield 32, 3) := by decide +kernel
theorem dX0_holding_14 : decode cX0_holding 14 = .ok (.iload_n 1, 1) := by decide +kernel
theorem dX0_holding_15 : decode cX0_holding 15 = .ok (.iaload, 1) := by decide +kernel
theorem dX0_holding_16 : decode cX0_holding 16 = .ok (.goto 4, 3) := by decide +kernel
theorem dX0_holding_19 : decode cX0_holding 19 = .ok (.iconst 0, 1) := by decide +kernel
theorem dX0_holding_20 : decode cX0_holding 20 = .ok (.ireturn, 1) := by decide +kernel
def X0_holding_b20 (e : mm_E) (t0 : Int32) (m : mm_V) : Option (Int32 × mm_V) := some (t0, m)
theorem X0_holding_b20_ok {K : mm_K} {nx : Option Nat} {e : mm_E} (hz : e.2.1 = K.2.2.2.2) {d : Nat} (hd : 0 ≤ d) {t0 : Int32} {a0 : Nat} (h0 : e.1 a0 = some (0, 13)) {m : mm_V} {r : (Int32 × mm_V)} (hr : X0_holding_b20 e t0 m = some r) : mm_G K MX0_holding d (mm_Fi e.1 nx r) 20 [none, none] [.int t0] (e.1, m) nx 0 0 := by
  unfold X0_holding_b20 at hr
  exact mb_iret dX0_holding_20 rfl hr
def X0_holding_b19 (e : mm_E) (m : mm_V) : Option (Int32 × mm_V) := X0_holding_b20 e  (0 : Int32) m
theorem X0_holding_b19_ok {K : mm_K} {nx : Option Nat} {e : mm_E} (hz : e.2.1 = K.2.2.2.2) {d : Nat} (hd : 0 ≤ d) {a0 : Nat} (h0 : e.1 a0 = some (0, 13)) {m : mm_V} {r : (Int32 × mm_V)} (hr : X0_holding_b19 e m = some r) : mm_G K MX0_holding d (mm_Fi e.1 nx r) 19 [none, none] [] (e.1, m) nx 0 0 := by
  unfold X0_holding_b19 at hr
  refine mg_iconst (pc := 19) dX0_holding_19 kc_0 ?_
  exact mg_weak (mm_le_n (mm_le_n mm_le_0)) (X0_holding_b20_ok hz hd h0 hr)
def X0_holding (e : mm_E) (a0 : Nat) (i1 : Int32) (m : mm_V) : Option (Int32 × mm_V) := if i1 < 0 then (X0_holding_b19 e   m) else (if (6 : Int32) ≤ i1 then (X0_holding_b19 e   m) else ((mm_gr e.1 m 0 13 a0 5).bind fun c1 => (mm_ai e.1 m 20 c1 i1).bind fun x2 => X0_holding_b20 e  x2 m))
theorem X0_holding_ok {K : mm_K} {nx : Option Nat} {e : mm_E} (hz : e.2.1 = K.2.2.2.2) {d : Nat} (hd : 0 ≤ d) {a0 : Nat} {i1 : Int32} (h0 : e.1 a0 = some (0, 13)) {m : mm_V} {r : (Int32 × mm_V)} (hr : X0_holding e a0 i1 m = some r) : mm_Cn K MX0_holding d (mm_Fi e.1 nx r) [.ref a0, .int i1] (e.1, m) nx := by
  refine mm_entry (by decide) (Nat.le_of_ble_eq_true rfl) rfl (fun hok => ?_)
  unfold X0_holding at hr
  refine mg_weak (L' := [some (.ref a0), some (.int i1)]) (mm_le_s (mm_le_s mm_le_0)) ?_
  refine ml_iload_n (pc := 0) dX0_holding_0 rfl (mm_get_s mm_get_0) ?_
  refine mb_if_lt (pc := 1) 19 dX0_holding_1 rfl hr (fun hr => ?_) (fun hr => ?_)
  · exact mg_weak (mm_le_n (mm_le_n mm_le_0)) (X0_holding_b19_ok hz hd h0 hr)
  · refine ml_iload_n (pc := 4) dX0_holding_4 rfl (mm_get_s mm_get_0) ?_
    refine mg_bipush (pc := 5) dX0_holding_5 kb_6 ?_
    refine mb_icmp_ge (pc := 7) 19 dX0_holding_7 rfl hr (fun hr => ?_) (fun hr => ?_)
    · exact mg_weak (mm_le_n (mm_le_n mm_le_0)) (X0_holding_b19_ok hz hd h0 hr)
    · refine ml_aload_n (pc := 10) dX0_holding_10 rfl mm_get_0 ?_
      refine mb_gr (pc := 11) dX0_holding_11 fl_X0_32 hr (fun c1 hr => ?_)
      refine ml_iload_n (pc := 14) dX0_holding_14 rfl (mm_get_s mm_get_0) ?_
      refine mb_ai (pc := 15) dX0_holding_15 hr (fun x2 hr => ?_)
      refine mg_goto (pc := 16) 20 dX0_holding_16 rfl ?_
      exact mg_weak (mm_le_n (mm_le_n mm_le_0)) (X0_holding_b20_ok hz hd h0 hr)
theorem dX0_queenAt_0 : decode cX0_queenAt 0 = .ok (.iload_n 1, 1) := by decide +kernel
theorem dX0_queenAt_1 : decode cX0_queenAt 1 = .ok (.ifCond .lt 18, 3) := by decide +kernel
theorem dX0_queenAt_4 : decode cX0_queenAt 4 = .ok (.iload_n 1, 1) := by decide +kernel
theorem dX0_queenAt_5 : decode cX0_queenAt 5 = .ok (.bipush 10, 2) := by decide +kernel
theorem dX0_queenAt_7 : decode cX0_queenAt 7 = .ok (.if_icmp .ge 12, 3) := by decide +kernel
theorem dX0_queenAt_10 : decode cX0_queenAt 10 = .ok (.aload_n 0, 1) := by decide +kernel
theorem dX0_queenAt_11 : decode cX0_queenAt 11 = .ok (.getfield 35, 3) := by decide +kernel
theorem dX0_queenAt_14 : decode cX0_queenAt 14 = .ok (.iload_n 1, 1) := by decide +kernel
theorem dX0_queenAt_15 : decode cX0_queenAt 15 = .ok (.iaload, 1) := by decide +kernel
theorem dX0_queenAt_16 : decode cX0_queenAt 16 = .ok (.goto 4, 3) := by decide +kernel
theorem dX0_queenAt_19 : decode cX0_queenAt 19 = .ok (.iconst 0, 1) := by decide +kernel
theorem dX0_queenAt_20 : decode cX0_queenAt 20 = .ok (.ireturn, 1) := by decide +kernel
def X0_queenAt_b20 (e : mm_E) (t0 : Int32) (m : mm_V) : Option (Int32 × mm_V) := some (t0, m)
theorem X0_queenAt_b20_ok {K : mm_K} {nx : Option Nat} {e : mm_E} (hz : e.2.1 = K.2.2.2.2) {d : Nat} (hd : 0 ≤ d) {t0 : Int32} {a0 : Nat} (h0 : e.1 a0 = some (0, 13)) {m : mm_V} {r : (Int32 × mm_V)} (hr : X0_queenAt_b20 e t0 m = some r) : mm_G K MX0_queenAt d (mm_Fi e.1 nx r) 20 [none, none] [.int t0] (e.1, m) nx 0 0 := by
  unfold X0_queenAt_b20 at hr
  exact mb_iret dX0_queenAt_20 rfl hr
def X0_queenAt_b19 (e : mm_E) (m : mm_V) : Option (Int32 × mm_V) := X0_queenAt_b20 e  (0 : Int32) m
theorem X0_queenAt_b19_ok {K : mm_K} {nx : Option Nat} {e : mm_E} (hz : e.2.1 = K.2.2.2.2) {d : Nat} (hd : 0 ≤ d) {a0 : Nat} (h0 : e.1 a0 = some (0, 13)) {m : mm_V} {r : (Int32 × mm_V)} (hr : X0_queenAt_b19 e m = some r) : mm_G K MX0_queenAt d (mm_Fi e.1 nx r) 19 [none, none] [] (e.1, m) nx 0 0 := by
  unfold X0_queenAt_b19 at hr
  refine mg_iconst (pc := 19) dX0_queenAt_19 kc_0 ?_
  exact mg_weak (mm_le_n (mm_le_n mm_le_0)) (X0_queenAt_b20_ok hz hd h0 hr)
def X0_queenAt (e : mm_E) (a0 : Nat) (i1 : Int32) (m : mm_V) : Option (Int32 × mm_V) := if i1 < 0 then (X0_queenAt_b19 e   m) else (if (10 : Int32) ≤ i1 then (X0_queenAt_b19 e   m) else ((mm_gr e.1 m 0 13 a0 6).bind fun c1 => (mm_ai e.1 m 20 c1 i1).bind fun x2 => X0_queenAt_b20 e  x2 m))
theorem X0_queenAt_ok {K : mm_K} {nx : Option Nat} {e : mm_E} (hz : e.2.1 = K.2.2.2.2) {d : Nat} (hd : 0 ≤ d) {a0 : Nat} {i1 : Int32} (h0 : e.1 a0 = some (0, 13)) {m : mm_V} {r : (Int32 × mm_V)} (hr : X0_queenAt e a0 i1 m = some r) : mm_Cn K MX0_queenAt d (mm_Fi e.1 nx r) [.ref a0, .int i1] (e.1, m) nx := by
  refine mm_entry (by decide) (Nat.le_of_ble_eq_true rfl) rfl (fun hok => ?_)
  unfold X0_queenAt at hr
  refine mg_weak (L' := [some (.ref a0), some (.int i1)]) (mm_le_s (mm_le_s mm_le_0)) ?_
  refine ml_iload_n (pc := 0) dX0_queenAt_0 rfl (mm_get_s mm_get_0) ?_
  refine mb_if_lt (pc := 1) 19 dX0_queenAt_1 rfl hr (fun hr => ?_) (fun hr => ?_)
  · exact mg_weak (mm_le_n (mm_le_n mm_le_0)) (X0_queenAt_b19_ok hz hd h0 hr)
  · refine ml_iload_n (pc := 4) dX0_queenAt_4 rfl (mm_get_s mm_get_0) ?_
    refine mg_bipush (pc := 5) dX0_queenAt_5 kb_10 ?_
    refine mb_icmp_ge (pc := 7) 19 dX0_queenAt_7 rfl hr (fun hr => ?_) (fun hr => ?_)
    · exact mg_weak (mm_le_n (mm_le_n mm_le_0)) (X0_queenAt_b19_ok hz hd h0 hr)
    · refine ml_aload_n (pc := 10) dX0_queenAt_10 rfl mm_get_0 ?_
      refine mb_gr (pc := 11) dX0_queenAt_11 fl_X0_35 hr (fun c1 hr => ?_)
      refine ml_iload_n (pc := 14) dX0_queenAt_14 rfl (mm_get_s mm_get_0) ?_
      refine mb_ai (pc := 15) dX0_queenAt_15 hr (fun x2 hr => ?_)
      refine mg_goto (pc := 16) 20 dX0_queenAt_16 rfl ?_
      exact mg_weak (mm_le_n (mm_le_n mm_le_0)) (X0_queenAt_b20_ok hz hd h0 hr)
theorem dX9_signAt_0 : decode cX9_signAt 0 = .ok (.iload_n 1, 1) := by decide +kernel
theorem dX9_signAt_1 : decode cX9_signAt 1 = .ok (.ifCond .lt 21, 3) := by decide +kernel
theorem dX9_signAt_4 : decode cX9_signAt 4 = .ok (.iload_n 1, 1) := by decide +kernel
theorem dX9_signAt_5 : decode cX9_signAt 5 = .ok (.aload_n 0, 1) := by decide +kernel
theorem dX9_signAt_6 : decode cX9_signAt 6 = .ok (.getfield 9, 3) := by decide +kernel
theorem dX9_signAt_9 : decode cX9_signAt 9 = .ok (.arraylength, 1) := by decide +kernel
theorem dX9_signAt_10 : decode cX9_signAt 10 = .ok (.if_icmp .ge 12, 3) := by decide +kernel
theorem dX9_signAt_13 : decode cX9_signAt 13 = .ok (.aload_n 0, 1) := by decide +kernel
theorem dX9_signAt_14 : decode cX9_signAt 14 = .ok (.getfield 9, 3) := by decide +kernel
theorem dX9_signAt_17 : decode cX9_signAt 17 = .ok (.iload_n 1, 1) := by decide +kernel
theorem dX9_signAt_18 : decode cX9_signAt 18 = .ok (.iaload, 1) := by decide +kernel
theorem dX9_signAt_19 : decode cX9_signAt 19 = .ok (.goto 4, 3) := by decide +kernel
theorem dX9_signAt_22 : decode cX9_signAt 22 = .ok (.iconst 0, 1) := by decide +kernel
theorem dX9_signAt_23 : decode cX9_signAt 23 = .ok (.ireturn, 1) := by decide +kernel
def X9_signAt_b23 (e : mm_E) (t0 : Int32) (m : mm_V) : Option (Int32 × mm_V) := some (t0, m)
theorem X9_signAt_b23_ok {K : mm_K} {nx : Option Nat} {e : mm_E} (hz : e.2.1 = K.2.2.2.2) {d : Nat} (hd : 0 ≤ d) {t0 : Int32} {a0 : Nat} (h0 : e.1 a0 = some (9, 6)) {m : mm_V} {r : (Int32 × mm_V)} (hr : X9_signAt_b23 e t0 m = some r) : mm_G K MX9_signAt d (mm_Fi e.1 nx r) 23 [none, none] [.int t0] (e.1, m) nx 0 0 := by
  unfold X9_signAt_b23 at hr
  exact mb_iret dX9_signAt_23 rfl hr
def X9_signAt_b22 (e : mm_E) (m : mm_V) : Option (Int32 × mm_V) := X9_signAt_b23 e  (0 : Int32) m
theorem X9_signAt_b22_ok {K : mm_K} {nx : Option Nat} {e : mm_E} (hz : e.2.1 = K.2.2.2.2) {d : Nat} (hd : 0 ≤ d) {a0 : Nat} (h0 : e.1 a0 = some (9, 6)) {m : mm_V} {r : (Int32 × mm_V)} (hr : X9_signAt_b22 e m = some r) : mm_G K MX9_signAt d (mm_Fi e.1 nx r) 22 [none, none] [] (e.1, m) nx 0 0 := by
  unfold X9_signAt_b22 at hr
  refine mg_iconst (pc := 22) dX9_signAt_22 kc_0 ?_
  exact mg_weak (mm_le_n (mm_le_n mm_le_0)) (X9_signAt_b23_ok hz hd h0 hr)
def X9_signAt (e : mm_E) (a0 : Nat) (i1 : Int32) (m : mm_V) : Option (Int32 × mm_V) := if i1 < 0 then (X9_signAt_b22 e   m) else ((mm_gr e.1 m 9 6 a0 0).bind fun c1 => (mm_ln e.1 c1).bind fun x2 => if x2 ≤ i1 then (X9_signAt_b22 e   m) else ((mm_gr e.1 m 9 6 a0 0).bind fun c3 => (mm_ai e.1 m 20 c3 i1).bind fun x4 => X9_signAt_b23 e  x4 m))
theorem X9_signAt_ok {K : mm_K} {nx : Option Nat} {e : mm_E} (hz : e.2.1 = K.2.2.2.2) {d : Nat} (hd : 0 ≤ d) {a0 : Nat} {i1 : Int32} (h0 : e.1 a0 = some (9, 6)) {m : mm_V} {r : (Int32 × mm_V)} (hr : X9_signAt e a0 i1 m = some r) : mm_Cn K MX9_signAt d (mm_Fi e.1 nx r) [.ref a0, .int i1] (e.1, m) nx := by
  refine mm_entry (by decide) (Nat.le_of_ble_eq_true rfl) rfl (fun hok => ?_)
  unfold X9_signAt at hr
  refine mg_weak (L' := [some (.ref a0), some (.int i1)]) (mm_le_s (mm_le_s mm_le_0)) ?_
  refine ml_iload_n (pc := 0) dX9_signAt_0 rfl (mm_get_s mm_get_0) ?_
  refine mb_if_lt (pc := 1) 22 dX9_signAt_1 rfl hr (fun hr => ?_) (fun hr => ?_)
  · exact mg_weak (mm_le_n (mm_le_n mm_le_0)) (X9_signAt_b22_ok hz hd h0 hr)
  · refine ml_iload_n (pc := 4) dX9_signAt_4 rfl (mm_get_s mm_get_0) ?_
    refine ml_aload_n (pc := 5) dX9_signAt_5 rfl mm_get_0 ?_
    refine mb_gr (pc := 6) dX9_signAt_6 fl_X9_9 hr (fun c1 hr => ?_)
    refine mb_ln (pc := 9) dX9_signAt_9 hr (fun x2 hr => ?_)
    refine mb_icmp_ge (pc := 10) 22 dX9_signAt_10 rfl hr (fun hr => ?_) (fun hr => ?_)
    · exact mg_weak (mm_le_n (mm_le_n mm_le_0)) (X9_signAt_b22_ok hz hd h0 hr)
    · refine ml_aload_n (pc := 13) dX9_signAt_13 rfl mm_get_0 ?_
      refine mb_gr (pc := 14) dX9_signAt_14 fl_X9_9 hr (fun c3 hr => ?_)
      refine ml_iload_n (pc := 17) dX9_signAt_17 rfl (mm_get_s mm_get_0) ?_
      refine mb_ai (pc := 18) dX9_signAt_18 hr (fun x4 hr => ?_)
      refine mg_goto (pc := 19) 23 dX9_signAt_19 rfl ?_
      exact mg_weak (mm_le_n (mm_le_n mm_le_0)) (X9_signAt_b23_ok hz hd h0 hr)
theorem dX9_isLetter_0 : decode cX9_isLetter 0 = .ok (.iload_n 0, 1) := by decide +kernel
theorem dX9_isLetter_1 : decode cX9_isLetter 1 = .ok (.bipush 97, 2) := by decide +kernel
theorem dX9_isLetter_3 : decode cX9_isLetter 3 = .ok (.if_icmp .lt 13, 3) := by decide +kernel
theorem dX9_isLetter_6 : decode cX9_isLetter 6 = .ok (.iload_n 0, 1) := by decide +kernel
theorem dX9_isLetter_7 : decode cX9_isLetter 7 = .ok (.bipush 122, 2) := by decide +kernel
theorem dX9_isLetter_9 : decode cX9_isLetter 9 = .ok (.if_icmp .gt 7, 3) := by decide +kernel
theorem dX9_isLetter_12 : decode cX9_isLetter 12 = .ok (.iconst 1, 1) := by decide +kernel
theorem dX9_isLetter_13 : decode cX9_isLetter 13 = .ok (.goto 4, 3) := by decide +kernel
theorem dX9_isLetter_16 : decode cX9_isLetter 16 = .ok (.iconst 0, 1) := by decide +kernel
theorem dX9_isLetter_17 : decode cX9_isLetter 17 = .ok (.ireturn, 1) := by decide +kernel
def X9_isLetter_b17 (e : mm_E) (t0 : Int32) (m : mm_V) : Option (Int32 × mm_V) := mm_rz t0 m
theorem X9_isLetter_b17_ok {K : mm_K} {nx : Option Nat} {e : mm_E} (hz : e.2.1 = K.2.2.2.2) {d : Nat} (hd : 0 ≤ d) {t0 : Int32} {m : mm_V} {r : (Int32 × mm_V)} (hr : X9_isLetter_b17 e t0 m = some r) : mm_G K MX9_isLetter d (mm_Fi e.1 nx r) 17 [none] [.int t0] (e.1, m) nx 0 0 := by
  unfold X9_isLetter_b17 at hr
  exact mb_zret dX9_isLetter_17 rfl hr
def X9_isLetter_b16 (e : mm_E) (m : mm_V) : Option (Int32 × mm_V) := X9_isLetter_b17 e  (0 : Int32) m
theorem X9_isLetter_b16_ok {K : mm_K} {nx : Option Nat} {e : mm_E} (hz : e.2.1 = K.2.2.2.2) {d : Nat} (hd : 0 ≤ d) {m : mm_V} {r : (Int32 × mm_V)} (hr : X9_isLetter_b16 e m = some r) : mm_G K MX9_isLetter d (mm_Fi e.1 nx r) 16 [none] [] (e.1, m) nx 0 0 := by
  unfold X9_isLetter_b16 at hr
  refine mg_iconst (pc := 16) dX9_isLetter_16 kc_0 ?_
  exact mg_weak (mm_le_n mm_le_0) (X9_isLetter_b17_ok hz hd hr)
def X9_isLetter (e : mm_E) (i0 : Int32) (m : mm_V) : Option (Int32 × mm_V) := if i0 < (97 : Int32) then (X9_isLetter_b16 e   m) else (if (122 : Int32) < i0 then (X9_isLetter_b16 e   m) else (X9_isLetter_b17 e  (1 : Int32) m))
theorem X9_isLetter_ok {K : mm_K} {nx : Option Nat} {e : mm_E} (hz : e.2.1 = K.2.2.2.2) {d : Nat} (hd : 0 ≤ d) {i0 : Int32} {m : mm_V} {r : (Int32 × mm_V)} (hr : X9_isLetter e i0 m = some r) : mm_Cn K MX9_isLetter d (mm_Fi e.1 nx r) [.int i0] (e.1, m) nx := by
  refine mm_entry (by decide) (Nat.le_of_ble_eq_true rfl) rfl (fun hok => ?_)
  unfold X9_isLetter at hr
  refine mg_weak (L' := [some (.int i0)]) (mm_le_s mm_le_0) ?_
  refine ml_iload_n (pc := 0) dX9_isLetter_0 rfl mm_get_0 ?_
  refine mg_bipush (pc := 1) dX9_isLetter_1 kb_97 ?_
  refine mb_icmp_lt (pc := 3) 16 dX9_isLetter_3 rfl hr (fun hr => ?_) (fun hr => ?_)
  · exact mg_weak (mm_le_n mm_le_0) (X9_isLetter_b16_ok hz hd hr)
  · refine ml_iload_n (pc := 6) dX9_isLetter_6 rfl mm_get_0 ?_
    refine mg_bipush (pc := 7) dX9_isLetter_7 kb_122 ?_
    refine mb_icmp_gt (pc := 9) 16 dX9_isLetter_9 rfl hr (fun hr => ?_) (fun hr => ?_)
    · exact mg_weak (mm_le_n mm_le_0) (X9_isLetter_b16_ok hz hd hr)
    · refine mg_iconst (pc := 12) dX9_isLetter_12 kc_1 ?_
      refine mg_goto (pc := 13) 17 dX9_isLetter_13 rfl ?_
      exact mg_weak (mm_le_n mm_le_0) (X9_isLetter_b17_ok hz hd hr)
theorem dX9_isDigit_0 : decode cX9_isDigit 0 = .ok (.iload_n 0, 1) := by decide +kernel
theorem dX9_isDigit_1 : decode cX9_isDigit 1 = .ok (.bipush 48, 2) := by decide +kernel
theorem dX9_isDigit_3 : decode cX9_isDigit 3 = .ok (.if_icmp .lt 13, 3) := by decide +kernel
theorem dX9_isDigit_6 : decode cX9_isDigit 6 = .ok (.iload_n 0, 1) := by decide +kernel
theorem dX9_isDigit_7 : decode cX9_isDigit 7 = .ok (.bipush 57, 2) := by decide +kernel
theorem dX9_isDigit_9 : decode cX9_isDigit 9 = .ok (.if_icmp .gt 7, 3) := by decide +kernel
theorem dX9_isDigit_12 : decode cX9_isDigit 12 = .ok (.iconst 1, 1) := by decide +kernel
theorem dX9_isDigit_13 : decode cX9_isDigit 13 = .ok (.goto 4, 3) := by decide +kernel
theorem dX9_isDigit_16 : decode cX9_isDigit 16 = .ok (.iconst 0, 1) := by decide +kernel
theorem dX9_isDigit_17 : decode cX9_isDigit 17 = .ok (.ireturn, 1) := by decide +kernel
def X9_isDigit_b17 (e : mm_E) (t0 : Int32) (m : mm_V) : Option (Int32 × mm_V) := mm_rz t0 m
theorem X9_isDigit_b17_ok {K : mm_K} {nx : Option Nat} {e : mm_E} (hz : e.2.1 = K.2.2.2.2) {d : Nat} (hd : 0 ≤ d) {t0 : Int32} {m : mm_V} {r : (Int32 × mm_V)} (hr : X9_isDigit_b17 e t0 m = some r) : mm_G K MX9_isDigit d (mm_Fi e.1 nx r) 17 [none] [.int t0] (e.1, m) nx 0 0 := by
  unfold X9_isDigit_b17 at hr
  exact mb_zret dX9_isDigit_17 rfl hr
def X9_isDigit_b16 (e : mm_E) (m : mm_V) : Option (Int32 × mm_V) := X9_isDigit_b17 e  (0 : Int32) m
theorem X9_isDigit_b16_ok {K : mm_K} {nx : Option Nat} {e : mm_E} (hz : e.2.1 = K.2.2.2.2) {d : Nat} (hd : 0 ≤ d) {m : mm_V} {r : (Int32 × mm_V)} (hr : X9_isDigit_b16 e m = some r) : mm_G K MX9_isDigit d (mm_Fi e.1 nx r) 16 [none] [] (e.1, m) nx 0 0 := by
  unfold X9_isDigit_b16 at hr
  refine mg_iconst (pc := 16) dX9_isDigit_16 kc_0 ?_
  exact mg_weak (mm_le_n mm_le_0) (X9_isDigit_b17_ok hz hd hr)
def X9_isDigit (e : mm_E) (i0 : Int32) (m : mm_V) : Option (Int32 × mm_V) := if i0 < (48 : Int32) then (X9_isDigit_b16 e   m) else (if (57 : Int32) < i0 then (X9_isDigit_b16 e   m) else (X9_isDigit_b17 e  (1 : Int32) m))
theorem X9_isDigit_ok {K : mm_K} {nx : Option Nat} {e : mm_E} (hz : e.2.1 = K.2.2.2.2) {d : Nat} (hd : 0 ≤ d) {i0 : Int32} {m : mm_V} {r : (Int32 × mm_V)} (hr : X9_isDigit e i0 m = some r) : mm_Cn K MX9_isDigit d (mm_Fi e.1 nx r) [.int i0] (e.1, m) nx := by
  refine mm_entry (by decide) (Nat.le_of_ble_eq_true rfl) rfl (fun hok => ?_)
  unfold X9_isDigit at hr
  refine mg_weak (L' := [some (.int i0)]) (mm_le_s mm_le_0) ?_
  refine ml_iload_n (pc := 0) dX9_isDigit_0 rfl mm_get_0 ?_
  refine mg_bipush (pc := 1) dX9_isDigit_1 kb_48 ?_
  refine mb_icmp_lt (pc := 3) 16 dX9_isDigit_3 rfl hr (fun hr => ?_) (fun hr => ?_)
  · exact mg_weak (mm_le_n mm_le_0) (X9_isDigit_b16_ok hz hd hr)
  · refine ml_iload_n (pc := 6) dX9_isDigit_6 rfl mm_get_0 ?_
    refine mg_bipush (pc := 7) dX9_isDigit_7 kb_57 ?_
    refine mb_icmp_gt (pc := 9) 16 dX9_isDigit_9 rfl hr (fun hr => ?_) (fun hr => ?_)
    · exact mg_weak (mm_le_n mm_le_0) (X9_isDigit_b16_ok hz hd hr)
    · refine mg_iconst (pc := 12) dX9_isDigit_12 kc_1 ?_
      refine mg_goto (pc := 13) 17 dX9_isDigit_13 rfl ?_
      exact mg_weak (mm_le_n mm_le_0) (X9_isDigit_b17_ok hz hd hr)
theorem dX9_readNumber_0 : decode cX9_readNumber 0 = .ok (.aload_n 0, 1) := by decide +kernel
theorem dX9_readNumber_1 : decode cX9_readNumber 1 = .ok (.iconst 0, 1) := by decide +kernel
theorem dX9_readNumber_2 : decode cX9_readNumber 2 = .ok (.putfield 63, 3) := by decide +kernel
theorem dX9_readNumber_5 : decode cX9_readNumber 5 = .ok (.aload_n 0, 1) := by decide +kernel
theorem dX9_readNumber_6 : decode cX9_readNumber 6 = .ok (.getfield 28, 3) := by decide +kernel
theorem dX9_readNumber_9 : decode cX9_readNumber 9 = .ok (.aload_n 0, 1) := by decide +kernel
theorem dX9_readNumber_10 : decode cX9_readNumber 10 = .ok (.getfield 25, 3) := by decide +kernel
theorem dX9_readNumber_13 : decode cX9_readNumber 13 = .ok (.if_icmp .ge 53, 3) := by decide +kernel
theorem dX9_readNumber_16 : decode cX9_readNumber 16 = .ok (.aload_n 0, 1) := by decide +kernel
theorem dX9_readNumber_17 : decode cX9_readNumber 17 = .ok (.aload_n 0, 1) := by decide +kernel
theorem dX9_readNumber_18 : decode cX9_readNumber 18 = .ok (.getfield 28, 3) := by decide +kernel
theorem dX9_readNumber_21 : decode cX9_readNumber 21 = .ok (.invokevirtual 37, 3) := by decide +kernel
theorem dX9_readNumber_24 : decode cX9_readNumber 24 = .ok (.invokestatic 45, 3) := by decide +kernel
theorem dX9_readNumber_27 : decode cX9_readNumber 27 = .ok (.ifCond .eq 39, 3) := by decide +kernel
theorem dX9_readNumber_30 : decode cX9_readNumber 30 = .ok (.aload_n 0, 1) := by decide +kernel
theorem dX9_readNumber_31 : decode cX9_readNumber 31 = .ok (.aload_n 0, 1) := by decide +kernel
theorem dX9_readNumber_32 : decode cX9_readNumber 32 = .ok (.getfield 63, 3) := by decide +kernel
theorem dX9_readNumber_35 : decode cX9_readNumber 35 = .ok (.bipush 10, 2) := by decide +kernel
theorem dX9_readNumber_37 : decode cX9_readNumber 37 = .ok (.imul, 1) := by decide +kernel
theorem dX9_readNumber_38 : decode cX9_readNumber 38 = .ok (.aload_n 0, 1) := by decide +kernel
theorem dX9_readNumber_39 : decode cX9_readNumber 39 = .ok (.aload_n 0, 1) := by decide +kernel
theorem dX9_readNumber_40 : decode cX9_readNumber 40 = .ok (.getfield 28, 3) := by decide +kernel
theorem dX9_readNumber_43 : decode cX9_readNumber 43 = .ok (.invokevirtual 37, 3) := by decide +kernel
theorem dX9_readNumber_46 : decode cX9_readNumber 46 = .ok (.iadd, 1) := by decide +kernel
theorem dX9_readNumber_47 : decode cX9_readNumber 47 = .ok (.bipush 48, 2) := by decide +kernel
theorem dX9_readNumber_49 : decode cX9_readNumber 49 = .ok (.isub, 1) := by decide +kernel
theorem dX9_readNumber_50 : decode cX9_readNumber 50 = .ok (.putfield 63, 3) := by decide +kernel
theorem dX9_readNumber_53 : decode cX9_readNumber 53 = .ok (.aload_n 0, 1) := by decide +kernel
theorem dX9_readNumber_54 : decode cX9_readNumber 54 = .ok (.dup, 1) := by decide +kernel
theorem dX9_readNumber_55 : decode cX9_readNumber 55 = .ok (.getfield 28, 3) := by decide +kernel
theorem dX9_readNumber_58 : decode cX9_readNumber 58 = .ok (.iconst 1, 1) := by decide +kernel
theorem dX9_readNumber_59 : decode cX9_readNumber 59 = .ok (.iadd, 1) := by decide +kernel
theorem dX9_readNumber_60 : decode cX9_readNumber 60 = .ok (.putfield 28, 3) := by decide +kernel
theorem dX9_readNumber_63 : decode cX9_readNumber 63 = .ok (.goto (-58), 3) := by decide +kernel
theorem dX9_readNumber_66 : decode cX9_readNumber 66 = .ok (.return_, 1) := by decide +kernel
def X9_readNumber_b66 (e : mm_E) (m : mm_V) : Option mm_V := some m
theorem X9_readNumber_b66_ok {K : mm_K} {nx : Option Nat} {e : mm_E} (hz : e.2.1 = K.2.2.2.2) {d : Nat} (hd : 1 ≤ d) {a0 : Nat} (h0 : e.1 a0 = some (9, 6)) {m : mm_V} {r : mm_V} (hr : X9_readNumber_b66 e m = some r) : mm_G K MX9_readNumber d (mm_Fv e.1 nx r) 66 [none] [] (e.1, m) nx 0 0 := by
  obtain ⟨d, rfl⟩ : ∃ d', d = d' + 1 := ⟨d - 1, by omega⟩
  unfold X9_readNumber_b66 at hr
  exact mb_vret dX9_readNumber_66 rfl hr
def X9_readNumber_L5 (e : mm_E) (a0 : Nat) : Nat → mm_V → Option mm_V
  | 0, _ => none
  | n + 1, m => (mm_gi e.1 m 9 6 a0 3).bind fun x1 => (mm_gi e.1 m 9 6 a0 1).bind fun x2 => if x2 ≤ x1 then (X9_readNumber_b66 e   m) else ((mm_gi e.1 m 9 6 a0 3).bind fun x3 => (X9_signAt e a0 x3 m).bind fun r4 => (X9_isDigit e r4.1 r4.2).bind fun r5 => if r5.1 = 0 then (X9_readNumber_b66 e   r5.2) else ((mm_gi e.1 r5.2 9 6 a0 5).bind fun x6 => (mm_gi e.1 r5.2 9 6 a0 3).bind fun x7 => (X9_signAt e a0 x7 r5.2).bind fun r8 => (mm_pf e.1 r8.2 9 6 a0 5 (.int (((x6 * (10 : Int32)) + r8.1) - (48 : Int32)))).bind fun m9 => (mm_gi e.1 m9 9 6 a0 3).bind fun x10 => (mm_pf e.1 m9 9 6 a0 3 (.int (x10 + (1 : Int32)))).bind fun m11 => X9_readNumber_L5 e a0 n  m11))
theorem X9_readNumber_L5_ok {K : mm_K} {nx : Option Nat} {e : mm_E} (hz : e.2.1 = K.2.2.2.2) {d : Nat} (hd : 1 ≤ d) {a0 : Nat} (h0 : e.1 a0 = some (9, 6)) : ∀ (n : Nat) (m : mm_V) (r : mm_V), X9_readNumber_L5 e a0 n  m = some r → mm_G K MX9_readNumber d (mm_Fv e.1 nx r) 5 [some (.ref a0)] [] (e.1, m) nx 0 0 := by
  obtain ⟨d, rfl⟩ : ∃ d', d = d' + 1 := ⟨d - 1, by omega⟩
  intro n
  induction n with
  | zero => intro m r hr; unfold X9_readNumber_L5 at hr; cases hr
  | succ n ih =>
    intro m r hr
    unfold X9_readNumber_L5 at hr
    refine ml_aload_n (pc := 5) dX9_readNumber_5 rfl mm_get_0 ?_
    refine mb_gi (pc := 6) dX9_readNumber_6 fl_X9_28 hr (fun x1 hr => ?_)
    refine ml_aload_n (pc := 9) dX9_readNumber_9 rfl mm_get_0 ?_
    refine mb_gi (pc := 10) dX9_readNumber_10 fl_X9_25 hr (fun x2 hr => ?_)
    refine mb_icmp_ge (pc := 13) 66 dX9_readNumber_13 rfl hr (fun hr => ?_) (fun hr => ?_)
    · exact mg_weak (mm_le_n mm_le_0) (X9_readNumber_b66_ok hz hd h0 hr)
    · refine ml_aload_n (pc := 16) dX9_readNumber_16 rfl mm_get_0 ?_
      refine ml_aload_n (pc := 17) dX9_readNumber_17 rfl mm_get_0 ?_
      refine mb_gi (pc := 18) dX9_readNumber_18 fl_X9_28 hr (fun x3 hr => ?_)
      refine mb_cVi (pc := 21) (As := [.int x3]) (rest := []) dX9_readNumber_21 cw_X9_37 h0 hr (fun v hv => X9_signAt_ok hz (by omega) h0 hv) rfl (Nat.le_of_ble_eq_true rfl) (Nat.zero_le _) (Nat.zero_le _) (fun r4 hr => ?_)
      refine mb_cSi (pc := 24) (As := [.int r4.1]) (rest := []) dX9_readNumber_24 cw_X9_45  hr (fun v hv => X9_isDigit_ok hz (by omega)  hv) rfl (Nat.le_of_ble_eq_true rfl) (Nat.zero_le _) (Nat.zero_le _) (fun r5 hr => ?_)
      refine mb_if_eq (pc := 27) 66 dX9_readNumber_27 rfl hr (fun hr => ?_) (fun hr => ?_)
      · exact mg_weak (mm_le_n mm_le_0) (X9_readNumber_b66_ok hz hd h0 hr)
      · refine ml_aload_n (pc := 30) dX9_readNumber_30 rfl mm_get_0 ?_
        refine ml_aload_n (pc := 31) dX9_readNumber_31 rfl mm_get_0 ?_
        refine mb_gi (pc := 32) dX9_readNumber_32 fl_X9_63 hr (fun x6 hr => ?_)
        refine mg_bipush (pc := 35) dX9_readNumber_35 kb_10 ?_
        refine mg_imul (pc := 37) dX9_readNumber_37 ?_
        refine ml_aload_n (pc := 38) dX9_readNumber_38 rfl mm_get_0 ?_
        refine ml_aload_n (pc := 39) dX9_readNumber_39 rfl mm_get_0 ?_
        refine mb_gi (pc := 40) dX9_readNumber_40 fl_X9_28 hr (fun x7 hr => ?_)
        refine mb_cVi (pc := 43) (As := [.int x7]) (rest := [.int (x6 * (10 : Int32)), .ref a0]) dX9_readNumber_43 cw_X9_37 h0 hr (fun v hv => X9_signAt_ok hz (by omega) h0 hv) rfl (Nat.le_of_ble_eq_true rfl) (Nat.zero_le _) (Nat.zero_le _) (fun r8 hr => ?_)
        refine mg_iadd (pc := 46) dX9_readNumber_46 ?_
        refine mg_bipush (pc := 47) dX9_readNumber_47 kb_48 ?_
        refine mg_isub (pc := 49) dX9_readNumber_49 ?_
        refine mb_pi (pc := 50) dX9_readNumber_50 fp_X9_63 hr (fun m9 hr => ?_)
        refine ml_aload_n (pc := 53) dX9_readNumber_53 rfl mm_get_0 ?_
        refine mg_dup (pc := 54) dX9_readNumber_54 rfl ?_
        refine mb_gi (pc := 55) dX9_readNumber_55 fl_X9_28 hr (fun x10 hr => ?_)
        refine mg_iconst (pc := 58) dX9_readNumber_58 kc_1 ?_
        refine mg_iadd (pc := 59) dX9_readNumber_59 ?_
        refine mb_pi (pc := 60) dX9_readNumber_60 fp_X9_28 hr (fun m11 hr => ?_)
        refine mg_goto (pc := 63) 5 dX9_readNumber_63 rfl ?_
        exact mg_weak (mm_le_s mm_le_0) (ih  _ _ hr)
def X9_readNumber (e : mm_E) (a0 : Nat) (m : mm_V) : Option mm_V := (mm_pf e.1 m 9 6 a0 5 (.int (0 : Int32))).bind fun m1 => X9_readNumber_L5 e a0 e.2.2  m1
theorem X9_readNumber_ok {K : mm_K} {nx : Option Nat} {e : mm_E} (hz : e.2.1 = K.2.2.2.2) {d : Nat} (hd : 1 ≤ d) {a0 : Nat} (h0 : e.1 a0 = some (9, 6)) {m : mm_V} {r : mm_V} (hr : X9_readNumber e a0 m = some r) : mm_Cn K MX9_readNumber d (mm_Fv e.1 nx r) [.ref a0] (e.1, m) nx := by
  obtain ⟨d, rfl⟩ : ∃ d', d = d' + 1 := ⟨d - 1, by omega⟩
  refine mm_entry (by decide) (Nat.le_of_ble_eq_true rfl) rfl (fun hok => ?_)
  unfold X9_readNumber at hr
  refine mg_weak (L' := [some (.ref a0)]) (mm_le_s mm_le_0) ?_
  refine ml_aload_n (pc := 0) dX9_readNumber_0 rfl mm_get_0 ?_
  refine mg_iconst (pc := 1) dX9_readNumber_1 kc_0 ?_
  refine mb_pi (pc := 2) dX9_readNumber_2 fp_X9_63 hr (fun m1 hr => ?_)
  exact mg_weak (mm_le_s mm_le_0) (X9_readNumber_L5_ok hz hd h0 _  _ _ hr)
theorem dX9_isSign_0 : decode cX9_isSign 0 = .ok (.iload_n 0, 1) := by decide +kernel
theorem dX9_isSign_1 : decode cX9_isSign 1 = .ok (.tableswitch 105 40 61 #[103, 103, 103, 103, 105, 103, 105, 103, 105, 105, 105, 105, 105, 105, 105, 105, 105, 105, 105, 103, 103, 103], 103) := by decide +kernel
theorem dX9_isSign_104 : decode cX9_isSign 104 = .ok (.iconst 1, 1) := by decide +kernel
theorem dX9_isSign_105 : decode cX9_isSign 105 = .ok (.ireturn, 1) := by decide +kernel
theorem dX9_isSign_106 : decode cX9_isSign 106 = .ok (.iconst 0, 1) := by decide +kernel
theorem dX9_isSign_107 : decode cX9_isSign 107 = .ok (.ireturn, 1) := by decide +kernel
def X9_isSign (e : mm_E) (i0 : Int32) (m : mm_V) : Option (Int32 × mm_V) := if i0 = (40 : Int32) then (mm_rz (1 : Int32) m) else (if i0 = (41 : Int32) then (mm_rz (1 : Int32) m) else (if i0 = (42 : Int32) then (mm_rz (1 : Int32) m) else (if i0 = (43 : Int32) then (mm_rz (1 : Int32) m) else (if i0 = (45 : Int32) then (mm_rz (1 : Int32) m) else (if i0 = (47 : Int32) then (mm_rz (1 : Int32) m) else (if i0 = (59 : Int32) then (mm_rz (1 : Int32) m) else (if i0 = (60 : Int32) then (mm_rz (1 : Int32) m) else (if i0 = (61 : Int32) then (mm_rz (1 : Int32) m) else (mm_rz (0 : Int32) m)))))))))
theorem X9_isSign_ok {K : mm_K} {nx : Option Nat} {e : mm_E} (hz : e.2.1 = K.2.2.2.2) {d : Nat} (hd : 0 ≤ d) {i0 : Int32} {m : mm_V} {r : (Int32 × mm_V)} (hr : X9_isSign e i0 m = some r) : mm_Cn K MX9_isSign d (mm_Fi e.1 nx r) [.int i0] (e.1, m) nx := by
  refine mm_entry (by decide) (Nat.le_of_ble_eq_true rfl) rfl (fun hok => ?_)
  unfold X9_isSign at hr
  refine mg_weak (L' := [some (.int i0)]) (mm_le_s mm_le_0) ?_
  refine ml_iload_n (pc := 0) dX9_isSign_0 rfl mm_get_0 ?_
  refine mb_ite hr (fun hc hr => ?_) (fun hc1 hr => ?_)
  · refine mg_tableK (pc := 1) (103) 104 dX9_isSign_1 hc (by decide +kernel) rfl ?_
    refine mg_iconst (pc := 104) dX9_isSign_104 kc_1 ?_
    exact mb_zret dX9_isSign_105 rfl hr
  refine mb_ite hr (fun hc hr => ?_) (fun hc2 hr => ?_)
  · refine mg_tableK (pc := 1) (103) 104 dX9_isSign_1 hc (by decide +kernel) rfl ?_
    refine mg_iconst (pc := 104) dX9_isSign_104 kc_1 ?_
    exact mb_zret dX9_isSign_105 rfl hr
  refine mb_ite hr (fun hc hr => ?_) (fun hc3 hr => ?_)
  · refine mg_tableK (pc := 1) (103) 104 dX9_isSign_1 hc (by decide +kernel) rfl ?_
    refine mg_iconst (pc := 104) dX9_isSign_104 kc_1 ?_
    exact mb_zret dX9_isSign_105 rfl hr
  refine mb_ite hr (fun hc hr => ?_) (fun hc4 hr => ?_)
  · refine mg_tableK (pc := 1) (103) 104 dX9_isSign_1 hc (by decide +kernel) rfl ?_
    refine mg_iconst (pc := 104) dX9_isSign_104 kc_1 ?_
    exact mb_zret dX9_isSign_105 rfl hr
  refine mb_ite hr (fun hc hr => ?_) (fun hc5 hr => ?_)
  · refine mg_tableK (pc := 1) (103) 104 dX9_isSign_1 hc (by decide +kernel) rfl ?_
    refine mg_iconst (pc := 104) dX9_isSign_104 kc_1 ?_
    exact mb_zret dX9_isSign_105 rfl hr
  refine mb_ite hr (fun hc hr => ?_) (fun hc6 hr => ?_)
  · refine mg_tableK (pc := 1) (103) 104 dX9_isSign_1 hc (by decide +kernel) rfl ?_
    refine mg_iconst (pc := 104) dX9_isSign_104 kc_1 ?_
    exact mb_zret dX9_isSign_105 rfl hr
  refine mb_ite hr (fun hc hr => ?_) (fun hc7 hr => ?_)
  · refine mg_tableK (pc := 1) (103) 104 dX9_isSign_1 hc (by decide +kernel) rfl ?_
    refine mg_iconst (pc := 104) dX9_isSign_104 kc_1 ?_
    exact mb_zret dX9_isSign_105 rfl hr
  refine mb_ite hr (fun hc hr => ?_) (fun hc8 hr => ?_)
  · refine mg_tableK (pc := 1) (103) 104 dX9_isSign_1 hc (by decide +kernel) rfl ?_
    refine mg_iconst (pc := 104) dX9_isSign_104 kc_1 ?_
    exact mb_zret dX9_isSign_105 rfl hr
  refine mb_ite hr (fun hc hr => ?_) (fun hc9 hr => ?_)
  · refine mg_tableK (pc := 1) (103) 104 dX9_isSign_1 hc (by decide +kernel) rfl ?_
    refine mg_iconst (pc := 104) dX9_isSign_104 kc_1 ?_
    exact mb_zret dX9_isSign_105 rfl hr
  refine mg_tableD (pc := 1) 106 dX9_isSign_1 ((mm_nin_c hc1 (mm_nin_c hc2 (mm_nin_c hc3 (mm_nin_c hc4 (mm_nin_c hc5 (mm_nin_c hc6 (mm_nin_c hc7 (mm_nin_c hc8 (mm_nin_c hc9 mm_nin_0))))))))) : ∀ y ∈ [(40 : Int32), (41 : Int32), (42 : Int32), (43 : Int32), (45 : Int32), (47 : Int32), (59 : Int32), (60 : Int32), (61 : Int32)], ¬ i0 = y) (by decide +kernel) rfl ?_
  refine mg_iconst (pc := 106) dX9_isSign_106 kc_0 ?_
  exact mb_zret dX9_isSign_107 rfl hr
theorem dX9_next_0 : decode cX9_next 0 = .ok (.aload_n 0, 1) := by decide +kernel
theorem dX9_next_1 : decode cX9_next 1 = .ok (.aload_n 0, 1) := by decide +kernel
theorem dX9_next_2 : decode cX9_next 2 = .ok (.getfield 28, 3) := by decide +kernel
theorem dX9_next_5 : decode cX9_next 5 = .ok (.putfield 34, 3) := by decide +kernel
theorem dX9_next_8 : decode cX9_next 8 = .ok (.aload_n 0, 1) := by decide +kernel
theorem dX9_next_9 : decode cX9_next 9 = .ok (.getfield 34, 3) := by decide +kernel
theorem dX9_next_12 : decode cX9_next 12 = .ok (.aload_n 0, 1) := by decide +kernel
theorem dX9_next_13 : decode cX9_next 13 = .ok (.getfield 25, 3) := by decide +kernel
theorem dX9_next_16 : decode cX9_next 16 = .ok (.if_icmp .ge 42, 3) := by decide +kernel
theorem dX9_next_19 : decode cX9_next 19 = .ok (.aload_n 0, 1) := by decide +kernel
theorem dX9_next_20 : decode cX9_next 20 = .ok (.aload_n 0, 1) := by decide +kernel
theorem dX9_next_21 : decode cX9_next 21 = .ok (.getfield 34, 3) := by decide +kernel
theorem dX9_next_24 : decode cX9_next 24 = .ok (.invokevirtual 37, 3) := by decide +kernel
theorem dX9_next_27 : decode cX9_next 27 = .ok (.bipush 32, 2) := by decide +kernel
theorem dX9_next_29 : decode cX9_next 29 = .ok (.if_icmp .eq 16, 3) := by decide +kernel
theorem dX9_next_32 : decode cX9_next 32 = .ok (.aload_n 0, 1) := by decide +kernel
theorem dX9_next_33 : decode cX9_next 33 = .ok (.aload_n 0, 1) := by decide +kernel
theorem dX9_next_34 : decode cX9_next 34 = .ok (.getfield 34, 3) := by decide +kernel
theorem dX9_next_37 : decode cX9_next 37 = .ok (.invokevirtual 37, 3) := by decide +kernel
theorem dX9_next_40 : decode cX9_next 40 = .ok (.bipush 10, 2) := by decide +kernel
theorem dX9_next_42 : decode cX9_next 42 = .ok (.if_icmp .ne 16, 3) := by decide +kernel
theorem dX9_next_45 : decode cX9_next 45 = .ok (.aload_n 0, 1) := by decide +kernel
theorem dX9_next_46 : decode cX9_next 46 = .ok (.dup, 1) := by decide +kernel
theorem dX9_next_47 : decode cX9_next 47 = .ok (.getfield 34, 3) := by decide +kernel
theorem dX9_next_50 : decode cX9_next 50 = .ok (.iconst 1, 1) := by decide +kernel
theorem dX9_next_51 : decode cX9_next 51 = .ok (.iadd, 1) := by decide +kernel
theorem dX9_next_52 : decode cX9_next 52 = .ok (.putfield 34, 3) := by decide +kernel
theorem dX9_next_55 : decode cX9_next 55 = .ok (.goto (-47), 3) := by decide +kernel
theorem dX9_next_58 : decode cX9_next 58 = .ok (.aload_n 0, 1) := by decide +kernel
theorem dX9_next_59 : decode cX9_next 59 = .ok (.aload_n 0, 1) := by decide +kernel
theorem dX9_next_60 : decode cX9_next 60 = .ok (.getfield 34, 3) := by decide +kernel
theorem dX9_next_63 : decode cX9_next 63 = .ok (.putfield 28, 3) := by decide +kernel
theorem dX9_next_66 : decode cX9_next 66 = .ok (.aload_n 0, 1) := by decide +kernel
theorem dX9_next_67 : decode cX9_next 67 = .ok (.getfield 34, 3) := by decide +kernel
theorem dX9_next_70 : decode cX9_next 70 = .ok (.aload_n 0, 1) := by decide +kernel
theorem dX9_next_71 : decode cX9_next 71 = .ok (.getfield 25, 3) := by decide +kernel
theorem dX9_next_74 : decode cX9_next 74 = .ok (.if_icmp .lt 11, 3) := by decide +kernel
theorem dX9_next_77 : decode cX9_next 77 = .ok (.aload_n 0, 1) := by decide +kernel
theorem dX9_next_78 : decode cX9_next 78 = .ok (.iconst (-1), 1) := by decide +kernel
theorem dX9_next_79 : decode cX9_next 79 = .ok (.putfield 15, 3) := by decide +kernel
theorem dX9_next_82 : decode cX9_next 82 = .ok (.goto 128, 3) := by decide +kernel
theorem dX9_next_85 : decode cX9_next 85 = .ok (.aload_n 0, 1) := by decide +kernel
theorem dX9_next_86 : decode cX9_next 86 = .ok (.aload_n 0, 1) := by decide +kernel
theorem dX9_next_87 : decode cX9_next 87 = .ok (.getfield 34, 3) := by decide +kernel
theorem dX9_next_90 : decode cX9_next 90 = .ok (.invokevirtual 37, 3) := by decide +kernel
theorem dX9_next_93 : decode cX9_next 93 = .ok (.invokestatic 41, 3) := by decide +kernel
theorem dX9_next_96 : decode cX9_next 96 = .ok (.ifCond .eq 47, 3) := by decide +kernel
theorem dX9_next_99 : decode cX9_next 99 = .ok (.aload_n 0, 1) := by decide +kernel
theorem dX9_next_100 : decode cX9_next 100 = .ok (.bipush 97, 2) := by decide +kernel
theorem dX9_next_102 : decode cX9_next 102 = .ok (.putfield 15, 3) := by decide +kernel
theorem dX9_next_105 : decode cX9_next 105 = .ok (.aload_n 0, 1) := by decide +kernel
theorem dX9_next_106 : decode cX9_next 106 = .ok (.getfield 28, 3) := by decide +kernel
theorem dX9_next_109 : decode cX9_next 109 = .ok (.aload_n 0, 1) := by decide +kernel
theorem dX9_next_110 : decode cX9_next 110 = .ok (.getfield 25, 3) := by decide +kernel
theorem dX9_next_113 : decode cX9_next 113 = .ok (.if_icmp .ge 97, 3) := by decide +kernel
theorem dX9_next_116 : decode cX9_next 116 = .ok (.aload_n 0, 1) := by decide +kernel
theorem dX9_next_117 : decode cX9_next 117 = .ok (.aload_n 0, 1) := by decide +kernel
theorem dX9_next_118 : decode cX9_next 118 = .ok (.getfield 28, 3) := by decide +kernel
theorem dX9_next_121 : decode cX9_next 121 = .ok (.invokevirtual 37, 3) := by decide +kernel
theorem dX9_next_124 : decode cX9_next 124 = .ok (.invokestatic 41, 3) := by decide +kernel
theorem dX9_next_127 : decode cX9_next 127 = .ok (.ifCond .eq 83, 3) := by decide +kernel
theorem dX9_next_130 : decode cX9_next 130 = .ok (.aload_n 0, 1) := by decide +kernel
theorem dX9_next_131 : decode cX9_next 131 = .ok (.dup, 1) := by decide +kernel
theorem dX9_next_132 : decode cX9_next 132 = .ok (.getfield 28, 3) := by decide +kernel
theorem dX9_next_135 : decode cX9_next 135 = .ok (.iconst 1, 1) := by decide +kernel
theorem dX9_next_136 : decode cX9_next 136 = .ok (.iadd, 1) := by decide +kernel
theorem dX9_next_137 : decode cX9_next 137 = .ok (.putfield 28, 3) := by decide +kernel
theorem dX9_next_140 : decode cX9_next 140 = .ok (.goto (-35), 3) := by decide +kernel
theorem dX9_next_143 : decode cX9_next 143 = .ok (.aload_n 0, 1) := by decide +kernel
theorem dX9_next_144 : decode cX9_next 144 = .ok (.aload_n 0, 1) := by decide +kernel
theorem dX9_next_145 : decode cX9_next 145 = .ok (.getfield 34, 3) := by decide +kernel
theorem dX9_next_148 : decode cX9_next 148 = .ok (.invokevirtual 37, 3) := by decide +kernel
theorem dX9_next_151 : decode cX9_next 151 = .ok (.invokestatic 45, 3) := by decide +kernel
theorem dX9_next_154 : decode cX9_next 154 = .ok (.ifCond .eq 16, 3) := by decide +kernel
theorem dX9_next_157 : decode cX9_next 157 = .ok (.aload_n 0, 1) := by decide +kernel
theorem dX9_next_158 : decode cX9_next 158 = .ok (.bipush 48, 2) := by decide +kernel
theorem dX9_next_160 : decode cX9_next 160 = .ok (.putfield 15, 3) := by decide +kernel
theorem dX9_next_163 : decode cX9_next 163 = .ok (.aload_n 0, 1) := by decide +kernel
theorem dX9_next_164 : decode cX9_next 164 = .ok (.invokevirtual 48, 3) := by decide +kernel
theorem dX9_next_167 : decode cX9_next 167 = .ok (.goto 43, 3) := by decide +kernel
theorem dX9_next_170 : decode cX9_next 170 = .ok (.aload_n 0, 1) := by decide +kernel
theorem dX9_next_171 : decode cX9_next 171 = .ok (.aload_n 0, 1) := by decide +kernel
theorem dX9_next_172 : decode cX9_next 172 = .ok (.aload_n 0, 1) := by decide +kernel
theorem dX9_next_173 : decode cX9_next 173 = .ok (.getfield 34, 3) := by decide +kernel
theorem dX9_next_176 : decode cX9_next 176 = .ok (.invokevirtual 37, 3) := by decide +kernel
theorem dX9_next_179 : decode cX9_next 179 = .ok (.invokestatic 51, 3) := by decide +kernel
theorem dX9_next_182 : decode cX9_next 182 = .ok (.ifCond .eq 14, 3) := by decide +kernel
theorem dX9_next_185 : decode cX9_next 185 = .ok (.aload_n 0, 1) := by decide +kernel
theorem dX9_next_186 : decode cX9_next 186 = .ok (.aload_n 0, 1) := by decide +kernel
theorem dX9_next_187 : decode cX9_next 187 = .ok (.getfield 34, 3) := by decide +kernel
theorem dX9_next_190 : decode cX9_next 190 = .ok (.invokevirtual 37, 3) := by decide +kernel
theorem dX9_next_193 : decode cX9_next 193 = .ok (.goto 4, 3) := by decide +kernel
theorem dX9_next_196 : decode cX9_next 196 = .ok (.iconst 0, 1) := by decide +kernel
theorem dX9_next_197 : decode cX9_next 197 = .ok (.putfield 15, 3) := by decide +kernel
theorem dX9_next_200 : decode cX9_next 200 = .ok (.aload_n 0, 1) := by decide +kernel
theorem dX9_next_201 : decode cX9_next 201 = .ok (.dup, 1) := by decide +kernel
theorem dX9_next_202 : decode cX9_next 202 = .ok (.getfield 28, 3) := by decide +kernel
theorem dX9_next_205 : decode cX9_next 205 = .ok (.iconst 1, 1) := by decide +kernel
theorem dX9_next_206 : decode cX9_next 206 = .ok (.iadd, 1) := by decide +kernel
theorem dX9_next_207 : decode cX9_next 207 = .ok (.putfield 28, 3) := by decide +kernel
theorem dX9_next_210 : decode cX9_next 210 = .ok (.return_, 1) := by decide +kernel
def X9_next_b210 (e : mm_E) (m : mm_V) : Option mm_V := some m
theorem X9_next_b210_ok {K : mm_K} {nx : Option Nat} {e : mm_E} (hz : e.2.1 = K.2.2.2.2) {d : Nat} (hd : 2 ≤ d) {a0 : Nat} (h0 : e.1 a0 = some (9, 6)) {m : mm_V} {r : mm_V} (hr : X9_next_b210 e m = some r) : mm_G K MX9_next d (mm_Fv e.1 nx r) 210 [none] [] (e.1, m) nx 0 0 := by
  obtain ⟨d, rfl⟩ : ∃ d', d = d' + 1 := ⟨d - 1, by omega⟩
  unfold X9_next_b210 at hr
  exact mb_vret dX9_next_210 rfl hr
def X9_next_b197 (e : mm_E) (a0 : Nat) (t0 : Nat) (t1 : Int32) (m : mm_V) : Option mm_V := (mm_pf e.1 m 9 6 t0 4 (.int t1)).bind fun m1 => (mm_gi e.1 m1 9 6 a0 3).bind fun x2 => (mm_pf e.1 m1 9 6 a0 3 (.int (x2 + (1 : Int32)))).bind fun m3 => X9_next_b210 e   m3
theorem X9_next_b197_ok {K : mm_K} {nx : Option Nat} {e : mm_E} (hz : e.2.1 = K.2.2.2.2) {d : Nat} (hd : 2 ≤ d) {a0 : Nat} {t0 : Nat} {t1 : Int32} (h0 : e.1 a0 = some (9, 6)) {m : mm_V} {r : mm_V} (hr : X9_next_b197 e a0 t0 t1 m = some r) : mm_G K MX9_next d (mm_Fv e.1 nx r) 197 [some (.ref a0)] [.int t1, .ref t0] (e.1, m) nx 0 0 := by
  obtain ⟨d, rfl⟩ : ∃ d', d = d' + 1 := ⟨d - 1, by omega⟩
  unfold X9_next_b197 at hr
  refine mb_pi (pc := 197) dX9_next_197 fp_X9_15 hr (fun m1 hr => ?_)
  refine ml_aload_n (pc := 200) dX9_next_200 rfl mm_get_0 ?_
  refine mg_dup (pc := 201) dX9_next_201 rfl ?_
  refine mb_gi (pc := 202) dX9_next_202 fl_X9_28 hr (fun x2 hr => ?_)
  refine mg_iconst (pc := 205) dX9_next_205 kc_1 ?_
  refine mg_iadd (pc := 206) dX9_next_206 ?_
  refine mb_pi (pc := 207) dX9_next_207 fp_X9_28 hr (fun m3 hr => ?_)
  exact mg_weak (mm_le_n mm_le_0) (X9_next_b210_ok hz hd h0 hr)
def X9_next_L105 (e : mm_E) (a0 : Nat) : Nat → mm_V → Option mm_V
  | 0, _ => none
  | n + 1, m => (mm_gi e.1 m 9 6 a0 3).bind fun x1 => (mm_gi e.1 m 9 6 a0 1).bind fun x2 => if x2 ≤ x1 then (X9_next_b210 e   m) else ((mm_gi e.1 m 9 6 a0 3).bind fun x3 => (X9_signAt e a0 x3 m).bind fun r4 => (X9_isLetter e r4.1 r4.2).bind fun r5 => if r5.1 = 0 then (X9_next_b210 e   r5.2) else ((mm_gi e.1 r5.2 9 6 a0 3).bind fun x6 => (mm_pf e.1 r5.2 9 6 a0 3 (.int (x6 + (1 : Int32)))).bind fun m7 => X9_next_L105 e a0 n  m7))
theorem X9_next_L105_ok {K : mm_K} {nx : Option Nat} {e : mm_E} (hz : e.2.1 = K.2.2.2.2) {d : Nat} (hd : 2 ≤ d) {a0 : Nat} (h0 : e.1 a0 = some (9, 6)) : ∀ (n : Nat) (m : mm_V) (r : mm_V), X9_next_L105 e a0 n  m = some r → mm_G K MX9_next d (mm_Fv e.1 nx r) 105 [some (.ref a0)] [] (e.1, m) nx 0 0 := by
  obtain ⟨d, rfl⟩ : ∃ d', d = d' + 1 := ⟨d - 1, by omega⟩
  intro n
  induction n with
  | zero => intro m r hr; unfold X9_next_L105 at hr; cases hr
  | succ n ih =>
    intro m r hr
    unfold X9_next_L105 at hr
    refine ml_aload_n (pc := 105) dX9_next_105 rfl mm_get_0 ?_
    refine mb_gi (pc := 106) dX9_next_106 fl_X9_28 hr (fun x1 hr => ?_)
    refine ml_aload_n (pc := 109) dX9_next_109 rfl mm_get_0 ?_
    refine mb_gi (pc := 110) dX9_next_110 fl_X9_25 hr (fun x2 hr => ?_)
    refine mb_icmp_ge (pc := 113) 210 dX9_next_113 rfl hr (fun hr => ?_) (fun hr => ?_)
    · exact mg_weak (mm_le_n mm_le_0) (X9_next_b210_ok hz hd h0 hr)
    · refine ml_aload_n (pc := 116) dX9_next_116 rfl mm_get_0 ?_
      refine ml_aload_n (pc := 117) dX9_next_117 rfl mm_get_0 ?_
      refine mb_gi (pc := 118) dX9_next_118 fl_X9_28 hr (fun x3 hr => ?_)
      refine mb_cVi (pc := 121) (As := [.int x3]) (rest := []) dX9_next_121 cw_X9_37 h0 hr (fun v hv => X9_signAt_ok hz (by omega) h0 hv) rfl (Nat.le_of_ble_eq_true rfl) (Nat.zero_le _) (Nat.zero_le _) (fun r4 hr => ?_)
      refine mb_cSi (pc := 124) (As := [.int r4.1]) (rest := []) dX9_next_124 cw_X9_41  hr (fun v hv => X9_isLetter_ok hz (by omega)  hv) rfl (Nat.le_of_ble_eq_true rfl) (Nat.zero_le _) (Nat.zero_le _) (fun r5 hr => ?_)
      refine mb_if_eq (pc := 127) 210 dX9_next_127 rfl hr (fun hr => ?_) (fun hr => ?_)
      · exact mg_weak (mm_le_n mm_le_0) (X9_next_b210_ok hz hd h0 hr)
      · refine ml_aload_n (pc := 130) dX9_next_130 rfl mm_get_0 ?_
        refine mg_dup (pc := 131) dX9_next_131 rfl ?_
        refine mb_gi (pc := 132) dX9_next_132 fl_X9_28 hr (fun x6 hr => ?_)
        refine mg_iconst (pc := 135) dX9_next_135 kc_1 ?_
        refine mg_iadd (pc := 136) dX9_next_136 ?_
        refine mb_pi (pc := 137) dX9_next_137 fp_X9_28 hr (fun m7 hr => ?_)
        refine mg_goto (pc := 140) 105 dX9_next_140 rfl ?_
        exact mg_weak (mm_le_s mm_le_0) (ih  _ _ hr)
def X9_next_b58 (e : mm_E) (a0 : Nat) (m : mm_V) : Option mm_V := (mm_gi e.1 m 9 6 a0 2).bind fun x1 => (mm_pf e.1 m 9 6 a0 3 (.int x1)).bind fun m2 => (mm_gi e.1 m2 9 6 a0 2).bind fun x3 => (mm_gi e.1 m2 9 6 a0 1).bind fun x4 => if x3 < x4 then ((mm_gi e.1 m2 9 6 a0 2).bind fun x5 => (X9_signAt e a0 x5 m2).bind fun r6 => (X9_isLetter e r6.1 r6.2).bind fun r7 => if r7.1 = 0 then ((mm_gi e.1 r7.2 9 6 a0 2).bind fun x8 => (X9_signAt e a0 x8 r7.2).bind fun r9 => (X9_isDigit e r9.1 r9.2).bind fun r10 => if r10.1 = 0 then ((mm_gi e.1 r10.2 9 6 a0 2).bind fun x11 => (X9_signAt e a0 x11 r10.2).bind fun r12 => (X9_isSign e r12.1 r12.2).bind fun r13 => if r13.1 = 0 then (X9_next_b197 e a0 a0 (0 : Int32) r13.2) else ((mm_gi e.1 r13.2 9 6 a0 2).bind fun x14 => (X9_signAt e a0 x14 r13.2).bind fun r15 => X9_next_b197 e a0 a0 r15.1 r15.2)) else ((mm_pf e.1 r10.2 9 6 a0 4 (.int (48 : Int32))).bind fun m16 => (X9_readNumber e a0 m16).bind fun r17 => X9_next_b210 e   r17)) else ((mm_pf e.1 r7.2 9 6 a0 4 (.int (97 : Int32))).bind fun m18 => X9_next_L105 e a0 e.2.2  m18)) else ((mm_pf e.1 m2 9 6 a0 4 (.int (-1 : Int32))).bind fun m19 => X9_next_b210 e   m19)
theorem X9_next_b58_ok {K : mm_K} {nx : Option Nat} {e : mm_E} (hz : e.2.1 = K.2.2.2.2) {d : Nat} (hd : 2 ≤ d) {a0 : Nat} (h0 : e.1 a0 = some (9, 6)) {m : mm_V} {r : mm_V} (hr : X9_next_b58 e a0 m = some r) : mm_G K MX9_next d (mm_Fv e.1 nx r) 58 [some (.ref a0)] [] (e.1, m) nx 0 0 := by
  obtain ⟨d, rfl⟩ : ∃ d', d = d' + 1 := ⟨d - 1, by omega⟩
  unfold X9_next_b58 at hr
  refine ml_aload_n (pc := 58) dX9_next_58 rfl mm_get_0 ?_
  refine ml_aload_n (pc := 59) dX9_next_59 rfl mm_get_0 ?_
  refine mb_gi (pc := 60) dX9_next_60 fl_X9_34 hr (fun x1 hr => ?_)
  refine mb_pi (pc := 63) dX9_next_63 fp_X9_28 hr (fun m2 hr => ?_)
  refine ml_aload_n (pc := 66) dX9_next_66 rfl mm_get_0 ?_
  refine mb_gi (pc := 67) dX9_next_67 fl_X9_34 hr (fun x3 hr => ?_)
  refine ml_aload_n (pc := 70) dX9_next_70 rfl mm_get_0 ?_
  refine mb_gi (pc := 71) dX9_next_71 fl_X9_25 hr (fun x4 hr => ?_)
  refine mb_icmp_lt (pc := 74) 85 dX9_next_74 rfl hr (fun hr => ?_) (fun hr => ?_)
  · refine ml_aload_n (pc := 85) dX9_next_85 rfl mm_get_0 ?_
    refine ml_aload_n (pc := 86) dX9_next_86 rfl mm_get_0 ?_
    refine mb_gi (pc := 87) dX9_next_87 fl_X9_34 hr (fun x5 hr => ?_)
    refine mb_cVi (pc := 90) (As := [.int x5]) (rest := []) dX9_next_90 cw_X9_37 h0 hr (fun v hv => X9_signAt_ok hz (by omega) h0 hv) rfl (Nat.le_of_ble_eq_true rfl) (Nat.zero_le _) (Nat.zero_le _) (fun r6 hr => ?_)
    refine mb_cSi (pc := 93) (As := [.int r6.1]) (rest := []) dX9_next_93 cw_X9_41  hr (fun v hv => X9_isLetter_ok hz (by omega)  hv) rfl (Nat.le_of_ble_eq_true rfl) (Nat.zero_le _) (Nat.zero_le _) (fun r7 hr => ?_)
    refine mb_if_eq (pc := 96) 143 dX9_next_96 rfl hr (fun hr => ?_) (fun hr => ?_)
    · refine ml_aload_n (pc := 143) dX9_next_143 rfl mm_get_0 ?_
      refine ml_aload_n (pc := 144) dX9_next_144 rfl mm_get_0 ?_
      refine mb_gi (pc := 145) dX9_next_145 fl_X9_34 hr (fun x8 hr => ?_)
      refine mb_cVi (pc := 148) (As := [.int x8]) (rest := []) dX9_next_148 cw_X9_37 h0 hr (fun v hv => X9_signAt_ok hz (by omega) h0 hv) rfl (Nat.le_of_ble_eq_true rfl) (Nat.zero_le _) (Nat.zero_le _) (fun r9 hr => ?_)
      refine mb_cSi (pc := 151) (As := [.int r9.1]) (rest := []) dX9_next_151 cw_X9_45  hr (fun v hv => X9_isDigit_ok hz (by omega)  hv) rfl (Nat.le_of_ble_eq_true rfl) (Nat.zero_le _) (Nat.zero_le _) (fun r10 hr => ?_)
      refine mb_if_eq (pc := 154) 170 dX9_next_154 rfl hr (fun hr => ?_) (fun hr => ?_)
      · refine ml_aload_n (pc := 170) dX9_next_170 rfl mm_get_0 ?_
        refine ml_aload_n (pc := 171) dX9_next_171 rfl mm_get_0 ?_
        refine ml_aload_n (pc := 172) dX9_next_172 rfl mm_get_0 ?_
        refine mb_gi (pc := 173) dX9_next_173 fl_X9_34 hr (fun x11 hr => ?_)
        refine mb_cVi (pc := 176) (As := [.int x11]) (rest := [.ref a0]) dX9_next_176 cw_X9_37 h0 hr (fun v hv => X9_signAt_ok hz (by omega) h0 hv) rfl (Nat.le_of_ble_eq_true rfl) (Nat.zero_le _) (Nat.zero_le _) (fun r12 hr => ?_)
        refine mb_cSi (pc := 179) (As := [.int r12.1]) (rest := [.ref a0]) dX9_next_179 cw_X9_51  hr (fun v hv => X9_isSign_ok hz (by omega)  hv) rfl (Nat.le_of_ble_eq_true rfl) (Nat.zero_le _) (Nat.zero_le _) (fun r13 hr => ?_)
        refine mb_if_eq (pc := 182) 196 dX9_next_182 rfl hr (fun hr => ?_) (fun hr => ?_)
        · refine mg_iconst (pc := 196) dX9_next_196 kc_0 ?_
          exact mg_weak (mm_le_s mm_le_0) (X9_next_b197_ok hz hd h0 hr)
        · refine ml_aload_n (pc := 185) dX9_next_185 rfl mm_get_0 ?_
          refine ml_aload_n (pc := 186) dX9_next_186 rfl mm_get_0 ?_
          refine mb_gi (pc := 187) dX9_next_187 fl_X9_34 hr (fun x14 hr => ?_)
          refine mb_cVi (pc := 190) (As := [.int x14]) (rest := [.ref a0]) dX9_next_190 cw_X9_37 h0 hr (fun v hv => X9_signAt_ok hz (by omega) h0 hv) rfl (Nat.le_of_ble_eq_true rfl) (Nat.zero_le _) (Nat.zero_le _) (fun r15 hr => ?_)
          refine mg_goto (pc := 193) 197 dX9_next_193 rfl ?_
          exact mg_weak (mm_le_s mm_le_0) (X9_next_b197_ok hz hd h0 hr)
      · refine ml_aload_n (pc := 157) dX9_next_157 rfl mm_get_0 ?_
        refine mg_bipush (pc := 158) dX9_next_158 kb_48 ?_
        refine mb_pi (pc := 160) dX9_next_160 fp_X9_15 hr (fun m16 hr => ?_)
        refine ml_aload_n (pc := 163) dX9_next_163 rfl mm_get_0 ?_
        refine mb_cVv (pc := 164) (As := []) (rest := []) dX9_next_164 cw_X9_48 h0 hr (fun v hv => X9_readNumber_ok hz (by omega) h0 hv) rfl (Nat.le_of_ble_eq_true rfl) (Nat.zero_le _) (Nat.zero_le _) (fun r17 hr => ?_)
        refine mg_goto (pc := 167) 210 dX9_next_167 rfl ?_
        exact mg_weak (mm_le_n mm_le_0) (X9_next_b210_ok hz hd h0 hr)
    · refine ml_aload_n (pc := 99) dX9_next_99 rfl mm_get_0 ?_
      refine mg_bipush (pc := 100) dX9_next_100 kb_97 ?_
      refine mb_pi (pc := 102) dX9_next_102 fp_X9_15 hr (fun m18 hr => ?_)
      exact mg_weak (mm_le_s mm_le_0) (X9_next_L105_ok hz hd h0 _  _ _ hr)
  · refine ml_aload_n (pc := 77) dX9_next_77 rfl mm_get_0 ?_
    refine mg_iconst (pc := 78) dX9_next_78 kc_m1 ?_
    refine mb_pi (pc := 79) dX9_next_79 fp_X9_15 hr (fun m19 hr => ?_)
    refine mg_goto (pc := 82) 210 dX9_next_82 rfl ?_
    exact mg_weak (mm_le_n mm_le_0) (X9_next_b210_ok hz hd h0 hr)
def X9_next_b45 (e : mm_E) (k8 : mm_V → Option mm_V) (a0 : Nat) (m : mm_V) : Option mm_V := (mm_gi e.1 m 9 6 a0 2).bind fun x1 => (mm_pf e.1 m 9 6 a0 2 (.int (x1 + (1 : Int32)))).bind fun m2 => k8  m2
theorem X9_next_b45_ok {K : mm_K} {nx : Option Nat} {e : mm_E} (hz : e.2.1 = K.2.2.2.2) {d : Nat} (hd : 2 ≤ d) {a0 : Nat} (h0 : e.1 a0 = some (9, 6)) {k8 : mm_V → Option mm_V} (hk8 : ∀ (m : mm_V) (r : mm_V), k8  m = some r → mm_G K MX9_next d (mm_Fv e.1 nx r) 8 [some (.ref a0)] [] (e.1, m) nx 0 0) {m : mm_V} {r : mm_V} (hr : X9_next_b45 e k8 a0 m = some r) : mm_G K MX9_next d (mm_Fv e.1 nx r) 45 [some (.ref a0)] [] (e.1, m) nx 0 0 := by
  obtain ⟨d, rfl⟩ : ∃ d', d = d' + 1 := ⟨d - 1, by omega⟩
  unfold X9_next_b45 at hr
  refine ml_aload_n (pc := 45) dX9_next_45 rfl mm_get_0 ?_
  refine mg_dup (pc := 46) dX9_next_46 rfl ?_
  refine mb_gi (pc := 47) dX9_next_47 fl_X9_34 hr (fun x1 hr => ?_)
  refine mg_iconst (pc := 50) dX9_next_50 kc_1 ?_
  refine mg_iadd (pc := 51) dX9_next_51 ?_
  refine mb_pi (pc := 52) dX9_next_52 fp_X9_34 hr (fun m2 hr => ?_)
  refine mg_goto (pc := 55) 8 dX9_next_55 rfl ?_
  exact mg_weak (mm_le_s mm_le_0) (hk8  _ _ hr)
def X9_next_L8 (e : mm_E) (a0 : Nat) : Nat → mm_V → Option mm_V
  | 0, _ => none
  | n + 1, m => (mm_gi e.1 m 9 6 a0 2).bind fun x1 => (mm_gi e.1 m 9 6 a0 1).bind fun x2 => if x2 ≤ x1 then (X9_next_b58 e a0  m) else ((mm_gi e.1 m 9 6 a0 2).bind fun x3 => (X9_signAt e a0 x3 m).bind fun r4 => if r4.1 = (32 : Int32) then (X9_next_b45 e (X9_next_L8 e a0 n) a0  r4.2) else ((mm_gi e.1 r4.2 9 6 a0 2).bind fun x5 => (X9_signAt e a0 x5 r4.2).bind fun r6 => if ¬ r6.1 = (10 : Int32) then (X9_next_b58 e a0  r6.2) else (X9_next_b45 e (X9_next_L8 e a0 n) a0  r6.2)))
theorem X9_next_L8_ok {K : mm_K} {nx : Option Nat} {e : mm_E} (hz : e.2.1 = K.2.2.2.2) {d : Nat} (hd : 2 ≤ d) {a0 : Nat} (h0 : e.1 a0 = some (9, 6)) : ∀ (n : Nat) (m : mm_V) (r : mm_V), X9_next_L8 e a0 n  m = some r → mm_G K MX9_next d (mm_Fv e.1 nx r) 8 [some (.ref a0)] [] (e.1, m) nx 0 0 := by
  obtain ⟨d, rfl⟩ : ∃ d', d = d' + 1 := ⟨d - 1, by omega⟩
  intro n
  induction n with
  | zero => intro m r hr; unfold X9_next_L8 at hr; cases hr
  | succ n ih =>
    intro m r hr
    unfold X9_next_L8 at hr
    refine ml_aload_n (pc := 8) dX9_next_8 rfl mm_get_0 ?_
    refine mb_gi (pc := 9) dX9_next_9 fl_X9_34 hr (fun x1 hr => ?_)
    refine ml_aload_n (pc := 12) dX9_next_12 rfl mm_get_0 ?_
    refine mb_gi (pc := 13) dX9_next_13 fl_X9_25 hr (fun x2 hr => ?_)
    refine mb_icmp_ge (pc := 16) 58 dX9_next_16 rfl hr (fun hr => ?_) (fun hr => ?_)
    · exact mg_weak (mm_le_s mm_le_0) (X9_next_b58_ok hz hd h0 hr)
    · refine ml_aload_n (pc := 19) dX9_next_19 rfl mm_get_0 ?_
      refine ml_aload_n (pc := 20) dX9_next_20 rfl mm_get_0 ?_
      refine mb_gi (pc := 21) dX9_next_21 fl_X9_34 hr (fun x3 hr => ?_)
      refine mb_cVi (pc := 24) (As := [.int x3]) (rest := []) dX9_next_24 cw_X9_37 h0 hr (fun v hv => X9_signAt_ok hz (by omega) h0 hv) rfl (Nat.le_of_ble_eq_true rfl) (Nat.zero_le _) (Nat.zero_le _) (fun r4 hr => ?_)
      refine mg_bipush (pc := 27) dX9_next_27 kb_32 ?_
      refine mb_icmp_eq (pc := 29) 45 dX9_next_29 rfl hr (fun hr => ?_) (fun hr => ?_)
      · exact mg_weak (mm_le_s mm_le_0) (X9_next_b45_ok hz hd h0 ih hr)
      · refine ml_aload_n (pc := 32) dX9_next_32 rfl mm_get_0 ?_
        refine ml_aload_n (pc := 33) dX9_next_33 rfl mm_get_0 ?_
        refine mb_gi (pc := 34) dX9_next_34 fl_X9_34 hr (fun x5 hr => ?_)
        refine mb_cVi (pc := 37) (As := [.int x5]) (rest := []) dX9_next_37 cw_X9_37 h0 hr (fun v hv => X9_signAt_ok hz (by omega) h0 hv) rfl (Nat.le_of_ble_eq_true rfl) (Nat.zero_le _) (Nat.zero_le _) (fun r6 hr => ?_)
        refine mg_bipush (pc := 40) dX9_next_40 kb_10 ?_
        refine mb_icmp_ne (pc := 42) 58 dX9_next_42 rfl hr (fun hr => ?_) (fun hr => ?_)
        · exact mg_weak (mm_le_s mm_le_0) (X9_next_b58_ok hz hd h0 hr)
        · exact mg_weak (mm_le_s mm_le_0) (X9_next_b45_ok hz hd h0 ih hr)
def X9_next (e : mm_E) (a0 : Nat) (m : mm_V) : Option mm_V := (mm_gi e.1 m 9 6 a0 3).bind fun x1 => (mm_pf e.1 m 9 6 a0 2 (.int x1)).bind fun m2 => X9_next_L8 e a0 e.2.2  m2
theorem X9_next_ok {K : mm_K} {nx : Option Nat} {e : mm_E} (hz : e.2.1 = K.2.2.2.2) {d : Nat} (hd : 2 ≤ d) {a0 : Nat} (h0 : e.1 a0 = some (9, 6)) {m : mm_V} {r : mm_V} (hr : X9_next e a0 m = some r) : mm_Cn K MX9_next d (mm_Fv e.1 nx r) [.ref a0] (e.1, m) nx := by
  obtain ⟨d, rfl⟩ : ∃ d', d = d' + 1 := ⟨d - 1, by omega⟩
  refine mm_entry (by decide) (Nat.le_of_ble_eq_true rfl) rfl (fun hok => ?_)
  unfold X9_next at hr
  refine mg_weak (L' := [some (.ref a0)]) (mm_le_s mm_le_0) ?_
  refine ml_aload_n (pc := 0) dX9_next_0 rfl mm_get_0 ?_
  refine ml_aload_n (pc := 1) dX9_next_1 rfl mm_get_0 ?_
  refine mb_gi (pc := 2) dX9_next_2 fl_X9_28 hr (fun x1 hr => ?_)
  refine mb_pi (pc := 5) dX9_next_5 fp_X9_34 hr (fun m2 hr => ?_)
  exact mg_weak (mm_le_s mm_le_0) (X9_next_L8_ok hz hd h0 _  _ _ hr)
theorem dX1_waitingAt_0 : decode cX1_waitingAt 0 = .ok (.iload_n 1, 1) := by decide +kernel
theorem dX1_waitingAt_1 : decode cX1_waitingAt 1 = .ok (.ifCond .lt 21, 3) := by decide +kernel
theorem dX1_waitingAt_4 : decode cX1_waitingAt 4 = .ok (.iload_n 1, 1) := by decide +kernel
theorem dX1_waitingAt_5 : decode cX1_waitingAt 5 = .ok (.aload_n 0, 1) := by decide +kernel
theorem dX1_waitingAt_6 : decode cX1_waitingAt 6 = .ok (.getfield 9, 3) := by decide +kernel
theorem dX1_waitingAt_9 : decode cX1_waitingAt 9 = .ok (.arraylength, 1) := by decide +kernel
theorem dX1_waitingAt_10 : decode cX1_waitingAt 10 = .ok (.if_icmp .ge 12, 3) := by decide +kernel
theorem dX1_waitingAt_13 : decode cX1_waitingAt 13 = .ok (.aload_n 0, 1) := by decide +kernel
theorem dX1_waitingAt_14 : decode cX1_waitingAt 14 = .ok (.getfield 9, 3) := by decide +kernel
theorem dX1_waitingAt_17 : decode cX1_waitingAt 17 = .ok (.iload_n 1, 1) := by decide +kernel
theorem dX1_waitingAt_18 : decode cX1_waitingAt 18 = .ok (.iaload, 1) := by decide +kernel
theorem dX1_waitingAt_19 : decode cX1_waitingAt 19 = .ok (.goto 5, 3) := by decide +kernel
theorem dX1_waitingAt_22 : decode cX1_waitingAt 22 = .ok (.bipush (-20), 2) := by decide +kernel
theorem dX1_waitingAt_24 : decode cX1_waitingAt 24 = .ok (.ireturn, 1) := by decide +kernel
def X1_waitingAt_b24 (e : mm_E) (t0 : Int32) (m : mm_V) : Option (Int32 × mm_V) := some (t0, m)
theorem X1_waitingAt_b24_ok {K : mm_K} {nx : Option Nat} {e : mm_E} (hz : e.2.1 = K.2.2.2.2) {d : Nat} (hd : 0 ≤ d) {t0 : Int32} {a0 : Nat} (h0 : e.1 a0 = some (1, 6)) {m : mm_V} {r : (Int32 × mm_V)} (hr : X1_waitingAt_b24 e t0 m = some r) : mm_G K MX1_waitingAt d (mm_Fi e.1 nx r) 24 [none, none] [.int t0] (e.1, m) nx 0 0 := by
  unfold X1_waitingAt_b24 at hr
  exact mb_iret dX1_waitingAt_24 rfl hr
def X1_waitingAt_b22 (e : mm_E) (m : mm_V) : Option (Int32 × mm_V) := X1_waitingAt_b24 e  (-20 : Int32) m
theorem X1_waitingAt_b22_ok {K : mm_K} {nx : Option Nat} {e : mm_E} (hz : e.2.1 = K.2.2.2.2) {d : Nat} (hd : 0 ≤ d) {a0 : Nat} (h0 : e.1 a0 = some (1, 6)) {m : mm_V} {r : (Int32 × mm_V)} (hr : X1_waitingAt_b22 e m = some r) : mm_G K MX1_waitingAt d (mm_Fi e.1 nx r) 22 [none, none] [] (e.1, m) nx 0 0 := by
  unfold X1_waitingAt_b22 at hr
  refine mg_bipush (pc := 22) dX1_waitingAt_22 kb_m20 ?_
  exact mg_weak (mm_le_n (mm_le_n mm_le_0)) (X1_waitingAt_b24_ok hz hd h0 hr)
def X1_waitingAt (e : mm_E) (a0 : Nat) (i1 : Int32) (m : mm_V) : Option (Int32 × mm_V) := if i1 < 0 then (X1_waitingAt_b22 e   m) else ((mm_gr e.1 m 1 6 a0 0).bind fun c1 => (mm_ln e.1 c1).bind fun x2 => if x2 ≤ i1 then (X1_waitingAt_b22 e   m) else ((mm_gr e.1 m 1 6 a0 0).bind fun c3 => (mm_ai e.1 m 20 c3 i1).bind fun x4 => X1_waitingAt_b24 e  x4 m))
theorem X1_waitingAt_ok {K : mm_K} {nx : Option Nat} {e : mm_E} (hz : e.2.1 = K.2.2.2.2) {d : Nat} (hd : 0 ≤ d) {a0 : Nat} {i1 : Int32} (h0 : e.1 a0 = some (1, 6)) {m : mm_V} {r : (Int32 × mm_V)} (hr : X1_waitingAt e a0 i1 m = some r) : mm_Cn K MX1_waitingAt d (mm_Fi e.1 nx r) [.ref a0, .int i1] (e.1, m) nx := by
  refine mm_entry (by decide) (Nat.le_of_ble_eq_true rfl) rfl (fun hok => ?_)
  unfold X1_waitingAt at hr
  refine mg_weak (L' := [some (.ref a0), some (.int i1)]) (mm_le_s (mm_le_s mm_le_0)) ?_
  refine ml_iload_n (pc := 0) dX1_waitingAt_0 rfl (mm_get_s mm_get_0) ?_
  refine mb_if_lt (pc := 1) 22 dX1_waitingAt_1 rfl hr (fun hr => ?_) (fun hr => ?_)
  · exact mg_weak (mm_le_n (mm_le_n mm_le_0)) (X1_waitingAt_b22_ok hz hd h0 hr)
  · refine ml_iload_n (pc := 4) dX1_waitingAt_4 rfl (mm_get_s mm_get_0) ?_
    refine ml_aload_n (pc := 5) dX1_waitingAt_5 rfl mm_get_0 ?_
    refine mb_gr (pc := 6) dX1_waitingAt_6 fl_X1_9 hr (fun c1 hr => ?_)
    refine mb_ln (pc := 9) dX1_waitingAt_9 hr (fun x2 hr => ?_)
    refine mb_icmp_ge (pc := 10) 22 dX1_waitingAt_10 rfl hr (fun hr => ?_) (fun hr => ?_)
    · exact mg_weak (mm_le_n (mm_le_n mm_le_0)) (X1_waitingAt_b22_ok hz hd h0 hr)
    · refine ml_aload_n (pc := 13) dX1_waitingAt_13 rfl mm_get_0 ?_
      refine mb_gr (pc := 14) dX1_waitingAt_14 fl_X1_9 hr (fun c3 hr => ?_)
      refine ml_iload_n (pc := 17) dX1_waitingAt_17 rfl (mm_get_s mm_get_0) ?_
      refine mb_ai (pc := 18) dX1_waitingAt_18 hr (fun x4 hr => ?_)
      refine mg_goto (pc := 19) 24 dX1_waitingAt_19 rfl ?_
      exact mg_weak (mm_le_n (mm_le_n mm_le_0)) (X1_waitingAt_b24_ok hz hd h0 hr)
theorem dX1_level_0 : decode cX1_level 0 = .ok (.iload_n 0, 1) := by decide +kernel
theorem dX1_level_1 : decode cX1_level 1 = .ok (.tableswitch 64 (-19) (-11) #[61, 61, 59, 59, 57, 57, 55, 53, 51], 51) := by decide +kernel
theorem dX1_level_52 : decode cX1_level 52 = .ok (.iconst 1, 1) := by decide +kernel
theorem dX1_level_53 : decode cX1_level 53 = .ok (.ireturn, 1) := by decide +kernel
theorem dX1_level_54 : decode cX1_level 54 = .ok (.iconst 2, 1) := by decide +kernel
theorem dX1_level_55 : decode cX1_level 55 = .ok (.ireturn, 1) := by decide +kernel
theorem dX1_level_56 : decode cX1_level 56 = .ok (.iconst 3, 1) := by decide +kernel
theorem dX1_level_57 : decode cX1_level 57 = .ok (.ireturn, 1) := by decide +kernel
theorem dX1_level_58 : decode cX1_level 58 = .ok (.iconst 4, 1) := by decide +kernel
theorem dX1_level_59 : decode cX1_level 59 = .ok (.ireturn, 1) := by decide +kernel
theorem dX1_level_60 : decode cX1_level 60 = .ok (.iconst 5, 1) := by decide +kernel
theorem dX1_level_61 : decode cX1_level 61 = .ok (.ireturn, 1) := by decide +kernel
theorem dX1_level_62 : decode cX1_level 62 = .ok (.bipush 6, 2) := by decide +kernel
theorem dX1_level_64 : decode cX1_level 64 = .ok (.ireturn, 1) := by decide +kernel
theorem dX1_level_65 : decode cX1_level 65 = .ok (.iconst 0, 1) := by decide +kernel
theorem dX1_level_66 : decode cX1_level 66 = .ok (.ireturn, 1) := by decide +kernel
def X1_level (e : mm_E) (i0 : Int32) (m : mm_V) : Option (Int32 × mm_V) := if i0 = (-19 : Int32) then (some ((6 : Int32), m)) else (if i0 = (-18 : Int32) then (some ((6 : Int32), m)) else (if i0 = (-17 : Int32) then (some ((5 : Int32), m)) else (if i0 = (-16 : Int32) then (some ((5 : Int32), m)) else (if i0 = (-15 : Int32) then (some ((4 : Int32), m)) else (if i0 = (-14 : Int32) then (some ((4 : Int32), m)) else (if i0 = (-13 : Int32) then (some ((3 : Int32), m)) else (if i0 = (-12 : Int32) then (some ((2 : Int32), m)) else (if i0 = (-11 : Int32) then (some ((1 : Int32), m)) else (some ((0 : Int32), m))))))))))
theorem X1_level_ok {K : mm_K} {nx : Option Nat} {e : mm_E} (hz : e.2.1 = K.2.2.2.2) {d : Nat} (hd : 0 ≤ d) {i0 : Int32} {m : mm_V} {r : (Int32 × mm_V)} (hr : X1_level e i0 m = some r) : mm_Cn K MX1_level d (mm_Fi e.1 nx r) [.int i0] (e.1, m) nx := by
  refine mm_entry (by decide) (Nat.le_of_ble_eq_true rfl) rfl (fun hok => ?_)
  unfold X1_level at hr
  refine mg_weak (L' := [some (.int i0)]) (mm_le_s mm_le_0) ?_
  refine ml_iload_n (pc := 0) dX1_level_0 rfl mm_get_0 ?_
  refine mb_ite hr (fun hc hr => ?_) (fun hc1 hr => ?_)
  · refine mg_tableK (pc := 1) (61) 62 dX1_level_1 hc (by decide +kernel) rfl ?_
    refine mg_bipush (pc := 62) dX1_level_62 kb_6 ?_
    exact mb_iret dX1_level_64 rfl hr
  refine mb_ite hr (fun hc hr => ?_) (fun hc2 hr => ?_)
  · refine mg_tableK (pc := 1) (61) 62 dX1_level_1 hc (by decide +kernel) rfl ?_
    refine mg_bipush (pc := 62) dX1_level_62 kb_6 ?_
    exact mb_iret dX1_level_64 rfl hr
  refine mb_ite hr (fun hc hr => ?_) (fun hc3 hr => ?_)
  · refine mg_tableK (pc := 1) (59) 60 dX1_level_1 hc (by decide +kernel) rfl ?_
    refine mg_iconst (pc := 60) dX1_level_60 kc_5 ?_
    exact mb_iret dX1_level_61 rfl hr
  refine mb_ite hr (fun hc hr => ?_) (fun hc4 hr => ?_)
  · refine mg_tableK (pc := 1) (59) 60 dX1_level_1 hc (by decide +kernel) rfl ?_
    refine mg_iconst (pc := 60) dX1_level_60 kc_5 ?_
    exact mb_iret dX1_level_61 rfl hr
  refine mb_ite hr (fun hc hr => ?_) (fun hc5 hr => ?_)
  · refine mg_tableK (pc := 1) (57) 58 dX1_level_1 hc (by decide +kernel) rfl ?_
    refine mg_iconst (pc := 58) dX1_level_58 kc_4 ?_
    exact mb_iret dX1_level_59 rfl hr
  refine mb_ite hr (fun hc hr => ?_) (fun hc6 hr => ?_)
  · refine mg_tableK (pc := 1) (57) 58 dX1_level_1 hc (by decide +kernel) rfl ?_
    refine mg_iconst (pc := 58) dX1_level_58 kc_4 ?_
    exact mb_iret dX1_level_59 rfl hr
  refine mb_ite hr (fun hc hr => ?_) (fun hc7 hr => ?_)
  · refine mg_tableK (pc := 1) (55) 56 dX1_level_1 hc (by decide +kernel) rfl ?_
    refine mg_iconst (pc := 56) dX1_level_56 kc_3 ?_
    exact mb_iret dX1_level_57 rfl hr
  refine mb_ite hr (fun hc hr => ?_) (fun hc8 hr => ?_)
  · refine mg_tableK (pc := 1) (53) 54 dX1_level_1 hc (by decide +kernel) rfl ?_
    refine mg_iconst (pc := 54) dX1_level_54 kc_2 ?_
    exact mb_iret dX1_level_55 rfl hr
  refine mb_ite hr (fun hc hr => ?_) (fun hc9 hr => ?_)
  · refine mg_tableK (pc := 1) (51) 52 dX1_level_1 hc (by decide +kernel) rfl ?_
    refine mg_iconst (pc := 52) dX1_level_52 kc_1 ?_
    exact mb_iret dX1_level_53 rfl hr
  refine mg_tableD (pc := 1) 65 dX1_level_1 ((mm_nin_c hc1 (mm_nin_c hc2 (mm_nin_c hc3 (mm_nin_c hc4 (mm_nin_c hc5 (mm_nin_c hc6 (mm_nin_c hc7 (mm_nin_c hc8 (mm_nin_c hc9 mm_nin_0))))))))) : ∀ y ∈ [(-19 : Int32), (-18 : Int32), (-17 : Int32), (-16 : Int32), (-15 : Int32), (-14 : Int32), (-13 : Int32), (-12 : Int32), (-11 : Int32)], ¬ i0 = y) (by decide +kernel) rfl ?_
  refine mg_iconst (pc := 65) dX1_level_65 kc_0 ?_
  exact mb_iret dX1_level_66 rfl hr
theorem dX10_emit_0 : decode cX10_emit 0 = .ok (.aload_n 0, 1) := by decide +kernel
theorem dX10_emit_1 : decode cX10_emit 1 = .ok (.getfield 47, 3) := by decide +kernel
theorem dX10_emit_4 : decode cX10_emit 4 = .ok (.ifCond .lt 35, 3) := by decide +kernel
theorem dX10_emit_7 : decode cX10_emit 7 = .ok (.aload_n 0, 1) := by decide +kernel
theorem dX10_emit_8 : decode cX10_emit 8 = .ok (.getfield 47, 3) := by decide +kernel
theorem dX10_emit_11 : decode cX10_emit 11 = .ok (.aload_n 0, 1) := by decide +kernel
theorem dX10_emit_12 : decode cX10_emit 12 = .ok (.getfield 21, 3) := by decide +kernel
theorem dX10_emit_15 : decode cX10_emit 15 = .ok (.arraylength, 1) := by decide +kernel
theorem dX10_emit_16 : decode cX10_emit 16 = .ok (.if_icmp .ge 23, 3) := by decide +kernel
theorem dX10_emit_19 : decode cX10_emit 19 = .ok (.aload_n 0, 1) := by decide +kernel
theorem dX10_emit_20 : decode cX10_emit 20 = .ok (.getfield 21, 3) := by decide +kernel
theorem dX10_emit_23 : decode cX10_emit 23 = .ok (.aload_n 0, 1) := by decide +kernel
theorem dX10_emit_24 : decode cX10_emit 24 = .ok (.getfield 47, 3) := by decide +kernel
theorem dX10_emit_27 : decode cX10_emit 27 = .ok (.iload_n 1, 1) := by decide +kernel
theorem dX10_emit_28 : decode cX10_emit 28 = .ok (.iastore, 1) := by decide +kernel
theorem dX10_emit_29 : decode cX10_emit 29 = .ok (.aload_n 0, 1) := by decide +kernel
theorem dX10_emit_30 : decode cX10_emit 30 = .ok (.dup, 1) := by decide +kernel
theorem dX10_emit_31 : decode cX10_emit 31 = .ok (.getfield 47, 3) := by decide +kernel
theorem dX10_emit_34 : decode cX10_emit 34 = .ok (.iconst 1, 1) := by decide +kernel
theorem dX10_emit_35 : decode cX10_emit 35 = .ok (.iadd, 1) := by decide +kernel
theorem dX10_emit_36 : decode cX10_emit 36 = .ok (.putfield 47, 3) := by decide +kernel
theorem dX10_emit_39 : decode cX10_emit 39 = .ok (.return_, 1) := by decide +kernel
def X10_emit_b39 (e : mm_E) (m : mm_V) : Option mm_V := some m
theorem X10_emit_b39_ok {K : mm_K} {nx : Option Nat} {e : mm_E} (hz : e.2.1 = K.2.2.2.2) {d : Nat} (hd : 0 ≤ d) {a0 : Nat} (h0 : e.1 a0 = some (10, 11)) {m : mm_V} {r : mm_V} (hr : X10_emit_b39 e m = some r) : mm_G K MX10_emit d (mm_Fv e.1 nx r) 39 [none, none] [] (e.1, m) nx 0 0 := by
  unfold X10_emit_b39 at hr
  exact mb_vret dX10_emit_39 rfl hr
def X10_emit (e : mm_E) (a0 : Nat) (i1 : Int32) (m : mm_V) : Option mm_V := (mm_gi e.1 m 10 11 a0 9).bind fun x1 => if x1 < 0 then (X10_emit_b39 e   m) else ((mm_gi e.1 m 10 11 a0 9).bind fun x2 => (mm_gr e.1 m 10 11 a0 2).bind fun c3 => (mm_ln e.1 c3).bind fun x4 => if x4 ≤ x2 then (X10_emit_b39 e   m) else ((mm_gr e.1 m 10 11 a0 2).bind fun c5 => (mm_gi e.1 m 10 11 a0 9).bind fun x6 => (mm_si e.1 m c5 x6 i1).bind fun m7 => (mm_gi e.1 m7 10 11 a0 9).bind fun x8 => (mm_pf e.1 m7 10 11 a0 9 (.int (x8 + (1 : Int32)))).bind fun m9 => X10_emit_b39 e   m9))
theorem X10_emit_ok {K : mm_K} {nx : Option Nat} {e : mm_E} (hz : e.2.1 = K.2.2.2.2) {d : Nat} (hd : 0 ≤ d) {a0 : Nat} {i1 : Int32} (h0 : e.1 a0 = some (10, 11)) {m : mm_V} {r : mm_V} (hr : X10_emit e a0 i1 m = some r) : mm_Cn K MX10_emit d (mm_Fv e.1 nx r) [.ref a0, .int i1] (e.1, m) nx := by
  refine mm_entry (by decide) (Nat.le_of_ble_eq_true rfl) rfl (fun hok => ?_)
  unfold X10_emit at hr
  refine mg_weak (L' := [some (.ref a0), some (.int i1)]) (mm_le_s (mm_le_s mm_le_0)) ?_
  refine ml_aload_n (pc := 0) dX10_emit_0 rfl mm_get_0 ?_
  refine mb_gi (pc := 1) dX10_emit_1 fl_X10_47 hr (fun x1 hr => ?_)
  refine mb_if_lt (pc := 4) 39 dX10_emit_4 rfl hr (fun hr => ?_) (fun hr => ?_)
  · exact mg_weak (mm_le_n (mm_le_n mm_le_0)) (X10_emit_b39_ok hz hd h0 hr)
  · refine ml_aload_n (pc := 7) dX10_emit_7 rfl mm_get_0 ?_
    refine mb_gi (pc := 8) dX10_emit_8 fl_X10_47 hr (fun x2 hr => ?_)
    refine ml_aload_n (pc := 11) dX10_emit_11 rfl mm_get_0 ?_
    refine mb_gr (pc := 12) dX10_emit_12 fl_X10_21 hr (fun c3 hr => ?_)
    refine mb_ln (pc := 15) dX10_emit_15 hr (fun x4 hr => ?_)
    refine mb_icmp_ge (pc := 16) 39 dX10_emit_16 rfl hr (fun hr => ?_) (fun hr => ?_)
    · exact mg_weak (mm_le_n (mm_le_n mm_le_0)) (X10_emit_b39_ok hz hd h0 hr)
    · refine ml_aload_n (pc := 19) dX10_emit_19 rfl mm_get_0 ?_
      refine mb_gr (pc := 20) dX10_emit_20 fl_X10_21 hr (fun c5 hr => ?_)
      refine ml_aload_n (pc := 23) dX10_emit_23 rfl mm_get_0 ?_
      refine mb_gi (pc := 24) dX10_emit_24 fl_X10_47 hr (fun x6 hr => ?_)
      refine ml_iload_n (pc := 27) dX10_emit_27 rfl (mm_get_s mm_get_0) ?_
      refine mb_si (pc := 28) dX10_emit_28 hr (fun m7 hr => ?_)
      refine ml_aload_n (pc := 29) dX10_emit_29 rfl mm_get_0 ?_
      refine mg_dup (pc := 30) dX10_emit_30 rfl ?_
      refine mb_gi (pc := 31) dX10_emit_31 fl_X10_47 hr (fun x8 hr => ?_)
      refine mg_iconst (pc := 34) dX10_emit_34 kc_1 ?_
      refine mg_iadd (pc := 35) dX10_emit_35 ?_
      refine mb_pi (pc := 36) dX10_emit_36 fp_X10_47 hr (fun m9 hr => ?_)
      exact mg_weak (mm_le_n (mm_le_n mm_le_0)) (X10_emit_b39_ok hz hd h0 hr)
theorem dX1_settle_0 : decode cX1_settle 0 = .ok (.aload_n 0, 1) := by decide +kernel
theorem dX1_settle_1 : decode cX1_settle 1 = .ok (.getfield 23, 3) := by decide +kernel
theorem dX1_settle_4 : decode cX1_settle 4 = .ok (.iconst 1, 1) := by decide +kernel
theorem dX1_settle_5 : decode cX1_settle 5 = .ok (.isub, 1) := by decide +kernel
theorem dX1_settle_6 : decode cX1_settle 6 = .ok (.istore_n 2, 1) := by decide +kernel
theorem dX1_settle_7 : decode cX1_settle 7 = .ok (.iload_n 2, 1) := by decide +kernel
theorem dX1_settle_8 : decode cX1_settle 8 = .ok (.ifCond .lt 43, 3) := by decide +kernel
theorem dX1_settle_11 : decode cX1_settle 11 = .ok (.aload_n 0, 1) := by decide +kernel
theorem dX1_settle_12 : decode cX1_settle 12 = .ok (.iload_n 2, 1) := by decide +kernel
theorem dX1_settle_13 : decode cX1_settle 13 = .ok (.invokevirtual 71, 3) := by decide +kernel
theorem dX1_settle_16 : decode cX1_settle 16 = .ok (.invokestatic 75, 3) := by decide +kernel
theorem dX1_settle_19 : decode cX1_settle 19 = .ok (.iload_n 1, 1) := by decide +kernel
theorem dX1_settle_20 : decode cX1_settle 20 = .ok (.if_icmp .lt 31, 3) := by decide +kernel
theorem dX1_settle_23 : decode cX1_settle 23 = .ok (.aload_n 0, 1) := by decide +kernel
theorem dX1_settle_24 : decode cX1_settle 24 = .ok (.getfield 19, 3) := by decide +kernel
theorem dX1_settle_27 : decode cX1_settle 27 = .ok (.aload_n 0, 1) := by decide +kernel
theorem dX1_settle_28 : decode cX1_settle 28 = .ok (.iload_n 2, 1) := by decide +kernel
theorem dX1_settle_29 : decode cX1_settle 29 = .ok (.invokevirtual 71, 3) := by decide +kernel
theorem dX1_settle_32 : decode cX1_settle 32 = .ok (.invokevirtual 91, 3) := by decide +kernel
theorem dX1_settle_35 : decode cX1_settle 35 = .ok (.aload_n 0, 1) := by decide +kernel
theorem dX1_settle_36 : decode cX1_settle 36 = .ok (.dup, 1) := by decide +kernel
theorem dX1_settle_37 : decode cX1_settle 37 = .ok (.getfield 23, 3) := by decide +kernel
theorem dX1_settle_40 : decode cX1_settle 40 = .ok (.iconst 1, 1) := by decide +kernel
theorem dX1_settle_41 : decode cX1_settle 41 = .ok (.isub, 1) := by decide +kernel
theorem dX1_settle_42 : decode cX1_settle 42 = .ok (.putfield 23, 3) := by decide +kernel
theorem dX1_settle_45 : decode cX1_settle 45 = .ok (.iinc 2 (-1), 3) := by decide +kernel
theorem dX1_settle_48 : decode cX1_settle 48 = .ok (.goto (-41), 3) := by decide +kernel
theorem dX1_settle_51 : decode cX1_settle 51 = .ok (.return_, 1) := by decide +kernel
def X1_settle_b51 (e : mm_E) (m : mm_V) : Option mm_V := some m
theorem X1_settle_b51_ok {K : mm_K} {nx : Option Nat} {e : mm_E} (hz : e.2.1 = K.2.2.2.2) {d : Nat} (hd : 1 ≤ d) {a0 : Nat} (h0 : e.1 a0 = some (1, 6)) {m : mm_V} {r : mm_V} (hr : X1_settle_b51 e m = some r) : mm_G K MX1_settle d (mm_Fv e.1 nx r) 51 [none, none, none] [] (e.1, m) nx 0 0 := by
  obtain ⟨d, rfl⟩ : ∃ d', d = d' + 1 := ⟨d - 1, by omega⟩
  unfold X1_settle_b51 at hr
  exact mb_vret dX1_settle_51 rfl hr
def X1_settle_L7 (e : mm_E) (a0 : Nat) (i1 : Int32) : Nat → Int32 → mm_V → Option mm_V
  | 0, _, _ => none
  | n + 1, i2, m => if i2 < 0 then (X1_settle_b51 e   m) else ((X1_waitingAt e a0 i2 m).bind fun r1 => (X1_level e r1.1 r1.2).bind fun r2 => if r2.1 < i1 then (X1_settle_b51 e   r2.2) else ((mm_gr e.1 r2.2 1 6 a0 5).bind fun c3 => (X1_waitingAt e a0 i2 r2.2).bind fun r4 => if e.1 c3 = some (10, 11) then ((X10_emit e c3 r4.1 r4.2).bind fun r5 => (mm_gi e.1 r5 1 6 a0 1).bind fun x7 => (mm_pf e.1 r5 1 6 a0 1 (.int (x7 - (1 : Int32)))).bind fun m8 => X1_settle_L7 e a0 i1 n (i2 + (-1)) m8) else none))
theorem X1_settle_L7_ok {K : mm_K} {nx : Option Nat} {e : mm_E} (hz : e.2.1 = K.2.2.2.2) {d : Nat} (hd : 1 ≤ d) {a0 : Nat} {i1 : Int32} (h0 : e.1 a0 = some (1, 6)) : ∀ (n : Nat) (i2 : Int32) (m : mm_V) (r : mm_V), X1_settle_L7 e a0 i1 n i2 m = some r → mm_G K MX1_settle d (mm_Fv e.1 nx r) 7 [some (.ref a0), some (.int i1), some (.int i2)] [] (e.1, m) nx 0 0 := by
  obtain ⟨d, rfl⟩ : ∃ d', d = d' + 1 := ⟨d - 1, by omega⟩
  intro n
  induction n with
  | zero => intro i2 m r hr; unfold X1_settle_L7 at hr; cases hr
  | succ n ih =>
    intro i2 m r hr
    unfold X1_settle_L7 at hr
    refine ml_iload_n (pc := 7) dX1_settle_7 rfl (mm_get_s (mm_get_s mm_get_0)) ?_
    refine mb_if_lt (pc := 8) 51 dX1_settle_8 rfl hr (fun hr => ?_) (fun hr => ?_)
    · exact mg_weak (mm_le_n (mm_le_n (mm_le_n mm_le_0))) (X1_settle_b51_ok hz hd h0 hr)
    · refine ml_aload_n (pc := 11) dX1_settle_11 rfl mm_get_0 ?_
      refine ml_iload_n (pc := 12) dX1_settle_12 rfl (mm_get_s (mm_get_s mm_get_0)) ?_
      refine mb_cVi (pc := 13) (As := [.int i2]) (rest := []) dX1_settle_13 cw_X1_71 h0 hr (fun v hv => X1_waitingAt_ok hz (by omega) h0 hv) rfl (Nat.le_of_ble_eq_true rfl) (Nat.zero_le _) (Nat.zero_le _) (fun r1 hr => ?_)
      refine mb_cSi (pc := 16) (As := [.int r1.1]) (rest := []) dX1_settle_16 cw_X1_75  hr (fun v hv => X1_level_ok hz (by omega)  hv) rfl (Nat.le_of_ble_eq_true rfl) (Nat.zero_le _) (Nat.zero_le _) (fun r2 hr => ?_)
      refine ml_iload_n (pc := 19) dX1_settle_19 rfl (mm_get_s mm_get_0) ?_
      refine mb_icmp_lt (pc := 20) 51 dX1_settle_20 rfl hr (fun hr => ?_) (fun hr => ?_)
      · exact mg_weak (mm_le_n (mm_le_n (mm_le_n mm_le_0))) (X1_settle_b51_ok hz hd h0 hr)
      · refine ml_aload_n (pc := 23) dX1_settle_23 rfl mm_get_0 ?_
        refine mb_gr (pc := 24) dX1_settle_24 fl_X1_19 hr (fun c3 hr => ?_)
        refine ml_aload_n (pc := 27) dX1_settle_27 rfl mm_get_0 ?_
        refine ml_iload_n (pc := 28) dX1_settle_28 rfl (mm_get_s (mm_get_s mm_get_0)) ?_
        refine mb_cVi (pc := 29) (As := [.int i2]) (rest := [.ref c3]) dX1_settle_29 cw_X1_71 h0 hr (fun v hv => X1_waitingAt_ok hz (by omega) h0 hv) rfl (Nat.le_of_ble_eq_true rfl) (Nat.zero_le _) (Nat.zero_le _) (fun r4 hr => ?_)
        refine mb_ck hr (fun hb6 hr => ?_)
        refine mb_cVv (pc := 32) (As := [.int r4.1]) (rest := []) dX1_settle_32 cw_X1_91 hb6 hr (fun v hv => X10_emit_ok hz (by omega) hb6 hv) rfl (Nat.le_of_ble_eq_true rfl) (Nat.zero_le _) (Nat.zero_le _) (fun r5 hr => ?_)
        refine ml_aload_n (pc := 35) dX1_settle_35 rfl mm_get_0 ?_
        refine mg_dup (pc := 36) dX1_settle_36 rfl ?_
        refine mb_gi (pc := 37) dX1_settle_37 fl_X1_23 hr (fun x7 hr => ?_)
        refine mg_iconst (pc := 40) dX1_settle_40 kc_1 ?_
        refine mg_isub (pc := 41) dX1_settle_41 ?_
        refine mb_pi (pc := 42) dX1_settle_42 fp_X1_23 hr (fun m8 hr => ?_)
        refine ml_iinc (pc := 45) dX1_settle_45 (mm_get_s (mm_get_s mm_get_0)) (congrArg (fun z => i2 + z) kc_m1) (Nat.le_of_ble_eq_true rfl) (mm_st1_s mm_st1_i) ?_
        refine mg_goto (pc := 48) 7 dX1_settle_48 rfl ?_
        exact mg_weak (mm_le_s (mm_le_s (mm_le_s mm_le_0))) (ih _ _ _ hr)
def X1_settle (e : mm_E) (a0 : Nat) (i1 : Int32) (m : mm_V) : Option mm_V := (mm_gi e.1 m 1 6 a0 1).bind fun x1 => X1_settle_L7 e a0 i1 e.2.2 (x1 - (1 : Int32)) m
theorem X1_settle_ok {K : mm_K} {nx : Option Nat} {e : mm_E} (hz : e.2.1 = K.2.2.2.2) {d : Nat} (hd : 1 ≤ d) {a0 : Nat} {i1 : Int32} (h0 : e.1 a0 = some (1, 6)) {m : mm_V} {r : mm_V} (hr : X1_settle e a0 i1 m = some r) : mm_Cn K MX1_settle d (mm_Fv e.1 nx r) [.ref a0, .int i1] (e.1, m) nx := by
  obtain ⟨d, rfl⟩ : ∃ d', d = d' + 1 := ⟨d - 1, by omega⟩
  refine mm_entry (by decide) (Nat.le_of_ble_eq_true rfl) rfl (fun hok => ?_)
  unfold X1_settle at hr
  refine mg_weak (L' := [some (.ref a0), some (.int i1), none]) (mm_le_s (mm_le_s (mm_le_e mm_le_0))) ?_
  refine ml_aload_n (pc := 0) dX1_settle_0 rfl mm_get_0 ?_
  refine mb_gi (pc := 1) dX1_settle_1 fl_X1_23 hr (fun x1 hr => ?_)
  refine mg_iconst (pc := 4) dX1_settle_4 kc_1 ?_
  refine mg_isub (pc := 5) dX1_settle_5 ?_
  refine ml_istore_n (pc := 6) dX1_settle_6 rfl (Nat.le_of_ble_eq_true rfl) (mm_st1_s mm_st1_i) ?_
  exact mg_weak (mm_le_s (mm_le_s (mm_le_s mm_le_0))) (X1_settle_L7_ok hz hd h0 _ _ _ _ hr)
theorem dX10_setRule_0 : decode cX10_setRule 0 = .ok (.iload_n 1, 1) := by decide +kernel
theorem dX10_setRule_1 : decode cX10_setRule 1 = .ok (.ifCond .lt 26, 3) := by decide +kernel
theorem dX10_setRule_4 : decode cX10_setRule 4 = .ok (.iload_n 1, 1) := by decide +kernel
theorem dX10_setRule_5 : decode cX10_setRule 5 = .ok (.bipush 12, 2) := by decide +kernel
theorem dX10_setRule_7 : decode cX10_setRule 7 = .ok (.if_icmp .ge 20, 3) := by decide +kernel
theorem dX10_setRule_10 : decode cX10_setRule 10 = .ok (.aload_n 0, 1) := by decide +kernel
theorem dX10_setRule_11 : decode cX10_setRule 11 = .ok (.getfield 24, 3) := by decide +kernel
theorem dX10_setRule_14 : decode cX10_setRule 14 = .ok (.iload_n 1, 1) := by decide +kernel
theorem dX10_setRule_15 : decode cX10_setRule 15 = .ok (.iload_n 2, 1) := by decide +kernel
theorem dX10_setRule_16 : decode cX10_setRule 16 = .ok (.iastore, 1) := by decide +kernel
theorem dX10_setRule_17 : decode cX10_setRule 17 = .ok (.aload_n 0, 1) := by decide +kernel
theorem dX10_setRule_18 : decode cX10_setRule 18 = .ok (.getfield 27, 3) := by decide +kernel
theorem dX10_setRule_21 : decode cX10_setRule 21 = .ok (.iload_n 1, 1) := by decide +kernel
theorem dX10_setRule_22 : decode cX10_setRule 22 = .ok (.aload_n 0, 1) := by decide +kernel
theorem dX10_setRule_23 : decode cX10_setRule 23 = .ok (.getfield 47, 3) := by decide +kernel
theorem dX10_setRule_26 : decode cX10_setRule 26 = .ok (.iastore, 1) := by decide +kernel
theorem dX10_setRule_27 : decode cX10_setRule 27 = .ok (.return_, 1) := by decide +kernel
def X10_setRule_b27 (e : mm_E) (m : mm_V) : Option mm_V := some m
theorem X10_setRule_b27_ok {K : mm_K} {nx : Option Nat} {e : mm_E} (hz : e.2.1 = K.2.2.2.2) {d : Nat} (hd : 0 ≤ d) {a0 : Nat} (h0 : e.1 a0 = some (10, 11)) {m : mm_V} {r : mm_V} (hr : X10_setRule_b27 e m = some r) : mm_G K MX10_setRule d (mm_Fv e.1 nx r) 27 [none, none, none] [] (e.1, m) nx 0 0 := by
  unfold X10_setRule_b27 at hr
  exact mb_vret dX10_setRule_27 rfl hr
def X10_setRule (e : mm_E) (a0 : Nat) (i1 : Int32) (i2 : Int32) (m : mm_V) : Option mm_V := if i1 < 0 then (X10_setRule_b27 e   m) else (if (12 : Int32) ≤ i1 then (X10_setRule_b27 e   m) else ((mm_gr e.1 m 10 11 a0 3).bind fun c1 => (mm_si e.1 m c1 i1 i2).bind fun m2 => (mm_gr e.1 m2 10 11 a0 4).bind fun c3 => (mm_gi e.1 m2 10 11 a0 9).bind fun x4 => (mm_si e.1 m2 c3 i1 x4).bind fun m5 => X10_setRule_b27 e   m5))
theorem X10_setRule_ok {K : mm_K} {nx : Option Nat} {e : mm_E} (hz : e.2.1 = K.2.2.2.2) {d : Nat} (hd : 0 ≤ d) {a0 : Nat} {i1 : Int32} {i2 : Int32} (h0 : e.1 a0 = some (10, 11)) {m : mm_V} {r : mm_V} (hr : X10_setRule e a0 i1 i2 m = some r) : mm_Cn K MX10_setRule d (mm_Fv e.1 nx r) [.ref a0, .int i1, .int i2] (e.1, m) nx := by
  refine mm_entry (by decide) (Nat.le_of_ble_eq_true rfl) rfl (fun hok => ?_)
  unfold X10_setRule at hr
  refine mg_weak (L' := [some (.ref a0), some (.int i1), some (.int i2)]) (mm_le_s (mm_le_s (mm_le_s mm_le_0))) ?_
  refine ml_iload_n (pc := 0) dX10_setRule_0 rfl (mm_get_s mm_get_0) ?_
  refine mb_if_lt (pc := 1) 27 dX10_setRule_1 rfl hr (fun hr => ?_) (fun hr => ?_)
  · exact mg_weak (mm_le_n (mm_le_n (mm_le_n mm_le_0))) (X10_setRule_b27_ok hz hd h0 hr)
  · refine ml_iload_n (pc := 4) dX10_setRule_4 rfl (mm_get_s mm_get_0) ?_
    refine mg_bipush (pc := 5) dX10_setRule_5 kb_12 ?_
    refine mb_icmp_ge (pc := 7) 27 dX10_setRule_7 rfl hr (fun hr => ?_) (fun hr => ?_)
    · exact mg_weak (mm_le_n (mm_le_n (mm_le_n mm_le_0))) (X10_setRule_b27_ok hz hd h0 hr)
    · refine ml_aload_n (pc := 10) dX10_setRule_10 rfl mm_get_0 ?_
      refine mb_gr (pc := 11) dX10_setRule_11 fl_X10_24 hr (fun c1 hr => ?_)
      refine ml_iload_n (pc := 14) dX10_setRule_14 rfl (mm_get_s mm_get_0) ?_
      refine ml_iload_n (pc := 15) dX10_setRule_15 rfl (mm_get_s (mm_get_s mm_get_0)) ?_
      refine mb_si (pc := 16) dX10_setRule_16 hr (fun m2 hr => ?_)
      refine ml_aload_n (pc := 17) dX10_setRule_17 rfl mm_get_0 ?_
      refine mb_gr (pc := 18) dX10_setRule_18 fl_X10_27 hr (fun c3 hr => ?_)
      refine ml_iload_n (pc := 21) dX10_setRule_21 rfl (mm_get_s mm_get_0) ?_
      refine ml_aload_n (pc := 22) dX10_setRule_22 rfl mm_get_0 ?_
      refine mb_gi (pc := 23) dX10_setRule_23 fl_X10_47 hr (fun x4 hr => ?_)
      refine mb_si (pc := 26) dX10_setRule_26 hr (fun m5 hr => ?_)
      exact mg_weak (mm_le_n (mm_le_n (mm_le_n mm_le_0))) (X10_setRule_b27_ok hz hd h0 hr)
theorem dX1_push_0 : decode cX1_push 0 = .ok (.aload_n 0, 1) := by decide +kernel
theorem dX1_push_1 : decode cX1_push 1 = .ok (.getfield 23, 3) := by decide +kernel
theorem dX1_push_4 : decode cX1_push 4 = .ok (.ifCond .lt 35, 3) := by decide +kernel
theorem dX1_push_7 : decode cX1_push 7 = .ok (.aload_n 0, 1) := by decide +kernel
theorem dX1_push_8 : decode cX1_push 8 = .ok (.getfield 23, 3) := by decide +kernel
theorem dX1_push_11 : decode cX1_push 11 = .ok (.aload_n 0, 1) := by decide +kernel
theorem dX1_push_12 : decode cX1_push 12 = .ok (.getfield 9, 3) := by decide +kernel
theorem dX1_push_15 : decode cX1_push 15 = .ok (.arraylength, 1) := by decide +kernel
theorem dX1_push_16 : decode cX1_push 16 = .ok (.if_icmp .ge 23, 3) := by decide +kernel
theorem dX1_push_19 : decode cX1_push 19 = .ok (.aload_n 0, 1) := by decide +kernel
theorem dX1_push_20 : decode cX1_push 20 = .ok (.getfield 9, 3) := by decide +kernel
theorem dX1_push_23 : decode cX1_push 23 = .ok (.aload_n 0, 1) := by decide +kernel
theorem dX1_push_24 : decode cX1_push 24 = .ok (.getfield 23, 3) := by decide +kernel
theorem dX1_push_27 : decode cX1_push 27 = .ok (.iload_n 1, 1) := by decide +kernel
theorem dX1_push_28 : decode cX1_push 28 = .ok (.iastore, 1) := by decide +kernel
theorem dX1_push_29 : decode cX1_push 29 = .ok (.aload_n 0, 1) := by decide +kernel
theorem dX1_push_30 : decode cX1_push 30 = .ok (.dup, 1) := by decide +kernel
theorem dX1_push_31 : decode cX1_push 31 = .ok (.getfield 23, 3) := by decide +kernel
theorem dX1_push_34 : decode cX1_push 34 = .ok (.iconst 1, 1) := by decide +kernel
theorem dX1_push_35 : decode cX1_push 35 = .ok (.iadd, 1) := by decide +kernel
theorem dX1_push_36 : decode cX1_push 36 = .ok (.putfield 23, 3) := by decide +kernel
theorem dX1_push_39 : decode cX1_push 39 = .ok (.return_, 1) := by decide +kernel
def X1_push_b39 (e : mm_E) (m : mm_V) : Option mm_V := some m
theorem X1_push_b39_ok {K : mm_K} {nx : Option Nat} {e : mm_E} (hz : e.2.1 = K.2.2.2.2) {d : Nat} (hd : 0 ≤ d) {a0 : Nat} (h0 : e.1 a0 = some (1, 6)) {m : mm_V} {r : mm_V} (hr : X1_push_b39 e m = some r) : mm_G K MX1_push d (mm_Fv e.1 nx r) 39 [none, none] [] (e.1, m) nx 0 0 := by
  unfold X1_push_b39 at hr
  exact mb_vret dX1_push_39 rfl hr
def X1_push (e : mm_E) (a0 : Nat) (i1 : Int32) (m : mm_V) : Option mm_V := (mm_gi e.1 m 1 6 a0 1).bind fun x1 => if x1 < 0 then (X1_push_b39 e   m) else ((mm_gi e.1 m 1 6 a0 1).bind fun x2 => (mm_gr e.1 m 1 6 a0 0).bind fun c3 => (mm_ln e.1 c3).bind fun x4 => if x4 ≤ x2 then (X1_push_b39 e   m) else ((mm_gr e.1 m 1 6 a0 0).bind fun c5 => (mm_gi e.1 m 1 6 a0 1).bind fun x6 => (mm_si e.1 m c5 x6 i1).bind fun m7 => (mm_gi e.1 m7 1 6 a0 1).bind fun x8 => (mm_pf e.1 m7 1 6 a0 1 (.int (x8 + (1 : Int32)))).bind fun m9 => X1_push_b39 e   m9))
theorem X1_push_ok {K : mm_K} {nx : Option Nat} {e : mm_E} (hz : e.2.1 = K.2.2.2.2) {d : Nat} (hd : 0 ≤ d) {a0 : Nat} {i1 : Int32} (h0 : e.1 a0 = some (1, 6)) {m : mm_V} {r : mm_V} (hr : X1_push e a0 i1 m = some r) : mm_Cn K MX1_push d (mm_Fv e.1 nx r) [.ref a0, .int i1] (e.1, m) nx := by
  refine mm_entry (by decide) (Nat.le_of_ble_eq_true rfl) rfl (fun hok => ?_)
  unfold X1_push at hr
  refine mg_weak (L' := [some (.ref a0), some (.int i1)]) (mm_le_s (mm_le_s mm_le_0)) ?_
  refine ml_aload_n (pc := 0) dX1_push_0 rfl mm_get_0 ?_
  refine mb_gi (pc := 1) dX1_push_1 fl_X1_23 hr (fun x1 hr => ?_)
  refine mb_if_lt (pc := 4) 39 dX1_push_4 rfl hr (fun hr => ?_) (fun hr => ?_)
  · exact mg_weak (mm_le_n (mm_le_n mm_le_0)) (X1_push_b39_ok hz hd h0 hr)
  · refine ml_aload_n (pc := 7) dX1_push_7 rfl mm_get_0 ?_
    refine mb_gi (pc := 8) dX1_push_8 fl_X1_23 hr (fun x2 hr => ?_)
    refine ml_aload_n (pc := 11) dX1_push_11 rfl mm_get_0 ?_
    refine mb_gr (pc := 12) dX1_push_12 fl_X1_9 hr (fun c3 hr => ?_)
    refine mb_ln (pc := 15) dX1_push_15 hr (fun x4 hr => ?_)
    refine mb_icmp_ge (pc := 16) 39 dX1_push_16 rfl hr (fun hr => ?_) (fun hr => ?_)
    · exact mg_weak (mm_le_n (mm_le_n mm_le_0)) (X1_push_b39_ok hz hd h0 hr)
    · refine ml_aload_n (pc := 19) dX1_push_19 rfl mm_get_0 ?_
      refine mb_gr (pc := 20) dX1_push_20 fl_X1_9 hr (fun c5 hr => ?_)
      refine ml_aload_n (pc := 23) dX1_push_23 rfl mm_get_0 ?_
      refine mb_gi (pc := 24) dX1_push_24 fl_X1_23 hr (fun x6 hr => ?_)
      refine ml_iload_n (pc := 27) dX1_push_27 rfl (mm_get_s mm_get_0) ?_
      refine mb_si (pc := 28) dX1_push_28 hr (fun m7 hr => ?_)
      refine ml_aload_n (pc := 29) dX1_push_29 rfl mm_get_0 ?_
      refine mg_dup (pc := 30) dX1_push_30 rfl ?_
      refine mb_gi (pc := 31) dX1_push_31 fl_X1_23 hr (fun x8 hr => ?_)
      refine mg_iconst (pc := 34) dX1_push_34 kc_1 ?_
      refine mg_iadd (pc := 35) dX1_push_35 ?_
      refine mb_pi (pc := 36) dX1_push_36 fp_X1_23 hr (fun m9 hr => ?_)
      exact mg_weak (mm_le_n (mm_le_n mm_le_0)) (X1_push_b39_ok hz hd h0 hr)
