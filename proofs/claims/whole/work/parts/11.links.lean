abbrev mX0_empty : sl_F := (0, RX0, yX0_empty, cX0_empty, 1, none, 0, 0)
abbrev mX0_holds : sl_F := (0, RX0, yX0_holds, cX0_holds, 2, (some .boolean), 0, 0)
abbrev mX0_add : sl_F := (0, RX0, yX0_add, cX0_add, 7, (some .int), 0, 0)
abbrev mX0_put : sl_F := (0, RX0, yX0_put, cX0_put, 2, none, 0, 0)
abbrev mX0_addLike : sl_F := (0, RX0, yX0_addLike, cX0_addLike, 10, (some .int), 1, 26)
abbrev mX0_addRange : sl_F := (0, RX0, yX0_addRange, cX0_addRange, 9, none, 2, 55)
abbrev mX0_copyFrom : sl_F := (0, RX0, yX0_copyFrom, cX0_copyFrom, 2, none, 3, 83)
abbrev mX0_property : sl_F := (0, RX0, yX0_property, cX0_property, 3, (some .int), 1, 23)
abbrev mX0_symbol : sl_F := (0, RX0, yX0_symbol, cX0_symbol, 3, (some .int), 0, 0)
abbrev mX0_position : sl_F := (0, RX0, yX0_position, cX0_position, 4, (some .int), 0, 0)
abbrev mX0_isSpan : sl_F := (0, RX0, yX0_isSpan, cX0_isSpan, 3, (some .boolean), 1, 21)
abbrev mX0_following : sl_F := (0, RX0, yX0_following, cX0_following, 3, (some .int), 0, 0)
abbrev mX0_loopAround : sl_F := (0, RX0, yX0_loopAround, cX0_loopAround, 5, (some .int), 0, 0)
abbrev mX0_behind : sl_F := (0, RX0, yX0_behind, cX0_behind, 7, (some .int), 0, 0)
abbrev mX0_target : sl_F := (0, RX0, yX0_target, cX0_target, 6, (some .int), 1, 26)
abbrev mX0_enter : sl_F := (0, RX0, yX0_enter, cX0_enter, 6, (some .int), 1, 26)
abbrev mX0_pick : sl_F := (0, RX0, yX0_pick, cX0_pick, 11, (some .int), 1, 21)
abbrev mX0_mayFailToDivide : sl_F := (0, RX0, yX0_mayFailToDivide, cX0_mayFailToDivide, 5, (some .boolean), 2, 44)
abbrev mX0_endOfOperand : sl_F := (0, RX0, yX0_endOfOperand, cX0_endOfOperand, 5, (some .int), 1, 20)
abbrev mX1_forget : sl_F := (0, RX1, yX1_forget, cX1_forget, 1, none, 0, 0)
abbrev mX1_study : sl_F := (0, RX1, yX1_study, cX1_study, 3, none, 4, 108)
abbrev mX1_program : sl_F := (0, RX1, yX1_program, cX1_program, 1, (some (.object "SpanLifts$Code")), 0, 0)
abbrev mX1_examine : sl_F := (0, RX1, yX1_examine, cX1_examine, 9, none, 4, 108)
abbrev mX1_reason : sl_F := (0, RX1, yX1_reason, cX1_reason, 3, (some .int), 1, 20)
abbrev mX1_findSet : sl_F := (0, RX1, yX1_findSet, cX1_findSet, 6, none, 3, 78)
abbrev mX1_passOn : sl_F := (0, RX1, yX1_passOn, cX1_passOn, 8, none, 2, 51)
abbrev mX1_reach : sl_F := (0, RX1, yX1_reach, cX1_reach, 4, none, 0, 0)
abbrev mX1_findLive : sl_F := (0, RX1, yX1_findLive, cX1_findLive, 9, none, 3, 80)
abbrev mX1_liveAt : sl_F := (0, RX1, yX1_liveAt, cX1_liveAt, 10, (some .int), 2, 51)
abbrev mX2_give : sl_F := (0, RX2, yX2_give, cX2_give, 3, none, 0, 0)
abbrev mX3_execute : sl_F := (0, RX3, yX3_execute, cX3_execute, 7, (some .int), 5, 126)
abbrev mX3_perform : sl_F := (0, RX3, yX3_perform, cX3_perform, 8, (some .int), 4, 99)
abbrev mX3_walk : sl_F := (0, RX3, yX3_walk, cX3_walk, 4, (some .int), 3, 76)
abbrev mX3_step : sl_F := (0, RX3, yX3_step, cX3_step, 6, (some .int), 2, 51)
abbrev mX3_print : sl_F := (0, RX3, yX3_print, cX3_print, 2, none, 0, 0)
abbrev mX3_evaluate : sl_F := (0, RX3, yX3_evaluate, cX3_evaluate, 8, (some .int), 1, 23)
abbrev mX3_valueOf : sl_F := (0, RX3, yX3_valueOf, cX3_valueOf, 3, (some .int), 0, 0)
abbrev mX3_apply : sl_F := (0, RX3, yX3_apply, cX3_apply, 4, (some .int), 0, 0)
abbrev mX4_parse : sl_F := (0, RX4, yX4_parse, cX4_parse, 6, (some .boolean), 3, 70)
abbrev mX4_look : sl_F := (0, RX4, yX4_look, cX4_look, 1, (some .int), 0, 0)
abbrev mX4_expect : sl_F := (0, RX4, yX4_expect, cX4_expect, 2, (some .boolean), 1, 20)
abbrev mX4_closeBlock : sl_F := (0, RX4, yX4_closeBlock, cX4_closeBlock, 1, (some .boolean), 2, 41)
abbrev mX4_readStatement : sl_F := (0, RX4, yX4_readStatement, cX4_readStatement, 5, (some .boolean), 2, 46)
abbrev mX4_inLoop : sl_F := (0, RX4, yX4_inLoop, cX4_inLoop, 1, (some .boolean), 1, 24)
abbrev mX4_readExpression : sl_F := (0, RX4, yX4_readExpression, cX4_readExpression, 6, (some .boolean), 1, 21)
abbrev mX4_kindOf : sl_F := (0, RX4, yX4_kindOf, cX4_kindOf, 1, (some .int), 1, 20)
abbrev mX5_copyFrom : sl_F := (0, RX5, yX5_copyFrom, cX5_copyFrom, 2, none, 4, 104)
abbrev mX5_takeFrom : sl_F := (0, RX5, yX5_takeFrom, cX5_takeFrom, 4, none, 3, 83)
abbrev mX5_formalAt : sl_F := (0, RX5, yX5_formalAt, cX5_formalAt, 3, (some .int), 2, 51)
abbrev mX7_hasRoutine : sl_F := (0, RX7, yX7_hasRoutine, cX7_hasRoutine, 2, (some .boolean), 0, 0)
abbrev mX7_routineProperty : sl_F := (0, RX7, yX7_routineProperty, cX7_routineProperty, 4, (some .int), 3, 68)
abbrev mX7_callsOf : sl_F := (0, RX7, yX7_callsOf, cX7_callsOf, 4, (some .int), 1, 22)
abbrev mX7_isCallOf : sl_F := (0, RX7, yX7_isCallOf, cX7_isCallOf, 3, (some .boolean), 0, 0)
abbrev mX7_isCall : sl_F := (0, RX7, yX7_isCall, cX7_isCall, 2, (some .boolean), 0, 0)
abbrev mX7_exitsOf : sl_F := (0, RX7, yX7_exitsOf, cX7_exitsOf, 2, (some .int), 1, 21)
abbrev mX7_setBy : sl_F := (0, RX7, yX7_setBy, cX7_setBy, 3, (some .int), 1, 23)
abbrev mX7_changedBy : sl_F := (0, RX7, yX7_changedBy, cX7_changedBy, 2, (some .int), 1, 23)
abbrev mX7_buildLifted : sl_F := (0, RX7, yX7_buildLifted, cX7_buildLifted, 9, none, 5, 125)
abbrev mX7_buildSettled : sl_F := (0, RX7, yX7_buildSettled, cX7_buildSettled, 6, none, 5, 125)
abbrev mX7_placeOf : sl_F := (0, RX7, yX7_placeOf, cX7_placeOf, 2, (some .int), 0, 0)
abbrev mX7_keep : sl_F := (0, RX7, yX7_keep, cX7_keep, 3, (some .int), 2, 55)
abbrev mX7_addCall : sl_F := (0, RX7, yX7_addCall, cX7_addCall, 7, none, 4, 99)
abbrev mX7_putNames : sl_F := (0, RX7, yX7_putNames, cX7_putNames, 7, none, 3, 73)
abbrev mX8_forget : sl_F := (0, RX8, yX8_forget, cX8_forget, 1, none, 0, 0)
abbrev mX8_find : sl_F := (0, RX8, yX8_find, cX8_find, 11, none, 5, 136)
abbrev mX8_replacement : sl_F := (0, RX8, yX8_replacement, cX8_replacement, 2, (some .int), 1, 21)
abbrev mX8_renamingAt : sl_F := (0, RX8, yX8_renamingAt, cX8_renamingAt, 3, (some .int), 0, 0)
abbrev mX8_take : sl_F := (0, RX8, yX8_take, cX8_take, 3, none, 0, 0)
abbrev mX8_agrees : sl_F := (0, RX8, yX8_agrees, cX8_agrees, 3, (some .boolean), 1, 23)
abbrev mX8_inBlock : sl_F := (0, RX8, yX8_inBlock, cX8_inBlock, 5, (some .int), 1, 22)
abbrev mX8_lastOf : sl_F := (0, RX8, yX8_lastOf, cX8_lastOf, 5, (some .int), 1, 22)
abbrev mX8_matches : sl_F := (0, RX8, yX8_matches, cX8_matches, 6, (some .boolean), 3, 71)
abbrev mX8_sameShape : sl_F := (0, RX8, yX8_sameShape, cX8_sameShape, 3, (some .boolean), 0, 0)
abbrev mX8_samePlace : sl_F := (0, RX8, yX8_samePlace, cX8_samePlace, 5, (some .boolean), 0, 0)
abbrev mX8_sameNames : sl_F := (0, RX8, yX8_sameNames, cX8_sameNames, 9, (some .boolean), 2, 43)
abbrev mX8_replaces : sl_F := (0, RX8, yX8_replaces, cX8_replaces, 3, (some .boolean), 1, 21)
abbrev mX8_packed : sl_F := (0, RX8, yX8_packed, cX8_packed, 3, (some .int), 0, 0)
abbrev mX9_type : sl_F := (0, RX9, yX9_type, cX9_type, 2, (some .int), 1, 22)
abbrev mX9_clear : sl_F := (0, RX9, yX9_clear, cX9_clear, 2, (some .int), 0, 0)
abbrev mX9_reads : sl_F := (0, RX9, yX9_reads, cX9_reads, 2, (some .int), 4, 95)
abbrev mX9_statement : sl_F := (0, RX9, yX9_statement, cX9_statement, 4, (some .int), 2, 45)
abbrev mX9_sign : sl_F := (0, RX9, yX9_sign, cX9_sign, 4, (some .int), 1, 22)
abbrev mX9_runs : sl_F := (0, RX9, yX9_runs, cX9_runs, 3, (some .int), 6, 152)
abbrev mX9_ran : sl_F := (0, RX9, yX9_ran, cX9_ran, 3, (some .int), 1, 22)
abbrev mX9_span : sl_F := (0, RX9, yX9_span, cX9_span, 4, (some .int), 6, 158)
abbrev mX9_hands : sl_F := (0, RX9, yX9_hands, cX9_hands, 6, (some .int), 6, 158)
abbrev mX9_live : sl_F := (0, RX9, yX9_live, cX9_live, 6, (some .int), 6, 158)
abbrev mX9_sure : sl_F := (0, RX9, yX9_sure, cX9_sure, 3, (some .int), 5, 130)
abbrev mX9_alike : sl_F := (0, RX9, yX9_alike, cX9_alike, 5, (some .int), 6, 166)
abbrev mX9_lifts : sl_F := (0, RX9, yX9_lifts, cX9_lifts, 4, (some .int), 6, 166)
abbrev mX9_method : sl_F := (0, RX9, yX9_method, cX9_method, 3, (some .int), 4, 91)
abbrev mX9_formal : sl_F := (0, RX9, yX9_formal, cX9_formal, 5, (some .int), 3, 73)
abbrev mX9_settles : sl_F := (0, RX9, yX9_settles, cX9_settles, 3, (some .int), 6, 150)
abbrev mX9_back : sl_F := (0, RX9, yX9_back, cX9_back, 1, (some .int), 1, 22)
abbrev mX9_told : sl_F := (0, RX9, yX9_told, cX9_told, 2, (some .int), 2, 41)
abbrev mX9_digest : sl_F := (0, RX9, yX9_digest, cX9_digest, 6, (some .long), 4, 91)
abbrev mX9_refuse : sl_F := (0, RX9, yX9_refuse, cX9_refuse, 3, (some .int), 0, 0)
abbrev mX9_tally : sl_F := (0, RX9, yX9_tally, cX9_tally, 2, (some .int), 1, 20)
abbrev mX9_present : sl_F := (0, RX9, yX9_present, cX9_present, 1, (some (.object "SpanLifts$State")), 0, 0)
abbrev mX9_spare : sl_F := (0, RX9, yX9_spare, cX9_spare, 1, (some (.object "SpanLifts$State")), 0, 0)
abbrev mX9_advance : sl_F := (0, RX9, yX9_advance, cX9_advance, 1, none, 1, 21)
abbrev mX9_choose : sl_F := (0, RX9, yX9_choose, cX9_choose, 3, (some .boolean), 5, 136)
abbrev mX9_isOperator : sl_F := (0, RX9, yX9_isOperator, cX9_isOperator, 1, (some .boolean), 0, 0)
abbrev mX9_isDigit : sl_F := (0, RX9, yX9_isDigit, cX9_isDigit, 1, (some .boolean), 0, 0)
abbrev mX9_variableOf : sl_F := (0, RX9, yX9_variableOf, cX9_variableOf, 1, (some .int), 0, 0)
abbrev mX9_has : sl_F := (0, RX9, yX9_has, cX9_has, 2, (some .boolean), 0, 0)
abbrev mX9_renamed : sl_F := (0, RX9, yX9_renamed, cX9_renamed, 2, (some .int), 0, 0)
abbrev mX9_renamedSet : sl_F := (0, RX9, yX9_renamedSet, cX9_renamedSet, 4, (some .int), 0, 0)
abbrev mX10_in : sl_F := (1, RX10, yX10_in, cX10_in, 3, (some .boolean), 0, 0)
abbrev mX10_has : sl_F := (1, RX10, yX10_has, cX10_has, 2, (some .boolean), 0, 0)
abbrev mX10_bad : sl_F := (1, RX10, yX10_bad, cX10_bad, 1, (some .int), 0, 0)
abbrev mX10_no : sl_F := (1, RX10, yX10_no, cX10_no, 1, (some .int), 0, 0)
abbrev mX10_full : sl_F := (1, RX10, yX10_full, cX10_full, 1, (some .int), 0, 0)
abbrev mX10_keepsState : sl_F := (1, RX10, yX10_keepsState, cX10_keepsState, 2, none, 0, 0)
abbrev mX10_type : sl_F := (1, RX10, yX10_type, cX10_type, 2, (some .int), 1, 22)
abbrev mX10_clear : sl_F := (1, RX10, yX10_clear, cX10_clear, 2, (some .int), 0, 0)
abbrev mX10_look : sl_F := (1, RX10, yX10_look, cX10_look, 1, (some .int), 0, 0)
abbrev mX10_take : sl_F := (1, RX10, yX10_take, cX10_take, 2, (some .int), 1, 20)
abbrev mX10_isAct : sl_F := (1, RX10, yX10_isAct, cX10_isAct, 1, (some .boolean), 0, 0)
abbrev mX10_readsE : sl_F := (1, RX10, yX10_readsE, cX10_readsE, 5, (some .boolean), 2, 41)
abbrev mX10_isInLoop : sl_F := (1, RX10, yX10_isInLoop, cX10_isInLoop, 3, (some .boolean), 0, 0)
abbrev mX10_kindOf : sl_F := (1, RX10, yX10_kindOf, cX10_kindOf, 1, (some .int), 1, 22)
abbrev mX10_opens : sl_F := (1, RX10, yX10_opens, cX10_opens, 3, none, 0, 0)
abbrev mX10_readsStatement : sl_F := (1, RX10, yX10_readsStatement, cX10_readsStatement, 5, (some .boolean), 3, 65)
abbrev mX10_closes : sl_F := (1, RX10, yX10_closes, cX10_closes, 2, none, 2, 41)
abbrev mX10_reads : sl_F := (1, RX10, yX10_reads, cX10_reads, 3, (some .int), 4, 89)
abbrev mX10_manyOf : sl_F := (1, RX10, yX10_manyOf, cX10_manyOf, 2, (some .int), 0, 0)
abbrev mX10_callAt : sl_F := (1, RX10, yX10_callAt, cX10_callAt, 3, (some .int), 0, 0)
abbrev mX10_isVariable : sl_F := (1, RX10, yX10_isVariable, cX10_isVariable, 1, (some .int), 1, 22)
abbrev mX10_listSet : sl_F := (1, RX10, yX10_listSet, cX10_listSet, 4, (some .int), 0, 0)
abbrev mX10_laysStatements : sl_F := (1, RX10, yX10_laysStatements, cX10_laysStatements, 7, none, 2, 42)
abbrev mX10_areOfBlock : sl_F := (1, RX10, yX10_areOfBlock, cX10_areOfBlock, 4, (some .boolean), 0, 0)
abbrev mX10_behind : sl_F := (1, RX10, yX10_behind, cX10_behind, 5, (some .int), 1, 23)
abbrev mX10_firstOf : sl_F := (1, RX10, yX10_firstOf, cX10_firstOf, 5, (some .int), 0, 0)
abbrev mX10_way : sl_F := (1, RX10, yX10_way, cX10_way, 8, none, 0, 0)
abbrev mX10_leaving : sl_F := (1, RX10, yX10_leaving, cX10_leaving, 6, none, 2, 47)
abbrev mX10_callSets : sl_F := (1, RX10, yX10_callSets, cX10_callSets, 9, (some .int), 1, 23)
abbrev mX10_placeOf : sl_F := (1, RX10, yX10_placeOf, cX10_placeOf, 1, (some .int), 0, 0)
abbrev mX10_laysWays : sl_F := (1, RX10, yX10_laysWays, cX10_laysWays, 5, none, 3, 72)
abbrev mX10_laysLive : sl_F := (1, RX10, yX10_laysLive, cX10_laysLive, 8, none, 1, 21)
abbrev mX10_lays : sl_F := (1, RX10, yX10_lays, cX10_lays, 3, none, 4, 96)
abbrev mX10_isStatement : sl_F := (1, RX10, yX10_isStatement, cX10_isStatement, 2, (some .boolean), 1, 22)
abbrev mX10_isSpan : sl_F := (1, RX10, yX10_isSpan, cX10_isSpan, 3, (some .boolean), 2, 43)
abbrev mX10_leavesBy : sl_F := (1, RX10, yX10_leavesBy, cX10_leavesBy, 5, (some .int), 1, 22)
abbrev mX10_walksSpan : sl_F := (1, RX10, yX10_walksSpan, cX10_walksSpan, 8, none, 2, 46)
abbrev mX10_laysSpan : sl_F := (1, RX10, yX10_laysSpan, cX10_laysSpan, 8, none, 3, 73)
abbrev mX10_sizeOf : sl_F := (1, RX10, yX10_sizeOf, cX10_sizeOf, 3, (some .int), 1, 21)
abbrev mX10_lists : sl_F := (1, RX10, yX10_lists, cX10_lists, 3, none, 1, 21)
abbrev mX10_listOf : sl_F := (1, RX10, yX10_listOf, cX10_listOf, 8, (some .int), 3, 68)
abbrev mX10_meets : sl_F := (1, RX10, yX10_meets, cX10_meets, 6, (some .int), 2, 43)
abbrev mX10_span : sl_F := (1, RX10, yX10_span, cX10_span, 4, (some .int), 5, 118)
abbrev mX10_hands : sl_F := (1, RX10, yX10_hands, cX10_hands, 5, (some .int), 5, 118)
abbrev mX10_live : sl_F := (1, RX10, yX10_live, cX10_live, 6, (some .int), 5, 118)
abbrev mX10_sure : sl_F := (1, RX10, yX10_sure, cX10_sure, 3, (some .int), 5, 118)
abbrev mX10_lengthOf : sl_F := (1, RX10, yX10_lengthOf, cX10_lengthOf, 5, (some .int), 0, 0)
abbrev mX10_lastOf : sl_F := (1, RX10, yX10_lastOf, cX10_lastOf, 6, (some .int), 1, 23)
abbrev mX10_answersTo : sl_F := (1, RX10, yX10_answersTo, cX10_answersTo, 4, (some .boolean), 0, 0)
abbrev mX10_areAlike : sl_F := (1, RX10, yX10_areAlike, cX10_areAlike, 10, (some .boolean), 1, 23)
abbrev mX10_answered : sl_F := (1, RX10, yX10_answered, cX10_answered, 4, (some .int), 1, 21)
abbrev mX10_hasCall : sl_F := (1, RX10, yX10_hasCall, cX10_hasCall, 5, (some .boolean), 0, 0)
abbrev mX10_laysAlike : sl_F := (1, RX10, yX10_laysAlike, cX10_laysAlike, 11, none, 4, 100)
abbrev mX10_alike : sl_F := (1, RX10, yX10_alike, cX10_alike, 5, (some .int), 5, 130)
abbrev mX10_calls : sl_F := (1, RX10, yX10_calls, cX10_calls, 7, none, 0, 0)
abbrev mX10_answeredList : sl_F := (1, RX10, yX10_answeredList, cX10_answeredList, 5, (some .int), 0, 0)
abbrev mX10_lastTold : sl_F := (1, RX10, yX10_lastTold, cX10_lastTold, 3, (some .int), 0, 0)
abbrev mX10_lifts : sl_F := (1, RX10, yX10_lifts, cX10_lifts, 6, (some .int), 5, 130)
abbrev mX10_isMethod : sl_F := (1, RX10, yX10_isMethod, cX10_isMethod, 2, (some .boolean), 1, 22)
abbrev mX10_settles : sl_F := (1, RX10, yX10_settles, cX10_settles, 6, (some .int), 2, 43)
abbrev mX10_endOf : sl_F := (1, RX10, yX10_endOf, cX10_endOf, 2, (some .int), 0, 0)
abbrev mX10_partEnd : sl_F := (1, RX10, yX10_partEnd, cX10_partEnd, 5, (some .int), 1, 20)
abbrev mX10_mayFail : sl_F := (1, RX10, yX10_mayFail, cX10_mayFail, 6, (some .boolean), 2, 44)
abbrev mX10_methodIs : sl_F := (1, RX10, yX10_methodIs, cX10_methodIs, 5, (some .int), 3, 69)
abbrev mX10_method : sl_F := (1, RX10, yX10_method, cX10_method, 3, (some .int), 4, 93)
abbrev mX10_formal : sl_F := (1, RX10, yX10_formal, cX10_formal, 5, (some .int), 2, 43)
abbrev mX10_statementIs : sl_F := (1, RX10, yX10_statementIs, cX10_statementIs, 5, (some .int), 1, 23)
abbrev mX10_statement : sl_F := (1, RX10, yX10_statement, cX10_statement, 3, (some .int), 5, 118)
abbrev mX10_signOf : sl_F := (1, RX10, yX10_signOf, cX10_signOf, 6, (some .int), 0, 0)
abbrev mX10_sign : sl_F := (1, RX10, yX10_sign, cX10_sign, 3, (some .int), 5, 118)
abbrev mX10_works : sl_F := (1, RX10, yX10_works, cX10_works, 9, none, 1, 22)
abbrev mX10_done : sl_F := (1, RX10, yX10_done, cX10_done, 3, (some .int), 0, 0)
abbrev mX10_sets : sl_F := (1, RX10, yX10_sets, cX10_sets, 4, none, 0, 0)
abbrev mX10_steps : sl_F := (1, RX10, yX10_steps, cX10_steps, 5, (some .int), 2, 50)
abbrev mX10_goesThrough : sl_F := (1, RX10, yX10_goesThrough, cX10_goesThrough, 7, (some .int), 3, 74)
abbrev mX10_takesBack : sl_F := (1, RX10, yX10_takesBack, cX10_takesBack, 5, none, 1, 23)
abbrev mX10_wayBy : sl_F := (1, RX10, yX10_wayBy, cX10_wayBy, 4, (some .int), 0, 0)
abbrev mX10_runs : sl_F := (1, RX10, yX10_runs, cX10_runs, 8, (some .int), 5, 118)
abbrev mX10_ran : sl_F := (1, RX10, yX10_ran, cX10_ran, 3, (some .int), 1, 22)
abbrev mX10_back : sl_F := (1, RX10, yX10_back, cX10_back, 2, (some .int), 1, 20)
abbrev mX10_toldOf : sl_F := (1, RX10, yX10_toldOf, cX10_toldOf, 2, (some .int), 5, 118)
abbrev mX10_told : sl_F := (1, RX10, yX10_told, cX10_told, 2, (some .int), 6, 139)
abbrev mX10_digest : sl_F := (1, RX10, yX10_digest, cX10_digest, 5, (some .long), 6, 139)
abbrev mJ6_bitCount_0f7a4 : sl_F := (0, RJ6, yJ6_bitCount_0f7a4, cJ6_bitCount_0f7a4, 1, (some .int), 0, 0)
theorem gl_1 {w : Cond} (h : w ∈ tables_1_1) (g : goodWord w = true) : w ∈ sl_GL := List.mem_filter.mpr ⟨List.mem_append_right _ (List.mem_append_left _ h), g⟩
theorem gl_2 {w : Cond} (h : w ∈ tables_1_2) (g : goodWord w = true) : w ∈ sl_GL := List.mem_filter.mpr ⟨List.mem_append_right _ (List.mem_append_right _ (List.mem_append_left _ h)), g⟩
theorem gl_3 {w : Cond} (h : w ∈ tables_1_3) (g : goodWord w = true) : w ∈ sl_GL := List.mem_filter.mpr ⟨List.mem_append_right _ (List.mem_append_right _ (List.mem_append_right _ (List.mem_append_left _ h))), g⟩
theorem gl_4 {w : Cond} (h : w ∈ tables_1_4) (g : goodWord w = true) : w ∈ sl_GL := List.mem_filter.mpr ⟨List.mem_append_right _ (List.mem_append_right _ (List.mem_append_right _ (List.mem_append_right _ (List.mem_append_left _ h)))), g⟩
theorem gl_5 {w : Cond} (h : w ∈ tables_1_5) (g : goodWord w = true) : w ∈ sl_GL := List.mem_filter.mpr ⟨List.mem_append_right _ (List.mem_append_right _ (List.mem_append_right _ (List.mem_append_right _ (List.mem_append_right _ (List.mem_append_left _ h))))), g⟩
theorem gl_6 {w : Cond} (h : w ∈ tables_1_6) (g : goodWord w = true) : w ∈ sl_GL := List.mem_filter.mpr ⟨List.mem_append_right _ (List.mem_append_right _ (List.mem_append_right _ (List.mem_append_right _ (List.mem_append_right _ (List.mem_append_right _ (h)))))), g⟩
theorem gn_1 {w : Cond} (h : w ∈ tables_1_1) (g : sl_isN w = true) : w ∈ sl_NT := List.mem_filter.mpr ⟨List.mem_append_right _ (List.mem_append_left _ h), g⟩
theorem gn_2 {w : Cond} (h : w ∈ tables_1_2) (g : sl_isN w = true) : w ∈ sl_NT := List.mem_filter.mpr ⟨List.mem_append_right _ (List.mem_append_right _ (List.mem_append_left _ h)), g⟩
theorem gn_3 {w : Cond} (h : w ∈ tables_1_3) (g : sl_isN w = true) : w ∈ sl_NT := List.mem_filter.mpr ⟨List.mem_append_right _ (List.mem_append_right _ (List.mem_append_right _ (List.mem_append_left _ h))), g⟩
theorem gn_4 {w : Cond} (h : w ∈ tables_1_4) (g : sl_isN w = true) : w ∈ sl_NT := List.mem_filter.mpr ⟨List.mem_append_right _ (List.mem_append_right _ (List.mem_append_right _ (List.mem_append_right _ (List.mem_append_left _ h)))), g⟩
theorem gn_5 {w : Cond} (h : w ∈ tables_1_5) (g : sl_isN w = true) : w ∈ sl_NT := List.mem_filter.mpr ⟨List.mem_append_right _ (List.mem_append_right _ (List.mem_append_right _ (List.mem_append_right _ (List.mem_append_right _ (List.mem_append_left _ h))))), g⟩
theorem gn_6 {w : Cond} (h : w ∈ tables_1_6) (g : sl_isN w = true) : w ∈ sl_NT := List.mem_filter.mpr ⟨List.mem_append_right _ (List.mem_append_right _ (List.mem_append_right _ (List.mem_append_right _ (List.mem_append_right _ (List.mem_append_right _ (h)))))), g⟩
theorem gs_1 {q : MethodName × Nat} (h : q ∈ lw_privs_1) (g : goodWord (Cond.selects q.1.cls q.1 q.1) = true) : Cond.selects q.1.cls q.1 q.1 ∈ sl_GL := List.mem_filter.mpr ⟨List.mem_append_left _ (List.mem_map.mpr ⟨q, List.mem_append_left _ h, rfl⟩), g⟩
theorem gs_2 {q : MethodName × Nat} (h : q ∈ lw_privs_2) (g : goodWord (Cond.selects q.1.cls q.1 q.1) = true) : Cond.selects q.1.cls q.1 q.1 ∈ sl_GL := List.mem_filter.mpr ⟨List.mem_append_left _ (List.mem_map.mpr ⟨q, List.mem_append_right _ (List.mem_append_left _ h), rfl⟩), g⟩
theorem gs_3 {q : MethodName × Nat} (h : q ∈ lw_privs_3) (g : goodWord (Cond.selects q.1.cls q.1 q.1) = true) : Cond.selects q.1.cls q.1 q.1 ∈ sl_GL := List.mem_filter.mpr ⟨List.mem_append_left _ (List.mem_map.mpr ⟨q, List.mem_append_right _ (List.mem_append_right _ (List.mem_append_left _ h)), rfl⟩), g⟩
theorem gs_4 {q : MethodName × Nat} (h : q ∈ lw_privs_4) (g : goodWord (Cond.selects q.1.cls q.1 q.1) = true) : Cond.selects q.1.cls q.1 q.1 ∈ sl_GL := List.mem_filter.mpr ⟨List.mem_append_left _ (List.mem_map.mpr ⟨q, List.mem_append_right _ (List.mem_append_right _ (List.mem_append_right _ (List.mem_append_left _ h))), rfl⟩), g⟩
theorem gs_5 {q : MethodName × Nat} (h : q ∈ lw_privs_5) (g : goodWord (Cond.selects q.1.cls q.1 q.1) = true) : Cond.selects q.1.cls q.1 q.1 ∈ sl_GL := List.mem_filter.mpr ⟨List.mem_append_left _ (List.mem_map.mpr ⟨q, List.mem_append_right _ (List.mem_append_right _ (List.mem_append_right _ (List.mem_append_right _ (List.mem_append_left _ h)))), rfl⟩), g⟩
theorem gs_6 {q : MethodName × Nat} (h : q ∈ lw_privs_6) (g : goodWord (Cond.selects q.1.cls q.1 q.1) = true) : Cond.selects q.1.cls q.1 q.1 ∈ sl_GL := List.mem_filter.mpr ⟨List.mem_append_left _ (List.mem_map.mpr ⟨q, List.mem_append_right _ (List.mem_append_right _ (List.mem_append_right _ (List.mem_append_right _ (List.mem_append_right _ (h))))), rfl⟩), g⟩
theorem cl_X10_413 : Cond.constantLong RX10 413 (2251) ∈ sl_GL := gl_6 (List.mem_of_getElem? (i := 198) rfl) rfl
theorem cl_X10_415 : Cond.constantLong RX10 415 (31) ∈ sl_GL := gl_6 (List.mem_of_getElem? (i := 199) rfl) rfl
theorem cl_X9_221 : Cond.constantLong RX9 221 (2251) ∈ sl_GL := gl_4 (List.mem_of_getElem? (i := 153) rfl) rfl
theorem cl_X9_223 : Cond.constantLong RX9 223 (31) ∈ sl_GL := gl_4 (List.mem_of_getElem? (i := 154) rfl) rfl
theorem co_J6_265 : Cond.constant RJ6 265 (Int32.ofInt 1431655765) ∈ sl_GL := gl_3 (List.mem_of_getElem? (i := 175) rfl) rfl
theorem co_J6_266 : Cond.constant RJ6 266 (Int32.ofInt 858993459) ∈ sl_GL := gl_3 (List.mem_of_getElem? (i := 176) rfl) rfl
theorem co_J6_267 : Cond.constant RJ6 267 (Int32.ofInt 252645135) ∈ sl_GL := gl_3 (List.mem_of_getElem? (i := 177) rfl) rfl
theorem co_X0_52 : Cond.constant RX0 52 (Int32.ofInt 16434824) ∈ sl_GL := gl_2 (List.mem_of_getElem? (i := 221) rfl) rfl
theorem co_X3_66 : Cond.constant RX3 66 (Int32.ofInt 1000000) ∈ sl_GL := gl_3 (List.mem_of_getElem? (i := 45) rfl) rfl
theorem co_X5_53 : Cond.constant RX5 53 (Int32.ofInt 16434824) ∈ sl_GL := gl_4 (List.mem_of_getElem? (i := 60) rfl) rfl
theorem co_X7_109 : Cond.constant RX7 109 (Int32.ofInt 16434824) ∈ sl_GL := gl_4 (List.mem_of_getElem? (i := 63) rfl) rfl
theorem fl_X0_9 : Cond.fieldLink RX0 9 RX0 (TX0 0).2.1 (TX0 0).2.2.1 ∈ sl_GL := gl_1 (List.mem_of_getElem? (i := 235) rfl) rfl
theorem fl_X0_15 : Cond.fieldLink RX0 15 RX0 (TX0 1).2.1 (TX0 1).2.2.1 ∈ sl_GL := gl_2 (List.mem_of_getElem? (i := 1) rfl) rfl
theorem fl_X0_18 : Cond.fieldLink RX0 18 RX0 (TX0 2).2.1 (TX0 2).2.2.1 ∈ sl_GL := gl_2 (List.mem_of_getElem? (i := 5) rfl) rfl
theorem fl_X0_21 : Cond.fieldLink RX0 21 RX0 (TX0 3).2.1 (TX0 3).2.2.1 ∈ sl_GL := gl_2 (List.mem_of_getElem? (i := 8) rfl) rfl
theorem fl_X0_24 : Cond.fieldLink RX0 24 RX0 (TX0 4).2.1 (TX0 4).2.2.1 ∈ sl_GL := gl_2 (List.mem_of_getElem? (i := 11) rfl) rfl
theorem fl_X0_27 : Cond.fieldLink RX0 27 RX0 (TX0 5).2.1 (TX0 5).2.2.1 ∈ sl_GL := gl_2 (List.mem_of_getElem? (i := 14) rfl) rfl
theorem fl_X0_30 : Cond.fieldLink RX0 30 RX0 (TX0 6).2.1 (TX0 6).2.2.1 ∈ sl_GL := gl_2 (List.mem_of_getElem? (i := 19) rfl) rfl
theorem fl_X0_33 : Cond.fieldLink RX0 33 RX0 (TX0 7).2.1 (TX0 7).2.2.1 ∈ sl_GL := gl_2 (List.mem_of_getElem? (i := 22) rfl) rfl
theorem fl_X0_36 : Cond.fieldLink RX0 36 RX0 (TX0 8).2.1 (TX0 8).2.2.1 ∈ sl_GL := gl_2 (List.mem_of_getElem? (i := 23) rfl) rfl
theorem fl_X0_39 : Cond.fieldLink RX0 39 RX0 (TX0 9).2.1 (TX0 9).2.2.1 ∈ sl_GL := gl_2 (List.mem_of_getElem? (i := 27) rfl) rfl
theorem fl_X0_42 : Cond.fieldLink RX0 42 RX0 (TX0 10).2.1 (TX0 10).2.2.1 ∈ sl_GL := gl_2 (List.mem_of_getElem? (i := 31) rfl) rfl
theorem fl_X0_45 : Cond.fieldLink RX0 45 RX0 (TX0 11).2.1 (TX0 11).2.2.1 ∈ sl_GL := gl_2 (List.mem_of_getElem? (i := 32) rfl) rfl
theorem fl_X0_49 : Cond.fieldLink RX0 49 RX0 (TX0 12).2.1 (TX0 12).2.2.1 ∈ sl_GL := gl_2 (List.mem_of_getElem? (i := 40) rfl) rfl
theorem fl_X1_9 : Cond.fieldLink RX1 9 RX1 (TX1 2).2.1 (TX1 2).2.2.1 ∈ sl_GL := gl_1 (List.mem_of_getElem? (i := 116) rfl) rfl
theorem fl_X1_15 : Cond.fieldLink RX1 15 RX1 (TX1 3).2.1 (TX1 3).2.2.1 ∈ sl_GL := gl_1 (List.mem_of_getElem? (i := 117) rfl) rfl
theorem fl_X1_18 : Cond.fieldLink RX1 18 RX1 (TX1 4).2.1 (TX1 4).2.2.1 ∈ sl_GL := gl_1 (List.mem_of_getElem? (i := 119) rfl) rfl
theorem fl_X1_21 : Cond.fieldLink RX1 21 RX1 (TX1 5).2.1 (TX1 5).2.2.1 ∈ sl_GL := gl_1 (List.mem_of_getElem? (i := 120) rfl) rfl
theorem fl_X1_24 : Cond.fieldLink RX1 24 RX1 (TX1 1).2.1 (TX1 1).2.2.1 ∈ sl_GL := gl_1 (List.mem_of_getElem? (i := 115) rfl) rfl
theorem fl_X1_28 : Cond.fieldLink RX1 28 RX1 (TX1 0).2.1 (TX1 0).2.2.1 ∈ sl_GL := gl_1 (List.mem_of_getElem? (i := 114) rfl) rfl
theorem fl_X1_32 : Cond.fieldLink RX1 32 RX7 (TX7 0).2.1 (TX7 0).2.2.1 ∈ sl_GL := gl_2 (List.mem_of_getElem? (i := 105) rfl) rfl
theorem fl_X1_38 : Cond.fieldLink RX1 38 RX0 (TX0 11).2.1 (TX0 11).2.2.1 ∈ sl_GL := gl_2 (List.mem_of_getElem? (i := 34) rfl) rfl
theorem fl_X1_52 : Cond.fieldLink RX1 52 RX6 (TX6 0).2.1 (TX6 0).2.2.1 ∈ sl_GL := gl_1 (List.mem_of_getElem? (i := 142) rfl) rfl
theorem fl_X1_57 : Cond.fieldLink RX1 57 RX6 (TX6 1).2.1 (TX6 1).2.2.1 ∈ sl_GL := gl_1 (List.mem_of_getElem? (i := 145) rfl) rfl
theorem fl_X1_60 : Cond.fieldLink RX1 60 RX0 (TX0 2).2.1 (TX0 2).2.2.1 ∈ sl_GL := gl_2 (List.mem_of_getElem? (i := 7) rfl) rfl
theorem fl_X1_63 : Cond.fieldLink RX1 63 RX6 (TX6 2).2.1 (TX6 2).2.2.1 ∈ sl_GL := gl_1 (List.mem_of_getElem? (i := 149) rfl) rfl
theorem fl_X1_66 : Cond.fieldLink RX1 66 RX6 (TX6 3).2.1 (TX6 3).2.2.1 ∈ sl_GL := gl_1 (List.mem_of_getElem? (i := 153) rfl) rfl
theorem fl_X1_69 : Cond.fieldLink RX1 69 RX6 (TX6 8).2.1 (TX6 8).2.2.1 ∈ sl_GL := gl_1 (List.mem_of_getElem? (i := 172) rfl) rfl
theorem fl_X1_70 : Cond.fieldLink RX1 70 RX6 (TX6 7).2.1 (TX6 7).2.2.1 ∈ sl_GL := gl_1 (List.mem_of_getElem? (i := 168) rfl) rfl
theorem fl_X1_77 : Cond.fieldLink RX1 77 RX6 (TX6 5).2.1 (TX6 5).2.2.1 ∈ sl_GL := gl_1 (List.mem_of_getElem? (i := 161) rfl) rfl
theorem fl_X1_84 : Cond.fieldLink RX1 84 RX6 (TX6 4).2.1 (TX6 4).2.2.1 ∈ sl_GL := gl_1 (List.mem_of_getElem? (i := 157) rfl) rfl
theorem fl_X1_91 : Cond.fieldLink RX1 91 RX6 (TX6 6).2.1 (TX6 6).2.2.1 ∈ sl_GL := gl_1 (List.mem_of_getElem? (i := 164) rfl) rfl
theorem fl_X1_94 : Cond.fieldLink RX1 94 RX0 (TX0 0).2.1 (TX0 0).2.2.1 ∈ sl_GL := gl_1 (List.mem_of_getElem? (i := 239) rfl) rfl
theorem fl_X1_121 : Cond.fieldLink RX1 121 RX0 (TX0 9).2.1 (TX0 9).2.2.1 ∈ sl_GL := gl_2 (List.mem_of_getElem? (i := 29) rfl) rfl
theorem fl_X10_7 : Cond.fieldLink RX10 7 RX10 (TX10 0).2.1 (TX10 0).2.2.1 ∈ sl_GL := gl_4 (List.mem_of_getElem? (i := 161) rfl) rfl
theorem fl_X10_13 : Cond.fieldLink RX10 13 RX10 (TX10 1).2.1 (TX10 1).2.2.1 ∈ sl_GL := gl_4 (List.mem_of_getElem? (i := 162) rfl) rfl
theorem fl_X10_16 : Cond.fieldLink RX10 16 RX10 (TX10 8).2.1 (TX10 8).2.2.1 ∈ sl_GL := gl_4 (List.mem_of_getElem? (i := 169) rfl) rfl
theorem fl_X10_19 : Cond.fieldLink RX10 19 RX10 (TX10 11).2.1 (TX10 11).2.2.1 ∈ sl_GL := gl_4 (List.mem_of_getElem? (i := 172) rfl) rfl
theorem fl_X10_22 : Cond.fieldLink RX10 22 RX10 (TX10 13).2.1 (TX10 13).2.2.1 ∈ sl_GL := gl_4 (List.mem_of_getElem? (i := 174) rfl) rfl
theorem fl_X10_25 : Cond.fieldLink RX10 25 RX10 (TX10 14).2.1 (TX10 14).2.2.1 ∈ sl_GL := gl_4 (List.mem_of_getElem? (i := 175) rfl) rfl
theorem fl_X10_28 : Cond.fieldLink RX10 28 RX10 (TX10 15).2.1 (TX10 15).2.2.1 ∈ sl_GL := gl_4 (List.mem_of_getElem? (i := 176) rfl) rfl
theorem fl_X10_31 : Cond.fieldLink RX10 31 RX10 (TX10 16).2.1 (TX10 16).2.2.1 ∈ sl_GL := gl_4 (List.mem_of_getElem? (i := 177) rfl) rfl
theorem fl_X10_34 : Cond.fieldLink RX10 34 RX10 (TX10 17).2.1 (TX10 17).2.2.1 ∈ sl_GL := gl_4 (List.mem_of_getElem? (i := 178) rfl) rfl
theorem fl_X10_37 : Cond.fieldLink RX10 37 RX10 (TX10 18).2.1 (TX10 18).2.2.1 ∈ sl_GL := gl_4 (List.mem_of_getElem? (i := 179) rfl) rfl
theorem fl_X10_40 : Cond.fieldLink RX10 40 RX10 (TX10 19).2.1 (TX10 19).2.2.1 ∈ sl_GL := gl_4 (List.mem_of_getElem? (i := 180) rfl) rfl
theorem fl_X10_43 : Cond.fieldLink RX10 43 RX10 (TX10 20).2.1 (TX10 20).2.2.1 ∈ sl_GL := gl_4 (List.mem_of_getElem? (i := 181) rfl) rfl
theorem fl_X10_46 : Cond.fieldLink RX10 46 RX10 (TX10 21).2.1 (TX10 21).2.2.1 ∈ sl_GL := gl_4 (List.mem_of_getElem? (i := 182) rfl) rfl
theorem fl_X10_49 : Cond.fieldLink RX10 49 RX10 (TX10 22).2.1 (TX10 22).2.2.1 ∈ sl_GL := gl_4 (List.mem_of_getElem? (i := 183) rfl) rfl
theorem fl_X10_52 : Cond.fieldLink RX10 52 RX10 (TX10 23).2.1 (TX10 23).2.2.1 ∈ sl_GL := gl_4 (List.mem_of_getElem? (i := 184) rfl) rfl
theorem fl_X10_55 : Cond.fieldLink RX10 55 RX10 (TX10 24).2.1 (TX10 24).2.2.1 ∈ sl_GL := gl_4 (List.mem_of_getElem? (i := 185) rfl) rfl
theorem fl_X10_58 : Cond.fieldLink RX10 58 RX10 (TX10 25).2.1 (TX10 25).2.2.1 ∈ sl_GL := gl_4 (List.mem_of_getElem? (i := 186) rfl) rfl
theorem fl_X10_61 : Cond.fieldLink RX10 61 RX10 (TX10 26).2.1 (TX10 26).2.2.1 ∈ sl_GL := gl_4 (List.mem_of_getElem? (i := 187) rfl) rfl
theorem fl_X10_64 : Cond.fieldLink RX10 64 RX10 (TX10 27).2.1 (TX10 27).2.2.1 ∈ sl_GL := gl_4 (List.mem_of_getElem? (i := 188) rfl) rfl
theorem fl_X10_67 : Cond.fieldLink RX10 67 RX10 (TX10 28).2.1 (TX10 28).2.2.1 ∈ sl_GL := gl_4 (List.mem_of_getElem? (i := 189) rfl) rfl
theorem fl_X10_70 : Cond.fieldLink RX10 70 RX10 (TX10 29).2.1 (TX10 29).2.2.1 ∈ sl_GL := gl_4 (List.mem_of_getElem? (i := 190) rfl) rfl
theorem fl_X10_73 : Cond.fieldLink RX10 73 RX10 (TX10 30).2.1 (TX10 30).2.2.1 ∈ sl_GL := gl_4 (List.mem_of_getElem? (i := 191) rfl) rfl
theorem fl_X10_76 : Cond.fieldLink RX10 76 RX10 (TX10 38).2.1 (TX10 38).2.2.1 ∈ sl_GL := gl_4 (List.mem_of_getElem? (i := 199) rfl) rfl
theorem fl_X10_79 : Cond.fieldLink RX10 79 RX10 (TX10 39).2.1 (TX10 39).2.2.1 ∈ sl_GL := gl_4 (List.mem_of_getElem? (i := 200) rfl) rfl
theorem fl_X10_82 : Cond.fieldLink RX10 82 RX10 (TX10 40).2.1 (TX10 40).2.2.1 ∈ sl_GL := gl_4 (List.mem_of_getElem? (i := 201) rfl) rfl
theorem fl_X10_86 : Cond.fieldLink RX10 86 RX10 (TX10 41).2.1 (TX10 41).2.2.1 ∈ sl_GL := gl_4 (List.mem_of_getElem? (i := 202) rfl) rfl
theorem fl_X10_89 : Cond.fieldLink RX10 89 RX10 (TX10 46).2.1 (TX10 46).2.2.1 ∈ sl_GL := gl_4 (List.mem_of_getElem? (i := 207) rfl) rfl
theorem fl_X10_92 : Cond.fieldLink RX10 92 RX10 (TX10 47).2.1 (TX10 47).2.2.1 ∈ sl_GL := gl_4 (List.mem_of_getElem? (i := 208) rfl) rfl
theorem fl_X10_95 : Cond.fieldLink RX10 95 RX10 (TX10 48).2.1 (TX10 48).2.2.1 ∈ sl_GL := gl_4 (List.mem_of_getElem? (i := 209) rfl) rfl
theorem fl_X10_98 : Cond.fieldLink RX10 98 RX10 (TX10 49).2.1 (TX10 49).2.2.1 ∈ sl_GL := gl_4 (List.mem_of_getElem? (i := 210) rfl) rfl
theorem fl_X10_101 : Cond.fieldLink RX10 101 RX10 (TX10 50).2.1 (TX10 50).2.2.1 ∈ sl_GL := gl_4 (List.mem_of_getElem? (i := 211) rfl) rfl
theorem fl_X10_104 : Cond.fieldLink RX10 104 RX10 (TX10 52).2.1 (TX10 52).2.2.1 ∈ sl_GL := gl_4 (List.mem_of_getElem? (i := 213) rfl) rfl
theorem fl_X10_107 : Cond.fieldLink RX10 107 RX10 (TX10 57).2.1 (TX10 57).2.2.1 ∈ sl_GL := gl_4 (List.mem_of_getElem? (i := 218) rfl) rfl
theorem fl_X10_110 : Cond.fieldLink RX10 110 RX10 (TX10 61).2.1 (TX10 61).2.2.1 ∈ sl_GL := gl_4 (List.mem_of_getElem? (i := 222) rfl) rfl
theorem fl_X10_113 : Cond.fieldLink RX10 113 RX10 (TX10 62).2.1 (TX10 62).2.2.1 ∈ sl_GL := gl_4 (List.mem_of_getElem? (i := 223) rfl) rfl
theorem fl_X10_116 : Cond.fieldLink RX10 116 RX10 (TX10 63).2.1 (TX10 63).2.2.1 ∈ sl_GL := gl_4 (List.mem_of_getElem? (i := 224) rfl) rfl
theorem fl_X10_119 : Cond.fieldLink RX10 119 RX10 (TX10 4).2.1 (TX10 4).2.2.1 ∈ sl_GL := gl_4 (List.mem_of_getElem? (i := 165) rfl) rfl
theorem fl_X10_123 : Cond.fieldLink RX10 123 RX10 (TX10 5).2.1 (TX10 5).2.2.1 ∈ sl_GL := gl_4 (List.mem_of_getElem? (i := 166) rfl) rfl
theorem fl_X10_126 : Cond.fieldLink RX10 126 RX10 (TX10 6).2.1 (TX10 6).2.2.1 ∈ sl_GL := gl_4 (List.mem_of_getElem? (i := 167) rfl) rfl
theorem fl_X10_129 : Cond.fieldLink RX10 129 RX10 (TX10 3).2.1 (TX10 3).2.2.1 ∈ sl_GL := gl_4 (List.mem_of_getElem? (i := 164) rfl) rfl
theorem fl_X10_132 : Cond.fieldLink RX10 132 RX10 (TX10 2).2.1 (TX10 2).2.2.1 ∈ sl_GL := gl_4 (List.mem_of_getElem? (i := 163) rfl) rfl
theorem fl_X10_143 : Cond.fieldLink RX10 143 RX10 (TX10 7).2.1 (TX10 7).2.2.1 ∈ sl_GL := gl_4 (List.mem_of_getElem? (i := 168) rfl) rfl
theorem fl_X10_149 : Cond.fieldLink RX10 149 RX10 (TX10 9).2.1 (TX10 9).2.2.1 ∈ sl_GL := gl_4 (List.mem_of_getElem? (i := 170) rfl) rfl
theorem fl_X10_152 : Cond.fieldLink RX10 152 RX10 (TX10 10).2.1 (TX10 10).2.2.1 ∈ sl_GL := gl_4 (List.mem_of_getElem? (i := 171) rfl) rfl
theorem fl_X10_165 : Cond.fieldLink RX10 165 RX10 (TX10 12).2.1 (TX10 12).2.2.1 ∈ sl_GL := gl_4 (List.mem_of_getElem? (i := 173) rfl) rfl
theorem fl_X10_246 : Cond.fieldLink RX10 246 RX10 (TX10 31).2.1 (TX10 31).2.2.1 ∈ sl_GL := gl_4 (List.mem_of_getElem? (i := 192) rfl) rfl
theorem fl_X10_249 : Cond.fieldLink RX10 249 RX10 (TX10 32).2.1 (TX10 32).2.2.1 ∈ sl_GL := gl_4 (List.mem_of_getElem? (i := 193) rfl) rfl
theorem fl_X10_252 : Cond.fieldLink RX10 252 RX10 (TX10 33).2.1 (TX10 33).2.2.1 ∈ sl_GL := gl_4 (List.mem_of_getElem? (i := 194) rfl) rfl
theorem fl_X10_261 : Cond.fieldLink RX10 261 RX10 (TX10 34).2.1 (TX10 34).2.2.1 ∈ sl_GL := gl_4 (List.mem_of_getElem? (i := 195) rfl) rfl
theorem fl_X10_264 : Cond.fieldLink RX10 264 RX10 (TX10 36).2.1 (TX10 36).2.2.1 ∈ sl_GL := gl_4 (List.mem_of_getElem? (i := 197) rfl) rfl
theorem fl_X10_267 : Cond.fieldLink RX10 267 RX10 (TX10 35).2.1 (TX10 35).2.2.1 ∈ sl_GL := gl_4 (List.mem_of_getElem? (i := 196) rfl) rfl
theorem fl_X10_273 : Cond.fieldLink RX10 273 RX10 (TX10 37).2.1 (TX10 37).2.2.1 ∈ sl_GL := gl_4 (List.mem_of_getElem? (i := 198) rfl) rfl
theorem fl_X10_276 : Cond.fieldLink RX10 276 RX10 (TX10 42).2.1 (TX10 42).2.2.1 ∈ sl_GL := gl_4 (List.mem_of_getElem? (i := 203) rfl) rfl
theorem fl_X10_279 : Cond.fieldLink RX10 279 RX10 (TX10 43).2.1 (TX10 43).2.2.1 ∈ sl_GL := gl_4 (List.mem_of_getElem? (i := 204) rfl) rfl
theorem fl_X10_282 : Cond.fieldLink RX10 282 RX10 (TX10 44).2.1 (TX10 44).2.2.1 ∈ sl_GL := gl_4 (List.mem_of_getElem? (i := 205) rfl) rfl
theorem fl_X10_310 : Cond.fieldLink RX10 310 RX10 (TX10 45).2.1 (TX10 45).2.2.1 ∈ sl_GL := gl_4 (List.mem_of_getElem? (i := 206) rfl) rfl
theorem fl_X10_362 : Cond.fieldLink RX10 362 RX10 (TX10 59).2.1 (TX10 59).2.2.1 ∈ sl_GL := gl_4 (List.mem_of_getElem? (i := 220) rfl) rfl
theorem fl_X10_365 : Cond.fieldLink RX10 365 RX10 (TX10 53).2.1 (TX10 53).2.2.1 ∈ sl_GL := gl_4 (List.mem_of_getElem? (i := 214) rfl) rfl
theorem fl_X10_368 : Cond.fieldLink RX10 368 RX10 (TX10 51).2.1 (TX10 51).2.2.1 ∈ sl_GL := gl_4 (List.mem_of_getElem? (i := 212) rfl) rfl
theorem fl_X10_374 : Cond.fieldLink RX10 374 RX10 (TX10 60).2.1 (TX10 60).2.2.1 ∈ sl_GL := gl_4 (List.mem_of_getElem? (i := 221) rfl) rfl
theorem fl_X10_377 : Cond.fieldLink RX10 377 RX10 (TX10 55).2.1 (TX10 55).2.2.1 ∈ sl_GL := gl_4 (List.mem_of_getElem? (i := 216) rfl) rfl
theorem fl_X10_388 : Cond.fieldLink RX10 388 RX10 (TX10 56).2.1 (TX10 56).2.2.1 ∈ sl_GL := gl_4 (List.mem_of_getElem? (i := 217) rfl) rfl
theorem fl_X10_391 : Cond.fieldLink RX10 391 RX10 (TX10 54).2.1 (TX10 54).2.2.1 ∈ sl_GL := gl_4 (List.mem_of_getElem? (i := 215) rfl) rfl
theorem fl_X10_407 : Cond.fieldLink RX10 407 RX10 (TX10 58).2.1 (TX10 58).2.2.1 ∈ sl_GL := gl_4 (List.mem_of_getElem? (i := 219) rfl) rfl
theorem fl_X2_9 : Cond.fieldLink RX2 9 RX2 (TX2 0).2.1 (TX2 0).2.2.1 ∈ sl_GL := gl_1 (List.mem_of_getElem? (i := 61) rfl) rfl
theorem fl_X2_15 : Cond.fieldLink RX2 15 RX2 (TX2 1).2.1 (TX2 1).2.2.1 ∈ sl_GL := gl_1 (List.mem_of_getElem? (i := 64) rfl) rfl
theorem fl_X3_12 : Cond.fieldLink RX3 12 RX3 (TX3 0).2.1 (TX3 0).2.2.1 ∈ sl_GL := gl_1 (List.mem_of_getElem? (i := 71) rfl) rfl
theorem fl_X3_18 : Cond.fieldLink RX3 18 RX3 (TX3 1).2.1 (TX3 1).2.2.1 ∈ sl_GL := gl_1 (List.mem_of_getElem? (i := 73) rfl) rfl
theorem fl_X3_21 : Cond.fieldLink RX3 21 RX3 (TX3 4).2.1 (TX3 4).2.2.1 ∈ sl_GL := gl_1 (List.mem_of_getElem? (i := 78) rfl) rfl
theorem fl_X3_25 : Cond.fieldLink RX3 25 RX3 (TX3 7).2.1 (TX3 7).2.2.1 ∈ sl_GL := gl_1 (List.mem_of_getElem? (i := 83) rfl) rfl
theorem fl_X3_28 : Cond.fieldLink RX3 28 RX3 (TX3 8).2.1 (TX3 8).2.2.1 ∈ sl_GL := gl_1 (List.mem_of_getElem? (i := 84) rfl) rfl
theorem fl_X3_31 : Cond.fieldLink RX3 31 RX3 (TX3 9).2.1 (TX3 9).2.2.1 ∈ sl_GL := gl_1 (List.mem_of_getElem? (i := 85) rfl) rfl
theorem fl_X3_35 : Cond.fieldLink RX3 35 RX2 (TX2 1).2.1 (TX2 1).2.2.1 ∈ sl_GL := gl_1 (List.mem_of_getElem? (i := 63) rfl) rfl
theorem fl_X3_43 : Cond.fieldLink RX3 43 RX3 (TX3 2).2.1 (TX3 2).2.2.1 ∈ sl_GL := gl_1 (List.mem_of_getElem? (i := 74) rfl) rfl
theorem fl_X3_46 : Cond.fieldLink RX3 46 RX3 (TX3 3).2.1 (TX3 3).2.2.1 ∈ sl_GL := gl_1 (List.mem_of_getElem? (i := 76) rfl) rfl
theorem fl_X3_49 : Cond.fieldLink RX3 49 RX3 (TX3 5).2.1 (TX3 5).2.2.1 ∈ sl_GL := gl_1 (List.mem_of_getElem? (i := 80) rfl) rfl
theorem fl_X3_52 : Cond.fieldLink RX3 52 RX3 (TX3 6).2.1 (TX3 6).2.2.1 ∈ sl_GL := gl_1 (List.mem_of_getElem? (i := 82) rfl) rfl
theorem fl_X3_55 : Cond.fieldLink RX3 55 RX7 (TX7 0).2.1 (TX7 0).2.2.1 ∈ sl_GL := gl_2 (List.mem_of_getElem? (i := 104) rfl) rfl
theorem fl_X3_61 : Cond.fieldLink RX3 61 RX0 (TX0 11).2.1 (TX0 11).2.2.1 ∈ sl_GL := gl_2 (List.mem_of_getElem? (i := 33) rfl) rfl
theorem fl_X3_67 : Cond.fieldLink RX3 67 RX0 (TX0 0).2.1 (TX0 0).2.2.1 ∈ sl_GL := gl_1 (List.mem_of_getElem? (i := 236) rfl) rfl
theorem fl_X3_78 : Cond.fieldLink RX3 78 RX0 (TX0 5).2.1 (TX0 5).2.2.1 ∈ sl_GL := gl_2 (List.mem_of_getElem? (i := 15) rfl) rfl
theorem fl_X3_85 : Cond.fieldLink RX3 85 RX7 (TX7 1).2.1 (TX7 1).2.2.1 ∈ sl_GL := gl_2 (List.mem_of_getElem? (i := 108) rfl) rfl
theorem fl_X3_89 : Cond.fieldLink RX3 89 RX0 (TX0 6).2.1 (TX0 6).2.2.1 ∈ sl_GL := gl_2 (List.mem_of_getElem? (i := 20) rfl) rfl
theorem fl_X3_92 : Cond.fieldLink RX3 92 RX5 (TX5 2).2.1 (TX5 2).2.2.1 ∈ sl_GL := gl_2 (List.mem_of_getElem? (i := 84) rfl) rfl
theorem fl_X3_109 : Cond.fieldLink RX3 109 RX5 (TX5 0).2.1 (TX5 0).2.2.1 ∈ sl_GL := gl_2 (List.mem_of_getElem? (i := 79) rfl) rfl
theorem fl_X3_116 : Cond.fieldLink RX3 116 RX5 (TX5 3).2.1 (TX5 3).2.2.1 ∈ sl_GL := gl_2 (List.mem_of_getElem? (i := 88) rfl) rfl
theorem fl_X3_119 : Cond.fieldLink RX3 119 RX2 (TX2 0).2.1 (TX2 0).2.2.1 ∈ sl_GL := gl_1 (List.mem_of_getElem? (i := 62) rfl) rfl
theorem fl_X3_140 : Cond.fieldLink RX3 140 RX0 (TX0 8).2.1 (TX0 8).2.2.1 ∈ sl_GL := gl_2 (List.mem_of_getElem? (i := 24) rfl) rfl
theorem fl_X4_9 : Cond.fieldLink RX4 9 RX4 (TX4 0).2.1 (TX4 0).2.2.1 ∈ sl_GL := gl_1 (List.mem_of_getElem? (i := 31) rfl) rfl
theorem fl_X4_21 : Cond.fieldLink RX4 21 RX4 (TX4 1).2.1 (TX4 1).2.2.1 ∈ sl_GL := gl_1 (List.mem_of_getElem? (i := 32) rfl) rfl
theorem fl_X4_25 : Cond.fieldLink RX4 25 RX4 (TX4 2).2.1 (TX4 2).2.2.1 ∈ sl_GL := gl_1 (List.mem_of_getElem? (i := 33) rfl) rfl
theorem fl_X4_34 : Cond.fieldLink RX4 34 RX4 (TX4 3).2.1 (TX4 3).2.2.1 ∈ sl_GL := gl_1 (List.mem_of_getElem? (i := 34) rfl) rfl
theorem fl_X4_37 : Cond.fieldLink RX4 37 RX4 (TX4 4).2.1 (TX4 4).2.2.1 ∈ sl_GL := gl_1 (List.mem_of_getElem? (i := 35) rfl) rfl
theorem fl_X4_52 : Cond.fieldLink RX4 52 RX0 (TX0 0).2.1 (TX0 0).2.2.1 ∈ sl_GL := gl_1 (List.mem_of_getElem? (i := 238) rfl) rfl
theorem fl_X4_55 : Cond.fieldLink RX4 55 RX0 (TX0 4).2.1 (TX0 4).2.2.1 ∈ sl_GL := gl_2 (List.mem_of_getElem? (i := 12) rfl) rfl
theorem fl_X4_61 : Cond.fieldLink RX4 61 RX0 (TX0 1).2.1 (TX0 1).2.2.1 ∈ sl_GL := gl_2 (List.mem_of_getElem? (i := 2) rfl) rfl
theorem fl_X4_68 : Cond.fieldLink RX4 68 RX0 (TX0 11).2.1 (TX0 11).2.2.1 ∈ sl_GL := gl_2 (List.mem_of_getElem? (i := 39) rfl) rfl
theorem fl_X4_78 : Cond.fieldLink RX4 78 RX0 (TX0 5).2.1 (TX0 5).2.2.1 ∈ sl_GL := gl_2 (List.mem_of_getElem? (i := 17) rfl) rfl
theorem fl_X4_96 : Cond.fieldLink RX4 96 RX0 (TX0 9).2.1 (TX0 9).2.2.1 ∈ sl_GL := gl_2 (List.mem_of_getElem? (i := 28) rfl) rfl
theorem fl_X5_12 : Cond.fieldLink RX5 12 RX5 (TX5 0).2.1 (TX5 0).2.2.1 ∈ sl_GL := gl_2 (List.mem_of_getElem? (i := 77) rfl) rfl
theorem fl_X5_18 : Cond.fieldLink RX5 18 RX5 (TX5 4).2.1 (TX5 4).2.2.1 ∈ sl_GL := gl_2 (List.mem_of_getElem? (i := 90) rfl) rfl
theorem fl_X5_26 : Cond.fieldLink RX5 26 RX5 (TX5 1).2.1 (TX5 1).2.2.1 ∈ sl_GL := gl_2 (List.mem_of_getElem? (i := 80) rfl) rfl
theorem fl_X5_30 : Cond.fieldLink RX5 30 RX5 (TX5 2).2.1 (TX5 2).2.2.1 ∈ sl_GL := gl_2 (List.mem_of_getElem? (i := 82) rfl) rfl
theorem fl_X5_33 : Cond.fieldLink RX5 33 RX5 (TX5 3).2.1 (TX5 3).2.2.1 ∈ sl_GL := gl_2 (List.mem_of_getElem? (i := 86) rfl) rfl
theorem fl_X5_45 : Cond.fieldLink RX5 45 RX6 (TX6 0).2.1 (TX6 0).2.2.1 ∈ sl_GL := gl_1 (List.mem_of_getElem? (i := 140) rfl) rfl
theorem fl_X5_50 : Cond.fieldLink RX5 50 RX6 (TX6 2).2.1 (TX6 2).2.2.1 ∈ sl_GL := gl_1 (List.mem_of_getElem? (i := 147) rfl) rfl
theorem fl_X5_58 : Cond.fieldLink RX5 58 RX6 (TX6 3).2.1 (TX6 3).2.2.1 ∈ sl_GL := gl_1 (List.mem_of_getElem? (i := 152) rfl) rfl
theorem fl_X5_59 : Cond.fieldLink RX5 59 RX6 (TX6 4).2.1 (TX6 4).2.2.1 ∈ sl_GL := gl_1 (List.mem_of_getElem? (i := 156) rfl) rfl
theorem fl_X5_60 : Cond.fieldLink RX5 60 RX6 (TX6 5).2.1 (TX6 5).2.2.1 ∈ sl_GL := gl_1 (List.mem_of_getElem? (i := 160) rfl) rfl
theorem fl_X5_61 : Cond.fieldLink RX5 61 RX6 (TX6 8).2.1 (TX6 8).2.2.1 ∈ sl_GL := gl_1 (List.mem_of_getElem? (i := 171) rfl) rfl
theorem fl_X5_64 : Cond.fieldLink RX5 64 RX0 (TX0 11).2.1 (TX0 11).2.2.1 ∈ sl_GL := gl_2 (List.mem_of_getElem? (i := 37) rfl) rfl
theorem fl_X7_12 : Cond.fieldLink RX7 12 RX7 (TX7 0).2.1 (TX7 0).2.2.1 ∈ sl_GL := gl_2 (List.mem_of_getElem? (i := 103) rfl) rfl
theorem fl_X7_20 : Cond.fieldLink RX7 20 RX7 (TX7 1).2.1 (TX7 1).2.2.1 ∈ sl_GL := gl_2 (List.mem_of_getElem? (i := 107) rfl) rfl
theorem fl_X7_24 : Cond.fieldLink RX7 24 RX7 (TX7 3).2.1 (TX7 3).2.2.1 ∈ sl_GL := gl_2 (List.mem_of_getElem? (i := 112) rfl) rfl
theorem fl_X7_29 : Cond.fieldLink RX7 29 RX7 (TX7 2).2.1 (TX7 2).2.2.1 ∈ sl_GL := gl_2 (List.mem_of_getElem? (i := 110) rfl) rfl
theorem fl_X7_33 : Cond.fieldLink RX7 33 RX5 (TX5 1).2.1 (TX5 1).2.2.1 ∈ sl_GL := gl_2 (List.mem_of_getElem? (i := 81) rfl) rfl
theorem fl_X7_36 : Cond.fieldLink RX7 36 RX5 (TX5 2).2.1 (TX5 2).2.2.1 ∈ sl_GL := gl_2 (List.mem_of_getElem? (i := 83) rfl) rfl
theorem fl_X7_45 : Cond.fieldLink RX7 45 RX5 (TX5 3).2.1 (TX5 3).2.2.1 ∈ sl_GL := gl_2 (List.mem_of_getElem? (i := 87) rfl) rfl
theorem fl_X7_48 : Cond.fieldLink RX7 48 RX5 (TX5 0).2.1 (TX5 0).2.2.1 ∈ sl_GL := gl_2 (List.mem_of_getElem? (i := 78) rfl) rfl
theorem fl_X7_51 : Cond.fieldLink RX7 51 RX0 (TX0 11).2.1 (TX0 11).2.2.1 ∈ sl_GL := gl_2 (List.mem_of_getElem? (i := 36) rfl) rfl
theorem fl_X7_65 : Cond.fieldLink RX7 65 RX0 (TX0 0).2.1 (TX0 0).2.2.1 ∈ sl_GL := gl_1 (List.mem_of_getElem? (i := 237) rfl) rfl
theorem fl_X7_68 : Cond.fieldLink RX7 68 RX0 (TX0 5).2.1 (TX0 5).2.2.1 ∈ sl_GL := gl_2 (List.mem_of_getElem? (i := 16) rfl) rfl
theorem fl_X7_75 : Cond.fieldLink RX7 75 RX0 (TX0 6).2.1 (TX0 6).2.2.1 ∈ sl_GL := gl_2 (List.mem_of_getElem? (i := 21) rfl) rfl
theorem fl_X7_78 : Cond.fieldLink RX7 78 RX5 (TX5 4).2.1 (TX5 4).2.2.1 ∈ sl_GL := gl_2 (List.mem_of_getElem? (i := 91) rfl) rfl
theorem fl_X7_101 : Cond.fieldLink RX7 101 RX6 (TX6 2).2.1 (TX6 2).2.2.1 ∈ sl_GL := gl_1 (List.mem_of_getElem? (i := 150) rfl) rfl
theorem fl_X7_106 : Cond.fieldLink RX7 106 RX6 (TX6 0).2.1 (TX6 0).2.2.1 ∈ sl_GL := gl_1 (List.mem_of_getElem? (i := 144) rfl) rfl
theorem fl_X7_119 : Cond.fieldLink RX7 119 RX0 (TX0 1).2.1 (TX0 1).2.2.1 ∈ sl_GL := gl_2 (List.mem_of_getElem? (i := 3) rfl) rfl
theorem fl_X7_125 : Cond.fieldLink RX7 125 RX0 (TX0 3).2.1 (TX0 3).2.2.1 ∈ sl_GL := gl_2 (List.mem_of_getElem? (i := 9) rfl) rfl
theorem fl_X7_152 : Cond.fieldLink RX7 152 RX0 (TX0 9).2.1 (TX0 9).2.2.1 ∈ sl_GL := gl_2 (List.mem_of_getElem? (i := 30) rfl) rfl
theorem fl_X8_12 : Cond.fieldLink RX8 12 RX8 (TX8 0).2.1 (TX8 0).2.2.1 ∈ sl_GL := gl_1 (List.mem_of_getElem? (i := 200) rfl) rfl
theorem fl_X8_18 : Cond.fieldLink RX8 18 RX8 (TX8 1).2.1 (TX8 1).2.2.1 ∈ sl_GL := gl_1 (List.mem_of_getElem? (i := 201) rfl) rfl
theorem fl_X8_22 : Cond.fieldLink RX8 22 RX8 (TX8 3).2.1 (TX8 3).2.2.1 ∈ sl_GL := gl_1 (List.mem_of_getElem? (i := 203) rfl) rfl
theorem fl_X8_25 : Cond.fieldLink RX8 25 RX8 (TX8 4).2.1 (TX8 4).2.2.1 ∈ sl_GL := gl_1 (List.mem_of_getElem? (i := 205) rfl) rfl
theorem fl_X8_28 : Cond.fieldLink RX8 28 RX8 (TX8 5).2.1 (TX8 5).2.2.1 ∈ sl_GL := gl_1 (List.mem_of_getElem? (i := 206) rfl) rfl
theorem fl_X8_42 : Cond.fieldLink RX8 42 RX6 (TX6 2).2.1 (TX6 2).2.2.1 ∈ sl_GL := gl_1 (List.mem_of_getElem? (i := 148) rfl) rfl
theorem fl_X8_45 : Cond.fieldLink RX8 45 RX6 (TX6 0).2.1 (TX6 0).2.2.1 ∈ sl_GL := gl_1 (List.mem_of_getElem? (i := 141) rfl) rfl
theorem fl_X8_48 : Cond.fieldLink RX8 48 RX0 (TX0 11).2.1 (TX0 11).2.2.1 ∈ sl_GL := gl_2 (List.mem_of_getElem? (i := 35) rfl) rfl
theorem fl_X8_57 : Cond.fieldLink RX8 57 RX0 (TX0 2).2.1 (TX0 2).2.2.1 ∈ sl_GL := gl_2 (List.mem_of_getElem? (i := 6) rfl) rfl
theorem fl_X8_80 : Cond.fieldLink RX8 80 RX8 (TX8 6).2.1 (TX8 6).2.2.1 ∈ sl_GL := gl_1 (List.mem_of_getElem? (i := 208) rfl) rfl
theorem fl_X8_91 : Cond.fieldLink RX8 91 RX6 (TX6 6).2.1 (TX6 6).2.2.1 ∈ sl_GL := gl_1 (List.mem_of_getElem? (i := 165) rfl) rfl
theorem fl_X8_94 : Cond.fieldLink RX8 94 RX6 (TX6 3).2.1 (TX6 3).2.2.1 ∈ sl_GL := gl_1 (List.mem_of_getElem? (i := 154) rfl) rfl
theorem fl_X8_97 : Cond.fieldLink RX8 97 RX6 (TX6 4).2.1 (TX6 4).2.2.1 ∈ sl_GL := gl_1 (List.mem_of_getElem? (i := 158) rfl) rfl
theorem fl_X8_103 : Cond.fieldLink RX8 103 RX6 (TX6 5).2.1 (TX6 5).2.2.1 ∈ sl_GL := gl_1 (List.mem_of_getElem? (i := 162) rfl) rfl
theorem fl_X8_106 : Cond.fieldLink RX8 106 RX6 (TX6 1).2.1 (TX6 1).2.2.1 ∈ sl_GL := gl_1 (List.mem_of_getElem? (i := 146) rfl) rfl
theorem fl_X8_113 : Cond.fieldLink RX8 113 RX8 (TX8 2).2.1 (TX8 2).2.2.1 ∈ sl_GL := gl_1 (List.mem_of_getElem? (i := 202) rfl) rfl
theorem fl_X8_127 : Cond.fieldLink RX8 127 RX0 (TX0 0).2.1 (TX0 0).2.2.1 ∈ sl_GL := gl_2 (List.mem_of_getElem? (i := 0) rfl) rfl
theorem fl_X8_130 : Cond.fieldLink RX8 130 RX0 (TX0 4).2.1 (TX0 4).2.2.1 ∈ sl_GL := gl_2 (List.mem_of_getElem? (i := 13) rfl) rfl
theorem fl_X8_133 : Cond.fieldLink RX8 133 RX0 (TX0 8).2.1 (TX0 8).2.2.1 ∈ sl_GL := gl_2 (List.mem_of_getElem? (i := 25) rfl) rfl
theorem fl_X8_136 : Cond.fieldLink RX8 136 RX0 (TX0 1).2.1 (TX0 1).2.2.1 ∈ sl_GL := gl_2 (List.mem_of_getElem? (i := 4) rfl) rfl
theorem fl_X8_139 : Cond.fieldLink RX8 139 RX0 (TX0 3).2.1 (TX0 3).2.2.1 ∈ sl_GL := gl_2 (List.mem_of_getElem? (i := 10) rfl) rfl
theorem fl_X8_151 : Cond.fieldLink RX8 151 RX0 (TX0 5).2.1 (TX0 5).2.2.1 ∈ sl_GL := gl_2 (List.mem_of_getElem? (i := 18) rfl) rfl
theorem fl_X9_9 : Cond.fieldLink RX9 9 RX9 (TX9 0).2.1 (TX9 0).2.2.1 ∈ sl_GL := gl_2 (List.mem_of_getElem? (i := 122) rfl) rfl
theorem fl_X9_13 : Cond.fieldLink RX9 13 RX9 (TX9 2).2.1 (TX9 2).2.2.1 ∈ sl_GL := gl_2 (List.mem_of_getElem? (i := 124) rfl) rfl
theorem fl_X9_18 : Cond.fieldLink RX9 18 RX9 (TX9 3).2.1 (TX9 3).2.2.1 ∈ sl_GL := gl_2 (List.mem_of_getElem? (i := 125) rfl) rfl
theorem fl_X9_25 : Cond.fieldLink RX9 25 RX9 (TX9 6).2.1 (TX9 6).2.2.1 ∈ sl_GL := gl_2 (List.mem_of_getElem? (i := 128) rfl) rfl
theorem fl_X9_32 : Cond.fieldLink RX9 32 RX9 (TX9 7).2.1 (TX9 7).2.2.1 ∈ sl_GL := gl_2 (List.mem_of_getElem? (i := 129) rfl) rfl
theorem fl_X9_39 : Cond.fieldLink RX9 39 RX9 (TX9 8).2.1 (TX9 8).2.2.1 ∈ sl_GL := gl_2 (List.mem_of_getElem? (i := 130) rfl) rfl
theorem fl_X9_46 : Cond.fieldLink RX9 46 RX9 (TX9 9).2.1 (TX9 9).2.2.1 ∈ sl_GL := gl_2 (List.mem_of_getElem? (i := 131) rfl) rfl
theorem fl_X9_53 : Cond.fieldLink RX9 53 RX9 (TX9 10).2.1 (TX9 10).2.2.1 ∈ sl_GL := gl_2 (List.mem_of_getElem? (i := 132) rfl) rfl
theorem fl_X9_62 : Cond.fieldLink RX9 62 RX9 (TX9 1).2.1 (TX9 1).2.2.1 ∈ sl_GL := gl_2 (List.mem_of_getElem? (i := 123) rfl) rfl
theorem fl_X9_70 : Cond.fieldLink RX9 70 RX7 (TX7 2).2.1 (TX7 2).2.2.1 ∈ sl_GL := gl_2 (List.mem_of_getElem? (i := 111) rfl) rfl
theorem fl_X9_73 : Cond.fieldLink RX9 73 RX7 (TX7 0).2.1 (TX7 0).2.2.1 ∈ sl_GL := gl_2 (List.mem_of_getElem? (i := 106) rfl) rfl
theorem fl_X9_81 : Cond.fieldLink RX9 81 RX4 (TX4 4).2.1 (TX4 4).2.2.1 ∈ sl_GL := gl_1 (List.mem_of_getElem? (i := 36) rfl) rfl
theorem fl_X9_87 : Cond.fieldLink RX9 87 RX0 (TX0 11).2.1 (TX0 11).2.2.1 ∈ sl_GL := gl_2 (List.mem_of_getElem? (i := 38) rfl) rfl
theorem fl_X9_110 : Cond.fieldLink RX9 110 RX3 (TX3 2).2.1 (TX3 2).2.2.1 ∈ sl_GL := gl_1 (List.mem_of_getElem? (i := 75) rfl) rfl
theorem fl_X9_113 : Cond.fieldLink RX9 113 RX3 (TX3 3).2.1 (TX3 3).2.2.1 ∈ sl_GL := gl_1 (List.mem_of_getElem? (i := 77) rfl) rfl
theorem fl_X9_116 : Cond.fieldLink RX9 116 RX3 (TX3 5).2.1 (TX3 5).2.2.1 ∈ sl_GL := gl_1 (List.mem_of_getElem? (i := 81) rfl) rfl
theorem fl_X9_119 : Cond.fieldLink RX9 119 RX3 (TX3 4).2.1 (TX3 4).2.2.1 ∈ sl_GL := gl_1 (List.mem_of_getElem? (i := 79) rfl) rfl
theorem fl_X9_122 : Cond.fieldLink RX9 122 RX3 (TX3 0).2.1 (TX3 0).2.2.1 ∈ sl_GL := gl_1 (List.mem_of_getElem? (i := 72) rfl) rfl
theorem fl_X9_126 : Cond.fieldLink RX9 126 RX2 (TX2 1).2.1 (TX2 1).2.2.1 ∈ sl_GL := gl_1 (List.mem_of_getElem? (i := 65) rfl) rfl
theorem fl_X9_135 : Cond.fieldLink RX9 135 RX6 (TX6 3).2.1 (TX6 3).2.2.1 ∈ sl_GL := gl_1 (List.mem_of_getElem? (i := 155) rfl) rfl
theorem fl_X9_138 : Cond.fieldLink RX9 138 RX6 (TX6 4).2.1 (TX6 4).2.2.1 ∈ sl_GL := gl_1 (List.mem_of_getElem? (i := 159) rfl) rfl
theorem fl_X9_141 : Cond.fieldLink RX9 141 RX6 (TX6 5).2.1 (TX6 5).2.2.1 ∈ sl_GL := gl_1 (List.mem_of_getElem? (i := 163) rfl) rfl
theorem fl_X9_144 : Cond.fieldLink RX9 144 RX6 (TX6 6).2.1 (TX6 6).2.2.1 ∈ sl_GL := gl_1 (List.mem_of_getElem? (i := 166) rfl) rfl
theorem fl_X9_147 : Cond.fieldLink RX9 147 RX6 (TX6 0).2.1 (TX6 0).2.2.1 ∈ sl_GL := gl_1 (List.mem_of_getElem? (i := 143) rfl) rfl
theorem fl_X9_150 : Cond.fieldLink RX9 150 RX6 (TX6 2).2.1 (TX6 2).2.2.1 ∈ sl_GL := gl_1 (List.mem_of_getElem? (i := 151) rfl) rfl
theorem fl_X9_157 : Cond.fieldLink RX9 157 RX6 (TX6 7).2.1 (TX6 7).2.2.1 ∈ sl_GL := gl_1 (List.mem_of_getElem? (i := 169) rfl) rfl
theorem fl_X9_164 : Cond.fieldLink RX9 164 RX1 (TX1 3).2.1 (TX1 3).2.2.1 ∈ sl_GL := gl_1 (List.mem_of_getElem? (i := 118) rfl) rfl
theorem fl_X9_171 : Cond.fieldLink RX9 171 RX8 (TX8 5).2.1 (TX8 5).2.2.1 ∈ sl_GL := gl_1 (List.mem_of_getElem? (i := 207) rfl) rfl
theorem fl_X9_174 : Cond.fieldLink RX9 174 RX8 (TX8 3).2.1 (TX8 3).2.2.1 ∈ sl_GL := gl_1 (List.mem_of_getElem? (i := 204) rfl) rfl
theorem fl_X9_193 : Cond.fieldLink RX9 193 RX7 (TX7 1).2.1 (TX7 1).2.2.1 ∈ sl_GL := gl_2 (List.mem_of_getElem? (i := 109) rfl) rfl
theorem fl_X9_197 : Cond.fieldLink RX9 197 RX5 (TX5 2).2.1 (TX5 2).2.2.1 ∈ sl_GL := gl_2 (List.mem_of_getElem? (i := 85) rfl) rfl
theorem fl_X9_200 : Cond.fieldLink RX9 200 RX5 (TX5 3).2.1 (TX5 3).2.2.1 ∈ sl_GL := gl_2 (List.mem_of_getElem? (i := 89) rfl) rfl
theorem fl_X9_211 : Cond.fieldLink RX9 211 RX9 (TX9 5).2.1 (TX9 5).2.2.1 ∈ sl_GL := gl_2 (List.mem_of_getElem? (i := 127) rfl) rfl
theorem fl_X9_214 : Cond.fieldLink RX9 214 RX9 (TX9 4).2.1 (TX9 4).2.2.1 ∈ sl_GL := gl_2 (List.mem_of_getElem? (i := 126) rfl) rfl
theorem fl_X9_225 : Cond.fieldLink RX9 225 RX0 (TX0 8).2.1 (TX0 8).2.2.1 ∈ sl_GL := gl_2 (List.mem_of_getElem? (i := 26) rfl) rfl
theorem ml_X0_53 : Cond.methodLink RX0 53 yX0_add ∈ sl_GL := gl_4 (List.mem_of_getElem? (i := 47) rfl) rfl
theorem ml_X0_65 : Cond.methodLink RX0 65 yX0_put ∈ sl_GL := gl_4 (List.mem_of_getElem? (i := 49) rfl) rfl
theorem ml_X0_72 : Cond.methodLink RX0 72 yX0_addLike ∈ sl_GL := gl_4 (List.mem_of_getElem? (i := 43) rfl) rfl
theorem ml_X0_76 : Cond.methodLink RX0 76 yX0_empty ∈ sl_GL := gl_4 (List.mem_of_getElem? (i := 38) rfl) rfl
theorem ml_X0_79 : Cond.methodLink RX0 79 yX0_addRange ∈ sl_GL := gl_4 (List.mem_of_getElem? (i := 39) rfl) rfl
theorem ml_X0_83 : Cond.methodLink RX0 83 yX0_position ∈ sl_GL := gl_3 (List.mem_of_getElem? (i := 21) rfl) rfl
theorem ml_X0_86 : Cond.methodLink RX0 86 yX0_holds ∈ sl_GL := gl_3 (List.mem_of_getElem? (i := 118) rfl) rfl
theorem ml_X0_90 : Cond.methodLink RX0 90 yX0_behind ∈ sl_GL := gl_3 (List.mem_of_getElem? (i := 96) rfl) rfl
theorem ml_X0_93 : Cond.methodLink RX0 93 yX0_loopAround ∈ sl_GL := gl_3 (List.mem_of_getElem? (i := 97) rfl) rfl
theorem ml_X0_100 : Cond.methodLink RX0 100 yX0_symbol ∈ sl_GL := gl_4 (List.mem_of_getElem? (i := 115) rfl) rfl
theorem ml_X0_103 : Cond.methodLink RX0 103 yX0_endOfOperand ∈ sl_GL := gl_4 (List.mem_of_getElem? (i := 116) rfl) rfl
theorem ml_X1_44 : Cond.methodLink RX1 44 yX1_findLive ∈ sl_GL := gl_3 (List.mem_of_getElem? (i := 123) rfl) rfl
theorem ml_X1_48 : Cond.methodLink RX1 48 yX1_findSet ∈ sl_GL := gl_3 (List.mem_of_getElem? (i := 148) rfl) rfl
theorem ml_X1_73 : Cond.methodLink RX1 73 yX0_target ∈ sl_GL := gl_3 (List.mem_of_getElem? (i := 140) rfl) rfl
theorem ml_X1_80 : Cond.methodLink RX1 80 yX7_changedBy ∈ sl_GL := gl_3 (List.mem_of_getElem? (i := 164) rfl) rfl
theorem ml_X1_87 : Cond.methodLink RX1 87 yX1_reason ∈ sl_GL := gl_3 (List.mem_of_getElem? (i := 168) rfl) rfl
theorem ml_X1_97 : Cond.methodLink RX1 97 yJ6_bitCount_0f7a4 ∈ sl_GL := gl_3 (List.mem_of_getElem? (i := 172) rfl) rfl
theorem ml_X1_102 : Cond.methodLink RX1 102 yX1_passOn ∈ sl_GL := gl_3 (List.mem_of_getElem? (i := 152) rfl) rfl
theorem ml_X1_105 : Cond.methodLink RX1 105 yX0_enter ∈ sl_GL := gl_3 (List.mem_of_getElem? (i := 131) rfl) rfl
theorem ml_X1_108 : Cond.methodLink RX1 108 yX1_reach ∈ sl_GL := gl_3 (List.mem_of_getElem? (i := 156) rfl) rfl
theorem ml_X1_111 : Cond.methodLink RX1 111 yX7_exitsOf ∈ sl_GL := gl_3 (List.mem_of_getElem? (i := 132) rfl) rfl
theorem ml_X1_114 : Cond.methodLink RX1 114 yX7_setBy ∈ sl_GL := gl_3 (List.mem_of_getElem? (i := 141) rfl) rfl
theorem ml_X1_118 : Cond.methodLink RX1 118 yX1_liveAt ∈ sl_GL := gl_3 (List.mem_of_getElem? (i := 127) rfl) rfl
theorem ml_X10_135 : Cond.methodLink RX10 135 yX10_in ∈ sl_GL := gl_5 (List.mem_of_getElem? (i := 118) rfl) rfl
theorem ml_X10_139 : Cond.methodLink RX10 139 yX10_bad ∈ sl_GL := gl_5 (List.mem_of_getElem? (i := 121) rfl) rfl
theorem ml_X10_146 : Cond.methodLink RX10 146 yX10_full ∈ sl_GL := gl_5 (List.mem_of_getElem? (i := 125) rfl) rfl
theorem ml_X10_155 : Cond.methodLink RX10 155 yX10_look ∈ sl_GL := gl_5 (List.mem_of_getElem? (i := 141) rfl) rfl
theorem ml_X10_158 : Cond.methodLink RX10 158 yX10_take ∈ sl_GL := gl_5 (List.mem_of_getElem? (i := 137) rfl) rfl
theorem ml_X10_161 : Cond.methodLink RX10 161 yX10_isAct ∈ sl_GL := gl_5 (List.mem_of_getElem? (i := 168) rfl) rfl
theorem ml_X10_168 : Cond.methodLink RX10 168 yX10_kindOf ∈ sl_GL := gl_5 (List.mem_of_getElem? (i := 157) rfl) rfl
theorem ml_X10_172 : Cond.methodLink RX10 172 yX10_isInLoop ∈ sl_GL := gl_5 (List.mem_of_getElem? (i := 160) rfl) rfl
theorem ml_X10_176 : Cond.methodLink RX10 176 yX10_readsE ∈ sl_GL := gl_5 (List.mem_of_getElem? (i := 164) rfl) rfl
theorem ml_X10_179 : Cond.methodLink RX10 179 yX10_opens ∈ sl_GL := gl_5 (List.mem_of_getElem? (i := 149) rfl) rfl
theorem ml_X10_183 : Cond.methodLink RX10 183 yX10_closes ∈ sl_GL := gl_5 (List.mem_of_getElem? (i := 145) rfl) rfl
theorem ml_X10_186 : Cond.methodLink RX10 186 yX10_readsStatement ∈ sl_GL := gl_5 (List.mem_of_getElem? (i := 153) rfl) rfl
theorem ml_X10_189 : Cond.methodLink RX10 189 yX10_keepsState ∈ sl_GL := gl_5 (List.mem_of_getElem? (i := 171) rfl) rfl
theorem ml_X10_192 : Cond.methodLink RX10 192 yX10_callAt ∈ sl_GL := gl_5 (List.mem_of_getElem? (i := 187) rfl) rfl
theorem ml_X10_195 : Cond.methodLink RX10 195 yX10_listSet ∈ sl_GL := gl_5 (List.mem_of_getElem? (i := 191) rfl) rfl
theorem ml_X10_198 : Cond.methodLink RX10 198 yX10_isVariable ∈ sl_GL := gl_5 (List.mem_of_getElem? (i := 195) rfl) rfl
theorem ml_X10_201 : Cond.methodLink RX10 201 yX10_manyOf ∈ sl_GL := gl_5 (List.mem_of_getElem? (i := 198) rfl) rfl
theorem ml_X10_204 : Cond.methodLink RX10 204 yX10_areOfBlock ∈ sl_GL := gl_5 (List.mem_of_getElem? (i := 214) rfl) rfl
theorem ml_X10_207 : Cond.methodLink RX10 207 yX10_behind ∈ sl_GL := gl_5 (List.mem_of_getElem? (i := 210) rfl) rfl
theorem ml_X10_211 : Cond.methodLink RX10 211 yX10_way ∈ sl_GL := gl_5 (List.mem_of_getElem? (i := 218) rfl) rfl
theorem ml_X10_215 : Cond.methodLink RX10 215 yX10_placeOf ∈ sl_GL := gl_5 (List.mem_of_getElem? (i := 230) rfl) rfl
theorem ml_X10_218 : Cond.methodLink RX10 218 yX10_has ∈ sl_GL := gl_5 (List.mem_of_getElem? (i := 233) rfl) rfl
theorem ml_X10_222 : Cond.methodLink RX10 222 yX10_leaving ∈ sl_GL := gl_5 (List.mem_of_getElem? (i := 206) rfl) rfl
theorem ml_X10_226 : Cond.methodLink RX10 226 yX10_firstOf ∈ sl_GL := gl_5 (List.mem_of_getElem? (i := 222) rfl) rfl
theorem ml_X10_230 : Cond.methodLink RX10 230 yX10_callSets ∈ sl_GL := gl_5 (List.mem_of_getElem? (i := 226) rfl) rfl
theorem ml_X10_233 : Cond.methodLink RX10 233 yX10_laysStatements ∈ sl_GL := gl_5 (List.mem_of_getElem? (i := 183) rfl) rfl
theorem ml_X10_237 : Cond.methodLink RX10 237 yX10_laysWays ∈ sl_GL := gl_5 (List.mem_of_getElem? (i := 202) rfl) rfl
theorem ml_X10_240 : Cond.methodLink RX10 240 yX10_laysLive ∈ sl_GL := gl_5 (List.mem_of_getElem? (i := 236) rfl) rfl
theorem ml_X10_243 : Cond.methodLink RX10 243 yX10_isStatement ∈ sl_GL := gl_6 (List.mem_of_getElem? (i := 4) rfl) rfl
theorem ml_X10_255 : Cond.methodLink RX10 255 yX10_leavesBy ∈ sl_GL := gl_6 (List.mem_of_getElem? (i := 20) rfl) rfl
theorem ml_X10_258 : Cond.methodLink RX10 258 yX10_walksSpan ∈ sl_GL := gl_6 (List.mem_of_getElem? (i := 16) rfl) rfl
theorem ml_X10_270 : Cond.methodLink RX10 270 yX10_sizeOf ∈ sl_GL := gl_6 (List.mem_of_getElem? (i := 24) rfl) rfl
theorem ml_X10_285 : Cond.methodLink RX10 285 yX10_meets ∈ sl_GL := gl_6 (List.mem_of_getElem? (i := 35) rfl) rfl
theorem ml_X10_289 : Cond.methodLink RX10 289 yX10_lists ∈ sl_GL := gl_6 (List.mem_of_getElem? (i := 39) rfl) rfl
theorem ml_X10_292 : Cond.methodLink RX10 292 yX10_lays ∈ sl_GL := gl_5 (List.mem_of_getElem? (i := 179) rfl) rfl
theorem ml_X10_295 : Cond.methodLink RX10 295 yX10_isSpan ∈ sl_GL := gl_6 (List.mem_of_getElem? (i := 0) rfl) rfl
theorem ml_X10_298 : Cond.methodLink RX10 298 yX10_no ∈ sl_GL := gl_6 (List.mem_of_getElem? (i := 8) rfl) rfl
theorem ml_X10_301 : Cond.methodLink RX10 301 yX10_laysSpan ∈ sl_GL := gl_6 (List.mem_of_getElem? (i := 12) rfl) rfl
theorem ml_X10_304 : Cond.methodLink RX10 304 yX10_listOf ∈ sl_GL := gl_6 (List.mem_of_getElem? (i := 31) rfl) rfl
theorem ml_X10_307 : Cond.methodLink RX10 307 yX10_answersTo ∈ sl_GL := gl_6 (List.mem_of_getElem? (i := 75) rfl) rfl
theorem ml_X10_313 : Cond.methodLink RX10 313 yX10_lengthOf ∈ sl_GL := gl_6 (List.mem_of_getElem? (i := 59) rfl) rfl
theorem ml_X10_316 : Cond.methodLink RX10 316 yX10_lastOf ∈ sl_GL := gl_6 (List.mem_of_getElem? (i := 63) rfl) rfl
theorem ml_X10_319 : Cond.methodLink RX10 319 yX10_hasCall ∈ sl_GL := gl_6 (List.mem_of_getElem? (i := 67) rfl) rfl
theorem ml_X10_322 : Cond.methodLink RX10 322 yX10_areAlike ∈ sl_GL := gl_6 (List.mem_of_getElem? (i := 71) rfl) rfl
theorem ml_X10_325 : Cond.methodLink RX10 325 yX10_answered ∈ sl_GL := gl_6 (List.mem_of_getElem? (i := 79) rfl) rfl
theorem ml_X10_328 : Cond.methodLink RX10 328 yX10_laysAlike ∈ sl_GL := gl_6 (List.mem_of_getElem? (i := 55) rfl) rfl
theorem ml_X10_331 : Cond.methodLink RX10 331 yX10_calls ∈ sl_GL := gl_6 (List.mem_of_getElem? (i := 87) rfl) rfl
theorem ml_X10_335 : Cond.methodLink RX10 335 yX10_lastTold ∈ sl_GL := gl_6 (List.mem_of_getElem? (i := 91) rfl) rfl
theorem ml_X10_338 : Cond.methodLink RX10 338 yX10_answeredList ∈ sl_GL := gl_6 (List.mem_of_getElem? (i := 95) rfl) rfl
theorem ml_X10_341 : Cond.methodLink RX10 341 yX10_isMethod ∈ sl_GL := gl_6 (List.mem_of_getElem? (i := 103) rfl) rfl
theorem ml_X10_344 : Cond.methodLink RX10 344 yX10_endOf ∈ sl_GL := gl_6 (List.mem_of_getElem? (i := 115) rfl) rfl
theorem ml_X10_347 : Cond.methodLink RX10 347 yX10_partEnd ∈ sl_GL := gl_6 (List.mem_of_getElem? (i := 123) rfl) rfl
theorem ml_X10_350 : Cond.methodLink RX10 350 yX10_mayFail ∈ sl_GL := gl_6 (List.mem_of_getElem? (i := 119) rfl) rfl
theorem ml_X10_353 : Cond.methodLink RX10 353 yX10_methodIs ∈ sl_GL := gl_6 (List.mem_of_getElem? (i := 111) rfl) rfl
theorem ml_X10_356 : Cond.methodLink RX10 356 yX10_statementIs ∈ sl_GL := gl_6 (List.mem_of_getElem? (i := 135) rfl) rfl
theorem ml_X10_359 : Cond.methodLink RX10 359 yX10_signOf ∈ sl_GL := gl_6 (List.mem_of_getElem? (i := 143) rfl) rfl
theorem ml_X10_371 : Cond.methodLink RX10 371 yX10_done ∈ sl_GL := gl_6 (List.mem_of_getElem? (i := 167) rfl) rfl
theorem ml_X10_380 : Cond.methodLink RX10 380 yX10_works ∈ sl_GL := gl_6 (List.mem_of_getElem? (i := 163) rfl) rfl
theorem ml_X10_384 : Cond.methodLink RX10 384 yX10_sets ∈ sl_GL := gl_6 (List.mem_of_getElem? (i := 151) rfl) rfl
theorem ml_X10_394 : Cond.methodLink RX10 394 yX10_steps ∈ sl_GL := gl_6 (List.mem_of_getElem? (i := 159) rfl) rfl
theorem ml_X10_398 : Cond.methodLink RX10 398 yX10_goesThrough ∈ sl_GL := gl_6 (List.mem_of_getElem? (i := 155) rfl) rfl
theorem ml_X10_401 : Cond.methodLink RX10 401 yX10_takesBack ∈ sl_GL := gl_6 (List.mem_of_getElem? (i := 170) rfl) rfl
theorem ml_X10_404 : Cond.methodLink RX10 404 yX10_wayBy ∈ sl_GL := gl_6 (List.mem_of_getElem? (i := 174) rfl) rfl
theorem ml_X10_410 : Cond.methodLink RX10 410 yX10_toldOf ∈ sl_GL := gl_6 (List.mem_of_getElem? (i := 190) rfl) rfl
theorem ml_X3_39 : Cond.methodLink RX3 39 yX2_give ∈ sl_GL := gl_3 (List.mem_of_getElem? (i := 41) rfl) rfl
theorem ml_X3_70 : Cond.methodLink RX3 70 yX3_perform ∈ sl_GL := gl_3 (List.mem_of_getElem? (i := 46) rfl) rfl
theorem ml_X3_74 : Cond.methodLink RX3 74 yX3_step ∈ sl_GL := gl_3 (List.mem_of_getElem? (i := 68) rfl) rfl
theorem ml_X3_81 : Cond.methodLink RX3 81 yX7_hasRoutine ∈ sl_GL := gl_3 (List.mem_of_getElem? (i := 50) rfl) rfl
theorem ml_X3_105 : Cond.methodLink RX3 105 yX3_valueOf ∈ sl_GL := gl_3 (List.mem_of_getElem? (i := 60) rfl) rfl
theorem ml_X3_112 : Cond.methodLink RX3 112 yX3_walk ∈ sl_GL := gl_3 (List.mem_of_getElem? (i := 64) rfl) rfl
theorem ml_X3_122 : Cond.methodLink RX3 122 yX0_target ∈ sl_GL := gl_3 (List.mem_of_getElem? (i := 92) rfl) rfl
theorem ml_X3_126 : Cond.methodLink RX3 126 yX3_evaluate ∈ sl_GL := gl_3 (List.mem_of_getElem? (i := 72) rfl) rfl
theorem ml_X3_129 : Cond.methodLink RX3 129 yX0_behind ∈ sl_GL := gl_3 (List.mem_of_getElem? (i := 84) rfl) rfl
theorem ml_X3_133 : Cond.methodLink RX3 133 yX3_print ∈ sl_GL := gl_3 (List.mem_of_getElem? (i := 88) rfl) rfl
theorem ml_X3_137 : Cond.methodLink RX3 137 yX0_enter ∈ sl_GL := gl_3 (List.mem_of_getElem? (i := 98) rfl) rfl
theorem ml_X3_143 : Cond.methodLink RX3 143 yX0_symbol ∈ sl_GL := gl_3 (List.mem_of_getElem? (i := 76) rfl) rfl
theorem ml_X3_156 : Cond.methodLink RX3 156 yX3_apply ∈ sl_GL := gl_3 (List.mem_of_getElem? (i := 80) rfl) rfl
theorem ml_X4_15 : Cond.methodLink RX4 15 Lib.Math.min.name ∈ sl_GL := gl_2 (List.mem_of_getElem? (i := 180) rfl) rfl
theorem ml_X4_29 : Cond.methodLink RX4 29 yX0_empty ∈ sl_GL := gl_2 (List.mem_of_getElem? (i := 183) rfl) rfl
theorem ml_X4_40 : Cond.methodLink RX4 40 yX4_look ∈ sl_GL := gl_2 (List.mem_of_getElem? (i := 187) rfl) rfl
theorem ml_X4_44 : Cond.methodLink RX4 44 yX4_closeBlock ∈ sl_GL := gl_2 (List.mem_of_getElem? (i := 191) rfl) rfl
theorem ml_X4_48 : Cond.methodLink RX4 48 yX4_readStatement ∈ sl_GL := gl_2 (List.mem_of_getElem? (i := 199) rfl) rfl
theorem ml_X4_58 : Cond.methodLink RX4 58 yX4_expect ∈ sl_GL := gl_2 (List.mem_of_getElem? (i := 195) rfl) rfl
theorem ml_X4_64 : Cond.methodLink RX4 64 yX4_kindOf ∈ sl_GL := gl_2 (List.mem_of_getElem? (i := 203) rfl) rfl
theorem ml_X4_71 : Cond.methodLink RX4 71 yX4_inLoop ∈ sl_GL := gl_2 (List.mem_of_getElem? (i := 209) rfl) rfl
theorem ml_X4_74 : Cond.methodLink RX4 74 yX0_add ∈ sl_GL := gl_2 (List.mem_of_getElem? (i := 217) rfl) rfl
theorem ml_X4_84 : Cond.methodLink RX4 84 yX4_readExpression ∈ sl_GL := gl_2 (List.mem_of_getElem? (i := 222) rfl) rfl
theorem ml_X4_87 : Cond.methodLink RX4 87 yX0_loopAround ∈ sl_GL := gl_2 (List.mem_of_getElem? (i := 213) rfl) rfl
theorem ml_X4_99 : Cond.methodLink RX4 99 yX0_put ∈ sl_GL := gl_2 (List.mem_of_getElem? (i := 232) rfl) rfl
theorem ml_X5_22 : Cond.methodLink RX5 22 yX0_copyFrom ∈ sl_GL := gl_4 (List.mem_of_getElem? (i := 34) rfl) rfl
theorem ml_X5_36 : Cond.methodLink RX5 36 arraycopyName ∈ sl_GL := gl_4 (List.mem_of_getElem? (i := 51) rfl) rfl
theorem ml_X5_42 : Cond.methodLink RX5 42 yX0_empty ∈ sl_GL := gl_4 (List.mem_of_getElem? (i := 59) rfl) rfl
theorem ml_X5_54 : Cond.methodLink RX5 54 yX0_addRange ∈ sl_GL := gl_4 (List.mem_of_getElem? (i := 61) rfl) rfl
theorem ml_X5_67 : Cond.methodLink RX5 67 yX0_pick ∈ sl_GL := gl_4 (List.mem_of_getElem? (i := 91) rfl) rfl
theorem ml_X7_39 : Cond.methodLink RX7 39 yJ6_bitCount_0f7a4 ∈ sl_GL := gl_4 (List.mem_of_getElem? (i := 86) rfl) rfl
theorem ml_X7_54 : Cond.methodLink RX7 54 yX7_callsOf ∈ sl_GL := gl_4 (List.mem_of_getElem? (i := 103) rfl) rfl
theorem ml_X7_57 : Cond.methodLink RX7 57 yX0_mayFailToDivide ∈ sl_GL := gl_4 (List.mem_of_getElem? (i := 111) rfl) rfl
theorem ml_X7_61 : Cond.methodLink RX7 61 yX7_isCallOf ∈ sl_GL := gl_4 (List.mem_of_getElem? (i := 107) rfl) rfl
theorem ml_X7_71 : Cond.methodLink RX7 71 yX7_isCall ∈ sl_GL := gl_3 (List.mem_of_getElem? (i := 136) rfl) rfl
theorem ml_X7_85 : Cond.methodLink RX7 85 yX5_copyFrom ∈ sl_GL := gl_4 (List.mem_of_getElem? (i := 30) rfl) rfl
theorem ml_X7_89 : Cond.methodLink RX7 89 Lib.Math.min.name ∈ sl_GL := gl_4 (List.mem_of_getElem? (i := 54) rfl) rfl
theorem ml_X7_94 : Cond.methodLink RX7 94 yX5_takeFrom ∈ sl_GL := gl_4 (List.mem_of_getElem? (i := 55) rfl) rfl
theorem ml_X7_98 : Cond.methodLink RX7 98 yX0_empty ∈ sl_GL := gl_4 (List.mem_of_getElem? (i := 62) rfl) rfl
theorem ml_X7_110 : Cond.methodLink RX7 110 yX8_renamingAt ∈ sl_GL := gl_4 (List.mem_of_getElem? (i := 64) rfl) rfl
theorem ml_X7_115 : Cond.methodLink RX7 115 yX7_keep ∈ sl_GL := gl_4 (List.mem_of_getElem? (i := 68) rfl) rfl
theorem ml_X7_122 : Cond.methodLink RX7 122 yX7_placeOf ∈ sl_GL := gl_4 (List.mem_of_getElem? (i := 72) rfl) rfl
theorem ml_X7_128 : Cond.methodLink RX7 128 yX7_addCall ∈ sl_GL := gl_4 (List.mem_of_getElem? (i := 77) rfl) rfl
theorem ml_X7_132 : Cond.methodLink RX7 132 yX0_addRange ∈ sl_GL := gl_4 (List.mem_of_getElem? (i := 136) rfl) rfl
theorem ml_X7_136 : Cond.methodLink RX7 136 yX0_addLike ∈ sl_GL := gl_4 (List.mem_of_getElem? (i := 76) rfl) rfl
theorem ml_X7_140 : Cond.methodLink RX7 140 yX0_add ∈ sl_GL := gl_4 (List.mem_of_getElem? (i := 81) rfl) rfl
theorem ml_X7_144 : Cond.methodLink RX7 144 yX7_putNames ∈ sl_GL := gl_4 (List.mem_of_getElem? (i := 82) rfl) rfl
theorem ml_X7_148 : Cond.methodLink RX7 148 yX0_put ∈ sl_GL := gl_4 (List.mem_of_getElem? (i := 93) rfl) rfl
theorem ml_X7_155 : Cond.methodLink RX7 155 yX5_formalAt ∈ sl_GL := gl_4 (List.mem_of_getElem? (i := 87) rfl) rfl
theorem ml_X8_32 : Cond.methodLink RX8 32 yX1_program ∈ sl_GL := gl_3 (List.mem_of_getElem? (i := 204) rfl) rfl
theorem ml_X8_38 : Cond.methodLink RX8 38 yX8_inBlock ∈ sl_GL := gl_3 (List.mem_of_getElem? (i := 208) rfl) rfl
theorem ml_X8_53 : Cond.methodLink RX8 53 yX8_lastOf ∈ sl_GL := gl_3 (List.mem_of_getElem? (i := 215) rfl) rfl
theorem ml_X8_60 : Cond.methodLink RX8 60 yX8_matches ∈ sl_GL := gl_3 (List.mem_of_getElem? (i := 218) rfl) rfl
theorem ml_X8_64 : Cond.methodLink RX8 64 yX1_examine ∈ sl_GL := gl_3 (List.mem_of_getElem? (i := 239) rfl) rfl
theorem ml_X8_68 : Cond.methodLink RX8 68 yX8_packed ∈ sl_GL := gl_4 (List.mem_of_getElem? (i := 0) rfl) rfl
theorem ml_X8_72 : Cond.methodLink RX8 72 yX8_agrees ∈ sl_GL := gl_4 (List.mem_of_getElem? (i := 4) rfl) rfl
theorem ml_X8_76 : Cond.methodLink RX8 76 yX8_take ∈ sl_GL := gl_4 (List.mem_of_getElem? (i := 9) rfl) rfl
theorem ml_X8_109 : Cond.methodLink RX8 109 yX0_following ∈ sl_GL := gl_3 (List.mem_of_getElem? (i := 211) rfl) rfl
theorem ml_X8_116 : Cond.methodLink RX8 116 yX8_sameShape ∈ sl_GL := gl_3 (List.mem_of_getElem? (i := 222) rfl) rfl
theorem ml_X8_120 : Cond.methodLink RX8 120 yX8_samePlace ∈ sl_GL := gl_3 (List.mem_of_getElem? (i := 225) rfl) rfl
theorem ml_X8_124 : Cond.methodLink RX8 124 yX8_sameNames ∈ sl_GL := gl_3 (List.mem_of_getElem? (i := 228) rfl) rfl
theorem ml_X8_142 : Cond.methodLink RX8 142 yX0_symbol ∈ sl_GL := gl_3 (List.mem_of_getElem? (i := 232) rfl) rfl
theorem ml_X8_148 : Cond.methodLink RX8 148 yX8_replaces ∈ sl_GL := gl_3 (List.mem_of_getElem? (i := 234) rfl) rfl
theorem ml_X9_58 : Cond.methodLink RX9 58 yX9_refuse ∈ sl_GL := gl_2 (List.mem_of_getElem? (i := 160) rfl) rfl
theorem ml_X9_66 : Cond.methodLink RX9 66 yX9_spare ∈ sl_GL := gl_2 (List.mem_of_getElem? (i := 172) rfl) rfl
theorem ml_X9_77 : Cond.methodLink RX9 77 yX4_parse ∈ sl_GL := gl_2 (List.mem_of_getElem? (i := 176) rfl) rfl
theorem ml_X9_84 : Cond.methodLink RX9 84 yX9_advance ∈ sl_GL := gl_2 (List.mem_of_getElem? (i := 236) rfl) rfl
theorem ml_X9_92 : Cond.methodLink RX9 92 yX9_present ∈ sl_GL := gl_3 (List.mem_of_getElem? (i := 9) rfl) rfl
theorem ml_X9_95 : Cond.methodLink RX9 95 yX0_holds ∈ sl_GL := gl_3 (List.mem_of_getElem? (i := 13) rfl) rfl
theorem ml_X9_99 : Cond.methodLink RX9 99 yX0_property ∈ sl_GL := gl_3 (List.mem_of_getElem? (i := 17) rfl) rfl
theorem ml_X9_103 : Cond.methodLink RX9 103 yX0_symbol ∈ sl_GL := gl_3 (List.mem_of_getElem? (i := 29) rfl) rfl
theorem ml_X9_106 : Cond.methodLink RX9 106 yX3_execute ∈ sl_GL := gl_3 (List.mem_of_getElem? (i := 37) rfl) rfl
theorem ml_X9_131 : Cond.methodLink RX9 131 yX9_choose ∈ sl_GL := gl_3 (List.mem_of_getElem? (i := 110) rfl) rfl
theorem ml_X9_153 : Cond.methodLink RX9 153 yX0_pick ∈ sl_GL := gl_3 (List.mem_of_getElem? (i := 182) rfl) rfl
theorem ml_X9_160 : Cond.methodLink RX9 160 yX1_study ∈ sl_GL := gl_3 (List.mem_of_getElem? (i := 119) rfl) rfl
theorem ml_X9_167 : Cond.methodLink RX9 167 yX8_find ∈ sl_GL := gl_3 (List.mem_of_getElem? (i := 200) rfl) rfl
theorem ml_X9_177 : Cond.methodLink RX9 177 yX8_replacement ∈ sl_GL := gl_4 (List.mem_of_getElem? (i := 13) rfl) rfl
theorem ml_X9_180 : Cond.methodLink RX9 180 yX8_forget ∈ sl_GL := gl_4 (List.mem_of_getElem? (i := 22) rfl) rfl
theorem ml_X9_183 : Cond.methodLink RX9 183 yX7_buildLifted ∈ sl_GL := gl_4 (List.mem_of_getElem? (i := 26) rfl) rfl
theorem ml_X9_187 : Cond.methodLink RX9 187 yX7_hasRoutine ∈ sl_GL := gl_4 (List.mem_of_getElem? (i := 98) rfl) rfl
theorem ml_X9_190 : Cond.methodLink RX9 190 yX7_routineProperty ∈ sl_GL := gl_4 (List.mem_of_getElem? (i := 99) rfl) rfl
theorem ml_X9_201 : Cond.methodLink RX9 201 yX5_formalAt ∈ sl_GL := gl_4 (List.mem_of_getElem? (i := 126) rfl) rfl
theorem ml_X9_204 : Cond.methodLink RX9 204 yX7_callsOf ∈ sl_GL := gl_4 (List.mem_of_getElem? (i := 131) rfl) rfl
theorem ml_X9_207 : Cond.methodLink RX9 207 yX7_buildSettled ∈ sl_GL := gl_4 (List.mem_of_getElem? (i := 132) rfl) rfl
theorem ml_X9_217 : Cond.methodLink RX9 217 yX1_forget ∈ sl_GL := gl_3 (List.mem_of_getElem? (i := 1) rfl) rfl
theorem ml_X9_218 : Cond.methodLink RX9 218 yX9_tally ∈ sl_GL := gl_4 (List.mem_of_getElem? (i := 145) rfl) rfl
theorem ml_X9_228 : Cond.methodLink RX9 228 Lib.Math.min.name ∈ sl_GL := gl_3 (List.mem_of_getElem? (i := 0) rfl) rfl
theorem ml_X9_233 : Cond.methodLink RX9 233 yX0_isSpan ∈ sl_GL := gl_3 (List.mem_of_getElem? (i := 114) rfl) rfl
theorem ml_X9_236 : Cond.methodLink RX9 236 yX1_examine ∈ sl_GL := gl_3 (List.mem_of_getElem? (i := 160) rfl) rfl
theorem mn_X0_57 : Cond.methodLinkNest RX0 57 yX9_renamed "SpanLifts" ∈ sl_NT := gn_4 (List.mem_of_getElem? (i := 48) rfl) rfl
theorem mn_X0_61 : Cond.methodLinkNest RX0 61 yX9_variableOf "SpanLifts" ∈ sl_NT := gn_3 (List.mem_of_getElem? (i := 186) rfl) rfl
theorem mn_X0_69 : Cond.methodLinkNest RX0 69 yX9_renamedSet "SpanLifts" ∈ sl_NT := gn_4 (List.mem_of_getElem? (i := 50) rfl) rfl
theorem mn_X0_96 : Cond.methodLinkNest RX0 96 yX9_has "SpanLifts" ∈ sl_NT := gn_3 (List.mem_of_getElem? (i := 187) rfl) rfl
theorem mn_X0_106 : Cond.methodLinkNest RX0 106 yX9_isDigit "SpanLifts" ∈ sl_NT := gn_4 (List.mem_of_getElem? (i := 121) rfl) rfl
theorem mn_X0_109 : Cond.methodLinkNest RX0 109 yX9_isOperator "SpanLifts" ∈ sl_NT := gn_4 (List.mem_of_getElem? (i := 120) rfl) rfl
theorem mn_X3_97 : Cond.methodLinkNest RX3 97 yX9_has "SpanLifts" ∈ sl_NT := gn_3 (List.mem_of_getElem? (i := 54) rfl) rfl
theorem mn_X3_101 : Cond.methodLinkNest RX3 101 yX9_renamed "SpanLifts" ∈ sl_NT := gn_3 (List.mem_of_getElem? (i := 57) rfl) rfl
theorem mn_X3_146 : Cond.methodLinkNest RX3 146 yX9_isOperator "SpanLifts" ∈ sl_NT := gn_3 (List.mem_of_getElem? (i := 77) rfl) rfl
theorem mn_X3_149 : Cond.methodLinkNest RX3 149 yX9_isDigit "SpanLifts" ∈ sl_NT := gn_3 (List.mem_of_getElem? (i := 78) rfl) rfl
theorem mn_X3_152 : Cond.methodLinkNest RX3 152 yX9_variableOf "SpanLifts" ∈ sl_NT := gn_3 (List.mem_of_getElem? (i := 79) rfl) rfl
theorem mn_X4_81 : Cond.methodLinkNest RX4 81 yX9_variableOf "SpanLifts" ∈ sl_NT := gn_2 (List.mem_of_getElem? (i := 206) rfl) rfl
theorem mn_X4_90 : Cond.methodLinkNest RX4 90 yX9_isOperator "SpanLifts" ∈ sl_NT := gn_2 (List.mem_of_getElem? (i := 226) rfl) rfl
theorem mn_X4_93 : Cond.methodLinkNest RX4 93 yX9_isDigit "SpanLifts" ∈ sl_NT := gn_2 (List.mem_of_getElem? (i := 229) rfl) rfl
theorem mn_X7_81 : Cond.methodLinkNest RX7 81 yX9_renamedSet "SpanLifts" ∈ sl_NT := gn_3 (List.mem_of_getElem? (i := 145) rfl) rfl
theorem mn_X7_158 : Cond.methodLinkNest RX7 158 yX9_renamed "SpanLifts" ∈ sl_NT := gn_4 (List.mem_of_getElem? (i := 92) rfl) rfl
theorem mn_X8_83 : Cond.methodLinkNest RX8 83 yX9_has "SpanLifts" ∈ sl_NT := gn_3 (List.mem_of_getElem? (i := 238) rfl) rfl
theorem mn_X8_87 : Cond.methodLinkNest RX8 87 yX9_renamed "SpanLifts" ∈ sl_NT := gn_4 (List.mem_of_getElem? (i := 17) rfl) rfl
theorem mn_X8_100 : Cond.methodLinkNest RX8 100 yX9_renamedSet "SpanLifts" ∈ sl_NT := gn_4 (List.mem_of_getElem? (i := 8) rfl) rfl
theorem mn_X8_145 : Cond.methodLinkNest RX8 145 yX9_variableOf "SpanLifts" ∈ sl_NT := gn_3 (List.mem_of_getElem? (i := 233) rfl) rfl
theorem mkJ6_bitCount_0f7a4 : sl_MK mJ6_bitCount_0f7a4 1 := ⟨gl_3 (List.mem_of_getElem? (i := 174) rfl) rfl, gl_1 (List.mem_of_getElem? (i := 13) rfl) rfl, by decide +kernel⟩
theorem msJ6_bitCount_0f7a4 : Cond.static yJ6_bitCount_0f7a4 ∈ sl_GL := gl_3 (List.mem_of_getElem? (i := 173) rfl) rfl
theorem mkX0_add : sl_MK mX0_add 3 := ⟨gl_2 (List.mem_of_getElem? (i := 220) rfl) rfl, gl_1 (List.mem_of_getElem? (i := 9) rfl) rfl, by decide +kernel⟩
theorem mvX0_add : sl_MV mX0_add := ⟨gl_2 (List.mem_of_getElem? (i := 218) rfl) rfl, gl_2 (List.mem_of_getElem? (i := 219) rfl) rfl⟩
theorem mkX0_addLike : sl_MK mX0_addLike 5 := ⟨gl_4 (List.mem_of_getElem? (i := 46) rfl) rfl, gl_1 (List.mem_of_getElem? (i := 9) rfl) rfl, by decide +kernel⟩
theorem mvX0_addLike : sl_MV mX0_addLike := ⟨gl_4 (List.mem_of_getElem? (i := 44) rfl) rfl, gl_4 (List.mem_of_getElem? (i := 45) rfl) rfl⟩
theorem mkX0_addRange : sl_MK mX0_addRange 6 := ⟨gl_4 (List.mem_of_getElem? (i := 42) rfl) rfl, gl_1 (List.mem_of_getElem? (i := 9) rfl) rfl, by decide +kernel⟩
theorem mvX0_addRange : sl_MV mX0_addRange := ⟨gl_4 (List.mem_of_getElem? (i := 40) rfl) rfl, gl_4 (List.mem_of_getElem? (i := 41) rfl) rfl⟩
theorem mkX0_behind : sl_MK mX0_behind 3 := ⟨gl_3 (List.mem_of_getElem? (i := 87) rfl) rfl, gl_1 (List.mem_of_getElem? (i := 9) rfl) rfl, by decide +kernel⟩
theorem mvX0_behind : sl_MV mX0_behind := ⟨gl_3 (List.mem_of_getElem? (i := 85) rfl) rfl, gl_3 (List.mem_of_getElem? (i := 86) rfl) rfl⟩
theorem mkX0_copyFrom : sl_MK mX0_copyFrom 1 := ⟨gl_4 (List.mem_of_getElem? (i := 37) rfl) rfl, gl_1 (List.mem_of_getElem? (i := 9) rfl) rfl, by decide +kernel⟩
theorem mvX0_copyFrom : sl_MV mX0_copyFrom := ⟨gl_4 (List.mem_of_getElem? (i := 35) rfl) rfl, gl_4 (List.mem_of_getElem? (i := 36) rfl) rfl⟩
theorem mkX0_empty : sl_MK mX0_empty 0 := ⟨gl_2 (List.mem_of_getElem? (i := 186) rfl) rfl, gl_1 (List.mem_of_getElem? (i := 9) rfl) rfl, by decide +kernel⟩
theorem mvX0_empty : sl_MV mX0_empty := ⟨gl_2 (List.mem_of_getElem? (i := 184) rfl) rfl, gl_2 (List.mem_of_getElem? (i := 185) rfl) rfl⟩
theorem mkX0_endOfOperand : sl_MK mX0_endOfOperand 2 := ⟨gl_4 (List.mem_of_getElem? (i := 119) rfl) rfl, gl_1 (List.mem_of_getElem? (i := 9) rfl) rfl, by decide +kernel⟩
theorem mvX0_endOfOperand : sl_MV mX0_endOfOperand := ⟨gl_4 (List.mem_of_getElem? (i := 118) rfl) rfl, gs_3 (q := (yX0_endOfOperand, 13)) (List.mem_of_getElem? (i := 5) rfl) rfl⟩
theorem mkX0_enter : sl_MK mX0_enter 4 := ⟨gl_3 (List.mem_of_getElem? (i := 101) rfl) rfl, gl_1 (List.mem_of_getElem? (i := 9) rfl) rfl, by decide +kernel⟩
theorem mvX0_enter : sl_MV mX0_enter := ⟨gl_3 (List.mem_of_getElem? (i := 99) rfl) rfl, gl_3 (List.mem_of_getElem? (i := 100) rfl) rfl⟩
theorem mkX0_following : sl_MK mX0_following 1 := ⟨gl_3 (List.mem_of_getElem? (i := 214) rfl) rfl, gl_1 (List.mem_of_getElem? (i := 9) rfl) rfl, by decide +kernel⟩
theorem mvX0_following : sl_MV mX0_following := ⟨gl_3 (List.mem_of_getElem? (i := 212) rfl) rfl, gl_3 (List.mem_of_getElem? (i := 213) rfl) rfl⟩
theorem mkX0_holds : sl_MK mX0_holds 1 := ⟨gl_3 (List.mem_of_getElem? (i := 16) rfl) rfl, gl_1 (List.mem_of_getElem? (i := 9) rfl) rfl, by decide +kernel⟩
theorem mvX0_holds : sl_MV mX0_holds := ⟨gl_3 (List.mem_of_getElem? (i := 14) rfl) rfl, gl_3 (List.mem_of_getElem? (i := 15) rfl) rfl⟩
theorem mkX0_isSpan : sl_MK mX0_isSpan 2 := ⟨gl_3 (List.mem_of_getElem? (i := 117) rfl) rfl, gl_1 (List.mem_of_getElem? (i := 9) rfl) rfl, by decide +kernel⟩
theorem mvX0_isSpan : sl_MV mX0_isSpan := ⟨gl_3 (List.mem_of_getElem? (i := 115) rfl) rfl, gl_3 (List.mem_of_getElem? (i := 116) rfl) rfl⟩
theorem mkX0_loopAround : sl_MK mX0_loopAround 2 := ⟨gl_2 (List.mem_of_getElem? (i := 216) rfl) rfl, gl_1 (List.mem_of_getElem? (i := 9) rfl) rfl, by decide +kernel⟩
theorem mvX0_loopAround : sl_MV mX0_loopAround := ⟨gl_2 (List.mem_of_getElem? (i := 214) rfl) rfl, gl_2 (List.mem_of_getElem? (i := 215) rfl) rfl⟩
theorem mkX0_mayFailToDivide : sl_MK mX0_mayFailToDivide 0 := ⟨gl_4 (List.mem_of_getElem? (i := 114) rfl) rfl, gl_1 (List.mem_of_getElem? (i := 9) rfl) rfl, by decide +kernel⟩
theorem mvX0_mayFailToDivide : sl_MV mX0_mayFailToDivide := ⟨gl_4 (List.mem_of_getElem? (i := 112) rfl) rfl, gl_4 (List.mem_of_getElem? (i := 113) rfl) rfl⟩
theorem mkX0_pick : sl_MK mX0_pick 4 := ⟨gl_3 (List.mem_of_getElem? (i := 185) rfl) rfl, gl_1 (List.mem_of_getElem? (i := 9) rfl) rfl, by decide +kernel⟩
theorem mvX0_pick : sl_MV mX0_pick := ⟨gl_3 (List.mem_of_getElem? (i := 183) rfl) rfl, gl_3 (List.mem_of_getElem? (i := 184) rfl) rfl⟩
theorem mkX0_position : sl_MK mX0_position 1 := ⟨gl_3 (List.mem_of_getElem? (i := 24) rfl) rfl, gl_1 (List.mem_of_getElem? (i := 9) rfl) rfl, by decide +kernel⟩
theorem mvX0_position : sl_MV mX0_position := ⟨gl_3 (List.mem_of_getElem? (i := 23) rfl) rfl, gs_1 (q := (yX0_position, 13)) (List.mem_of_getElem? (i := 10) rfl) rfl⟩
theorem mkX0_property : sl_MK mX0_property 2 := ⟨gl_3 (List.mem_of_getElem? (i := 20) rfl) rfl, gl_1 (List.mem_of_getElem? (i := 9) rfl) rfl, by decide +kernel⟩
theorem mvX0_property : sl_MV mX0_property := ⟨gl_3 (List.mem_of_getElem? (i := 18) rfl) rfl, gl_3 (List.mem_of_getElem? (i := 19) rfl) rfl⟩
theorem mkX0_put : sl_MK mX0_put 1 := ⟨gl_2 (List.mem_of_getElem? (i := 235) rfl) rfl, gl_1 (List.mem_of_getElem? (i := 9) rfl) rfl, by decide +kernel⟩
theorem mvX0_put : sl_MV mX0_put := ⟨gl_2 (List.mem_of_getElem? (i := 233) rfl) rfl, gl_2 (List.mem_of_getElem? (i := 234) rfl) rfl⟩
theorem mkX0_symbol : sl_MK mX0_symbol 2 := ⟨gl_3 (List.mem_of_getElem? (i := 32) rfl) rfl, gl_1 (List.mem_of_getElem? (i := 9) rfl) rfl, by decide +kernel⟩
theorem mvX0_symbol : sl_MV mX0_symbol := ⟨gl_3 (List.mem_of_getElem? (i := 30) rfl) rfl, gl_3 (List.mem_of_getElem? (i := 31) rfl) rfl⟩
theorem mkX0_target : sl_MK mX0_target 4 := ⟨gl_3 (List.mem_of_getElem? (i := 95) rfl) rfl, gl_1 (List.mem_of_getElem? (i := 9) rfl) rfl, by decide +kernel⟩
theorem mvX0_target : sl_MV mX0_target := ⟨gl_3 (List.mem_of_getElem? (i := 93) rfl) rfl, gl_3 (List.mem_of_getElem? (i := 94) rfl) rfl⟩
theorem mkX1_examine : sl_MK mX1_examine 3 := ⟨gl_3 (List.mem_of_getElem? (i := 163) rfl) rfl, gl_1 (List.mem_of_getElem? (i := 5) rfl) rfl, by decide +kernel⟩
theorem mvX1_examine : sl_MV mX1_examine := ⟨gl_3 (List.mem_of_getElem? (i := 161) rfl) rfl, gl_3 (List.mem_of_getElem? (i := 162) rfl) rfl⟩
theorem mkX1_findLive : sl_MK mX1_findLive 3 := ⟨gl_3 (List.mem_of_getElem? (i := 126) rfl) rfl, gl_1 (List.mem_of_getElem? (i := 5) rfl) rfl, by decide +kernel⟩
theorem mvX1_findLive : sl_MV mX1_findLive := ⟨gl_3 (List.mem_of_getElem? (i := 125) rfl) rfl, gs_2 (q := (yX1_findLive, 6)) (List.mem_of_getElem? (i := 3) rfl) rfl⟩
theorem mkX1_findSet : sl_MK mX1_findSet 4 := ⟨gl_3 (List.mem_of_getElem? (i := 151) rfl) rfl, gl_1 (List.mem_of_getElem? (i := 5) rfl) rfl, by decide +kernel⟩
theorem mvX1_findSet : sl_MV mX1_findSet := ⟨gl_3 (List.mem_of_getElem? (i := 150) rfl) rfl, gs_2 (q := (yX1_findSet, 6)) (List.mem_of_getElem? (i := 6) rfl) rfl⟩
theorem mkX1_forget : sl_MK mX1_forget 0 := ⟨gl_3 (List.mem_of_getElem? (i := 4) rfl) rfl, gl_1 (List.mem_of_getElem? (i := 5) rfl) rfl, by decide +kernel⟩
theorem mvX1_forget : sl_MV mX1_forget := ⟨gl_3 (List.mem_of_getElem? (i := 2) rfl) rfl, gl_3 (List.mem_of_getElem? (i := 3) rfl) rfl⟩
theorem mkX1_liveAt : sl_MK mX1_liveAt 4 := ⟨gl_3 (List.mem_of_getElem? (i := 130) rfl) rfl, gl_1 (List.mem_of_getElem? (i := 5) rfl) rfl, by decide +kernel⟩
theorem mvX1_liveAt : sl_MV mX1_liveAt := ⟨gl_3 (List.mem_of_getElem? (i := 129) rfl) rfl, gs_2 (q := (yX1_liveAt, 6)) (List.mem_of_getElem? (i := 4) rfl) rfl⟩
theorem mkX1_passOn : sl_MK mX1_passOn 4 := ⟨gl_3 (List.mem_of_getElem? (i := 155) rfl) rfl, gl_1 (List.mem_of_getElem? (i := 5) rfl) rfl, by decide +kernel⟩
theorem mvX1_passOn : sl_MV mX1_passOn := ⟨gl_3 (List.mem_of_getElem? (i := 154) rfl) rfl, gs_2 (q := (yX1_passOn, 6)) (List.mem_of_getElem? (i := 7) rfl) rfl⟩
theorem mkX1_program : sl_MK mX1_program 0 := ⟨gl_3 (List.mem_of_getElem? (i := 207) rfl) rfl, gl_1 (List.mem_of_getElem? (i := 5) rfl) rfl, by decide +kernel⟩
theorem mvX1_program : sl_MV mX1_program := ⟨gl_3 (List.mem_of_getElem? (i := 205) rfl) rfl, gl_3 (List.mem_of_getElem? (i := 206) rfl) rfl⟩
theorem mkX1_reach : sl_MK mX1_reach 3 := ⟨gl_3 (List.mem_of_getElem? (i := 159) rfl) rfl, gl_1 (List.mem_of_getElem? (i := 5) rfl) rfl, by decide +kernel⟩
theorem mvX1_reach : sl_MV mX1_reach := ⟨gl_3 (List.mem_of_getElem? (i := 158) rfl) rfl, gs_2 (q := (yX1_reach, 6)) (List.mem_of_getElem? (i := 8) rfl) rfl⟩
theorem mkX1_reason : sl_MK mX1_reason 1 := ⟨gl_3 (List.mem_of_getElem? (i := 171) rfl) rfl, gl_1 (List.mem_of_getElem? (i := 5) rfl) rfl, by decide +kernel⟩
theorem mvX1_reason : sl_MV mX1_reason := ⟨gl_3 (List.mem_of_getElem? (i := 170) rfl) rfl, gs_2 (q := (yX1_reason, 6)) (List.mem_of_getElem? (i := 9) rfl) rfl⟩
theorem mkX1_study : sl_MK mX1_study 1 := ⟨gl_3 (List.mem_of_getElem? (i := 122) rfl) rfl, gl_1 (List.mem_of_getElem? (i := 5) rfl) rfl, by decide +kernel⟩
theorem mvX1_study : sl_MV mX1_study := ⟨gl_3 (List.mem_of_getElem? (i := 120) rfl) rfl, gl_3 (List.mem_of_getElem? (i := 121) rfl) rfl⟩
theorem mkX10_answered : sl_MK mX10_answered 1 := ⟨gl_6 (List.mem_of_getElem? (i := 82) rfl) rfl, gl_1 (List.mem_of_getElem? (i := 11) rfl) rfl, by decide +kernel⟩
theorem mvX10_answered : sl_MV mX10_answered := ⟨gl_6 (List.mem_of_getElem? (i := 81) rfl) rfl, gs_5 (q := (yX10_answered, 64)) (List.mem_of_getElem? (i := 13) rfl) rfl⟩
theorem mkX10_answeredList : sl_MK mX10_answeredList 2 := ⟨gl_6 (List.mem_of_getElem? (i := 98) rfl) rfl, gl_1 (List.mem_of_getElem? (i := 11) rfl) rfl, by decide +kernel⟩
theorem mvX10_answeredList : sl_MV mX10_answeredList := ⟨gl_6 (List.mem_of_getElem? (i := 97) rfl) rfl, gs_6 (q := (yX10_answeredList, 64)) (List.mem_of_getElem? (i := 0) rfl) rfl⟩
theorem mkX10_answersTo : sl_MK mX10_answersTo 2 := ⟨gl_6 (List.mem_of_getElem? (i := 78) rfl) rfl, gl_1 (List.mem_of_getElem? (i := 11) rfl) rfl, by decide +kernel⟩
theorem mvX10_answersTo : sl_MV mX10_answersTo := ⟨gl_6 (List.mem_of_getElem? (i := 77) rfl) rfl, gs_5 (q := (yX10_answersTo, 64)) (List.mem_of_getElem? (i := 12) rfl) rfl⟩
theorem mkX10_areAlike : sl_MK mX10_areAlike 3 := ⟨gl_6 (List.mem_of_getElem? (i := 74) rfl) rfl, gl_1 (List.mem_of_getElem? (i := 11) rfl) rfl, by decide +kernel⟩
theorem mvX10_areAlike : sl_MV mX10_areAlike := ⟨gl_6 (List.mem_of_getElem? (i := 73) rfl) rfl, gs_5 (q := (yX10_areAlike, 64)) (List.mem_of_getElem? (i := 11) rfl) rfl⟩
theorem mkX10_areOfBlock : sl_MK mX10_areOfBlock 3 := ⟨gl_5 (List.mem_of_getElem? (i := 217) rfl) rfl, gl_1 (List.mem_of_getElem? (i := 11) rfl) rfl, by decide +kernel⟩
theorem mvX10_areOfBlock : sl_MV mX10_areOfBlock := ⟨gl_5 (List.mem_of_getElem? (i := 216) rfl) rfl, gs_4 (q := (yX10_areOfBlock, 64)) (List.mem_of_getElem? (i := 9) rfl) rfl⟩
theorem mkX10_bad : sl_MK mX10_bad 0 := ⟨gl_5 (List.mem_of_getElem? (i := 124) rfl) rfl, gl_1 (List.mem_of_getElem? (i := 11) rfl) rfl, by decide +kernel⟩
theorem mvX10_bad : sl_MV mX10_bad := ⟨gl_5 (List.mem_of_getElem? (i := 123) rfl) rfl, gs_3 (q := (yX10_bad, 64)) (List.mem_of_getElem? (i := 7) rfl) rfl⟩
theorem mkX10_behind : sl_MK mX10_behind 2 := ⟨gl_5 (List.mem_of_getElem? (i := 213) rfl) rfl, gl_1 (List.mem_of_getElem? (i := 11) rfl) rfl, by decide +kernel⟩
theorem mvX10_behind : sl_MV mX10_behind := ⟨gl_5 (List.mem_of_getElem? (i := 212) rfl) rfl, gs_4 (q := (yX10_behind, 64)) (List.mem_of_getElem? (i := 8) rfl) rfl⟩
theorem mkX10_callAt : sl_MK mX10_callAt 1 := ⟨gl_5 (List.mem_of_getElem? (i := 190) rfl) rfl, gl_1 (List.mem_of_getElem? (i := 11) rfl) rfl, by decide +kernel⟩
theorem mvX10_callAt : sl_MV mX10_callAt := ⟨gl_5 (List.mem_of_getElem? (i := 189) rfl) rfl, gs_4 (q := (yX10_callAt, 64)) (List.mem_of_getElem? (i := 3) rfl) rfl⟩
theorem mkX10_callSets : sl_MK mX10_callSets 2 := ⟨gl_5 (List.mem_of_getElem? (i := 229) rfl) rfl, gl_1 (List.mem_of_getElem? (i := 11) rfl) rfl, by decide +kernel⟩
theorem mvX10_callSets : sl_MV mX10_callSets := ⟨gl_5 (List.mem_of_getElem? (i := 228) rfl) rfl, gs_4 (q := (yX10_callSets, 64)) (List.mem_of_getElem? (i := 12) rfl) rfl⟩
theorem mkX10_calls : sl_MK mX10_calls 5 := ⟨gl_6 (List.mem_of_getElem? (i := 90) rfl) rfl, gl_1 (List.mem_of_getElem? (i := 11) rfl) rfl, by decide +kernel⟩
theorem mvX10_calls : sl_MV mX10_calls := ⟨gl_6 (List.mem_of_getElem? (i := 89) rfl) rfl, gs_5 (q := (yX10_calls, 64)) (List.mem_of_getElem? (i := 14) rfl) rfl⟩
theorem mkX10_closes : sl_MK mX10_closes 0 := ⟨gl_5 (List.mem_of_getElem? (i := 148) rfl) rfl, gl_1 (List.mem_of_getElem? (i := 11) rfl) rfl, by decide +kernel⟩
theorem mvX10_closes : sl_MV mX10_closes := ⟨gl_5 (List.mem_of_getElem? (i := 147) rfl) rfl, gs_3 (q := (yX10_closes, 64)) (List.mem_of_getElem? (i := 11) rfl) rfl⟩
theorem mkX10_done : sl_MK mX10_done 3 := ⟨gl_6 (List.mem_of_getElem? (i := 169) rfl) rfl, gl_1 (List.mem_of_getElem? (i := 11) rfl) rfl, by decide +kernel⟩
theorem msX10_done : Cond.static yX10_done ∈ sl_GL := gl_6 (List.mem_of_getElem? (i := 168) rfl) rfl
theorem mkX10_endOf : sl_MK mX10_endOf 1 := ⟨gl_6 (List.mem_of_getElem? (i := 118) rfl) rfl, gl_1 (List.mem_of_getElem? (i := 11) rfl) rfl, by decide +kernel⟩
theorem mvX10_endOf : sl_MV mX10_endOf := ⟨gl_6 (List.mem_of_getElem? (i := 117) rfl) rfl, gs_6 (q := (yX10_endOf, 64)) (List.mem_of_getElem? (i := 3) rfl) rfl⟩
theorem mkX10_firstOf : sl_MK mX10_firstOf 3 := ⟨gl_5 (List.mem_of_getElem? (i := 225) rfl) rfl, gl_1 (List.mem_of_getElem? (i := 11) rfl) rfl, by decide +kernel⟩
theorem mvX10_firstOf : sl_MV mX10_firstOf := ⟨gl_5 (List.mem_of_getElem? (i := 224) rfl) rfl, gs_4 (q := (yX10_firstOf, 64)) (List.mem_of_getElem? (i := 11) rfl) rfl⟩
theorem mkX10_full : sl_MK mX10_full 0 := ⟨gl_5 (List.mem_of_getElem? (i := 128) rfl) rfl, gl_1 (List.mem_of_getElem? (i := 11) rfl) rfl, by decide +kernel⟩
theorem mvX10_full : sl_MV mX10_full := ⟨gl_5 (List.mem_of_getElem? (i := 127) rfl) rfl, gs_3 (q := (yX10_full, 64)) (List.mem_of_getElem? (i := 8) rfl) rfl⟩
theorem mkX10_goesThrough : sl_MK mX10_goesThrough 1 := ⟨gl_6 (List.mem_of_getElem? (i := 158) rfl) rfl, gl_1 (List.mem_of_getElem? (i := 11) rfl) rfl, by decide +kernel⟩
theorem mvX10_goesThrough : sl_MV mX10_goesThrough := ⟨gl_6 (List.mem_of_getElem? (i := 157) rfl) rfl, gs_6 (q := (yX10_goesThrough, 64)) (List.mem_of_getElem? (i := 9) rfl) rfl⟩
theorem mkX10_has : sl_MK mX10_has 2 := ⟨gl_5 (List.mem_of_getElem? (i := 235) rfl) rfl, gl_1 (List.mem_of_getElem? (i := 11) rfl) rfl, by decide +kernel⟩
theorem msX10_has : Cond.static yX10_has ∈ sl_GL := gl_5 (List.mem_of_getElem? (i := 234) rfl) rfl
theorem mkX10_hasCall : sl_MK mX10_hasCall 2 := ⟨gl_6 (List.mem_of_getElem? (i := 70) rfl) rfl, gl_1 (List.mem_of_getElem? (i := 11) rfl) rfl, by decide +kernel⟩
theorem mvX10_hasCall : sl_MV mX10_hasCall := ⟨gl_6 (List.mem_of_getElem? (i := 69) rfl) rfl, gs_5 (q := (yX10_hasCall, 64)) (List.mem_of_getElem? (i := 10) rfl) rfl⟩
theorem mkX10_in : sl_MK mX10_in 3 := ⟨gl_5 (List.mem_of_getElem? (i := 120) rfl) rfl, gl_1 (List.mem_of_getElem? (i := 11) rfl) rfl, by decide +kernel⟩
theorem msX10_in : Cond.static yX10_in ∈ sl_GL := gl_5 (List.mem_of_getElem? (i := 119) rfl) rfl
theorem mkX10_isAct : sl_MK mX10_isAct 1 := ⟨gl_5 (List.mem_of_getElem? (i := 170) rfl) rfl, gl_1 (List.mem_of_getElem? (i := 11) rfl) rfl, by decide +kernel⟩
theorem msX10_isAct : Cond.static yX10_isAct ∈ sl_GL := gl_5 (List.mem_of_getElem? (i := 169) rfl) rfl
theorem mkX10_isInLoop : sl_MK mX10_isInLoop 0 := ⟨gl_5 (List.mem_of_getElem? (i := 163) rfl) rfl, gl_1 (List.mem_of_getElem? (i := 11) rfl) rfl, by decide +kernel⟩
theorem mvX10_isInLoop : sl_MV mX10_isInLoop := ⟨gl_5 (List.mem_of_getElem? (i := 162) rfl) rfl, gs_3 (q := (yX10_isInLoop, 64)) (List.mem_of_getElem? (i := 14) rfl) rfl⟩
theorem mkX10_isMethod : sl_MK mX10_isMethod 1 := ⟨gl_6 (List.mem_of_getElem? (i := 106) rfl) rfl, gl_1 (List.mem_of_getElem? (i := 11) rfl) rfl, by decide +kernel⟩
theorem mvX10_isMethod : sl_MV mX10_isMethod := ⟨gl_6 (List.mem_of_getElem? (i := 105) rfl) rfl, gs_6 (q := (yX10_isMethod, 64)) (List.mem_of_getElem? (i := 1) rfl) rfl⟩
theorem mkX10_isSpan : sl_MK mX10_isSpan 2 := ⟨gl_6 (List.mem_of_getElem? (i := 3) rfl) rfl, gl_1 (List.mem_of_getElem? (i := 11) rfl) rfl, by decide +kernel⟩
theorem mvX10_isSpan : sl_MV mX10_isSpan := ⟨gl_6 (List.mem_of_getElem? (i := 2) rfl) rfl, gs_4 (q := (yX10_isSpan, 64)) (List.mem_of_getElem? (i := 14) rfl) rfl⟩
theorem mkX10_isStatement : sl_MK mX10_isStatement 1 := ⟨gl_6 (List.mem_of_getElem? (i := 7) rfl) rfl, gl_1 (List.mem_of_getElem? (i := 11) rfl) rfl, by decide +kernel⟩
theorem mvX10_isStatement : sl_MV mX10_isStatement := ⟨gl_6 (List.mem_of_getElem? (i := 6) rfl) rfl, gs_4 (q := (yX10_isStatement, 64)) (List.mem_of_getElem? (i := 15) rfl) rfl⟩
theorem mkX10_isVariable : sl_MK mX10_isVariable 1 := ⟨gl_5 (List.mem_of_getElem? (i := 197) rfl) rfl, gl_1 (List.mem_of_getElem? (i := 11) rfl) rfl, by decide +kernel⟩
theorem msX10_isVariable : Cond.static yX10_isVariable ∈ sl_GL := gl_5 (List.mem_of_getElem? (i := 196) rfl) rfl
theorem mkX10_keepsState : sl_MK mX10_keepsState 0 := ⟨gl_5 (List.mem_of_getElem? (i := 174) rfl) rfl, gl_1 (List.mem_of_getElem? (i := 11) rfl) rfl, by decide +kernel⟩
theorem mvX10_keepsState : sl_MV mX10_keepsState := ⟨gl_5 (List.mem_of_getElem? (i := 173) rfl) rfl, gs_4 (q := (yX10_keepsState, 64)) (List.mem_of_getElem? (i := 0) rfl) rfl⟩
theorem mkX10_kindOf : sl_MK mX10_kindOf 1 := ⟨gl_5 (List.mem_of_getElem? (i := 159) rfl) rfl, gl_1 (List.mem_of_getElem? (i := 11) rfl) rfl, by decide +kernel⟩
theorem msX10_kindOf : Cond.static yX10_kindOf ∈ sl_GL := gl_5 (List.mem_of_getElem? (i := 158) rfl) rfl
theorem mkX10_lastOf : sl_MK mX10_lastOf 2 := ⟨gl_6 (List.mem_of_getElem? (i := 66) rfl) rfl, gl_1 (List.mem_of_getElem? (i := 11) rfl) rfl, by decide +kernel⟩
theorem mvX10_lastOf : sl_MV mX10_lastOf := ⟨gl_6 (List.mem_of_getElem? (i := 65) rfl) rfl, gs_5 (q := (yX10_lastOf, 64)) (List.mem_of_getElem? (i := 9) rfl) rfl⟩
theorem mkX10_lastTold : sl_MK mX10_lastTold 1 := ⟨gl_6 (List.mem_of_getElem? (i := 94) rfl) rfl, gl_1 (List.mem_of_getElem? (i := 11) rfl) rfl, by decide +kernel⟩
theorem mvX10_lastTold : sl_MV mX10_lastTold := ⟨gl_6 (List.mem_of_getElem? (i := 93) rfl) rfl, gs_5 (q := (yX10_lastTold, 64)) (List.mem_of_getElem? (i := 15) rfl) rfl⟩
theorem mkX10_lays : sl_MK mX10_lays 0 := ⟨gl_5 (List.mem_of_getElem? (i := 182) rfl) rfl, gl_1 (List.mem_of_getElem? (i := 11) rfl) rfl, by decide +kernel⟩
theorem mvX10_lays : sl_MV mX10_lays := ⟨gl_5 (List.mem_of_getElem? (i := 181) rfl) rfl, gs_4 (q := (yX10_lays, 64)) (List.mem_of_getElem? (i := 1) rfl) rfl⟩
theorem mkX10_laysAlike : sl_MK mX10_laysAlike 2 := ⟨gl_6 (List.mem_of_getElem? (i := 58) rfl) rfl, gl_1 (List.mem_of_getElem? (i := 11) rfl) rfl, by decide +kernel⟩
theorem mvX10_laysAlike : sl_MV mX10_laysAlike := ⟨gl_6 (List.mem_of_getElem? (i := 57) rfl) rfl, gs_5 (q := (yX10_laysAlike, 64)) (List.mem_of_getElem? (i := 7) rfl) rfl⟩
theorem mkX10_laysLive : sl_MK mX10_laysLive 1 := ⟨gl_5 (List.mem_of_getElem? (i := 239) rfl) rfl, gl_1 (List.mem_of_getElem? (i := 11) rfl) rfl, by decide +kernel⟩
theorem mvX10_laysLive : sl_MV mX10_laysLive := ⟨gl_5 (List.mem_of_getElem? (i := 238) rfl) rfl, gs_4 (q := (yX10_laysLive, 64)) (List.mem_of_getElem? (i := 13) rfl) rfl⟩
theorem mkX10_laysSpan : sl_MK mX10_laysSpan 2 := ⟨gl_6 (List.mem_of_getElem? (i := 15) rfl) rfl, gl_1 (List.mem_of_getElem? (i := 11) rfl) rfl, by decide +kernel⟩
theorem mvX10_laysSpan : sl_MV mX10_laysSpan := ⟨gl_6 (List.mem_of_getElem? (i := 14) rfl) rfl, gs_5 (q := (yX10_laysSpan, 64)) (List.mem_of_getElem? (i := 1) rfl) rfl⟩
theorem mkX10_laysStatements : sl_MK mX10_laysStatements 1 := ⟨gl_5 (List.mem_of_getElem? (i := 186) rfl) rfl, gl_1 (List.mem_of_getElem? (i := 11) rfl) rfl, by decide +kernel⟩
theorem mvX10_laysStatements : sl_MV mX10_laysStatements := ⟨gl_5 (List.mem_of_getElem? (i := 185) rfl) rfl, gs_4 (q := (yX10_laysStatements, 64)) (List.mem_of_getElem? (i := 2) rfl) rfl⟩
theorem mkX10_laysWays : sl_MK mX10_laysWays 2 := ⟨gl_5 (List.mem_of_getElem? (i := 205) rfl) rfl, gl_1 (List.mem_of_getElem? (i := 11) rfl) rfl, by decide +kernel⟩
theorem mvX10_laysWays : sl_MV mX10_laysWays := ⟨gl_5 (List.mem_of_getElem? (i := 204) rfl) rfl, gs_4 (q := (yX10_laysWays, 64)) (List.mem_of_getElem? (i := 6) rfl) rfl⟩
theorem mkX10_leavesBy : sl_MK mX10_leavesBy 2 := ⟨gl_6 (List.mem_of_getElem? (i := 23) rfl) rfl, gl_1 (List.mem_of_getElem? (i := 11) rfl) rfl, by decide +kernel⟩
theorem mvX10_leavesBy : sl_MV mX10_leavesBy := ⟨gl_6 (List.mem_of_getElem? (i := 22) rfl) rfl, gs_5 (q := (yX10_leavesBy, 64)) (List.mem_of_getElem? (i := 3) rfl) rfl⟩
theorem mkX10_leaving : sl_MK mX10_leaving 4 := ⟨gl_5 (List.mem_of_getElem? (i := 209) rfl) rfl, gl_1 (List.mem_of_getElem? (i := 11) rfl) rfl, by decide +kernel⟩
theorem mvX10_leaving : sl_MV mX10_leaving := ⟨gl_5 (List.mem_of_getElem? (i := 208) rfl) rfl, gs_4 (q := (yX10_leaving, 64)) (List.mem_of_getElem? (i := 7) rfl) rfl⟩
theorem mkX10_lengthOf : sl_MK mX10_lengthOf 2 := ⟨gl_6 (List.mem_of_getElem? (i := 62) rfl) rfl, gl_1 (List.mem_of_getElem? (i := 11) rfl) rfl, by decide +kernel⟩
theorem mvX10_lengthOf : sl_MV mX10_lengthOf := ⟨gl_6 (List.mem_of_getElem? (i := 61) rfl) rfl, gs_5 (q := (yX10_lengthOf, 64)) (List.mem_of_getElem? (i := 8) rfl) rfl⟩
theorem mkX10_listOf : sl_MK mX10_listOf 2 := ⟨gl_6 (List.mem_of_getElem? (i := 34) rfl) rfl, gl_1 (List.mem_of_getElem? (i := 11) rfl) rfl, by decide +kernel⟩
theorem mvX10_listOf : sl_MV mX10_listOf := ⟨gl_6 (List.mem_of_getElem? (i := 33) rfl) rfl, gs_5 (q := (yX10_listOf, 64)) (List.mem_of_getElem? (i := 4) rfl) rfl⟩
theorem mkX10_listSet : sl_MK mX10_listSet 1 := ⟨gl_5 (List.mem_of_getElem? (i := 194) rfl) rfl, gl_1 (List.mem_of_getElem? (i := 11) rfl) rfl, by decide +kernel⟩
theorem mvX10_listSet : sl_MV mX10_listSet := ⟨gl_5 (List.mem_of_getElem? (i := 193) rfl) rfl, gs_4 (q := (yX10_listSet, 64)) (List.mem_of_getElem? (i := 4) rfl) rfl⟩
theorem mkX10_lists : sl_MK mX10_lists 1 := ⟨gl_6 (List.mem_of_getElem? (i := 42) rfl) rfl, gl_1 (List.mem_of_getElem? (i := 11) rfl) rfl, by decide +kernel⟩
theorem mvX10_lists : sl_MV mX10_lists := ⟨gl_6 (List.mem_of_getElem? (i := 41) rfl) rfl, gs_5 (q := (yX10_lists, 64)) (List.mem_of_getElem? (i := 6) rfl) rfl⟩
theorem mkX10_look : sl_MK mX10_look 0 := ⟨gl_5 (List.mem_of_getElem? (i := 144) rfl) rfl, gl_1 (List.mem_of_getElem? (i := 11) rfl) rfl, by decide +kernel⟩
theorem mvX10_look : sl_MV mX10_look := ⟨gl_5 (List.mem_of_getElem? (i := 143) rfl) rfl, gs_3 (q := (yX10_look, 64)) (List.mem_of_getElem? (i := 10) rfl) rfl⟩
theorem mkX10_manyOf : sl_MK mX10_manyOf 1 := ⟨gl_5 (List.mem_of_getElem? (i := 201) rfl) rfl, gl_1 (List.mem_of_getElem? (i := 11) rfl) rfl, by decide +kernel⟩
theorem mvX10_manyOf : sl_MV mX10_manyOf := ⟨gl_5 (List.mem_of_getElem? (i := 200) rfl) rfl, gs_4 (q := (yX10_manyOf, 64)) (List.mem_of_getElem? (i := 5) rfl) rfl⟩
theorem mkX10_mayFail : sl_MK mX10_mayFail 1 := ⟨gl_6 (List.mem_of_getElem? (i := 122) rfl) rfl, gl_1 (List.mem_of_getElem? (i := 11) rfl) rfl, by decide +kernel⟩
theorem mvX10_mayFail : sl_MV mX10_mayFail := ⟨gl_6 (List.mem_of_getElem? (i := 121) rfl) rfl, gs_6 (q := (yX10_mayFail, 64)) (List.mem_of_getElem? (i := 4) rfl) rfl⟩
theorem mkX10_meets : sl_MK mX10_meets 4 := ⟨gl_6 (List.mem_of_getElem? (i := 38) rfl) rfl, gl_1 (List.mem_of_getElem? (i := 11) rfl) rfl, by decide +kernel⟩
theorem mvX10_meets : sl_MV mX10_meets := ⟨gl_6 (List.mem_of_getElem? (i := 37) rfl) rfl, gs_5 (q := (yX10_meets, 64)) (List.mem_of_getElem? (i := 5) rfl) rfl⟩
theorem mkX10_methodIs : sl_MK mX10_methodIs 2 := ⟨gl_6 (List.mem_of_getElem? (i := 114) rfl) rfl, gl_1 (List.mem_of_getElem? (i := 11) rfl) rfl, by decide +kernel⟩
theorem mvX10_methodIs : sl_MV mX10_methodIs := ⟨gl_6 (List.mem_of_getElem? (i := 113) rfl) rfl, gs_6 (q := (yX10_methodIs, 64)) (List.mem_of_getElem? (i := 2) rfl) rfl⟩
theorem mkX10_no : sl_MK mX10_no 0 := ⟨gl_6 (List.mem_of_getElem? (i := 11) rfl) rfl, gl_1 (List.mem_of_getElem? (i := 11) rfl) rfl, by decide +kernel⟩
theorem mvX10_no : sl_MV mX10_no := ⟨gl_6 (List.mem_of_getElem? (i := 10) rfl) rfl, gs_5 (q := (yX10_no, 64)) (List.mem_of_getElem? (i := 0) rfl) rfl⟩
theorem mkX10_opens : sl_MK mX10_opens 2 := ⟨gl_5 (List.mem_of_getElem? (i := 152) rfl) rfl, gl_1 (List.mem_of_getElem? (i := 11) rfl) rfl, by decide +kernel⟩
theorem mvX10_opens : sl_MV mX10_opens := ⟨gl_5 (List.mem_of_getElem? (i := 151) rfl) rfl, gs_3 (q := (yX10_opens, 64)) (List.mem_of_getElem? (i := 12) rfl) rfl⟩
theorem mkX10_partEnd : sl_MK mX10_partEnd 2 := ⟨gl_6 (List.mem_of_getElem? (i := 126) rfl) rfl, gl_1 (List.mem_of_getElem? (i := 11) rfl) rfl, by decide +kernel⟩
theorem mvX10_partEnd : sl_MV mX10_partEnd := ⟨gl_6 (List.mem_of_getElem? (i := 125) rfl) rfl, gs_6 (q := (yX10_partEnd, 64)) (List.mem_of_getElem? (i := 5) rfl) rfl⟩
theorem mkX10_placeOf : sl_MK mX10_placeOf 1 := ⟨gl_5 (List.mem_of_getElem? (i := 232) rfl) rfl, gl_1 (List.mem_of_getElem? (i := 11) rfl) rfl, by decide +kernel⟩
theorem msX10_placeOf : Cond.static yX10_placeOf ∈ sl_GL := gl_5 (List.mem_of_getElem? (i := 231) rfl) rfl
theorem mkX10_readsE : sl_MK mX10_readsE 1 := ⟨gl_5 (List.mem_of_getElem? (i := 167) rfl) rfl, gl_1 (List.mem_of_getElem? (i := 11) rfl) rfl, by decide +kernel⟩
theorem mvX10_readsE : sl_MV mX10_readsE := ⟨gl_5 (List.mem_of_getElem? (i := 166) rfl) rfl, gs_3 (q := (yX10_readsE, 64)) (List.mem_of_getElem? (i := 15) rfl) rfl⟩
theorem mkX10_readsStatement : sl_MK mX10_readsStatement 1 := ⟨gl_5 (List.mem_of_getElem? (i := 156) rfl) rfl, gl_1 (List.mem_of_getElem? (i := 11) rfl) rfl, by decide +kernel⟩
theorem mvX10_readsStatement : sl_MV mX10_readsStatement := ⟨gl_5 (List.mem_of_getElem? (i := 155) rfl) rfl, gs_3 (q := (yX10_readsStatement, 64)) (List.mem_of_getElem? (i := 13) rfl) rfl⟩
theorem mkX10_sets : sl_MK mX10_sets 3 := ⟨gl_6 (List.mem_of_getElem? (i := 154) rfl) rfl, gl_1 (List.mem_of_getElem? (i := 11) rfl) rfl, by decide +kernel⟩
theorem mvX10_sets : sl_MV mX10_sets := ⟨gl_6 (List.mem_of_getElem? (i := 153) rfl) rfl, gs_6 (q := (yX10_sets, 64)) (List.mem_of_getElem? (i := 8) rfl) rfl⟩
theorem mkX10_signOf : sl_MK mX10_signOf 2 := ⟨gl_6 (List.mem_of_getElem? (i := 146) rfl) rfl, gl_1 (List.mem_of_getElem? (i := 11) rfl) rfl, by decide +kernel⟩
theorem mvX10_signOf : sl_MV mX10_signOf := ⟨gl_6 (List.mem_of_getElem? (i := 145) rfl) rfl, gs_6 (q := (yX10_signOf, 64)) (List.mem_of_getElem? (i := 7) rfl) rfl⟩
theorem mkX10_sizeOf : sl_MK mX10_sizeOf 1 := ⟨gl_6 (List.mem_of_getElem? (i := 26) rfl) rfl, gl_1 (List.mem_of_getElem? (i := 11) rfl) rfl, by decide +kernel⟩
theorem msX10_sizeOf : Cond.static yX10_sizeOf ∈ sl_GL := gl_6 (List.mem_of_getElem? (i := 25) rfl) rfl
theorem mkX10_statementIs : sl_MK mX10_statementIs 2 := ⟨gl_6 (List.mem_of_getElem? (i := 138) rfl) rfl, gl_1 (List.mem_of_getElem? (i := 11) rfl) rfl, by decide +kernel⟩
theorem mvX10_statementIs : sl_MV mX10_statementIs := ⟨gl_6 (List.mem_of_getElem? (i := 137) rfl) rfl, gs_6 (q := (yX10_statementIs, 64)) (List.mem_of_getElem? (i := 6) rfl) rfl⟩
theorem mkX10_steps : sl_MK mX10_steps 3 := ⟨gl_6 (List.mem_of_getElem? (i := 162) rfl) rfl, gl_1 (List.mem_of_getElem? (i := 11) rfl) rfl, by decide +kernel⟩
theorem mvX10_steps : sl_MV mX10_steps := ⟨gl_6 (List.mem_of_getElem? (i := 161) rfl) rfl, gs_6 (q := (yX10_steps, 64)) (List.mem_of_getElem? (i := 10) rfl) rfl⟩
theorem mkX10_take : sl_MK mX10_take 0 := ⟨gl_5 (List.mem_of_getElem? (i := 140) rfl) rfl, gl_1 (List.mem_of_getElem? (i := 11) rfl) rfl, by decide +kernel⟩
theorem mvX10_take : sl_MV mX10_take := ⟨gl_5 (List.mem_of_getElem? (i := 139) rfl) rfl, gs_3 (q := (yX10_take, 64)) (List.mem_of_getElem? (i := 9) rfl) rfl⟩
theorem mkX10_takesBack : sl_MK mX10_takesBack 1 := ⟨gl_6 (List.mem_of_getElem? (i := 173) rfl) rfl, gl_1 (List.mem_of_getElem? (i := 11) rfl) rfl, by decide +kernel⟩
theorem mvX10_takesBack : sl_MV mX10_takesBack := ⟨gl_6 (List.mem_of_getElem? (i := 172) rfl) rfl, gs_6 (q := (yX10_takesBack, 64)) (List.mem_of_getElem? (i := 12) rfl) rfl⟩
theorem mkX10_toldOf : sl_MK mX10_toldOf 1 := ⟨gl_6 (List.mem_of_getElem? (i := 193) rfl) rfl, gl_1 (List.mem_of_getElem? (i := 11) rfl) rfl, by decide +kernel⟩
theorem mvX10_toldOf : sl_MV mX10_toldOf := ⟨gl_6 (List.mem_of_getElem? (i := 192) rfl) rfl, gs_6 (q := (yX10_toldOf, 64)) (List.mem_of_getElem? (i := 14) rfl) rfl⟩
theorem mkX10_walksSpan : sl_MK mX10_walksSpan 1 := ⟨gl_6 (List.mem_of_getElem? (i := 19) rfl) rfl, gl_1 (List.mem_of_getElem? (i := 11) rfl) rfl, by decide +kernel⟩
theorem mvX10_walksSpan : sl_MV mX10_walksSpan := ⟨gl_6 (List.mem_of_getElem? (i := 18) rfl) rfl, gs_5 (q := (yX10_walksSpan, 64)) (List.mem_of_getElem? (i := 2) rfl) rfl⟩
theorem mkX10_way : sl_MK mX10_way 6 := ⟨gl_5 (List.mem_of_getElem? (i := 221) rfl) rfl, gl_1 (List.mem_of_getElem? (i := 11) rfl) rfl, by decide +kernel⟩
theorem mvX10_way : sl_MV mX10_way := ⟨gl_5 (List.mem_of_getElem? (i := 220) rfl) rfl, gs_4 (q := (yX10_way, 64)) (List.mem_of_getElem? (i := 10) rfl) rfl⟩
theorem mkX10_wayBy : sl_MK mX10_wayBy 2 := ⟨gl_6 (List.mem_of_getElem? (i := 177) rfl) rfl, gl_1 (List.mem_of_getElem? (i := 11) rfl) rfl, by decide +kernel⟩
theorem mvX10_wayBy : sl_MV mX10_wayBy := ⟨gl_6 (List.mem_of_getElem? (i := 176) rfl) rfl, gs_6 (q := (yX10_wayBy, 64)) (List.mem_of_getElem? (i := 13) rfl) rfl⟩
theorem mkX10_works : sl_MK mX10_works 2 := ⟨gl_6 (List.mem_of_getElem? (i := 166) rfl) rfl, gl_1 (List.mem_of_getElem? (i := 11) rfl) rfl, by decide +kernel⟩
theorem mvX10_works : sl_MV mX10_works := ⟨gl_6 (List.mem_of_getElem? (i := 165) rfl) rfl, gs_6 (q := (yX10_works, 64)) (List.mem_of_getElem? (i := 11) rfl) rfl⟩
theorem mkX2_give : sl_MK mX2_give 2 := ⟨gl_3 (List.mem_of_getElem? (i := 44) rfl) rfl, gl_1 (List.mem_of_getElem? (i := 4) rfl) rfl, by decide +kernel⟩
theorem mvX2_give : sl_MV mX2_give := ⟨gl_3 (List.mem_of_getElem? (i := 42) rfl) rfl, gl_3 (List.mem_of_getElem? (i := 43) rfl) rfl⟩
theorem mkX3_apply : sl_MK mX3_apply 3 := ⟨gl_3 (List.mem_of_getElem? (i := 83) rfl) rfl, gl_1 (List.mem_of_getElem? (i := 3) rfl) rfl, by decide +kernel⟩
theorem mvX3_apply : sl_MV mX3_apply := ⟨gl_3 (List.mem_of_getElem? (i := 82) rfl) rfl, gs_2 (q := (yX3_apply, 10)) (List.mem_of_getElem? (i := 0) rfl) rfl⟩
theorem mkX3_evaluate : sl_MK mX3_evaluate 3 := ⟨gl_3 (List.mem_of_getElem? (i := 75) rfl) rfl, gl_1 (List.mem_of_getElem? (i := 3) rfl) rfl, by decide +kernel⟩
theorem mvX3_evaluate : sl_MV mX3_evaluate := ⟨gl_3 (List.mem_of_getElem? (i := 74) rfl) rfl, gs_1 (q := (yX3_evaluate, 10)) (List.mem_of_getElem? (i := 15) rfl) rfl⟩
theorem mkX3_execute : sl_MK mX3_execute 3 := ⟨gl_3 (List.mem_of_getElem? (i := 40) rfl) rfl, gl_1 (List.mem_of_getElem? (i := 3) rfl) rfl, by decide +kernel⟩
theorem mvX3_execute : sl_MV mX3_execute := ⟨gl_3 (List.mem_of_getElem? (i := 38) rfl) rfl, gl_3 (List.mem_of_getElem? (i := 39) rfl) rfl⟩
theorem mkX3_perform : sl_MK mX3_perform 2 := ⟨gl_3 (List.mem_of_getElem? (i := 49) rfl) rfl, gl_1 (List.mem_of_getElem? (i := 3) rfl) rfl, by decide +kernel⟩
theorem mvX3_perform : sl_MV mX3_perform := ⟨gl_3 (List.mem_of_getElem? (i := 48) rfl) rfl, gs_1 (q := (yX3_perform, 10)) (List.mem_of_getElem? (i := 11) rfl) rfl⟩
theorem mkX3_print : sl_MK mX3_print 1 := ⟨gl_3 (List.mem_of_getElem? (i := 91) rfl) rfl, gl_1 (List.mem_of_getElem? (i := 3) rfl) rfl, by decide +kernel⟩
theorem mvX3_print : sl_MV mX3_print := ⟨gl_3 (List.mem_of_getElem? (i := 90) rfl) rfl, gs_2 (q := (yX3_print, 10)) (List.mem_of_getElem? (i := 1) rfl) rfl⟩
theorem mkX3_step : sl_MK mX3_step 3 := ⟨gl_3 (List.mem_of_getElem? (i := 71) rfl) rfl, gl_1 (List.mem_of_getElem? (i := 3) rfl) rfl, by decide +kernel⟩
theorem mvX3_step : sl_MV mX3_step := ⟨gl_3 (List.mem_of_getElem? (i := 70) rfl) rfl, gs_1 (q := (yX3_step, 10)) (List.mem_of_getElem? (i := 14) rfl) rfl⟩
theorem mkX3_valueOf : sl_MK mX3_valueOf 2 := ⟨gl_3 (List.mem_of_getElem? (i := 63) rfl) rfl, gl_1 (List.mem_of_getElem? (i := 3) rfl) rfl, by decide +kernel⟩
theorem mvX3_valueOf : sl_MV mX3_valueOf := ⟨gl_3 (List.mem_of_getElem? (i := 62) rfl) rfl, gs_1 (q := (yX3_valueOf, 10)) (List.mem_of_getElem? (i := 12) rfl) rfl⟩
theorem mkX3_walk : sl_MK mX3_walk 1 := ⟨gl_3 (List.mem_of_getElem? (i := 67) rfl) rfl, gl_1 (List.mem_of_getElem? (i := 3) rfl) rfl, by decide +kernel⟩
theorem mvX3_walk : sl_MV mX3_walk := ⟨gl_3 (List.mem_of_getElem? (i := 66) rfl) rfl, gs_1 (q := (yX3_walk, 10)) (List.mem_of_getElem? (i := 13) rfl) rfl⟩
theorem mkX4_closeBlock : sl_MK mX4_closeBlock 0 := ⟨gl_2 (List.mem_of_getElem? (i := 194) rfl) rfl, gl_1 (List.mem_of_getElem? (i := 2) rfl) rfl, by decide +kernel⟩
theorem mvX4_closeBlock : sl_MV mX4_closeBlock := ⟨gl_2 (List.mem_of_getElem? (i := 193) rfl) rfl, gs_1 (q := (yX4_closeBlock, 5)) (List.mem_of_getElem? (i := 3) rfl) rfl⟩
theorem mkX4_expect : sl_MK mX4_expect 1 := ⟨gl_2 (List.mem_of_getElem? (i := 198) rfl) rfl, gl_1 (List.mem_of_getElem? (i := 2) rfl) rfl, by decide +kernel⟩
theorem mvX4_expect : sl_MV mX4_expect := ⟨gl_2 (List.mem_of_getElem? (i := 197) rfl) rfl, gs_1 (q := (yX4_expect, 5)) (List.mem_of_getElem? (i := 4) rfl) rfl⟩
theorem mkX4_inLoop : sl_MK mX4_inLoop 0 := ⟨gl_2 (List.mem_of_getElem? (i := 212) rfl) rfl, gl_1 (List.mem_of_getElem? (i := 2) rfl) rfl, by decide +kernel⟩
theorem mvX4_inLoop : sl_MV mX4_inLoop := ⟨gl_2 (List.mem_of_getElem? (i := 211) rfl) rfl, gs_1 (q := (yX4_inLoop, 5)) (List.mem_of_getElem? (i := 6) rfl) rfl⟩
theorem mkX4_kindOf : sl_MK mX4_kindOf 1 := ⟨gl_2 (List.mem_of_getElem? (i := 205) rfl) rfl, gl_1 (List.mem_of_getElem? (i := 2) rfl) rfl, by decide +kernel⟩
theorem msX4_kindOf : Cond.static yX4_kindOf ∈ sl_GL := gl_2 (List.mem_of_getElem? (i := 204) rfl) rfl
theorem mkX4_look : sl_MK mX4_look 0 := ⟨gl_2 (List.mem_of_getElem? (i := 190) rfl) rfl, gl_1 (List.mem_of_getElem? (i := 2) rfl) rfl, by decide +kernel⟩
theorem mvX4_look : sl_MV mX4_look := ⟨gl_2 (List.mem_of_getElem? (i := 189) rfl) rfl, gs_1 (q := (yX4_look, 5)) (List.mem_of_getElem? (i := 2) rfl) rfl⟩
theorem mkX4_parse : sl_MK mX4_parse 3 := ⟨gl_2 (List.mem_of_getElem? (i := 179) rfl) rfl, gl_1 (List.mem_of_getElem? (i := 2) rfl) rfl, by decide +kernel⟩
theorem mvX4_parse : sl_MV mX4_parse := ⟨gl_2 (List.mem_of_getElem? (i := 177) rfl) rfl, gl_2 (List.mem_of_getElem? (i := 178) rfl) rfl⟩
theorem mkX4_readExpression : sl_MK mX4_readExpression 1 := ⟨gl_2 (List.mem_of_getElem? (i := 225) rfl) rfl, gl_1 (List.mem_of_getElem? (i := 2) rfl) rfl, by decide +kernel⟩
theorem mvX4_readExpression : sl_MV mX4_readExpression := ⟨gl_2 (List.mem_of_getElem? (i := 224) rfl) rfl, gs_1 (q := (yX4_readExpression, 5)) (List.mem_of_getElem? (i := 7) rfl) rfl⟩
theorem mkX4_readStatement : sl_MK mX4_readStatement 1 := ⟨gl_2 (List.mem_of_getElem? (i := 202) rfl) rfl, gl_1 (List.mem_of_getElem? (i := 2) rfl) rfl, by decide +kernel⟩
theorem mvX4_readStatement : sl_MV mX4_readStatement := ⟨gl_2 (List.mem_of_getElem? (i := 201) rfl) rfl, gs_1 (q := (yX4_readStatement, 5)) (List.mem_of_getElem? (i := 5) rfl) rfl⟩
theorem mkX5_copyFrom : sl_MK mX5_copyFrom 1 := ⟨gl_4 (List.mem_of_getElem? (i := 33) rfl) rfl, gl_1 (List.mem_of_getElem? (i := 10) rfl) rfl, by decide +kernel⟩
theorem mvX5_copyFrom : sl_MV mX5_copyFrom := ⟨gl_4 (List.mem_of_getElem? (i := 31) rfl) rfl, gl_4 (List.mem_of_getElem? (i := 32) rfl) rfl⟩
theorem mkX5_formalAt : sl_MK mX5_formalAt 2 := ⟨gl_4 (List.mem_of_getElem? (i := 90) rfl) rfl, gl_1 (List.mem_of_getElem? (i := 10) rfl) rfl, by decide +kernel⟩
theorem mvX5_formalAt : sl_MV mX5_formalAt := ⟨gl_4 (List.mem_of_getElem? (i := 88) rfl) rfl, gl_4 (List.mem_of_getElem? (i := 89) rfl) rfl⟩
theorem mkX5_takeFrom : sl_MK mX5_takeFrom 2 := ⟨gl_4 (List.mem_of_getElem? (i := 58) rfl) rfl, gl_1 (List.mem_of_getElem? (i := 10) rfl) rfl, by decide +kernel⟩
theorem mvX5_takeFrom : sl_MV mX5_takeFrom := ⟨gl_4 (List.mem_of_getElem? (i := 56) rfl) rfl, gl_4 (List.mem_of_getElem? (i := 57) rfl) rfl⟩
theorem mkX7_addCall : sl_MK mX7_addCall 4 := ⟨gl_4 (List.mem_of_getElem? (i := 80) rfl) rfl, gl_1 (List.mem_of_getElem? (i := 8) rfl) rfl, by decide +kernel⟩
theorem mvX7_addCall : sl_MV mX7_addCall := ⟨gl_4 (List.mem_of_getElem? (i := 79) rfl) rfl, gs_3 (q := (yX7_addCall, 4)) (List.mem_of_getElem? (i := 2) rfl) rfl⟩
theorem mkX7_buildLifted : sl_MK mX7_buildLifted 3 := ⟨gl_4 (List.mem_of_getElem? (i := 29) rfl) rfl, gl_1 (List.mem_of_getElem? (i := 8) rfl) rfl, by decide +kernel⟩
theorem mvX7_buildLifted : sl_MV mX7_buildLifted := ⟨gl_4 (List.mem_of_getElem? (i := 27) rfl) rfl, gl_4 (List.mem_of_getElem? (i := 28) rfl) rfl⟩
theorem mkX7_buildSettled : sl_MK mX7_buildSettled 2 := ⟨gl_4 (List.mem_of_getElem? (i := 135) rfl) rfl, gl_1 (List.mem_of_getElem? (i := 8) rfl) rfl, by decide +kernel⟩
theorem mvX7_buildSettled : sl_MV mX7_buildSettled := ⟨gl_4 (List.mem_of_getElem? (i := 133) rfl) rfl, gl_4 (List.mem_of_getElem? (i := 134) rfl) rfl⟩
theorem mkX7_callsOf : sl_MK mX7_callsOf 1 := ⟨gl_4 (List.mem_of_getElem? (i := 106) rfl) rfl, gl_1 (List.mem_of_getElem? (i := 8) rfl) rfl, by decide +kernel⟩
theorem mvX7_callsOf : sl_MV mX7_callsOf := ⟨gl_4 (List.mem_of_getElem? (i := 104) rfl) rfl, gl_4 (List.mem_of_getElem? (i := 105) rfl) rfl⟩
theorem mkX7_changedBy : sl_MK mX7_changedBy 1 := ⟨gl_3 (List.mem_of_getElem? (i := 167) rfl) rfl, gl_1 (List.mem_of_getElem? (i := 8) rfl) rfl, by decide +kernel⟩
theorem mvX7_changedBy : sl_MV mX7_changedBy := ⟨gl_3 (List.mem_of_getElem? (i := 165) rfl) rfl, gl_3 (List.mem_of_getElem? (i := 166) rfl) rfl⟩
theorem mkX7_exitsOf : sl_MK mX7_exitsOf 1 := ⟨gl_3 (List.mem_of_getElem? (i := 135) rfl) rfl, gl_1 (List.mem_of_getElem? (i := 8) rfl) rfl, by decide +kernel⟩
theorem mvX7_exitsOf : sl_MV mX7_exitsOf := ⟨gl_3 (List.mem_of_getElem? (i := 133) rfl) rfl, gl_3 (List.mem_of_getElem? (i := 134) rfl) rfl⟩
theorem mkX7_hasRoutine : sl_MK mX7_hasRoutine 1 := ⟨gl_3 (List.mem_of_getElem? (i := 53) rfl) rfl, gl_1 (List.mem_of_getElem? (i := 8) rfl) rfl, by decide +kernel⟩
theorem mvX7_hasRoutine : sl_MV mX7_hasRoutine := ⟨gl_3 (List.mem_of_getElem? (i := 51) rfl) rfl, gl_3 (List.mem_of_getElem? (i := 52) rfl) rfl⟩
theorem mkX7_isCall : sl_MK mX7_isCall 1 := ⟨gl_3 (List.mem_of_getElem? (i := 139) rfl) rfl, gl_1 (List.mem_of_getElem? (i := 8) rfl) rfl, by decide +kernel⟩
theorem mvX7_isCall : sl_MV mX7_isCall := ⟨gl_3 (List.mem_of_getElem? (i := 138) rfl) rfl, gs_2 (q := (yX7_isCall, 4)) (List.mem_of_getElem? (i := 5) rfl) rfl⟩
theorem mkX7_isCallOf : sl_MK mX7_isCallOf 2 := ⟨gl_4 (List.mem_of_getElem? (i := 110) rfl) rfl, gl_1 (List.mem_of_getElem? (i := 8) rfl) rfl, by decide +kernel⟩
theorem mvX7_isCallOf : sl_MV mX7_isCallOf := ⟨gl_4 (List.mem_of_getElem? (i := 109) rfl) rfl, gs_3 (q := (yX7_isCallOf, 4)) (List.mem_of_getElem? (i := 4) rfl) rfl⟩
theorem mkX7_keep : sl_MK mX7_keep 2 := ⟨gl_4 (List.mem_of_getElem? (i := 71) rfl) rfl, gl_1 (List.mem_of_getElem? (i := 8) rfl) rfl, by decide +kernel⟩
theorem mvX7_keep : sl_MV mX7_keep := ⟨gl_4 (List.mem_of_getElem? (i := 70) rfl) rfl, gs_3 (q := (yX7_keep, 4)) (List.mem_of_getElem? (i := 0) rfl) rfl⟩
theorem mkX7_placeOf : sl_MK mX7_placeOf 1 := ⟨gl_4 (List.mem_of_getElem? (i := 75) rfl) rfl, gl_1 (List.mem_of_getElem? (i := 8) rfl) rfl, by decide +kernel⟩
theorem mvX7_placeOf : sl_MV mX7_placeOf := ⟨gl_4 (List.mem_of_getElem? (i := 74) rfl) rfl, gs_3 (q := (yX7_placeOf, 4)) (List.mem_of_getElem? (i := 1) rfl) rfl⟩
theorem mkX7_putNames : sl_MK mX7_putNames 3 := ⟨gl_4 (List.mem_of_getElem? (i := 85) rfl) rfl, gl_1 (List.mem_of_getElem? (i := 8) rfl) rfl, by decide +kernel⟩
theorem mvX7_putNames : sl_MV mX7_putNames := ⟨gl_4 (List.mem_of_getElem? (i := 84) rfl) rfl, gs_3 (q := (yX7_putNames, 4)) (List.mem_of_getElem? (i := 3) rfl) rfl⟩
theorem mkX7_routineProperty : sl_MK mX7_routineProperty 2 := ⟨gl_4 (List.mem_of_getElem? (i := 102) rfl) rfl, gl_1 (List.mem_of_getElem? (i := 8) rfl) rfl, by decide +kernel⟩
theorem mvX7_routineProperty : sl_MV mX7_routineProperty := ⟨gl_4 (List.mem_of_getElem? (i := 100) rfl) rfl, gl_4 (List.mem_of_getElem? (i := 101) rfl) rfl⟩
theorem mkX7_setBy : sl_MK mX7_setBy 2 := ⟨gl_3 (List.mem_of_getElem? (i := 144) rfl) rfl, gl_1 (List.mem_of_getElem? (i := 8) rfl) rfl, by decide +kernel⟩
theorem mvX7_setBy : sl_MV mX7_setBy := ⟨gl_3 (List.mem_of_getElem? (i := 142) rfl) rfl, gl_3 (List.mem_of_getElem? (i := 143) rfl) rfl⟩
theorem mkX8_agrees : sl_MK mX8_agrees 2 := ⟨gl_4 (List.mem_of_getElem? (i := 7) rfl) rfl, gl_1 (List.mem_of_getElem? (i := 7) rfl) rfl, by decide +kernel⟩
theorem mvX8_agrees : sl_MV mX8_agrees := ⟨gl_4 (List.mem_of_getElem? (i := 6) rfl) rfl, gs_2 (q := (yX8_agrees, 7)) (List.mem_of_getElem? (i := 14) rfl) rfl⟩
theorem mkX8_find : sl_MK mX8_find 2 := ⟨gl_3 (List.mem_of_getElem? (i := 203) rfl) rfl, gl_1 (List.mem_of_getElem? (i := 7) rfl) rfl, by decide +kernel⟩
theorem mvX8_find : sl_MV mX8_find := ⟨gl_3 (List.mem_of_getElem? (i := 201) rfl) rfl, gl_3 (List.mem_of_getElem? (i := 202) rfl) rfl⟩
theorem mkX8_forget : sl_MK mX8_forget 0 := ⟨gl_4 (List.mem_of_getElem? (i := 25) rfl) rfl, gl_1 (List.mem_of_getElem? (i := 7) rfl) rfl, by decide +kernel⟩
theorem mvX8_forget : sl_MV mX8_forget := ⟨gl_4 (List.mem_of_getElem? (i := 23) rfl) rfl, gl_4 (List.mem_of_getElem? (i := 24) rfl) rfl⟩
theorem mkX8_inBlock : sl_MK mX8_inBlock 2 := ⟨gl_3 (List.mem_of_getElem? (i := 210) rfl) rfl, gl_1 (List.mem_of_getElem? (i := 7) rfl) rfl, by decide +kernel⟩
theorem msX8_inBlock : Cond.static yX8_inBlock ∈ sl_GL := gl_3 (List.mem_of_getElem? (i := 209) rfl) rfl
theorem mkX8_lastOf : sl_MK mX8_lastOf 3 := ⟨gl_3 (List.mem_of_getElem? (i := 217) rfl) rfl, gl_1 (List.mem_of_getElem? (i := 7) rfl) rfl, by decide +kernel⟩
theorem msX8_lastOf : Cond.static yX8_lastOf ∈ sl_GL := gl_3 (List.mem_of_getElem? (i := 216) rfl) rfl
theorem mkX8_matches : sl_MK mX8_matches 3 := ⟨gl_3 (List.mem_of_getElem? (i := 221) rfl) rfl, gl_1 (List.mem_of_getElem? (i := 7) rfl) rfl, by decide +kernel⟩
theorem mvX8_matches : sl_MV mX8_matches := ⟨gl_3 (List.mem_of_getElem? (i := 220) rfl) rfl, gs_2 (q := (yX8_matches, 7)) (List.mem_of_getElem? (i := 10) rfl) rfl⟩
theorem mkX8_packed : sl_MK mX8_packed 0 := ⟨gl_4 (List.mem_of_getElem? (i := 3) rfl) rfl, gl_1 (List.mem_of_getElem? (i := 7) rfl) rfl, by decide +kernel⟩
theorem mvX8_packed : sl_MV mX8_packed := ⟨gl_4 (List.mem_of_getElem? (i := 2) rfl) rfl, gs_2 (q := (yX8_packed, 7)) (List.mem_of_getElem? (i := 13) rfl) rfl⟩
theorem mkX8_renamingAt : sl_MK mX8_renamingAt 1 := ⟨gl_4 (List.mem_of_getElem? (i := 67) rfl) rfl, gl_1 (List.mem_of_getElem? (i := 7) rfl) rfl, by decide +kernel⟩
theorem mvX8_renamingAt : sl_MV mX8_renamingAt := ⟨gl_4 (List.mem_of_getElem? (i := 65) rfl) rfl, gl_4 (List.mem_of_getElem? (i := 66) rfl) rfl⟩
theorem mkX8_replacement : sl_MK mX8_replacement 1 := ⟨gl_4 (List.mem_of_getElem? (i := 16) rfl) rfl, gl_1 (List.mem_of_getElem? (i := 7) rfl) rfl, by decide +kernel⟩
theorem mvX8_replacement : sl_MV mX8_replacement := ⟨gl_4 (List.mem_of_getElem? (i := 14) rfl) rfl, gl_4 (List.mem_of_getElem? (i := 15) rfl) rfl⟩
theorem mkX8_replaces : sl_MK mX8_replaces 2 := ⟨gl_3 (List.mem_of_getElem? (i := 237) rfl) rfl, gl_1 (List.mem_of_getElem? (i := 7) rfl) rfl, by decide +kernel⟩
theorem mvX8_replaces : sl_MV mX8_replaces := ⟨gl_3 (List.mem_of_getElem? (i := 236) rfl) rfl, gs_2 (q := (yX8_replaces, 7)) (List.mem_of_getElem? (i := 12) rfl) rfl⟩
theorem mkX8_sameNames : sl_MK mX8_sameNames 3 := ⟨gl_3 (List.mem_of_getElem? (i := 231) rfl) rfl, gl_1 (List.mem_of_getElem? (i := 7) rfl) rfl, by decide +kernel⟩
theorem mvX8_sameNames : sl_MV mX8_sameNames := ⟨gl_3 (List.mem_of_getElem? (i := 230) rfl) rfl, gs_2 (q := (yX8_sameNames, 7)) (List.mem_of_getElem? (i := 11) rfl) rfl⟩
theorem mkX8_samePlace : sl_MK mX8_samePlace 4 := ⟨gl_3 (List.mem_of_getElem? (i := 227) rfl) rfl, gl_1 (List.mem_of_getElem? (i := 7) rfl) rfl, by decide +kernel⟩
theorem msX8_samePlace : Cond.static yX8_samePlace ∈ sl_GL := gl_3 (List.mem_of_getElem? (i := 226) rfl) rfl
theorem mkX8_sameShape : sl_MK mX8_sameShape 3 := ⟨gl_3 (List.mem_of_getElem? (i := 224) rfl) rfl, gl_1 (List.mem_of_getElem? (i := 7) rfl) rfl, by decide +kernel⟩
theorem msX8_sameShape : Cond.static yX8_sameShape ∈ sl_GL := gl_3 (List.mem_of_getElem? (i := 223) rfl) rfl
theorem mkX8_take : sl_MK mX8_take 2 := ⟨gl_4 (List.mem_of_getElem? (i := 12) rfl) rfl, gl_1 (List.mem_of_getElem? (i := 7) rfl) rfl, by decide +kernel⟩
theorem mvX8_take : sl_MV mX8_take := ⟨gl_4 (List.mem_of_getElem? (i := 11) rfl) rfl, gs_2 (q := (yX8_take, 7)) (List.mem_of_getElem? (i := 15) rfl) rfl⟩
theorem mkX9_advance : sl_MK mX9_advance 0 := ⟨gl_2 (List.mem_of_getElem? (i := 239) rfl) rfl, gl_1 (List.mem_of_getElem? (i := 1) rfl) rfl, by decide +kernel⟩
theorem mvX9_advance : sl_MV mX9_advance := ⟨gl_2 (List.mem_of_getElem? (i := 238) rfl) rfl, gs_1 (q := (yX9_advance, 11)) (List.mem_of_getElem? (i := 8) rfl) rfl⟩
theorem mkX9_choose : sl_MK mX9_choose 2 := ⟨gl_3 (List.mem_of_getElem? (i := 113) rfl) rfl, gl_1 (List.mem_of_getElem? (i := 1) rfl) rfl, by decide +kernel⟩
theorem mvX9_choose : sl_MV mX9_choose := ⟨gl_3 (List.mem_of_getElem? (i := 112) rfl) rfl, gs_2 (q := (yX9_choose, 11)) (List.mem_of_getElem? (i := 2) rfl) rfl⟩
theorem mkX9_has : sl_MK mX9_has 2 := ⟨gl_3 (List.mem_of_getElem? (i := 56) rfl) rfl, gl_1 (List.mem_of_getElem? (i := 1) rfl) rfl, by decide +kernel⟩
theorem msX9_has : Cond.static yX9_has ∈ sl_GL := gl_3 (List.mem_of_getElem? (i := 55) rfl) rfl
theorem mkX9_isDigit : sl_MK mX9_isDigit 1 := ⟨gl_2 (List.mem_of_getElem? (i := 231) rfl) rfl, gl_1 (List.mem_of_getElem? (i := 1) rfl) rfl, by decide +kernel⟩
theorem msX9_isDigit : Cond.static yX9_isDigit ∈ sl_GL := gl_2 (List.mem_of_getElem? (i := 230) rfl) rfl
theorem mkX9_isOperator : sl_MK mX9_isOperator 1 := ⟨gl_2 (List.mem_of_getElem? (i := 228) rfl) rfl, gl_1 (List.mem_of_getElem? (i := 1) rfl) rfl, by decide +kernel⟩
theorem msX9_isOperator : Cond.static yX9_isOperator ∈ sl_GL := gl_2 (List.mem_of_getElem? (i := 227) rfl) rfl
theorem mkX9_present : sl_MK mX9_present 0 := ⟨gl_3 (List.mem_of_getElem? (i := 12) rfl) rfl, gl_1 (List.mem_of_getElem? (i := 1) rfl) rfl, by decide +kernel⟩
theorem mvX9_present : sl_MV mX9_present := ⟨gl_3 (List.mem_of_getElem? (i := 11) rfl) rfl, gs_1 (q := (yX9_present, 11)) (List.mem_of_getElem? (i := 9) rfl) rfl⟩
theorem mkX9_refuse : sl_MK mX9_refuse 1 := ⟨gl_2 (List.mem_of_getElem? (i := 163) rfl) rfl, gl_1 (List.mem_of_getElem? (i := 1) rfl) rfl, by decide +kernel⟩
theorem mvX9_refuse : sl_MV mX9_refuse := ⟨gl_2 (List.mem_of_getElem? (i := 162) rfl) rfl, gs_1 (q := (yX9_refuse, 11)) (List.mem_of_getElem? (i := 0) rfl) rfl⟩
theorem mkX9_renamed : sl_MK mX9_renamed 2 := ⟨gl_3 (List.mem_of_getElem? (i := 59) rfl) rfl, gl_1 (List.mem_of_getElem? (i := 1) rfl) rfl, by decide +kernel⟩
theorem msX9_renamed : Cond.static yX9_renamed ∈ sl_GL := gl_3 (List.mem_of_getElem? (i := 58) rfl) rfl
theorem mkX9_renamedSet : sl_MK mX9_renamedSet 2 := ⟨gl_3 (List.mem_of_getElem? (i := 147) rfl) rfl, gl_1 (List.mem_of_getElem? (i := 1) rfl) rfl, by decide +kernel⟩
theorem msX9_renamedSet : Cond.static yX9_renamedSet ∈ sl_GL := gl_3 (List.mem_of_getElem? (i := 146) rfl) rfl
theorem mkX9_spare : sl_MK mX9_spare 0 := ⟨gl_2 (List.mem_of_getElem? (i := 175) rfl) rfl, gl_1 (List.mem_of_getElem? (i := 1) rfl) rfl, by decide +kernel⟩
theorem mvX9_spare : sl_MV mX9_spare := ⟨gl_2 (List.mem_of_getElem? (i := 174) rfl) rfl, gs_1 (q := (yX9_spare, 11)) (List.mem_of_getElem? (i := 1) rfl) rfl⟩
theorem mkX9_tally : sl_MK mX9_tally 1 := ⟨gl_4 (List.mem_of_getElem? (i := 148) rfl) rfl, gl_1 (List.mem_of_getElem? (i := 1) rfl) rfl, by decide +kernel⟩
theorem mvX9_tally : sl_MV mX9_tally := ⟨gl_4 (List.mem_of_getElem? (i := 147) rfl) rfl, gs_3 (q := (yX9_tally, 11)) (List.mem_of_getElem? (i := 6) rfl) rfl⟩
theorem mkX9_variableOf : sl_MK mX9_variableOf 1 := ⟨gl_2 (List.mem_of_getElem? (i := 208) rfl) rfl, gl_1 (List.mem_of_getElem? (i := 1) rfl) rfl, by decide +kernel⟩
theorem msX9_variableOf : Cond.static yX9_variableOf ∈ sl_GL := gl_2 (List.mem_of_getElem? (i := 207) rfl) rfl
theorem w_native : Cond.native arraycopyName ∈ sl_GL := gl_4 (List.mem_of_getElem? (i := 53) rfl) rfl
theorem w_static : Cond.static arraycopyName ∈ sl_GL := gl_4 (List.mem_of_getElem? (i := 52) rfl) rfl
theorem w_init : Cond.initialized "java/lang/System" ∈ sl_GL := gl_1 (List.mem_of_getElem? (i := 14) rfl) rfl
theorem w_min1 : Cond.static Lib.Math.min.name ∈ sl_GL := gl_2 (List.mem_of_getElem? (i := 181) rfl) rfl
theorem w_min2 : Cond.initialized "java/lang/Math" ∈ sl_GL := gl_1 (List.mem_of_getElem? (i := 12) rfl) rfl
theorem w_min3 : Cond.code Lib.Math.min.name Lib.Math.min.code 2 (some .int) ∈ sl_GL := gl_2 (List.mem_of_getElem? (i := 182) rfl) rfl
