/-! the methods, the kinds, the words -/
def qX0_size : PMeth := (yX0_size, cX0_size, 1, (some .int), [], cdX0_size, fun _ => none, (some 1), 0)
def qX0_at : PMeth := (yX0_at, cX0_at, 2, (some .int), [], cdX0_at, fun _ => none, (some 1), 1)
def qX0_add : PMeth := (yX0_add, cX0_add, 2, none, [], cdX0_add, fun _ => none, (some 1), 1)
def qX0_addNumber : PMeth := (yX0_addNumber, cX0_addNumber, 3, none, [], cdX0_addNumber, fun _ => none, (some 1), 1)
def qX0_clear : PMeth := (yX0_clear, cX0_clear, 1, none, [], cdX0_clear, fun _ => none, (some 1), 0)
def qX1_made : PMeth := (yX1_made, cX1_made, 1, (some .int), [], cdX1_made, fun _ => none, (some 2), 0)
def qX1_limit : PMeth := (yX1_limit, cX1_limit, 1, (some .int), [], cdX1_limit, fun _ => none, (some 2), 0)
def qX1_setLimit : PMeth := (yX1_setLimit, cX1_setLimit, 2, none, [], cdX1_setLimit, fun _ => none, (some 2), 1)
def qX1_head : PMeth := (yX1_head, cX1_head, 5, (some .long), [], cdX1_head, fun _ => none, (some 2), 1)
def qX1_tail : PMeth := (yX1_tail, cX1_tail, 5, (some .long), [], cdX1_tail, fun _ => none, (some 2), 1)
def qX1_make : PMeth := (yX1_make, cX1_make, 6, (some .long), [], cdX1_make, fun _ => none, (some 2), 2)
def qX1_reachedByFunctions : PMeth := (yX1_reachedByFunctions, cX1_reachedByFunctions, 1, (some .int), [], cdX1_reachedByFunctions, fun _ => none, (some 2), 0)
def qX1_inUse : PMeth := (yX1_inUse, cX1_inUse, 1, (some .int), [], cdX1_inUse, fun _ => none, (some 2), 0)
def qX1_collect : PMeth := (yX1_collect, cX1_collect, 10, none, [], cdX1_collect, fun _ => none, (some 2), 2)
def qX1_reach : PMeth := (yX1_reach, cX1_reach, 8, none, [], cdX1_reach, fun _ => none, (some 2), 1)
def qX1_takeBack : PMeth := (yX1_takeBack, cX1_takeBack, 2, none, [], cdX1_takeBack, fun _ => none, (some 2), 0)
def qX2_fault : PMeth := (yX2_fault, cX2_fault, 1, (some .int), [], cdX2_fault, fun _ => none, (some 3), 0)
def qX2_answer : PMeth := (yX2_answer, cX2_answer, 1, (some .long), [], cdX2_answer, fun _ => none, (some 3), 0)
def qX2_fuelTaken : PMeth := (yX2_fuelTaken, cX2_fuelTaken, 1, (some .int), [], cdX2_fuelTaken, fun _ => none, (some 3), 0)
def qX2_mostFrames : PMeth := (yX2_mostFrames, cX2_mostFrames, 1, (some .int), [], cdX2_mostFrames, fun _ => none, (some 3), 0)
def qX2_forget : PMeth := (yX2_forget, cX2_forget, 1, none, [], cdX2_forget, fun _ => none, (some 3), 0)
def qX2_run : PMeth := (yX2_run, cX2_run, 5, none, [], cdX2_run, fun _ => none, (some 3), 2)
def qX2_letGo : PMeth := (yX2_letGo, cX2_letGo, 1, none, [], cdX2_letGo, fun _ => none, (some 3), 0)
def qX2_emptyHand : PMeth := (yX2_emptyHand, cX2_emptyHand, 1, none, [], cdX2_emptyHand, fun _ => none, (some 3), 0)
def qX2_fail : PMeth := (yX2_fail, cX2_fail, 2, none, [], cdX2_fail, fun _ => none, (some 3), 1)
def qX2_burn : PMeth := (yX2_burn, cX2_burn, 1, (some .boolean), [], cdX2_burn, fun _ => none, (some 3), 0)
def qX2_give : PMeth := (yX2_give, cX2_give, 3, none, [], cdX2_give, fun _ => none, (some 3), 1)
def qX2_evaluateNext : PMeth := (yX2_evaluateNext, cX2_evaluateNext, 3, none, [], cdX2_evaluateNext, fun _ => none, (some 3), 1)
def qX2_askHead : PMeth := (yX2_askHead, cX2_askHead, 3, (some .long), [], cdX2_askHead, fun _ => none, (some 3), 1)
def qX2_askTail : PMeth := (yX2_askTail, cX2_askTail, 3, (some .long), [], cdX2_askTail, fun _ => none, (some 3), 1)
def qX2_askSecond : PMeth := (yX2_askSecond, cX2_askSecond, 3, (some .long), [], cdX2_askSecond, fun _ => none, (some 3), 1)
def qX2_askThird : PMeth := (yX2_askThird, cX2_askThird, 3, (some .long), [], cdX2_askThird, fun _ => none, (some 3), 1)
def qX2_cons : PMeth := (yX2_cons, cX2_cons, 7, (some .long), [], cdX2_cons, fun _ => none, (some 3), 2)
def qX2_lookUp : PMeth := (yX2_lookUp, cX2_lookUp, 10, (some .long), [], cdX2_lookUp, fun _ => none, (some 3), 1)
def qX2_evaluate : PMeth := (yX2_evaluate, cX2_evaluate, 5, none, [], cdX2_evaluate, fun _ => none, (some 3), 0)
def qX2_evaluateAtom : PMeth := (yX2_evaluateAtom, cX2_evaluateAtom, 5, none, [], cdX2_evaluateAtom, fun _ => none, (some 3), 1)
def qX2_evaluateCond : PMeth := (yX2_evaluateCond, cX2_evaluateCond, 3, none, [], cdX2_evaluateCond, fun _ => none, (some 3), 1)
def qX2_evaluateFunction : PMeth := (yX2_evaluateFunction, cX2_evaluateFunction, 5, none, [], cdX2_evaluateFunction, fun _ => none, (some 3), 1)
def qX2_evaluateCall : PMeth := (yX2_evaluateCall, cX2_evaluateCall, 5, none, [], cdX2_evaluateCall, fun _ => none, (some 3), 2)
def qX2_pushFrame : PMeth := (yX2_pushFrame, cX2_pushFrame, 5, none, [], cdX2_pushFrame, fun _ => none, (some 3), 2)
def qX2_popFrame : PMeth := (yX2_popFrame, cX2_popFrame, 2, none, [], cdX2_popFrame, fun _ => none, (some 3), 1)
def qX2_takeValue : PMeth := (yX2_takeValue, cX2_takeValue, 2, none, [], cdX2_takeValue, fun _ => none, (some 3), 0)
def qX2_takeChoice : PMeth := (yX2_takeChoice, cX2_takeChoice, 6, none, [], cdX2_takeChoice, fun _ => none, (some 3), 1)
def qX2_takeArgument : PMeth := (yX2_takeArgument, cX2_takeArgument, 4, none, [], cdX2_takeArgument, fun _ => none, (some 3), 1)
def qX2_takeInHand : PMeth := (yX2_takeInHand, cX2_takeInHand, 3, none, [], cdX2_takeInHand, fun _ => none, (some 3), 1)
def qX2_isBuiltIn : PMeth := (yX2_isBuiltIn, cX2_isBuiltIn, 3, (some .boolean), [], cdX2_isBuiltIn, fun _ => none, (some 3), 1)
def qX2_apply : PMeth := (yX2_apply, cX2_apply, 5, none, [], cdX2_apply, fun _ => none, (some 3), 0)
def qX2_applySymbol : PMeth := (yX2_applySymbol, cX2_applySymbol, 5, none, [], cdX2_applySymbol, fun _ => none, (some 3), 1)
def qX2_applyLambda : PMeth := (yX2_applyLambda, cX2_applyLambda, 11, none, [], cdX2_applyLambda, fun _ => none, (some 3), 1)
def qX2_lookAtVariables : PMeth := (yX2_lookAtVariables, cX2_lookAtVariables, 8, (some .int), [], cdX2_lookAtVariables, fun _ => none, (some 3), 1)
def qX2_askVariable : PMeth := (yX2_askVariable, cX2_askVariable, 3, none, [], cdX2_askVariable, fun _ => none, (some 3), 1)
def qX2_applyLabel : PMeth := (yX2_applyLabel, cX2_applyLabel, 11, none, [], cdX2_applyLabel, fun _ => none, (some 3), 1)
def qX2_applyFunarg : PMeth := (yX2_applyFunarg, cX2_applyFunarg, 7, none, [], cdX2_applyFunarg, fun _ => none, (some 3), 1)
def qX2_applyBuiltIn : PMeth := (yX2_applyBuiltIn, cX2_applyBuiltIn, 6, none, [], cdX2_applyBuiltIn, fun _ => none, (some 3), 0)
def qX2_valuesWanted : PMeth := (yX2_valuesWanted, cX2_valuesWanted, 1, (some .int), [], cdX2_valuesWanted, fun _ => none, none, 1)
def qX2_givePart : PMeth := (yX2_givePart, cX2_givePart, 4, none, [], cdX2_givePart, fun _ => none, (some 3), 2)
def qX2_giveList : PMeth := (yX2_giveList, cX2_giveList, 4, none, [], cdX2_giveList, fun _ => none, (some 3), 0)
def qX2_giveReckoned : PMeth := (yX2_giveReckoned, cX2_giveReckoned, 8, none, [], cdX2_giveReckoned, fun _ => none, (some 3), 3)
def qX3_print : PMeth := (yX3_print, cX3_print, 6, none, [], cdX3_print, fun _ => none, (some 4), 1)
def qX3_nextElement : PMeth := (yX3_nextElement, cX3_nextElement, 4, (some .long), [], cdX3_nextElement, fun _ => none, (some 4), 0)
def qX3_closeList : PMeth := (yX3_closeList, cX3_closeList, 3, none, [], cdX3_closeList, fun _ => none, (some 4), 1)
def qX3_printAtom : PMeth := (yX3_printAtom, cX3_printAtom, 5, none, [], cdX3_printAtom, fun _ => none, (some 4), 1)
def qX3_printNumber : PMeth := (yX3_printNumber, cX3_printNumber, 6, none, [], cdX3_printNumber, fun _ => none, (some 4), 1)
def qX4_fault : PMeth := (yX4_fault, cX4_fault, 1, (some .int), [], cdX4_fault, fun _ => none, (some 5), 0)
def qX4_faultPlace : PMeth := (yX4_faultPlace, cX4_faultPlace, 1, (some .int), [], cdX4_faultPlace, fun _ => none, (some 5), 0)
def qX4_begin : PMeth := (yX4_begin, cX4_begin, 2, none, [], cdX4_begin, fun _ => none, (some 5), 1)
def qX4_readName : PMeth := (yX4_readName, cX4_readName, 3, (some .int), [], cdX4_readName, fun _ => none, (some 5), 0)
def qX4_readWhole : PMeth := (yX4_readWhole, cX4_readWhole, 2, (some .long), [], cdX4_readWhole, fun _ => none, (some 5), 0)
def qX4_fail : PMeth := (yX4_fail, cX4_fail, 3, none, [], cdX4_fail, fun _ => none, (some 5), 2)
def qX4_readToken : PMeth := (yX4_readToken, cX4_readToken, 2, none, [], cdX4_readToken, fun _ => none, (some 5), 0)
def qX4_state : PMeth := (yX4_state, cX4_state, 1, (some .int), [], cdX4_state, fun _ => none, (some 5), 0)
def qX4_setState : PMeth := (yX4_setState, cX4_setState, 2, none, [], cdX4_setState, fun _ => none, (some 5), 1)
def qX4_mayBegin : PMeth := (yX4_mayBegin, cX4_mayBegin, 2, (some .boolean), [], cdX4_mayBegin, fun _ => none, (some 5), 0)
def qX4_openOne : PMeth := (yX4_openOne, cX4_openOne, 2, none, [], cdX4_openOne, fun _ => none, (some 5), 1)
def qX4_readDot : PMeth := (yX4_readDot, cX4_readDot, 1, none, [], cdX4_readDot, fun _ => none, (some 5), 0)
def qX4_closeList : PMeth := (yX4_closeList, cX4_closeList, 7, none, [], cdX4_closeList, fun _ => none, (some 5), 0)
def qX4_readAtom : PMeth := (yX4_readAtom, cX4_readAtom, 3, none, [], cdX4_readAtom, fun _ => none, (some 5), 1)
def qX4_readSymbol : PMeth := (yX4_readSymbol, cX4_readSymbol, 3, (some .int), [], cdX4_readSymbol, fun _ => none, (some 5), 0)
def qX4_readNumber : PMeth := (yX4_readNumber, cX4_readNumber, 7, (some .long), [], cdX4_readNumber, fun _ => none, (some 5), 0)
def qX4_complete : PMeth := (yX4_complete, cX4_complete, 9, none, [], cdX4_complete, fun _ => none, (some 5), 2)
def qX4_isBlank : PMeth := (yX4_isBlank, cX4_isBlank, 1, (some .boolean), [], cdX4_isBlank, fun _ => none, none, 1)
def qX4_isLetter : PMeth := (yX4_isLetter, cX4_isLetter, 1, (some .boolean), [], cdX4_isLetter, fun _ => none, none, 1)
def qX4_isDigit : PMeth := (yX4_isDigit, cX4_isDigit, 1, (some .boolean), [], cdX4_isDigit, fun _ => none, none, 1)
def qX6_size : PMeth := (yX6_size, cX6_size, 1, (some .int), [], cdX6_size, fun _ => none, (some 7), 0)
def qX6_at : PMeth := (yX6_at, cX6_at, 2, (some .long), [], cdX6_at, fun _ => none, (some 7), 1)
def qX6_put : PMeth := (yX6_put, cX6_put, 4, none, [], cdX6_put, fun _ => none, (some 7), 2)
def qX6_add : PMeth := (yX6_add, cX6_add, 3, none, [], cdX6_add, fun _ => none, (some 7), 1)
def qX6_cut : PMeth := (yX6_cut, cX6_cut, 2, none, [], cdX6_cut, fun _ => none, (some 7), 1)
def qX6_present : PMeth := (yX6_present, cX6_present, 3, (some .int), [], cdX6_present, fun _ => none, (some 7), 0)
def qX7_size : PMeth := (yX7_size, cX7_size, 1, (some .int), [], cdX7_size, fun _ => none, (some 8), 0)
def qX7_lengthOf : PMeth := (yX7_lengthOf, cX7_lengthOf, 2, (some .int), [], cdX7_lengthOf, fun _ => none, (some 8), 1)
def qX7_signOf : PMeth := (yX7_signOf, cX7_signOf, 3, (some .int), [], cdX7_signOf, fun _ => none, (some 8), 2)
def qX7_named : PMeth := (yX7_named, cX7_named, 5, (some .int), [], cdX7_named, fun _ => none, (some 8), 3)
def qX7_isNamed : PMeth := (yX7_isNamed, cX7_isNamed, 5, (some .boolean), [], cdX7_isNamed, fun _ => none, (some 8), 3)
def qX7_addSign : PMeth := (yX7_addSign, cX7_addSign, 3, none, [], cdX7_addSign, fun _ => none, (some 8), 1)
def qX8_isSymbol : PMeth := (yX8_isSymbol, cX8_isSymbol, 2, (some .boolean), [], cdX8_isSymbol, fun _ => none, none, 1)
def qX8_isNumber : PMeth := (yX8_isNumber, cX8_isNumber, 2, (some .boolean), [], cdX8_isNumber, fun _ => none, none, 1)
def qX8_isCell : PMeth := (yX8_isCell, cX8_isCell, 2, (some .boolean), [], cdX8_isCell, fun _ => none, none, 1)
def qX8_ofNumber : PMeth := (yX8_ofNumber, cX8_ofNumber, 1, (some .long), [], cdX8_ofNumber, fun _ => none, none, 1)
def qX8_ofCell : PMeth := (yX8_ofCell, cX8_ofCell, 1, (some .long), [], cdX8_ofCell, fun _ => none, none, 1)
def qX8_ofTruth : PMeth := (yX8_ofTruth, cX8_ofTruth, 1, (some .long), [], cdX8_ofTruth, fun _ => none, none, 1)
def qX8_number : PMeth := (yX8_number, cX8_number, 2, (some .int), [], cdX8_number, fun _ => none, none, 1)
def qX9_feed : PMeth := (yX9_feed, cX9_feed, 6, (some .int), [], cdX9_feed, fun _ => none, (some 9), 5)
def qX9_define : PMeth := (yX9_define, cX9_define, 5, (some .int), [], cdX9_define, fun _ => none, (some 9), 1)
def qX9_eval : PMeth := (yX9_eval, cX9_eval, 5, (some .int), [], cdX9_eval, fun _ => none, (some 9), 2)
def qX9_echo : PMeth := (yX9_echo, cX9_echo, 4, (some .int), [], cdX9_echo, fun _ => none, (some 9), 1)
def qX9_place : PMeth := (yX9_place, cX9_place, 1, (some .int), [], cdX9_place, fun _ => none, (some 9), 0)
def qX9_room : PMeth := (yX9_room, cX9_room, 3, (some .int), [], cdX9_room, fun _ => none, (some 9), 1)
def qX9_count : PMeth := (yX9_count, cX9_count, 2, (some .int), [], cdX9_count, fun _ => none, (some 9), 1)
def qX9_function : PMeth := (yX9_function, cX9_function, 4, (some .int), [], cdX9_function, fun _ => none, (some 9), 1)
def qX9_octet : PMeth := (yX9_octet, cX9_octet, 2, (some .int), [], cdX9_octet, fun _ => none, (some 9), 1)
def qX10_thrown : PMeth := (yX10_thrown, cX10_thrown, 1, (some .int), [], cdX10_thrown, fun _ => none, (some 10), 0)
def qX10_isSymbol : PMeth := (yX10_isSymbol, cX10_isSymbol, 2, (some .boolean), [], cdX10_isSymbol, fun _ => none, none, 1)
def qX10_isNumber : PMeth := (yX10_isNumber, cX10_isNumber, 2, (some .boolean), [], cdX10_isNumber, fun _ => none, none, 1)
def qX10_isCell : PMeth := (yX10_isCell, cX10_isCell, 2, (some .boolean), [], cdX10_isCell, fun _ => none, none, 1)
def qX10_symbolOf : PMeth := (yX10_symbolOf, cX10_symbolOf, 2, (some .int), [], cdX10_symbolOf, fun _ => none, none, 1)
def qX10_fails : PMeth := (yX10_fails, cX10_fails, 2, (some (.object "java/lang/IllegalStateException")), [], cdX10_fails, fun _ => none, (some 10), 1)
def qX10_visit : PMeth := (yX10_visit, cX10_visit, 3, none, [], cdX10_visit, fun _ => none, (some 10), 1)
def qX10_walks : PMeth := (yX10_walks, cX10_walks, 2, none, [], cdX10_walks, fun _ => none, (some 10), 0)
def qX10_reachFunctions : PMeth := (yX10_reachFunctions, cX10_reachFunctions, 2, none, [], cdX10_reachFunctions, fun _ => none, (some 10), 0)
def qX10_reach : PMeth := (yX10_reach, cX10_reach, 9, none, [], cdX10_reach, fun _ => none, (some 10), 3)
def qX10_cons : PMeth := (yX10_cons, cX10_cons, 8, (some .long), [], cdX10_cons, fun _ => none, (some 10), 3)
def qX10_headOf : PMeth := (yX10_headOf, cX10_headOf, 3, (some .long), [], cdX10_headOf, fun _ => none, (some 10), 1)
def qX10_tailOf : PMeth := (yX10_tailOf, cX10_tailOf, 3, (some .long), [], cdX10_tailOf, fun _ => none, (some 10), 1)
def qX10_second : PMeth := (yX10_second, cX10_second, 3, (some .long), [], cdX10_second, fun _ => none, (some 10), 1)
def qX10_third : PMeth := (yX10_third, cX10_third, 3, (some .long), [], cdX10_third, fun _ => none, (some 10), 1)
def qX10_byteAt : PMeth := (yX10_byteAt, cX10_byteAt, 2, (some .int), [], cdX10_byteAt, fun _ => none, (some 10), 1)
def qX10_failsAt : PMeth := (yX10_failsAt, cX10_failsAt, 3, (some (.object "java/lang/IllegalStateException")), [], cdX10_failsAt, fun _ => none, (some 10), 2)
def qX10_isCapital : PMeth := (yX10_isCapital, cX10_isCapital, 1, (some .boolean), [], cdX10_isCapital, fun _ => none, none, 1)
def qX10_isDigit : PMeth := (yX10_isDigit, cX10_isDigit, 1, (some .boolean), [], cdX10_isDigit, fun _ => none, none, 1)
def qX10_blanks : PMeth := (yX10_blanks, cX10_blanks, 1, none, [], cdX10_blanks, fun _ => none, (some 10), 0)
def qX10_symbol : PMeth := (yX10_symbol, cX10_symbol, 6, (some .long), [], cdX10_symbol, fun _ => none, (some 10), 0)
def qX10_number : PMeth := (yX10_number, cX10_number, 5, (some .long), [], cdX10_number, fun _ => none, (some 10), 0)
def qX10_isAtom : PMeth := (yX10_isAtom, cX10_isAtom, 2, (some .boolean), [], cdX10_isAtom, fun _ => none, (some 10), 0)
def qX10_mayBegin : PMeth := (yX10_mayBegin, cX10_mayBegin, 1, (some .boolean), [], cdX10_mayBegin, fun _ => none, (some 10), 0)
def qX10_reads : PMeth := (yX10_reads, cX10_reads, 5, (some .long), [], cdX10_reads, fun _ => none, (some 10), 0)
def qX10_quotes : PMeth := (yX10_quotes, cX10_quotes, 6, (some .long), [(0, 25, 26, 24)], cdX10_quotes, fun pc => if 0 ≤ pc ∧ pc < 25 then some (28, 4) else none, (some 10), 2)
def qX10_closes : PMeth := (yX10_closes, cX10_closes, 6, (some .long), [(83, 124, 127, 24)], cdX10_closes, fun pc => if 83 ≤ pc ∧ pc < 124 then some (129, 5) else none, (some 10), 0)
def qX10_nothing : PMeth := (yX10_nothing, cX10_nothing, 1, none, [], cdX10_nothing, fun _ => none, (some 10), 0)
def qX10_burn : PMeth := (yX10_burn, cX10_burn, 1, none, [], cdX10_burn, fun _ => none, (some 10), 0)
def qX10_pairOf : PMeth := (yX10_pairOf, cX10_pairOf, 7, (some .long), [], cdX10_pairOf, fun _ => none, (some 10), 1)
def qX10_frame : PMeth := (yX10_frame, cX10_frame, 6, none, [], cdX10_frame, fun _ => none, (some 10), 3)
def qX10_evaluates : PMeth := (yX10_evaluates, cX10_evaluates, 9, (some .int), [], cdX10_evaluates, fun _ => none, (some 10), 0)
def qX10_returns : PMeth := (yX10_returns, cX10_returns, 3, (some .int), [], cdX10_returns, fun _ => none, (some 10), 0)
def qX10_applies : PMeth := (yX10_applies, cX10_applies, 9, (some .int), [], cdX10_applies, fun _ => none, (some 10), 0)
def qX10_variable : PMeth := (yX10_variable, cX10_variable, 3, none, [], cdX10_variable, fun _ => none, (some 10), 1)
def qX10_binds : PMeth := (yX10_binds, cX10_binds, 13, (some .int), [], cdX10_binds, fun _ => none, (some 10), 0)
def qX10_gives : PMeth := (yX10_gives, cX10_gives, 3, (some .int), [], cdX10_gives, fun _ => none, (some 10), 1)
def qX10_says : PMeth := (yX10_says, cX10_says, 2, (some .int), [], cdX10_says, fun _ => none, (some 10), 1)
def qX10_built : PMeth := (yX10_built, cX10_built, 10, (some .int), [], cdX10_built, fun _ => none, (some 10), 1)
def qX10_counts : PMeth := (yX10_counts, cX10_counts, 9, (some .int), [], cdX10_counts, fun _ => none, (some 10), 3)
def qX10_puts : PMeth := (yX10_puts, cX10_puts, 2, none, [], cdX10_puts, fun _ => none, (some 10), 1)
def qX10_atom : PMeth := (yX10_atom, cX10_atom, 7, none, [], cdX10_atom, fun _ => none, (some 10), 1)
def qX10_prints : PMeth := (yX10_prints, cX10_prints, 7, none, [], cdX10_prints, fun _ => none, (some 10), 1)
def qX10_feed : PMeth := (yX10_feed, cX10_feed, 9, (some .int), [], cdX10_feed, fun _ => none, (some 10), 5)
def qX10_begins : PMeth := (yX10_begins, cX10_begins, 3, (some .boolean), [], cdX10_begins, fun _ => none, (some 10), 2)
def qX10_whole : PMeth := (yX10_whole, cX10_whole, 3, (some .long), [], cdX10_whole, fun _ => none, (some 10), 0)
def qX10_failed : PMeth := (yX10_failed, cX10_failed, 2, (some .int), [], cdX10_failed, fun _ => none, (some 10), 1)
def qX10_define : PMeth := (yX10_define, cX10_define, 8, (some .int), [(11, 117, 118, 24)], cdX10_define, fun pc => if 11 ≤ pc ∧ pc < 117 then some (119, 2) else none, (some 10), 1)
def qX10_echo : PMeth := (yX10_echo, cX10_echo, 4, (some .int), [(11, 27, 28, 24)], cdX10_echo, fun pc => if 11 ≤ pc ∧ pc < 27 then some (29, 2) else none, (some 10), 1)
def qX10_eval : PMeth := (yX10_eval, cX10_eval, 4, (some .int), [(41, 129, 130, 24)], cdX10_eval, fun pc => if 41 ≤ pc ∧ pc < 129 then some (131, 3) else none, (some 10), 2)
def qX10_place : PMeth := (yX10_place, cX10_place, 1, (some .int), [], cdX10_place, fun _ => none, (some 10), 0)
def qX10_ofFunctions : PMeth := (yX10_ofFunctions, cX10_ofFunctions, 1, (some .int), [], cdX10_ofFunctions, fun _ => none, (some 10), 0)
def qX10_room : PMeth := (yX10_room, cX10_room, 3, (some .int), [], cdX10_room, fun _ => none, (some 10), 1)
def qX10_count : PMeth := (yX10_count, cX10_count, 2, (some .int), [], cdX10_count, fun _ => none, (some 10), 1)
def qX10_function : PMeth := (yX10_function, cX10_function, 2, (some .int), [], cdX10_function, fun _ => none, (some 10), 1)
def qX10_octet : PMeth := (yX10_octet, cX10_octet, 2, (some .int), [], cdX10_octet, fun _ => none, (some 10), 1)
def MTl : List PMeth := [qX0_size, qX0_at, qX0_add, qX0_addNumber, qX0_clear, qX1_made, qX1_limit, qX1_setLimit, qX1_head, qX1_tail, qX1_make, qX1_reachedByFunctions, qX1_inUse, qX1_collect, qX1_reach, qX1_takeBack, qX2_fault, qX2_answer, qX2_fuelTaken, qX2_mostFrames, qX2_forget, qX2_run, qX2_letGo, qX2_emptyHand, qX2_fail, qX2_burn, qX2_give, qX2_evaluateNext, qX2_askHead, qX2_askTail, qX2_askSecond, qX2_askThird, qX2_cons, qX2_lookUp, qX2_evaluate, qX2_evaluateAtom, qX2_evaluateCond, qX2_evaluateFunction, qX2_evaluateCall, qX2_pushFrame, qX2_popFrame, qX2_takeValue, qX2_takeChoice, qX2_takeArgument, qX2_takeInHand, qX2_isBuiltIn, qX2_apply, qX2_applySymbol, qX2_applyLambda, qX2_lookAtVariables, qX2_askVariable, qX2_applyLabel, qX2_applyFunarg, qX2_applyBuiltIn, qX2_valuesWanted, qX2_givePart, qX2_giveList, qX2_giveReckoned, qX3_print, qX3_nextElement, qX3_closeList, qX3_printAtom, qX3_printNumber, qX4_fault, qX4_faultPlace, qX4_begin, qX4_readName, qX4_readWhole, qX4_fail, qX4_readToken, qX4_state, qX4_setState, qX4_mayBegin, qX4_openOne, qX4_readDot, qX4_closeList, qX4_readAtom, qX4_readSymbol, qX4_readNumber, qX4_complete, qX4_isBlank, qX4_isLetter, qX4_isDigit, qX6_size, qX6_at, qX6_put, qX6_add, qX6_cut, qX6_present, qX7_size, qX7_lengthOf, qX7_signOf, qX7_named, qX7_isNamed, qX7_addSign, qX8_isSymbol, qX8_isNumber, qX8_isCell, qX8_ofNumber, qX8_ofCell, qX8_ofTruth, qX8_number, qX9_feed, qX9_define, qX9_eval, qX9_echo, qX9_place, qX9_room, qX9_count, qX9_function, qX9_octet, qX10_thrown, qX10_isSymbol, qX10_isNumber, qX10_isCell, qX10_symbolOf, qX10_fails, qX10_visit, qX10_walks, qX10_reachFunctions, qX10_reach, qX10_cons, qX10_headOf, qX10_tailOf, qX10_second, qX10_third, qX10_byteAt, qX10_failsAt, qX10_isCapital, qX10_isDigit, qX10_blanks, qX10_symbol, qX10_number, qX10_isAtom, qX10_mayBegin, qX10_reads, qX10_quotes, qX10_closes, qX10_nothing, qX10_burn, qX10_pairOf, qX10_frame, qX10_evaluates, qX10_returns, qX10_applies, qX10_variable, qX10_binds, qX10_gives, qX10_says, qX10_built, qX10_counts, qX10_puts, qX10_atom, qX10_prints, qX10_feed, qX10_begins, qX10_whole, qX10_failed, qX10_define, qX10_echo, qX10_eval, qX10_place, qX10_ofFunctions, qX10_room, qX10_count, qX10_function, qX10_octet]
def MT (k : Nat) : Option PMeth := MTl[k]?
abbrev cls : List vw_C := [(RJxb5711, TJxb5711, 0), (RX0, TX0, 2), (RX1, TX1, 10), (RX2, TX2, 13), (RX3, TX3, 4), (RX4, TX4, 13), (RX5, TX5, 7), (RX6, TX6, 2), (RX7, TX7, 3), (RX9, TX9, 8), (RX10, TX10, 48)]
theorem kw_p (ws : List Cond) (ps : List Nat) (h : ps.filterMap (fun i => lw_tbl[i]?) = ws) (hg : ws.all goodWord = true) : ∀ w ∈ ws, w ∈ TS := by
  intro w hw
  have h1 := List.all_eq_true.mp hg w hw
  rw [← h] at hw
  obtain ⟨i, -, hi⟩ := List.mem_filterMap.mp hw
  exact mT i hi h1
set_option maxRecDepth 20000 in
theorem kdX0 : p_kind cls TS 1 RX0 TX0 2 tyX0 := ⟨rfl, kw_p _ [195, 197] (by decide +kernel) (by decide +kernel), tyX0_ok, nmX0⟩
set_option maxRecDepth 20000 in
theorem kdX1 : p_kind cls TS 2 RX1 TX1 10 tyX1 := ⟨rfl, kw_p _ [293, 295, 297, 299, 301, 303, 305, 307, 309, 311] (by decide +kernel) (by decide +kernel), tyX1_ok, nmX1⟩
set_option maxRecDepth 20000 in
theorem kdX2 : p_kind cls TS 3 RX2 TX2 13 tyX2 := ⟨rfl, kw_p _ [382, 384, 386, 388, 390, 392, 394, 396, 398, 400, 402, 404, 406] (by decide +kernel) (by decide +kernel), tyX2_ok, nmX2⟩
set_option maxRecDepth 20000 in
theorem kdX3 : p_kind cls TS 4 RX3 TX3 4 tyX3 := ⟨rfl, kw_p _ [421, 423, 425, 427] (by decide +kernel) (by decide +kernel), tyX3_ok, nmX3⟩
set_option maxRecDepth 20000 in
theorem kdX4 : p_kind cls TS 5 RX4 TX4 13 tyX4 := ⟨rfl, kw_p _ [334, 336, 338, 340, 342, 344, 346, 348, 350, 352, 354, 356, 358] (by decide +kernel) (by decide +kernel), tyX4_ok, nmX4⟩
set_option maxRecDepth 20000 in
theorem kdX5 : p_kind cls TS 6 RX5 TX5 7 tyX5 := ⟨rfl, kw_p _ [172, 174, 176, 178, 180, 182, 184] (by decide +kernel) (by decide +kernel), tyX5_ok, nmX5⟩
set_option maxRecDepth 20000 in
theorem kdX6 : p_kind cls TS 7 RX6 TX6 2 tyX6 := ⟨rfl, kw_p _ [142, 144] (by decide +kernel) (by decide +kernel), tyX6_ok, nmX6⟩
set_option maxRecDepth 20000 in
theorem kdX7 : p_kind cls TS 8 RX7 TX7 3 tyX7 := ⟨rfl, kw_p _ [263, 265, 267] (by decide +kernel) (by decide +kernel), tyX7_ok, nmX7⟩
set_option maxRecDepth 20000 in
theorem kdX9 : p_kind cls TS 9 RX9 TX9 8 tyX9 := ⟨rfl, kw_p _ [438, 440, 442, 444, 446, 448, 450, 452] (by decide +kernel) (by decide +kernel), tyX9_ok, nmX9⟩
set_option maxRecDepth 20000 in
theorem kdX10 : p_kind cls TS 10 RX10 TX10 48 tyX10 := ⟨rfl, kw_p _ [1095, 1097, 1099, 1101, 1103, 1105, 1107, 1109, 1111, 1113, 1115, 1117, 1119, 1121, 1123, 1125, 1127, 1129, 1131, 1133, 1135, 1137, 1139, 1141, 1143, 1145, 1147, 1149, 1151, 1153, 1155, 1157, 1159, 1161, 1163, 1165, 1167, 1169, 1171, 1173, 1175, 1177, 1179, 1181, 1183, 1185, 1187, 1189] (by decide +kernel) (by decide +kernel), tyX10_ok, nmX10⟩
set_option maxRecDepth 20000 in
theorem caX0_size : p_cal cls TS MT false 0 1 yX0_size := ⟨qX0_size, rfl, rfl, (mT 102 rfl rfl), (mT 462 rfl rfl), ⟨by decide +kernel, by decide +kernel⟩, by decide +kernel, ⟨rfl, mT 460 rfl rfl, mT 461 rfl rfl, 1, TX0, 2, rfl, rfl⟩⟩
set_option maxRecDepth 20000 in
theorem caX0_at : p_cal cls TS MT false 1 2 yX0_at := ⟨qX0_at, rfl, rfl, (mT 102 rfl rfl), (mT 619 rfl rfl), ⟨by decide +kernel, by decide +kernel⟩, by decide +kernel, ⟨rfl, mT 617 rfl rfl, mT 618 rfl rfl, 1, TX0, 2, rfl, rfl⟩⟩
set_option maxRecDepth 20000 in
theorem caX0_add : p_cal cls TS MT false 2 2 yX0_add := ⟨qX0_add, rfl, rfl, (mT 102 rfl rfl), (mT 470 rfl rfl), ⟨by decide +kernel, by decide +kernel⟩, by decide +kernel, ⟨rfl, mT 468 rfl rfl, mT 469 rfl rfl, 1, TX0, 2, rfl, rfl⟩⟩
set_option maxRecDepth 20000 in
theorem caX0_addNumber : p_cal cls TS MT false 3 2 yX0_addNumber := ⟨qX0_addNumber, rfl, rfl, (mT 102 rfl rfl), (mT 466 rfl rfl), ⟨by decide +kernel, by decide +kernel⟩, by decide +kernel, ⟨rfl, mT 464 rfl rfl, mT 465 rfl rfl, 1, TX0, 2, rfl, rfl⟩⟩
set_option maxRecDepth 20000 in
theorem caX0_clear : p_cal cls TS MT false 4 1 yX0_clear := ⟨qX0_clear, rfl, rfl, (mT 102 rfl rfl), (mT 547 rfl rfl), ⟨by decide +kernel, by decide +kernel⟩, by decide +kernel, ⟨rfl, mT 545 rfl rfl, mT 546 rfl rfl, 1, TX0, 2, rfl, rfl⟩⟩
set_option maxRecDepth 20000 in
theorem caX1_made : p_cal cls TS MT false 5 1 yX1_made := ⟨qX1_made, rfl, rfl, (mT 108 rfl rfl), (mT 525 rfl rfl), ⟨by decide +kernel, by decide +kernel⟩, by decide +kernel, ⟨rfl, mT 523 rfl rfl, mT 524 rfl rfl, 2, TX1, 10, rfl, rfl⟩⟩
set_option maxRecDepth 20000 in
theorem caX1_limit : p_cal cls TS MT false 6 1 yX1_limit := ⟨qX1_limit, rfl, rfl, (mT 108 rfl rfl), (mT 529 rfl rfl), ⟨by decide +kernel, by decide +kernel⟩, by decide +kernel, ⟨rfl, mT 527 rfl rfl, mT 528 rfl rfl, 2, TX1, 10, rfl, rfl⟩⟩
set_option maxRecDepth 20000 in
theorem caX1_setLimit : p_cal cls TS MT false 7 2 yX1_setLimit := ⟨qX1_setLimit, rfl, rfl, (mT 108 rfl rfl), (mT 1012 rfl rfl), ⟨by decide +kernel, by decide +kernel⟩, by decide +kernel, ⟨rfl, mT 1010 rfl rfl, mT 1011 rfl rfl, 2, TX1, 10, rfl, rfl⟩⟩
set_option maxRecDepth 20000 in
theorem caX1_head : p_cal cls TS MT false 8 2 yX1_head := ⟨qX1_head, rfl, rfl, (mT 108 rfl rfl), (mT 568 rfl rfl), ⟨by decide +kernel, by decide +kernel⟩, by decide +kernel, ⟨rfl, mT 566 rfl rfl, mT 567 rfl rfl, 2, TX1, 10, rfl, rfl⟩⟩
set_option maxRecDepth 20000 in
theorem caX1_tail : p_cal cls TS MT false 9 2 yX1_tail := ⟨qX1_tail, rfl, rfl, (mT 108 rfl rfl), (mT 562 rfl rfl), ⟨by decide +kernel, by decide +kernel⟩, by decide +kernel, ⟨rfl, mT 560 rfl rfl, mT 561 rfl rfl, 2, TX1, 10, rfl, rfl⟩⟩
set_option maxRecDepth 20000 in
theorem caX1_make : p_cal cls TS MT false 10 3 yX1_make := ⟨qX1_make, rfl, rfl, (mT 108 rfl rfl), (mT 756 rfl rfl), ⟨by decide +kernel, by decide +kernel⟩, by decide +kernel, ⟨rfl, mT 754 rfl rfl, mT 755 rfl rfl, 2, TX1, 10, rfl, rfl⟩⟩
set_option maxRecDepth 20000 in
theorem caX1_reachedByFunctions : p_cal cls TS MT false 11 1 yX1_reachedByFunctions := ⟨qX1_reachedByFunctions, rfl, rfl, (mT 108 rfl rfl), (mT 490 rfl rfl), ⟨by decide +kernel, by decide +kernel⟩, by decide +kernel, ⟨rfl, mT 488 rfl rfl, mT 489 rfl rfl, 2, TX1, 10, rfl, rfl⟩⟩
set_option maxRecDepth 20000 in
theorem caX1_inUse : p_cal cls TS MT false 12 1 yX1_inUse := ⟨qX1_inUse, rfl, rfl, (mT 108 rfl rfl), (mT 513 rfl rfl), ⟨by decide +kernel, by decide +kernel⟩, by decide +kernel, ⟨rfl, mT 512 rfl rfl, mT 4 rfl rfl, 2, TX1, 10, rfl, rfl⟩⟩
set_option maxRecDepth 20000 in
theorem caX1_collect : p_cal cls TS MT false 13 3 yX1_collect := ⟨qX1_collect, rfl, rfl, (mT 108 rfl rfl), (mT 494 rfl rfl), ⟨by decide +kernel, by decide +kernel⟩, by decide +kernel, ⟨rfl, mT 493 rfl rfl, mT 2 rfl rfl, 2, TX1, 10, rfl, rfl⟩⟩
set_option maxRecDepth 20000 in
theorem caX1_reach : p_cal cls TS MT false 14 2 yX1_reach := ⟨qX1_reach, rfl, rfl, (mT 108 rfl rfl), (mT 498 rfl rfl), ⟨by decide +kernel, by decide +kernel⟩, by decide +kernel, ⟨rfl, mT 497 rfl rfl, mT 3 rfl rfl, 2, TX1, 10, rfl, rfl⟩⟩
set_option maxRecDepth 20000 in
theorem caX1_takeBack : p_cal cls TS MT false 15 1 yX1_takeBack := ⟨qX1_takeBack, rfl, rfl, (mT 108 rfl rfl), (mT 282 rfl rfl), ⟨by decide +kernel, by decide +kernel⟩, by decide +kernel, ⟨rfl, mT 281 rfl rfl, mT 1 rfl rfl, 2, TX1, 10, rfl, rfl⟩⟩
set_option maxRecDepth 20000 in
theorem caX2_fault : p_cal cls TS MT false 16 1 yX2_fault := ⟨qX2_fault, rfl, rfl, (mT 110 rfl rfl), (mT 990 rfl rfl), ⟨by decide +kernel, by decide +kernel⟩, by decide +kernel, ⟨rfl, mT 988 rfl rfl, mT 989 rfl rfl, 3, TX2, 13, rfl, rfl⟩⟩
set_option maxRecDepth 20000 in
theorem caX2_answer : p_cal cls TS MT false 17 1 yX2_answer := ⟨qX2_answer, rfl, rfl, (mT 110 rfl rfl), (mT 994 rfl rfl), ⟨by decide +kernel, by decide +kernel⟩, by decide +kernel, ⟨rfl, mT 992 rfl rfl, mT 993 rfl rfl, 3, TX2, 13, rfl, rfl⟩⟩
set_option maxRecDepth 20000 in
theorem caX2_fuelTaken : p_cal cls TS MT false 18 1 yX2_fuelTaken := ⟨qX2_fuelTaken, rfl, rfl, (mT 110 rfl rfl), (mT 517 rfl rfl), ⟨by decide +kernel, by decide +kernel⟩, by decide +kernel, ⟨rfl, mT 515 rfl rfl, mT 516 rfl rfl, 3, TX2, 13, rfl, rfl⟩⟩
set_option maxRecDepth 20000 in
theorem caX2_mostFrames : p_cal cls TS MT false 19 1 yX2_mostFrames := ⟨qX2_mostFrames, rfl, rfl, (mT 110 rfl rfl), (mT 521 rfl rfl), ⟨by decide +kernel, by decide +kernel⟩, by decide +kernel, ⟨rfl, mT 519 rfl rfl, mT 520 rfl rfl, 3, TX2, 13, rfl, rfl⟩⟩
set_option maxRecDepth 20000 in
theorem caX2_forget : p_cal cls TS MT false 20 1 yX2_forget := ⟨qX2_forget, rfl, rfl, (mT 110 rfl rfl), (mT 808 rfl rfl), ⟨by decide +kernel, by decide +kernel⟩, by decide +kernel, ⟨rfl, mT 806 rfl rfl, mT 807 rfl rfl, 3, TX2, 13, rfl, rfl⟩⟩
set_option maxRecDepth 20000 in
theorem caX2_run : p_cal cls TS MT false 21 3 yX2_run := ⟨qX2_run, rfl, rfl, (mT 110 rfl rfl), (mT 812 rfl rfl), ⟨by decide +kernel, by decide +kernel⟩, by decide +kernel, ⟨rfl, mT 810 rfl rfl, mT 811 rfl rfl, 3, TX2, 13, rfl, rfl⟩⟩
set_option maxRecDepth 20000 in
theorem caX2_letGo : p_cal cls TS MT false 22 1 yX2_letGo := ⟨qX2_letGo, rfl, rfl, (mT 110 rfl rfl), (mT 986 rfl rfl), ⟨by decide +kernel, by decide +kernel⟩, by decide +kernel, ⟨rfl, mT 985 rfl rfl, mT 57 rfl rfl, 3, TX2, 13, rfl, rfl⟩⟩
set_option maxRecDepth 20000 in
theorem caX2_emptyHand : p_cal cls TS MT false 23 1 yX2_emptyHand := ⟨qX2_emptyHand, rfl, rfl, (mT 110 rfl rfl), (mT 841 rfl rfl), ⟨by decide +kernel, by decide +kernel⟩, by decide +kernel, ⟨rfl, mT 840 rfl rfl, mT 28 rfl rfl, 3, TX2, 13, rfl, rfl⟩⟩
set_option maxRecDepth 20000 in
theorem caX2_fail : p_cal cls TS MT false 24 2 yX2_fail := ⟨qX2_fail, rfl, rfl, (mT 110 rfl rfl), (mT 820 rfl rfl), ⟨by decide +kernel, by decide +kernel⟩, by decide +kernel, ⟨rfl, mT 819 rfl rfl, mT 24 rfl rfl, 3, TX2, 13, rfl, rfl⟩⟩
set_option maxRecDepth 20000 in
theorem caX2_burn : p_cal cls TS MT false 25 1 yX2_burn := ⟨qX2_burn, rfl, rfl, (mT 110 rfl rfl), (mT 816 rfl rfl), ⟨by decide +kernel, by decide +kernel⟩, by decide +kernel, ⟨rfl, mT 815 rfl rfl, mT 23 rfl rfl, 3, TX2, 13, rfl, rfl⟩⟩
set_option maxRecDepth 20000 in
theorem caX2_give : p_cal cls TS MT false 26 2 yX2_give := ⟨qX2_give, rfl, rfl, (mT 110 rfl rfl), (mT 837 rfl rfl), ⟨by decide +kernel, by decide +kernel⟩, by decide +kernel, ⟨rfl, mT 836 rfl rfl, mT 27 rfl rfl, 3, TX2, 13, rfl, rfl⟩⟩
set_option maxRecDepth 20000 in
theorem caX2_evaluateNext : p_cal cls TS MT false 27 2 yX2_evaluateNext := ⟨qX2_evaluateNext, rfl, rfl, (mT 110 rfl rfl), (mT 880 rfl rfl), ⟨by decide +kernel, by decide +kernel⟩, by decide +kernel, ⟨rfl, mT 879 rfl rfl, mT 35 rfl rfl, 3, TX2, 13, rfl, rfl⟩⟩
set_option maxRecDepth 20000 in
theorem caX2_askHead : p_cal cls TS MT false 28 2 yX2_askHead := ⟨qX2_askHead, rfl, rfl, (mT 110 rfl rfl), (mT 851 rfl rfl), ⟨by decide +kernel, by decide +kernel⟩, by decide +kernel, ⟨rfl, mT 850 rfl rfl, mT 30 rfl rfl, 3, TX2, 13, rfl, rfl⟩⟩
set_option maxRecDepth 20000 in
theorem caX2_askTail : p_cal cls TS MT false 29 2 yX2_askTail := ⟨qX2_askTail, rfl, rfl, (mT 110 rfl rfl), (mT 862 rfl rfl), ⟨by decide +kernel, by decide +kernel⟩, by decide +kernel, ⟨rfl, mT 861 rfl rfl, mT 32 rfl rfl, 3, TX2, 13, rfl, rfl⟩⟩
set_option maxRecDepth 20000 in
theorem caX2_askSecond : p_cal cls TS MT false 30 2 yX2_askSecond := ⟨qX2_askSecond, rfl, rfl, (mT 110 rfl rfl), (mT 858 rfl rfl), ⟨by decide +kernel, by decide +kernel⟩, by decide +kernel, ⟨rfl, mT 857 rfl rfl, mT 31 rfl rfl, 3, TX2, 13, rfl, rfl⟩⟩
set_option maxRecDepth 20000 in
theorem caX2_askThird : p_cal cls TS MT false 31 2 yX2_askThird := ⟨qX2_askThird, rfl, rfl, (mT 110 rfl rfl), (mT 973 rfl rfl), ⟨by decide +kernel, by decide +kernel⟩, by decide +kernel, ⟨rfl, mT 972 rfl rfl, mT 54 rfl rfl, 3, TX2, 13, rfl, rfl⟩⟩
set_option maxRecDepth 20000 in
theorem caX2_cons : p_cal cls TS MT false 32 3 yX2_cons := ⟨qX2_cons, rfl, rfl, (mT 110 rfl rfl), (mT 889 rfl rfl), ⟨by decide +kernel, by decide +kernel⟩, by decide +kernel, ⟨rfl, mT 888 rfl rfl, mT 37 rfl rfl, 3, TX2, 13, rfl, rfl⟩⟩
set_option maxRecDepth 20000 in
theorem caX2_lookUp : p_cal cls TS MT false 33 2 yX2_lookUp := ⟨qX2_lookUp, rfl, rfl, (mT 110 rfl rfl), (mT 846 rfl rfl), ⟨by decide +kernel, by decide +kernel⟩, by decide +kernel, ⟨rfl, mT 845 rfl rfl, mT 29 rfl rfl, 3, TX2, 13, rfl, rfl⟩⟩
set_option maxRecDepth 20000 in
theorem caX2_evaluate : p_cal cls TS MT false 34 1 yX2_evaluate := ⟨qX2_evaluate, rfl, rfl, (mT 110 rfl rfl), (mT 824 rfl rfl), ⟨by decide +kernel, by decide +kernel⟩, by decide +kernel, ⟨rfl, mT 823 rfl rfl, mT 25 rfl rfl, 3, TX2, 13, rfl, rfl⟩⟩
set_option maxRecDepth 20000 in
theorem caX2_evaluateAtom : p_cal cls TS MT false 35 2 yX2_evaluateAtom := ⟨qX2_evaluateAtom, rfl, rfl, (mT 110 rfl rfl), (mT 829 rfl rfl), ⟨by decide +kernel, by decide +kernel⟩, by decide +kernel, ⟨rfl, mT 828 rfl rfl, mT 26 rfl rfl, 3, TX2, 13, rfl, rfl⟩⟩
set_option maxRecDepth 20000 in
theorem caX2_evaluateCond : p_cal cls TS MT false 36 2 yX2_evaluateCond := ⟨qX2_evaluateCond, rfl, rfl, (mT 110 rfl rfl), (mT 867 rfl rfl), ⟨by decide +kernel, by decide +kernel⟩, by decide +kernel, ⟨rfl, mT 866 rfl rfl, mT 33 rfl rfl, 3, TX2, 13, rfl, rfl⟩⟩
set_option maxRecDepth 20000 in
theorem caX2_evaluateFunction : p_cal cls TS MT false 37 2 yX2_evaluateFunction := ⟨qX2_evaluateFunction, rfl, rfl, (mT 110 rfl rfl), (mT 885 rfl rfl), ⟨by decide +kernel, by decide +kernel⟩, by decide +kernel, ⟨rfl, mT 884 rfl rfl, mT 36 rfl rfl, 3, TX2, 13, rfl, rfl⟩⟩
set_option maxRecDepth 20000 in
theorem caX2_evaluateCall : p_cal cls TS MT false 38 3 yX2_evaluateCall := ⟨qX2_evaluateCall, rfl, rfl, (mT 110 rfl rfl), (mT 895 rfl rfl), ⟨by decide +kernel, by decide +kernel⟩, by decide +kernel, ⟨rfl, mT 894 rfl rfl, mT 38 rfl rfl, 3, TX2, 13, rfl, rfl⟩⟩
set_option maxRecDepth 20000 in
theorem caX2_pushFrame : p_cal cls TS MT false 39 3 yX2_pushFrame := ⟨qX2_pushFrame, rfl, rfl, (mT 110 rfl rfl), (mT 871 rfl rfl), ⟨by decide +kernel, by decide +kernel⟩, by decide +kernel, ⟨rfl, mT 870 rfl rfl, mT 34 rfl rfl, 3, TX2, 13, rfl, rfl⟩⟩
set_option maxRecDepth 20000 in
theorem caX2_popFrame : p_cal cls TS MT false 40 2 yX2_popFrame := ⟨qX2_popFrame, rfl, rfl, (mT 110 rfl rfl), (mT 908 rfl rfl), ⟨by decide +kernel, by decide +kernel⟩, by decide +kernel, ⟨rfl, mT 907 rfl rfl, mT 41 rfl rfl, 3, TX2, 13, rfl, rfl⟩⟩
set_option maxRecDepth 20000 in
theorem caX2_takeValue : p_cal cls TS MT false 41 1 yX2_takeValue := ⟨qX2_takeValue, rfl, rfl, (mT 110 rfl rfl), (mT 899 rfl rfl), ⟨by decide +kernel, by decide +kernel⟩, by decide +kernel, ⟨rfl, mT 898 rfl rfl, mT 39 rfl rfl, 3, TX2, 13, rfl, rfl⟩⟩
set_option maxRecDepth 20000 in
theorem caX2_takeChoice : p_cal cls TS MT false 42 2 yX2_takeChoice := ⟨qX2_takeChoice, rfl, rfl, (mT 110 rfl rfl), (mT 904 rfl rfl), ⟨by decide +kernel, by decide +kernel⟩, by decide +kernel, ⟨rfl, mT 903 rfl rfl, mT 40 rfl rfl, 3, TX2, 13, rfl, rfl⟩⟩
set_option maxRecDepth 20000 in
theorem caX2_takeArgument : p_cal cls TS MT false 43 2 yX2_takeArgument := ⟨qX2_takeArgument, rfl, rfl, (mT 110 rfl rfl), (mT 913 rfl rfl), ⟨by decide +kernel, by decide +kernel⟩, by decide +kernel, ⟨rfl, mT 912 rfl rfl, mT 42 rfl rfl, 3, TX2, 13, rfl, rfl⟩⟩
set_option maxRecDepth 20000 in
theorem caX2_takeInHand : p_cal cls TS MT false 44 2 yX2_takeInHand := ⟨qX2_takeInHand, rfl, rfl, (mT 110 rfl rfl), (mT 917 rfl rfl), ⟨by decide +kernel, by decide +kernel⟩, by decide +kernel, ⟨rfl, mT 916 rfl rfl, mT 43 rfl rfl, 3, TX2, 13, rfl, rfl⟩⟩
set_option maxRecDepth 20000 in
theorem caX2_isBuiltIn : p_cal cls TS MT false 45 2 yX2_isBuiltIn := ⟨qX2_isBuiltIn, rfl, rfl, (mT 110 rfl rfl), (mT 921 rfl rfl), ⟨by decide +kernel, by decide +kernel⟩, by decide +kernel, ⟨rfl, mT 920 rfl rfl, mT 44 rfl rfl, 3, TX2, 13, rfl, rfl⟩⟩
set_option maxRecDepth 20000 in
theorem caX2_apply : p_cal cls TS MT false 46 1 yX2_apply := ⟨qX2_apply, rfl, rfl, (mT 110 rfl rfl), (mT 952 rfl rfl), ⟨by decide +kernel, by decide +kernel⟩, by decide +kernel, ⟨rfl, mT 951 rfl rfl, mT 49 rfl rfl, 3, TX2, 13, rfl, rfl⟩⟩
set_option maxRecDepth 20000 in
theorem caX2_applySymbol : p_cal cls TS MT false 47 2 yX2_applySymbol := ⟨qX2_applySymbol, rfl, rfl, (mT 110 rfl rfl), (mT 956 rfl rfl), ⟨by decide +kernel, by decide +kernel⟩, by decide +kernel, ⟨rfl, mT 955 rfl rfl, mT 50 rfl rfl, 3, TX2, 13, rfl, rfl⟩⟩
set_option maxRecDepth 20000 in
theorem caX2_applyLambda : p_cal cls TS MT false 48 2 yX2_applyLambda := ⟨qX2_applyLambda, rfl, rfl, (mT 110 rfl rfl), (mT 961 rfl rfl), ⟨by decide +kernel, by decide +kernel⟩, by decide +kernel, ⟨rfl, mT 960 rfl rfl, mT 51 rfl rfl, 3, TX2, 13, rfl, rfl⟩⟩
set_option maxRecDepth 20000 in
theorem caX2_lookAtVariables : p_cal cls TS MT false 49 2 yX2_lookAtVariables := ⟨qX2_lookAtVariables, rfl, rfl, (mT 110 rfl rfl), (mT 965 rfl rfl), ⟨by decide +kernel, by decide +kernel⟩, by decide +kernel, ⟨rfl, mT 964 rfl rfl, mT 52 rfl rfl, 3, TX2, 13, rfl, rfl⟩⟩
set_option maxRecDepth 20000 in
theorem caX2_askVariable : p_cal cls TS MT false 50 2 yX2_askVariable := ⟨qX2_askVariable, rfl, rfl, (mT 110 rfl rfl), (mT 969 rfl rfl), ⟨by decide +kernel, by decide +kernel⟩, by decide +kernel, ⟨rfl, mT 968 rfl rfl, mT 53 rfl rfl, 3, TX2, 13, rfl, rfl⟩⟩
set_option maxRecDepth 20000 in
theorem caX2_applyLabel : p_cal cls TS MT false 51 2 yX2_applyLabel := ⟨qX2_applyLabel, rfl, rfl, (mT 110 rfl rfl), (mT 978 rfl rfl), ⟨by decide +kernel, by decide +kernel⟩, by decide +kernel, ⟨rfl, mT 977 rfl rfl, mT 55 rfl rfl, 3, TX2, 13, rfl, rfl⟩⟩
set_option maxRecDepth 20000 in
theorem caX2_applyFunarg : p_cal cls TS MT false 52 2 yX2_applyFunarg := ⟨qX2_applyFunarg, rfl, rfl, (mT 110 rfl rfl), (mT 982 rfl rfl), ⟨by decide +kernel, by decide +kernel⟩, by decide +kernel, ⟨rfl, mT 981 rfl rfl, mT 56 rfl rfl, 3, TX2, 13, rfl, rfl⟩⟩
set_option maxRecDepth 20000 in
theorem caX2_applyBuiltIn : p_cal cls TS MT false 53 1 yX2_applyBuiltIn := ⟨qX2_applyBuiltIn, rfl, rfl, (mT 110 rfl rfl), (mT 927 rfl rfl), ⟨by decide +kernel, by decide +kernel⟩, by decide +kernel, ⟨rfl, mT 926 rfl rfl, mT 45 rfl rfl, 3, TX2, 13, rfl, rfl⟩⟩
set_option maxRecDepth 20000 in
theorem caX2_valuesWanted : p_cal cls TS MT true 54 1 yX2_valuesWanted := ⟨qX2_valuesWanted, rfl, rfl, (mT 110 rfl rfl), (mT 930 rfl rfl), ⟨by decide +kernel, by decide +kernel⟩, by decide +kernel, ⟨rfl, rfl, mT 929 rfl rfl⟩⟩
set_option maxRecDepth 20000 in
theorem caX2_givePart : p_cal cls TS MT false 55 3 yX2_givePart := ⟨qX2_givePart, rfl, rfl, (mT 110 rfl rfl), (mT 934 rfl rfl), ⟨by decide +kernel, by decide +kernel⟩, by decide +kernel, ⟨rfl, mT 933 rfl rfl, mT 46 rfl rfl, 3, TX2, 13, rfl, rfl⟩⟩
set_option maxRecDepth 20000 in
theorem caX2_giveList : p_cal cls TS MT false 56 1 yX2_giveList := ⟨qX2_giveList, rfl, rfl, (mT 110 rfl rfl), (mT 941 rfl rfl), ⟨by decide +kernel, by decide +kernel⟩, by decide +kernel, ⟨rfl, mT 940 rfl rfl, mT 47 rfl rfl, 3, TX2, 13, rfl, rfl⟩⟩
set_option maxRecDepth 20000 in
theorem caX2_giveReckoned : p_cal cls TS MT false 57 4 yX2_giveReckoned := ⟨qX2_giveReckoned, rfl, rfl, (mT 110 rfl rfl), (mT 946 rfl rfl), ⟨by decide +kernel, by decide +kernel⟩, by decide +kernel, ⟨rfl, mT 945 rfl rfl, mT 48 rfl rfl, 3, TX2, 13, rfl, rfl⟩⟩
set_option maxRecDepth 20000 in
theorem caX3_print : p_cal cls TS MT false 58 2 yX3_print := ⟨qX3_print, rfl, rfl, (mT 111 rfl rfl), (mT 543 rfl rfl), ⟨by decide +kernel, by decide +kernel⟩, by decide +kernel, ⟨rfl, mT 541 rfl rfl, mT 542 rfl rfl, 4, TX3, 4, rfl, rfl⟩⟩
set_option maxRecDepth 20000 in
theorem caX3_nextElement : p_cal cls TS MT false 59 1 yX3_nextElement := ⟨qX3_nextElement, rfl, rfl, (mT 111 rfl rfl), (mT 601 rfl rfl), ⟨by decide +kernel, by decide +kernel⟩, by decide +kernel, ⟨rfl, mT 600 rfl rfl, mT 7 rfl rfl, 4, TX3, 4, rfl, rfl⟩⟩
set_option maxRecDepth 20000 in
theorem caX3_closeList : p_cal cls TS MT false 60 2 yX3_closeList := ⟨qX3_closeList, rfl, rfl, (mT 111 rfl rfl), (mT 611 rfl rfl), ⟨by decide +kernel, by decide +kernel⟩, by decide +kernel, ⟨rfl, mT 610 rfl rfl, mT 8 rfl rfl, 4, TX3, 4, rfl, rfl⟩⟩
set_option maxRecDepth 20000 in
theorem caX3_printAtom : p_cal cls TS MT false 61 2 yX3_printAtom := ⟨qX3_printAtom, rfl, rfl, (mT 111 rfl rfl), (mT 572 rfl rfl), ⟨by decide +kernel, by decide +kernel⟩, by decide +kernel, ⟨rfl, mT 571 rfl rfl, mT 5 rfl rfl, 4, TX3, 4, rfl, rfl⟩⟩
set_option maxRecDepth 20000 in
theorem caX3_printNumber : p_cal cls TS MT false 62 2 yX3_printNumber := ⟨qX3_printNumber, rfl, rfl, (mT 111 rfl rfl), (mT 583 rfl rfl), ⟨by decide +kernel, by decide +kernel⟩, by decide +kernel, ⟨rfl, mT 582 rfl rfl, mT 6 rfl rfl, 4, TX3, 4, rfl, rfl⟩⟩
set_option maxRecDepth 20000 in
theorem caX4_fault : p_cal cls TS MT false 63 1 yX4_fault := ⟨qX4_fault, rfl, rfl, (mT 109 rfl rfl), (mT 796 rfl rfl), ⟨by decide +kernel, by decide +kernel⟩, by decide +kernel, ⟨rfl, mT 794 rfl rfl, mT 795 rfl rfl, 5, TX4, 13, rfl, rfl⟩⟩
set_option maxRecDepth 20000 in
theorem caX4_faultPlace : p_cal cls TS MT false 64 1 yX4_faultPlace := ⟨qX4_faultPlace, rfl, rfl, (mT 109 rfl rfl), (mT 478 rfl rfl), ⟨by decide +kernel, by decide +kernel⟩, by decide +kernel, ⟨rfl, mT 476 rfl rfl, mT 477 rfl rfl, 5, TX4, 13, rfl, rfl⟩⟩
set_option maxRecDepth 20000 in
theorem caX4_begin : p_cal cls TS MT false 65 2 yX4_begin := ⟨qX4_begin, rfl, rfl, (mT 109 rfl rfl), (mT 694 rfl rfl), ⟨by decide +kernel, by decide +kernel⟩, by decide +kernel, ⟨rfl, mT 692 rfl rfl, mT 693 rfl rfl, 5, TX4, 13, rfl, rfl⟩⟩
set_option maxRecDepth 20000 in
theorem caX4_readName : p_cal cls TS MT false 66 1 yX4_readName := ⟨qX4_readName, rfl, rfl, (mT 109 rfl rfl), (mT 698 rfl rfl), ⟨by decide +kernel, by decide +kernel⟩, by decide +kernel, ⟨rfl, mT 696 rfl rfl, mT 697 rfl rfl, 5, TX4, 13, rfl, rfl⟩⟩
set_option maxRecDepth 20000 in
theorem caX4_readWhole : p_cal cls TS MT false 67 1 yX4_readWhole := ⟨qX4_readWhole, rfl, rfl, (mT 109 rfl rfl), (mT 729 rfl rfl), ⟨by decide +kernel, by decide +kernel⟩, by decide +kernel, ⟨rfl, mT 727 rfl rfl, mT 728 rfl rfl, 5, TX4, 13, rfl, rfl⟩⟩
set_option maxRecDepth 20000 in
theorem caX4_fail : p_cal cls TS MT false 68 3 yX4_fail := ⟨qX4_fail, rfl, rfl, (mT 109 rfl rfl), (mT 709 rfl rfl), ⟨by decide +kernel, by decide +kernel⟩, by decide +kernel, ⟨rfl, mT 708 rfl rfl, mT 10 rfl rfl, 5, TX4, 13, rfl, rfl⟩⟩
set_option maxRecDepth 20000 in
theorem caX4_readToken : p_cal cls TS MT false 69 1 yX4_readToken := ⟨qX4_readToken, rfl, rfl, (mT 109 rfl rfl), (mT 733 rfl rfl), ⟨by decide +kernel, by decide +kernel⟩, by decide +kernel, ⟨rfl, mT 732 rfl rfl, mT 13 rfl rfl, 5, TX4, 13, rfl, rfl⟩⟩
set_option maxRecDepth 20000 in
theorem caX4_state : p_cal cls TS MT false 70 1 yX4_state := ⟨qX4_state, rfl, rfl, (mT 109 rfl rfl), (mT 745 rfl rfl), ⟨by decide +kernel, by decide +kernel⟩, by decide +kernel, ⟨rfl, mT 744 rfl rfl, mT 16 rfl rfl, 5, TX4, 13, rfl, rfl⟩⟩
set_option maxRecDepth 20000 in
theorem caX4_setState : p_cal cls TS MT false 71 2 yX4_setState := ⟨qX4_setState, rfl, rfl, (mT 109 rfl rfl), (mT 770 rfl rfl), ⟨by decide +kernel, by decide +kernel⟩, by decide +kernel, ⟨rfl, mT 769 rfl rfl, mT 19 rfl rfl, 5, TX4, 13, rfl, rfl⟩⟩
set_option maxRecDepth 20000 in
theorem caX4_mayBegin : p_cal cls TS MT false 72 1 yX4_mayBegin := ⟨qX4_mayBegin, rfl, rfl, (mT 109 rfl rfl), (mT 741 rfl rfl), ⟨by decide +kernel, by decide +kernel⟩, by decide +kernel, ⟨rfl, mT 740 rfl rfl, mT 15 rfl rfl, 5, TX4, 13, rfl, rfl⟩⟩
set_option maxRecDepth 20000 in
theorem caX4_openOne : p_cal cls TS MT false 73 2 yX4_openOne := ⟨qX4_openOne, rfl, rfl, (mT 109 rfl rfl), (mT 737 rfl rfl), ⟨by decide +kernel, by decide +kernel⟩, by decide +kernel, ⟨rfl, mT 736 rfl rfl, mT 14 rfl rfl, 5, TX4, 13, rfl, rfl⟩⟩
set_option maxRecDepth 20000 in
theorem caX4_readDot : p_cal cls TS MT false 74 1 yX4_readDot := ⟨qX4_readDot, rfl, rfl, (mT 109 rfl rfl), (mT 774 rfl rfl), ⟨by decide +kernel, by decide +kernel⟩, by decide +kernel, ⟨rfl, mT 773 rfl rfl, mT 20 rfl rfl, 5, TX4, 13, rfl, rfl⟩⟩
set_option maxRecDepth 20000 in
theorem caX4_closeList : p_cal cls TS MT false 75 1 yX4_closeList := ⟨qX4_closeList, rfl, rfl, (mT 109 rfl rfl), (mT 750 rfl rfl), ⟨by decide +kernel, by decide +kernel⟩, by decide +kernel, ⟨rfl, mT 749 rfl rfl, mT 17 rfl rfl, 5, TX4, 13, rfl, rfl⟩⟩
set_option maxRecDepth 20000 in
theorem caX4_readAtom : p_cal cls TS MT false 76 2 yX4_readAtom := ⟨qX4_readAtom, rfl, rfl, (mT 109 rfl rfl), (mT 778 rfl rfl), ⟨by decide +kernel, by decide +kernel⟩, by decide +kernel, ⟨rfl, mT 777 rfl rfl, mT 21 rfl rfl, 5, TX4, 13, rfl, rfl⟩⟩
set_option maxRecDepth 20000 in
theorem caX4_readSymbol : p_cal cls TS MT false 77 1 yX4_readSymbol := ⟨qX4_readSymbol, rfl, rfl, (mT 109 rfl rfl), (mT 713 rfl rfl), ⟨by decide +kernel, by decide +kernel⟩, by decide +kernel, ⟨rfl, mT 712 rfl rfl, mT 11 rfl rfl, 5, TX4, 13, rfl, rfl⟩⟩
set_option maxRecDepth 20000 in
theorem caX4_readNumber : p_cal cls TS MT false 78 1 yX4_readNumber := ⟨qX4_readNumber, rfl, rfl, (mT 109 rfl rfl), (mT 782 rfl rfl), ⟨by decide +kernel, by decide +kernel⟩, by decide +kernel, ⟨rfl, mT 781 rfl rfl, mT 22 rfl rfl, 5, TX4, 13, rfl, rfl⟩⟩
set_option maxRecDepth 20000 in
theorem caX4_complete : p_cal cls TS MT false 79 3 yX4_complete := ⟨qX4_complete, rfl, rfl, (mT 109 rfl rfl), (mT 764 rfl rfl), ⟨by decide +kernel, by decide +kernel⟩, by decide +kernel, ⟨rfl, mT 763 rfl rfl, mT 18 rfl rfl, 5, TX4, 13, rfl, rfl⟩⟩
set_option maxRecDepth 20000 in
theorem caX4_isBlank : p_cal cls TS MT true 80 1 yX4_isBlank := ⟨qX4_isBlank, rfl, rfl, (mT 109 rfl rfl), (mT 702 rfl rfl), ⟨by decide +kernel, by decide +kernel⟩, by decide +kernel, ⟨rfl, rfl, mT 701 rfl rfl⟩⟩
set_option maxRecDepth 20000 in
theorem caX4_isLetter : p_cal cls TS MT true 81 1 yX4_isLetter := ⟨qX4_isLetter, rfl, rfl, (mT 109 rfl rfl), (mT 705 rfl rfl), ⟨by decide +kernel, by decide +kernel⟩, by decide +kernel, ⟨rfl, rfl, mT 704 rfl rfl⟩⟩
set_option maxRecDepth 20000 in
theorem caX4_isDigit : p_cal cls TS MT true 82 1 yX4_isDigit := ⟨qX4_isDigit, rfl, rfl, (mT 109 rfl rfl), (mT 716 rfl rfl), ⟨by decide +kernel, by decide +kernel⟩, by decide +kernel, ⟨rfl, rfl, mT 715 rfl rfl⟩⟩
set_option maxRecDepth 20000 in
theorem caX6_size : p_cal cls TS MT false 83 1 yX6_size := ⟨qX6_size, rfl, rfl, (mT 101 rfl rfl), (mT 504 rfl rfl), ⟨by decide +kernel, by decide +kernel⟩, by decide +kernel, ⟨rfl, mT 502 rfl rfl, mT 503 rfl rfl, 7, TX6, 2, rfl, rfl⟩⟩
set_option maxRecDepth 20000 in
theorem caX6_at : p_cal cls TS MT false 84 2 yX6_at := ⟨qX6_at, rfl, rfl, (mT 101 rfl rfl), (mT 508 rfl rfl), ⟨by decide +kernel, by decide +kernel⟩, by decide +kernel, ⟨rfl, mT 506 rfl rfl, mT 507 rfl rfl, 7, TX6, 2, rfl, rfl⟩⟩
set_option maxRecDepth 20000 in
theorem caX6_put : p_cal cls TS MT false 85 3 yX6_put := ⟨qX6_put, rfl, rfl, (mT 101 rfl rfl), (mT 607 rfl rfl), ⟨by decide +kernel, by decide +kernel⟩, by decide +kernel, ⟨rfl, mT 605 rfl rfl, mT 606 rfl rfl, 7, TX6, 2, rfl, rfl⟩⟩
set_option maxRecDepth 20000 in
theorem caX6_add : p_cal cls TS MT false 86 2 yX6_add := ⟨qX6_add, rfl, rfl, (mT 101 rfl rfl), (mT 152 rfl rfl), ⟨by decide +kernel, by decide +kernel⟩, by decide +kernel, ⟨rfl, mT 150 rfl rfl, mT 151 rfl rfl, 7, TX6, 2, rfl, rfl⟩⟩
set_option maxRecDepth 20000 in
theorem caX6_cut : p_cal cls TS MT false 87 2 yX6_cut := ⟨qX6_cut, rfl, rfl, (mT 101 rfl rfl), (mT 551 rfl rfl), ⟨by decide +kernel, by decide +kernel⟩, by decide +kernel, ⟨rfl, mT 549 rfl rfl, mT 550 rfl rfl, 7, TX6, 2, rfl, rfl⟩⟩
set_option maxRecDepth 20000 in
theorem caX6_present : p_cal cls TS MT false 88 1 yX6_present := ⟨qX6_present, rfl, rfl, (mT 101 rfl rfl), (mT 533 rfl rfl), ⟨by decide +kernel, by decide +kernel⟩, by decide +kernel, ⟨rfl, mT 531 rfl rfl, mT 532 rfl rfl, 7, TX6, 2, rfl, rfl⟩⟩
set_option maxRecDepth 20000 in
theorem caX7_size : p_cal cls TS MT false 89 1 yX7_size := ⟨qX7_size, rfl, rfl, (mT 103 rfl rfl), (mT 486 rfl rfl), ⟨by decide +kernel, by decide +kernel⟩, by decide +kernel, ⟨rfl, mT 484 rfl rfl, mT 485 rfl rfl, 8, TX7, 3, rfl, rfl⟩⟩
set_option maxRecDepth 20000 in
theorem caX7_lengthOf : p_cal cls TS MT false 90 2 yX7_lengthOf := ⟨qX7_lengthOf, rfl, rfl, (mT 103 rfl rfl), (mT 592 rfl rfl), ⟨by decide +kernel, by decide +kernel⟩, by decide +kernel, ⟨rfl, mT 590 rfl rfl, mT 591 rfl rfl, 8, TX7, 3, rfl, rfl⟩⟩
set_option maxRecDepth 20000 in
theorem caX7_signOf : p_cal cls TS MT false 91 3 yX7_signOf := ⟨qX7_signOf, rfl, rfl, (mT 103 rfl rfl), (mT 596 rfl rfl), ⟨by decide +kernel, by decide +kernel⟩, by decide +kernel, ⟨rfl, mT 594 rfl rfl, mT 595 rfl rfl, 8, TX7, 3, rfl, rfl⟩⟩
set_option maxRecDepth 20000 in
theorem caX7_named : p_cal cls TS MT false 92 4 yX7_named := ⟨qX7_named, rfl, rfl, (mT 103 rfl rfl), (mT 720 rfl rfl), ⟨by decide +kernel, by decide +kernel⟩, by decide +kernel, ⟨rfl, mT 718 rfl rfl, mT 719 rfl rfl, 8, TX7, 3, rfl, rfl⟩⟩
set_option maxRecDepth 20000 in
theorem caX7_isNamed : p_cal cls TS MT false 93 4 yX7_isNamed := ⟨qX7_isNamed, rfl, rfl, (mT 103 rfl rfl), (mT 724 rfl rfl), ⟨by decide +kernel, by decide +kernel⟩, by decide +kernel, ⟨rfl, mT 723 rfl rfl, mT 12 rfl rfl, 8, TX7, 3, rfl, rfl⟩⟩
set_option maxRecDepth 20000 in
theorem caX7_addSign : p_cal cls TS MT false 94 2 yX7_addSign := ⟨qX7_addSign, rfl, rfl, (mT 103 rfl rfl), (mT 259 rfl rfl), ⟨by decide +kernel, by decide +kernel⟩, by decide +kernel, ⟨rfl, mT 258 rfl rfl, mT 0 rfl rfl, 8, TX7, 3, rfl, rfl⟩⟩
set_option maxRecDepth 20000 in
theorem caX8_isSymbol : p_cal cls TS MT true 95 1 yX8_isSymbol := ⟨qX8_isSymbol, rfl, rfl, (mT 118 rfl rfl), (mT 832 rfl rfl), ⟨by decide +kernel, by decide +kernel⟩, by decide +kernel, ⟨rfl, rfl, mT 831 rfl rfl⟩⟩
set_option maxRecDepth 20000 in
theorem caX8_isNumber : p_cal cls TS MT true 96 1 yX8_isNumber := ⟨qX8_isNumber, rfl, rfl, (mT 118 rfl rfl), (mT 575 rfl rfl), ⟨by decide +kernel, by decide +kernel⟩, by decide +kernel, ⟨rfl, rfl, mT 574 rfl rfl⟩⟩
set_option maxRecDepth 20000 in
theorem caX8_isCell : p_cal cls TS MT true 97 1 yX8_isCell := ⟨qX8_isCell, rfl, rfl, (mT 118 rfl rfl), (mT 555 rfl rfl), ⟨by decide +kernel, by decide +kernel⟩, by decide +kernel, ⟨rfl, rfl, mT 554 rfl rfl⟩⟩
set_option maxRecDepth 20000 in
theorem caX8_ofNumber : p_cal cls TS MT true 98 1 yX8_ofNumber := ⟨qX8_ofNumber, rfl, rfl, (mT 118 rfl rfl), (mT 790 rfl rfl), ⟨by decide +kernel, by decide +kernel⟩, by decide +kernel, ⟨rfl, rfl, mT 789 rfl rfl⟩⟩
set_option maxRecDepth 20000 in
theorem caX8_ofCell : p_cal cls TS MT true 99 1 yX8_ofCell := ⟨qX8_ofCell, rfl, rfl, (mT 118 rfl rfl), (mT 759 rfl rfl), ⟨by decide +kernel, by decide +kernel⟩, by decide +kernel, ⟨rfl, rfl, mT 758 rfl rfl⟩⟩
set_option maxRecDepth 20000 in
theorem caX8_ofTruth : p_cal cls TS MT true 100 1 yX8_ofTruth := ⟨qX8_ofTruth, rfl, rfl, (mT 118 rfl rfl), (mT 937 rfl rfl), ⟨by decide +kernel, by decide +kernel⟩, by decide +kernel, ⟨rfl, rfl, mT 936 rfl rfl⟩⟩
set_option maxRecDepth 20000 in
theorem caX8_number : p_cal cls TS MT true 101 1 yX8_number := ⟨qX8_number, rfl, rfl, (mT 118 rfl rfl), (mT 579 rfl rfl), ⟨by decide +kernel, by decide +kernel⟩, by decide +kernel, ⟨rfl, rfl, mT 578 rfl rfl⟩⟩
set_option maxRecDepth 20000 in
theorem caX10_isSymbol : p_cal cls TS MT true 112 1 yX10_isSymbol := ⟨qX10_isSymbol, rfl, rfl, (mT 112 rfl rfl), (mT 1330 rfl rfl), ⟨by decide +kernel, by decide +kernel⟩, by decide +kernel, ⟨rfl, rfl, mT 1329 rfl rfl⟩⟩
set_option maxRecDepth 20000 in
theorem caX10_isNumber : p_cal cls TS MT true 113 1 yX10_isNumber := ⟨qX10_isNumber, rfl, rfl, (mT 112 rfl rfl), (mT 1345 rfl rfl), ⟨by decide +kernel, by decide +kernel⟩, by decide +kernel, ⟨rfl, rfl, mT 1344 rfl rfl⟩⟩
set_option maxRecDepth 20000 in
theorem caX10_isCell : p_cal cls TS MT true 114 1 yX10_isCell := ⟨qX10_isCell, rfl, rfl, (mT 112 rfl rfl), (mT 1271 rfl rfl), ⟨by decide +kernel, by decide +kernel⟩, by decide +kernel, ⟨rfl, rfl, mT 1270 rfl rfl⟩⟩
set_option maxRecDepth 20000 in
theorem caX10_symbolOf : p_cal cls TS MT true 115 1 yX10_symbolOf := ⟨qX10_symbolOf, rfl, rfl, (mT 112 rfl rfl), (mT 1240 rfl rfl), ⟨by decide +kernel, by decide +kernel⟩, by decide +kernel, ⟨rfl, rfl, mT 1239 rfl rfl⟩⟩
set_option maxRecDepth 20000 in
theorem caX10_fails : p_cal cls TS MT false 116 2 yX10_fails := ⟨qX10_fails, rfl, rfl, (mT 112 rfl rfl), (mT 1230 rfl rfl), ⟨by decide +kernel, by decide +kernel⟩, by decide +kernel, ⟨rfl, mT 1229 rfl rfl, mT 63 rfl rfl, 10, TX10, 48, rfl, rfl⟩⟩
set_option maxRecDepth 20000 in
theorem caX10_visit : p_cal cls TS MT false 117 2 yX10_visit := ⟨qX10_visit, rfl, rfl, (mT 112 rfl rfl), (mT 1268 rfl rfl), ⟨by decide +kernel, by decide +kernel⟩, by decide +kernel, ⟨rfl, mT 1267 rfl rfl, mT 71 rfl rfl, 10, TX10, 48, rfl, rfl⟩⟩
set_option maxRecDepth 20000 in
theorem caX10_walks : p_cal cls TS MT false 118 1 yX10_walks := ⟨qX10_walks, rfl, rfl, (mT 112 rfl rfl), (mT 1276 rfl rfl), ⟨by decide +kernel, by decide +kernel⟩, by decide +kernel, ⟨rfl, mT 1275 rfl rfl, mT 72 rfl rfl, 10, TX10, 48, rfl, rfl⟩⟩
set_option maxRecDepth 20000 in
theorem caX10_reachFunctions : p_cal cls TS MT false 119 1 yX10_reachFunctions := ⟨qX10_reachFunctions, rfl, rfl, (mT 112 rfl rfl), (mT 1264 rfl rfl), ⟨by decide +kernel, by decide +kernel⟩, by decide +kernel, ⟨rfl, mT 1263 rfl rfl, mT 70 rfl rfl, 10, TX10, 48, rfl, rfl⟩⟩
set_option maxRecDepth 20000 in
theorem caX10_reach : p_cal cls TS MT false 120 4 yX10_reach := ⟨qX10_reach, rfl, rfl, (mT 112 rfl rfl), (mT 1260 rfl rfl), ⟨by decide +kernel, by decide +kernel⟩, by decide +kernel, ⟨rfl, mT 1259 rfl rfl, mT 69 rfl rfl, 10, TX10, 48, rfl, rfl⟩⟩
set_option maxRecDepth 20000 in
theorem caX10_cons : p_cal cls TS MT false 121 4 yX10_cons := ⟨qX10_cons, rfl, rfl, (mT 112 rfl rfl), (mT 1256 rfl rfl), ⟨by decide +kernel, by decide +kernel⟩, by decide +kernel, ⟨rfl, mT 1255 rfl rfl, mT 68 rfl rfl, 10, TX10, 48, rfl, rfl⟩⟩
set_option maxRecDepth 20000 in
theorem caX10_headOf : p_cal cls TS MT false 122 2 yX10_headOf := ⟨qX10_headOf, rfl, rfl, (mT 112 rfl rfl), (mT 1323 rfl rfl), ⟨by decide +kernel, by decide +kernel⟩, by decide +kernel, ⟨rfl, mT 1322 rfl rfl, mT 81 rfl rfl, 10, TX10, 48, rfl, rfl⟩⟩
set_option maxRecDepth 20000 in
theorem caX10_tailOf : p_cal cls TS MT false 123 2 yX10_tailOf := ⟨qX10_tailOf, rfl, rfl, (mT 112 rfl rfl), (mT 1319 rfl rfl), ⟨by decide +kernel, by decide +kernel⟩, by decide +kernel, ⟨rfl, mT 1318 rfl rfl, mT 80 rfl rfl, 10, TX10, 48, rfl, rfl⟩⟩
set_option maxRecDepth 20000 in
theorem caX10_second : p_cal cls TS MT false 124 2 yX10_second := ⟨qX10_second, rfl, rfl, (mT 112 rfl rfl), (mT 1355 rfl rfl), ⟨by decide +kernel, by decide +kernel⟩, by decide +kernel, ⟨rfl, mT 1354 rfl rfl, mT 86 rfl rfl, 10, TX10, 48, rfl, rfl⟩⟩
set_option maxRecDepth 20000 in
theorem caX10_third : p_cal cls TS MT false 125 2 yX10_third := ⟨qX10_third, rfl, rfl, (mT 112 rfl rfl), (mT 1395 rfl rfl), ⟨by decide +kernel, by decide +kernel⟩, by decide +kernel, ⟨rfl, mT 1394 rfl rfl, mT 95 rfl rfl, 10, TX10, 48, rfl, rfl⟩⟩
set_option maxRecDepth 20000 in
theorem caX10_byteAt : p_cal cls TS MT false 126 2 yX10_byteAt := ⟨qX10_byteAt, rfl, rfl, (mT 112 rfl rfl), (mT 1219 rfl rfl), ⟨by decide +kernel, by decide +kernel⟩, by decide +kernel, ⟨rfl, mT 1218 rfl rfl, mT 61 rfl rfl, 10, TX10, 48, rfl, rfl⟩⟩
set_option maxRecDepth 20000 in
theorem caX10_failsAt : p_cal cls TS MT false 127 3 yX10_failsAt := ⟨qX10_failsAt, rfl, rfl, (mT 112 rfl rfl), (mT 1226 rfl rfl), ⟨by decide +kernel, by decide +kernel⟩, by decide +kernel, ⟨rfl, mT 1225 rfl rfl, mT 62 rfl rfl, 10, TX10, 48, rfl, rfl⟩⟩
set_option maxRecDepth 20000 in
theorem caX10_isCapital : p_cal cls TS MT true 128 1 yX10_isCapital := ⟨qX10_isCapital, rfl, rfl, (mT 112 rfl rfl), (mT 1222 rfl rfl), ⟨by decide +kernel, by decide +kernel⟩, by decide +kernel, ⟨rfl, rfl, mT 1221 rfl rfl⟩⟩
set_option maxRecDepth 20000 in
theorem caX10_isDigit : p_cal cls TS MT true 129 1 yX10_isDigit := ⟨qX10_isDigit, rfl, rfl, (mT 112 rfl rfl), (mT 1237 rfl rfl), ⟨by decide +kernel, by decide +kernel⟩, by decide +kernel, ⟨rfl, rfl, mT 1236 rfl rfl⟩⟩
set_option maxRecDepth 20000 in
theorem caX10_blanks : p_cal cls TS MT false 130 1 yX10_blanks := ⟨qX10_blanks, rfl, rfl, (mT 112 rfl rfl), (mT 1215 rfl rfl), ⟨by decide +kernel, by decide +kernel⟩, by decide +kernel, ⟨rfl, mT 1214 rfl rfl, mT 60 rfl rfl, 10, TX10, 48, rfl, rfl⟩⟩
set_option maxRecDepth 20000 in
theorem caX10_symbol : p_cal cls TS MT false 131 1 yX10_symbol := ⟨qX10_symbol, rfl, rfl, (mT 112 rfl rfl), (mT 1234 rfl rfl), ⟨by decide +kernel, by decide +kernel⟩, by decide +kernel, ⟨rfl, mT 1233 rfl rfl, mT 64 rfl rfl, 10, TX10, 48, rfl, rfl⟩⟩
set_option maxRecDepth 20000 in
theorem caX10_number : p_cal cls TS MT false 132 1 yX10_number := ⟨qX10_number, rfl, rfl, (mT 112 rfl rfl), (mT 1288 rfl rfl), ⟨by decide +kernel, by decide +kernel⟩, by decide +kernel, ⟨rfl, mT 1287 rfl rfl, mT 75 rfl rfl, 10, TX10, 48, rfl, rfl⟩⟩
set_option maxRecDepth 20000 in
theorem caX10_isAtom : p_cal cls TS MT false 133 1 yX10_isAtom := ⟨qX10_isAtom, rfl, rfl, (mT 112 rfl rfl), (mT 1284 rfl rfl), ⟨by decide +kernel, by decide +kernel⟩, by decide +kernel, ⟨rfl, mT 1283 rfl rfl, mT 74 rfl rfl, 10, TX10, 48, rfl, rfl⟩⟩
set_option maxRecDepth 20000 in
theorem caX10_mayBegin : p_cal cls TS MT false 134 1 yX10_mayBegin := ⟨qX10_mayBegin, rfl, rfl, (mT 112 rfl rfl), (mT 1280 rfl rfl), ⟨by decide +kernel, by decide +kernel⟩, by decide +kernel, ⟨rfl, mT 1279 rfl rfl, mT 73 rfl rfl, 10, TX10, 48, rfl, rfl⟩⟩
set_option maxRecDepth 20000 in
theorem caX10_reads : p_cal cls TS MT false 135 1 yX10_reads := ⟨qX10_reads, rfl, rfl, (mT 112 rfl rfl), (mT 1248 rfl rfl), ⟨by decide +kernel, by decide +kernel⟩, by decide +kernel, ⟨rfl, mT 1247 rfl rfl, mT 66 rfl rfl, 10, TX10, 48, rfl, rfl⟩⟩
set_option maxRecDepth 20000 in
theorem caX10_quotes : p_cal cls TS MT false 136 3 yX10_quotes := ⟨qX10_quotes, rfl, rfl, (mT 112 rfl rfl), (mT 1298 rfl rfl), ⟨by decide +kernel, by decide +kernel⟩, by decide +kernel, ⟨rfl, mT 1297 rfl rfl, mT 76 rfl rfl, 10, TX10, 48, rfl, rfl⟩⟩
set_option maxRecDepth 20000 in
theorem caX10_closes : p_cal cls TS MT false 137 1 yX10_closes := ⟨qX10_closes, rfl, rfl, (mT 112 rfl rfl), (mT 1252 rfl rfl), ⟨by decide +kernel, by decide +kernel⟩, by decide +kernel, ⟨rfl, mT 1251 rfl rfl, mT 67 rfl rfl, 10, TX10, 48, rfl, rfl⟩⟩
set_option maxRecDepth 20000 in
theorem caX10_nothing : p_cal cls TS MT false 138 1 yX10_nothing := ⟨qX10_nothing, rfl, rfl, (mT 112 rfl rfl), (mT 1211 rfl rfl), ⟨by decide +kernel, by decide +kernel⟩, by decide +kernel, ⟨rfl, mT 1210 rfl rfl, mT 59 rfl rfl, 10, TX10, 48, rfl, rfl⟩⟩
set_option maxRecDepth 20000 in
theorem caX10_burn : p_cal cls TS MT false 139 1 yX10_burn := ⟨qX10_burn, rfl, rfl, (mT 112 rfl rfl), (mT 1338 rfl rfl), ⟨by decide +kernel, by decide +kernel⟩, by decide +kernel, ⟨rfl, mT 1337 rfl rfl, mT 83 rfl rfl, 10, TX10, 48, rfl, rfl⟩⟩
set_option maxRecDepth 20000 in
theorem caX10_pairOf : p_cal cls TS MT false 140 2 yX10_pairOf := ⟨qX10_pairOf, rfl, rfl, (mT 112 rfl rfl), (mT 1351 rfl rfl), ⟨by decide +kernel, by decide +kernel⟩, by decide +kernel, ⟨rfl, mT 1350 rfl rfl, mT 85 rfl rfl, 10, TX10, 48, rfl, rfl⟩⟩
set_option maxRecDepth 20000 in
theorem caX10_frame : p_cal cls TS MT false 141 4 yX10_frame := ⟨qX10_frame, rfl, rfl, (mT 112 rfl rfl), (mT 1360 rfl rfl), ⟨by decide +kernel, by decide +kernel⟩, by decide +kernel, ⟨rfl, mT 1359 rfl rfl, mT 87 rfl rfl, 10, TX10, 48, rfl, rfl⟩⟩
set_option maxRecDepth 20000 in
theorem caX10_evaluates : p_cal cls TS MT false 142 1 yX10_evaluates := ⟨qX10_evaluates, rfl, rfl, (mT 112 rfl rfl), (mT 1342 rfl rfl), ⟨by decide +kernel, by decide +kernel⟩, by decide +kernel, ⟨rfl, mT 1341 rfl rfl, mT 84 rfl rfl, 10, TX10, 48, rfl, rfl⟩⟩
set_option maxRecDepth 20000 in
theorem caX10_returns : p_cal cls TS MT false 143 1 yX10_returns := ⟨qX10_returns, rfl, rfl, (mT 112 rfl rfl), (mT 1366 rfl rfl), ⟨by decide +kernel, by decide +kernel⟩, by decide +kernel, ⟨rfl, mT 1365 rfl rfl, mT 88 rfl rfl, 10, TX10, 48, rfl, rfl⟩⟩
set_option maxRecDepth 20000 in
theorem caX10_applies : p_cal cls TS MT false 144 1 yX10_applies := ⟨qX10_applies, rfl, rfl, (mT 112 rfl rfl), (mT 1370 rfl rfl), ⟨by decide +kernel, by decide +kernel⟩, by decide +kernel, ⟨rfl, mT 1369 rfl rfl, mT 89 rfl rfl, 10, TX10, 48, rfl, rfl⟩⟩
set_option maxRecDepth 20000 in
theorem caX10_variable : p_cal cls TS MT false 145 2 yX10_variable := ⟨qX10_variable, rfl, rfl, (mT 112 rfl rfl), (mT 1399 rfl rfl), ⟨by decide +kernel, by decide +kernel⟩, by decide +kernel, ⟨rfl, mT 1398 rfl rfl, mT 96 rfl rfl, 10, TX10, 48, rfl, rfl⟩⟩
set_option maxRecDepth 20000 in
theorem caX10_binds : p_cal cls TS MT false 146 1 yX10_binds := ⟨qX10_binds, rfl, rfl, (mT 112 rfl rfl), (mT 1391 rfl rfl), ⟨by decide +kernel, by decide +kernel⟩, by decide +kernel, ⟨rfl, mT 1390 rfl rfl, mT 94 rfl rfl, 10, TX10, 48, rfl, rfl⟩⟩
set_option maxRecDepth 20000 in
theorem caX10_gives : p_cal cls TS MT false 147 2 yX10_gives := ⟨qX10_gives, rfl, rfl, (mT 112 rfl rfl), (mT 1378 rfl rfl), ⟨by decide +kernel, by decide +kernel⟩, by decide +kernel, ⟨rfl, mT 1377 rfl rfl, mT 91 rfl rfl, 10, TX10, 48, rfl, rfl⟩⟩
set_option maxRecDepth 20000 in
theorem caX10_says : p_cal cls TS MT false 148 2 yX10_says := ⟨qX10_says, rfl, rfl, (mT 112 rfl rfl), (mT 1382 rfl rfl), ⟨by decide +kernel, by decide +kernel⟩, by decide +kernel, ⟨rfl, mT 1381 rfl rfl, mT 92 rfl rfl, 10, TX10, 48, rfl, rfl⟩⟩
set_option maxRecDepth 20000 in
theorem caX10_built : p_cal cls TS MT false 149 2 yX10_built := ⟨qX10_built, rfl, rfl, (mT 112 rfl rfl), (mT 1374 rfl rfl), ⟨by decide +kernel, by decide +kernel⟩, by decide +kernel, ⟨rfl, mT 1373 rfl rfl, mT 90 rfl rfl, 10, TX10, 48, rfl, rfl⟩⟩
set_option maxRecDepth 20000 in
theorem caX10_counts : p_cal cls TS MT false 150 4 yX10_counts := ⟨qX10_counts, rfl, rfl, (mT 112 rfl rfl), (mT 1386 rfl rfl), ⟨by decide +kernel, by decide +kernel⟩, by decide +kernel, ⟨rfl, mT 1385 rfl rfl, mT 93 rfl rfl, 10, TX10, 48, rfl, rfl⟩⟩
set_option maxRecDepth 20000 in
theorem caX10_puts : p_cal cls TS MT false 151 2 yX10_puts := ⟨qX10_puts, rfl, rfl, (mT 112 rfl rfl), (mT 1315 rfl rfl), ⟨by decide +kernel, by decide +kernel⟩, by decide +kernel, ⟨rfl, mT 1314 rfl rfl, mT 79 rfl rfl, 10, TX10, 48, rfl, rfl⟩⟩
set_option maxRecDepth 20000 in
theorem caX10_atom : p_cal cls TS MT false 152 2 yX10_atom := ⟨qX10_atom, rfl, rfl, (mT 112 rfl rfl), (mT 1327 rfl rfl), ⟨by decide +kernel, by decide +kernel⟩, by decide +kernel, ⟨rfl, mT 1326 rfl rfl, mT 82 rfl rfl, 10, TX10, 48, rfl, rfl⟩⟩
set_option maxRecDepth 20000 in
theorem caX10_prints : p_cal cls TS MT false 153 2 yX10_prints := ⟨qX10_prints, rfl, rfl, (mT 112 rfl rfl), (mT 1311 rfl rfl), ⟨by decide +kernel, by decide +kernel⟩, by decide +kernel, ⟨rfl, mT 1310 rfl rfl, mT 78 rfl rfl, 10, TX10, 48, rfl, rfl⟩⟩
set_option maxRecDepth 20000 in
theorem caX10_begins : p_cal cls TS MT false 155 3 yX10_begins := ⟨qX10_begins, rfl, rfl, (mT 112 rfl rfl), (mT 1207 rfl rfl), ⟨by decide +kernel, by decide +kernel⟩, by decide +kernel, ⟨rfl, mT 1206 rfl rfl, mT 58 rfl rfl, 10, TX10, 48, rfl, rfl⟩⟩
set_option maxRecDepth 20000 in
theorem caX10_whole : p_cal cls TS MT false 156 1 yX10_whole := ⟨qX10_whole, rfl, rfl, (mT 112 rfl rfl), (mT 1244 rfl rfl), ⟨by decide +kernel, by decide +kernel⟩, by decide +kernel, ⟨rfl, mT 1243 rfl rfl, mT 65 rfl rfl, 10, TX10, 48, rfl, rfl⟩⟩
set_option maxRecDepth 20000 in
theorem caX10_failed : p_cal cls TS MT false 157 2 yX10_failed := ⟨qX10_failed, rfl, rfl, (mT 112 rfl rfl), (mT 1303 rfl rfl), ⟨by decide +kernel, by decide +kernel⟩, by decide +kernel, ⟨rfl, mT 1302 rfl rfl, mT 77 rfl rfl, 10, TX10, 48, rfl, rfl⟩⟩
set_option maxRecDepth 20000 in
theorem caX10_ofFunctions : p_cal cls TS MT false 162 1 yX10_ofFunctions := ⟨qX10_ofFunctions, rfl, rfl, (mT 112 rfl rfl), (mT 1412 rfl rfl), ⟨by decide +kernel, by decide +kernel⟩, by decide +kernel, ⟨rfl, mT 1411 rfl rfl, mT 97 rfl rfl, 10, TX10, 48, rfl, rfl⟩⟩
def FTX0 : List (Nat × Nat × Nat) := [(9, 1, 0), (15, 1, 1)]
def MLX0 : List (Bool × Nat × Nat × Nat) := [(false, 19, 2, 2)]
def KCX0 : List (Nat × Int64) := []
set_option maxRecDepth 20000 in
theorem FTX0_ok : ∀ t ∈ FTX0, p_fok cls TS RX0 t.1 t.2.1 t.2.2 := List.forall_mem_cons.mpr ⟨⟨RX0, TX0, 2, tyX0, kdX0, by decide, mT 193 rfl rfl⟩, List.forall_mem_cons.mpr ⟨⟨RX0, TX0, 2, tyX0, kdX0, by decide, mT 194 rfl rfl⟩, fun _ h => (List.not_mem_nil h).elim⟩⟩
set_option maxRecDepth 20000 in
theorem MLX0_ok : ∀ t ∈ MLX0, p_cx cls TS MT RX0 t.1 t.2.1 t.2.2.1 t.2.2.2 := List.forall_mem_cons.mpr ⟨caX0_add.ok (mT 467 rfl rfl), fun _ h => (List.not_mem_nil h).elim⟩
set_option maxRecDepth 20000 in
theorem KCX0_ok : ∀ t ∈ KCX0, Cond.constantLong RX0 t.1 t.2 ∈ TS := fun _ h => (List.not_mem_nil h).elim
def FTX1 : List (Nat × Nat × Nat) := [(9, 2, 2), (15, 2, 3), (18, 2, 4), (22, 2, 5), (26, 2, 6), (29, 2, 8), (33, 2, 0), (54, 2, 1), (61, 2, 9), (80, 2, 7), (91, 6, 4), (95, 6, 5), (98, 6, 6)]
def MLX1 : List (Bool × Nat × Nat × Nat) := [(false, 58, 15, 1), (false, 72, 12, 1), (false, 76, 13, 3), (true, 83, 99, 1), (false, 87, 14, 2), (false, 101, 83, 1), (false, 104, 84, 2)]
def KCX1 : List (Nat × Int64) := [(66, 8589934592), (68, 2000), (70, -1)]
set_option maxRecDepth 20000 in
theorem FTX1_ok : ∀ t ∈ FTX1, p_fok cls TS RX1 t.1 t.2.1 t.2.2 := List.forall_mem_cons.mpr ⟨⟨RX1, TX1, 10, tyX1, kdX1, by decide, mT 285 rfl rfl⟩, List.forall_mem_cons.mpr ⟨⟨RX1, TX1, 10, tyX1, kdX1, by decide, mT 286 rfl rfl⟩, List.forall_mem_cons.mpr ⟨⟨RX1, TX1, 10, tyX1, kdX1, by decide, mT 287 rfl rfl⟩, List.forall_mem_cons.mpr ⟨⟨RX1, TX1, 10, tyX1, kdX1, by decide, mT 288 rfl rfl⟩, List.forall_mem_cons.mpr ⟨⟨RX1, TX1, 10, tyX1, kdX1, by decide, mT 289 rfl rfl⟩, List.forall_mem_cons.mpr ⟨⟨RX1, TX1, 10, tyX1, kdX1, by decide, mT 291 rfl rfl⟩, List.forall_mem_cons.mpr ⟨⟨RX1, TX1, 10, tyX1, kdX1, by decide, mT 283 rfl rfl⟩, List.forall_mem_cons.mpr ⟨⟨RX1, TX1, 10, tyX1, kdX1, by decide, mT 284 rfl rfl⟩, List.forall_mem_cons.mpr ⟨⟨RX1, TX1, 10, tyX1, kdX1, by decide, mT 292 rfl rfl⟩, List.forall_mem_cons.mpr ⟨⟨RX1, TX1, 10, tyX1, kdX1, by decide, mT 290 rfl rfl⟩, List.forall_mem_cons.mpr ⟨⟨RX5, TX5, 7, tyX5, kdX5, by decide, mT 167 rfl rfl⟩, List.forall_mem_cons.mpr ⟨⟨RX5, TX5, 7, tyX5, kdX5, by decide, mT 169 rfl rfl⟩, List.forall_mem_cons.mpr ⟨⟨RX5, TX5, 7, tyX5, kdX5, by decide, mT 171 rfl rfl⟩, fun _ h => (List.not_mem_nil h).elim⟩⟩⟩⟩⟩⟩⟩⟩⟩⟩⟩⟩⟩
set_option maxRecDepth 20000 in
theorem MLX1_ok : ∀ t ∈ MLX1, p_cx cls TS MT RX1 t.1 t.2.1 t.2.2.1 t.2.2.2 := List.forall_mem_cons.mpr ⟨caX1_takeBack.ok (mT 279 rfl rfl), List.forall_mem_cons.mpr ⟨caX1_inUse.ok (mT 510 rfl rfl), List.forall_mem_cons.mpr ⟨caX1_collect.ok (mT 491 rfl rfl), List.forall_mem_cons.mpr ⟨caX8_ofCell.okS (by decide) (by decide) (mT 757 rfl rfl), List.forall_mem_cons.mpr ⟨caX1_reach.ok (mT 495 rfl rfl), List.forall_mem_cons.mpr ⟨caX6_size.ok (mT 501 rfl rfl), List.forall_mem_cons.mpr ⟨caX6_at.ok (mT 505 rfl rfl), fun _ h => (List.not_mem_nil h).elim⟩⟩⟩⟩⟩⟩⟩
set_option maxRecDepth 20000 in
theorem KCX1_ok : ∀ t ∈ KCX1, Cond.constantLong RX1 t.1 t.2 ∈ TS := List.forall_mem_cons.mpr ⟨mT 499 rfl rfl, List.forall_mem_cons.mpr ⟨mT 500 rfl rfl, List.forall_mem_cons.mpr ⟨mT 563 rfl rfl, fun _ h => (List.not_mem_nil h).elim⟩⟩⟩
def FTX2 : List (Nat × Nat × Nat) := [(16, 3, 4), (20, 3, 5), (24, 3, 0), (28, 3, 1), (37, 3, 2), (41, 3, 3), (42, 3, 10), (46, 3, 12), (50, 3, 9), (53, 3, 7), (56, 6, 4), (59, 3, 8), (62, 3, 11), (75, 6, 6), (91, 6, 5), (97, 3, 6), (212, 6, 0)]
def MLX2 : List (Bool × Nat × Nat × Nat) := [(false, 65, 25, 1), (false, 69, 34, 1), (false, 72, 41, 1), (false, 78, 45, 2), (false, 82, 53, 1), (false, 85, 46, 1), (false, 88, 22, 1), (false, 94, 87, 2), (false, 100, 23, 1), (false, 103, 24, 2), (true, 106, 97, 1), (false, 111, 8, 2), (false, 117, 9, 2), (false, 120, 29, 2), (false, 123, 28, 2), (false, 126, 10, 3), (false, 132, 35, 2), (false, 138, 30, 2), (false, 141, 26, 2), (false, 146, 36, 2), (false, 151, 37, 2), (false, 154, 38, 3), (true, 158, 95, 1), (false, 161, 33, 2), (false, 164, 39, 3), (false, 167, 27, 2), (false, 170, 32, 3), (false, 175, 83, 1), (true, 179, 0, 1000), (false, 185, 86, 2), (false, 188, 84, 2), (false, 192, 42, 2), (false, 195, 43, 2), (false, 198, 40, 2), (false, 201, 85, 3), (false, 205, 44, 2), (false, 215, 47, 2), (false, 220, 48, 2), (false, 225, 51, 2), (false, 228, 52, 2), (false, 231, 49, 2), (false, 235, 31, 2), (false, 238, 50, 2), (true, 241, 54, 1), (false, 245, 55, 3), (true, 249, 100, 1), (false, 253, 56, 1), (true, 256, 96, 1), (false, 259, 57, 4), (true, 263, 101, 1), (true, 266, 98, 1)]
def KCX2 : List (Nat × Int64) := [(130, -1), (136, 2), (144, 3), (149, 4), (173, 7), (208, 8), (210, 22), (218, 5), (223, 6)]
set_option maxRecDepth 20000 in
theorem FTX2_ok : ∀ t ∈ FTX2, p_fok cls TS RX2 t.1 t.2.1 t.2.2 := List.forall_mem_cons.mpr ⟨⟨RX2, TX2, 13, tyX2, kdX2, by decide, mT 373 rfl rfl⟩, List.forall_mem_cons.mpr ⟨⟨RX2, TX2, 13, tyX2, kdX2, by decide, mT 374 rfl rfl⟩, List.forall_mem_cons.mpr ⟨⟨RX2, TX2, 13, tyX2, kdX2, by decide, mT 369 rfl rfl⟩, List.forall_mem_cons.mpr ⟨⟨RX2, TX2, 13, tyX2, kdX2, by decide, mT 370 rfl rfl⟩, List.forall_mem_cons.mpr ⟨⟨RX2, TX2, 13, tyX2, kdX2, by decide, mT 371 rfl rfl⟩, List.forall_mem_cons.mpr ⟨⟨RX2, TX2, 13, tyX2, kdX2, by decide, mT 372 rfl rfl⟩, List.forall_mem_cons.mpr ⟨⟨RX2, TX2, 13, tyX2, kdX2, by decide, mT 379 rfl rfl⟩, List.forall_mem_cons.mpr ⟨⟨RX2, TX2, 13, tyX2, kdX2, by decide, mT 381 rfl rfl⟩, List.forall_mem_cons.mpr ⟨⟨RX2, TX2, 13, tyX2, kdX2, by decide, mT 378 rfl rfl⟩, List.forall_mem_cons.mpr ⟨⟨RX2, TX2, 13, tyX2, kdX2, by decide, mT 376 rfl rfl⟩, List.forall_mem_cons.mpr ⟨⟨RX5, TX5, 7, tyX5, kdX5, by decide, mT 166 rfl rfl⟩, List.forall_mem_cons.mpr ⟨⟨RX2, TX2, 13, tyX2, kdX2, by decide, mT 377 rfl rfl⟩, List.forall_mem_cons.mpr ⟨⟨RX2, TX2, 13, tyX2, kdX2, by decide, mT 380 rfl rfl⟩, List.forall_mem_cons.mpr ⟨⟨RX5, TX5, 7, tyX5, kdX5, by decide, mT 170 rfl rfl⟩, List.forall_mem_cons.mpr ⟨⟨RX5, TX5, 7, tyX5, kdX5, by decide, mT 168 rfl rfl⟩, List.forall_mem_cons.mpr ⟨⟨RX2, TX2, 13, tyX2, kdX2, by decide, mT 375 rfl rfl⟩, List.forall_mem_cons.mpr ⟨⟨RX5, TX5, 7, tyX5, kdX5, by decide, mT 156 rfl rfl⟩, fun _ h => (List.not_mem_nil h).elim⟩⟩⟩⟩⟩⟩⟩⟩⟩⟩⟩⟩⟩⟩⟩⟩⟩
set_option maxRecDepth 20000 in
theorem MLX2_ok : ∀ t ∈ MLX2, p_cx cls TS MT RX2 t.1 t.2.1 t.2.2.1 t.2.2.2 := List.forall_mem_cons.mpr ⟨caX2_burn.ok (mT 813 rfl rfl), List.forall_mem_cons.mpr ⟨caX2_evaluate.ok (mT 821 rfl rfl), List.forall_mem_cons.mpr ⟨caX2_takeValue.ok (mT 896 rfl rfl), List.forall_mem_cons.mpr ⟨caX2_isBuiltIn.ok (mT 918 rfl rfl), List.forall_mem_cons.mpr ⟨caX2_applyBuiltIn.ok (mT 924 rfl rfl), List.forall_mem_cons.mpr ⟨caX2_apply.ok (mT 949 rfl rfl), List.forall_mem_cons.mpr ⟨caX2_letGo.ok (mT 983 rfl rfl), List.forall_mem_cons.mpr ⟨caX6_cut.ok (mT 842 rfl rfl), List.forall_mem_cons.mpr ⟨caX2_emptyHand.ok (mT 838 rfl rfl), List.forall_mem_cons.mpr ⟨caX2_fail.ok (mT 817 rfl rfl), List.forall_mem_cons.mpr ⟨caX8_isCell.okS (by decide) (by decide) (mT 825 rfl rfl), List.forall_mem_cons.mpr ⟨caX1_head.ok (mT 847 rfl rfl), List.forall_mem_cons.mpr ⟨caX1_tail.ok (mT 853 rfl rfl), List.forall_mem_cons.mpr ⟨caX2_askTail.ok (mT 859 rfl rfl), List.forall_mem_cons.mpr ⟨caX2_askHead.ok (mT 848 rfl rfl), List.forall_mem_cons.mpr ⟨caX1_make.ok (mT 890 rfl rfl), List.forall_mem_cons.mpr ⟨caX2_evaluateAtom.ok (mT 826 rfl rfl), List.forall_mem_cons.mpr ⟨caX2_askSecond.ok (mT 855 rfl rfl), List.forall_mem_cons.mpr ⟨caX2_give.ok (mT 834 rfl rfl), List.forall_mem_cons.mpr ⟨caX2_evaluateCond.ok (mT 864 rfl rfl), List.forall_mem_cons.mpr ⟨caX2_evaluateFunction.ok (mT 882 rfl rfl), List.forall_mem_cons.mpr ⟨caX2_evaluateCall.ok (mT 892 rfl rfl), List.forall_mem_cons.mpr ⟨caX8_isSymbol.okS (by decide) (by decide) (mT 830 rfl rfl), List.forall_mem_cons.mpr ⟨caX2_lookUp.ok (mT 843 rfl rfl), List.forall_mem_cons.mpr ⟨caX2_pushFrame.ok (mT 868 rfl rfl), List.forall_mem_cons.mpr ⟨caX2_evaluateNext.ok (mT 877 rfl rfl), List.forall_mem_cons.mpr ⟨caX2_cons.ok (mT 886 rfl rfl), List.forall_mem_cons.mpr ⟨caX6_size.ok (mT 872 rfl rfl), List.forall_mem_cons.mpr ⟨(show p_mw _ _ _ _ _ from ⟨mT 873 rfl rfl, mT 874 rfl rfl, mT 119 rfl rfl, mT 875 rfl rfl⟩), List.forall_mem_cons.mpr ⟨caX6_add.ok (mT 876 rfl rfl), List.forall_mem_cons.mpr ⟨caX6_at.ok (mT 900 rfl rfl), List.forall_mem_cons.mpr ⟨caX2_takeChoice.ok (mT 901 rfl rfl), List.forall_mem_cons.mpr ⟨caX2_takeArgument.ok (mT 910 rfl rfl), List.forall_mem_cons.mpr ⟨caX2_popFrame.ok (mT 905 rfl rfl), List.forall_mem_cons.mpr ⟨caX6_put.ok (mT 909 rfl rfl), List.forall_mem_cons.mpr ⟨caX2_takeInHand.ok (mT 914 rfl rfl), List.forall_mem_cons.mpr ⟨caX2_applySymbol.ok (mT 953 rfl rfl), List.forall_mem_cons.mpr ⟨caX2_applyLambda.ok (mT 958 rfl rfl), List.forall_mem_cons.mpr ⟨caX2_applyLabel.ok (mT 975 rfl rfl), List.forall_mem_cons.mpr ⟨caX2_applyFunarg.ok (mT 979 rfl rfl), List.forall_mem_cons.mpr ⟨caX2_lookAtVariables.ok (mT 962 rfl rfl), List.forall_mem_cons.mpr ⟨caX2_askThird.ok (mT 970 rfl rfl), List.forall_mem_cons.mpr ⟨caX2_askVariable.ok (mT 966 rfl rfl), List.forall_mem_cons.mpr ⟨caX2_valuesWanted.okS (by decide) (by decide) (mT 928 rfl rfl), List.forall_mem_cons.mpr ⟨caX2_givePart.ok (mT 931 rfl rfl), List.forall_mem_cons.mpr ⟨caX8_ofTruth.okS (by decide) (by decide) (mT 935 rfl rfl), List.forall_mem_cons.mpr ⟨caX2_giveList.ok (mT 938 rfl rfl), List.forall_mem_cons.mpr ⟨caX8_isNumber.okS (by decide) (by decide) (mT 942 rfl rfl), List.forall_mem_cons.mpr ⟨caX2_giveReckoned.ok (mT 943 rfl rfl), List.forall_mem_cons.mpr ⟨caX8_number.okS (by decide) (by decide) (mT 947 rfl rfl), List.forall_mem_cons.mpr ⟨caX8_ofNumber.okS (by decide) (by decide) (mT 948 rfl rfl), fun _ h => (List.not_mem_nil h).elim⟩⟩⟩⟩⟩⟩⟩⟩⟩⟩⟩⟩⟩⟩⟩⟩⟩⟩⟩⟩⟩⟩⟩⟩⟩⟩⟩⟩⟩⟩⟩⟩⟩⟩⟩⟩⟩⟩⟩⟩⟩⟩⟩⟩⟩⟩⟩⟩⟩⟩⟩
set_option maxRecDepth 20000 in
theorem KCX2_ok : ∀ t ∈ KCX2, Cond.constantLong RX2 t.1 t.2 ∈ TS := List.forall_mem_cons.mpr ⟨mT 852 rfl rfl, List.forall_mem_cons.mpr ⟨mT 854 rfl rfl, List.forall_mem_cons.mpr ⟨mT 863 rfl rfl, List.forall_mem_cons.mpr ⟨mT 881 rfl rfl, List.forall_mem_cons.mpr ⟨mT 891 rfl rfl, List.forall_mem_cons.mpr ⟨mT 922 rfl rfl, List.forall_mem_cons.mpr ⟨mT 923 rfl rfl, List.forall_mem_cons.mpr ⟨mT 957 rfl rfl, List.forall_mem_cons.mpr ⟨mT 974 rfl rfl, fun _ h => (List.not_mem_nil h).elim⟩⟩⟩⟩⟩⟩⟩⟩⟩
def FTX3 : List (Nat × Nat × Nat) := [(14, 4, 3), (20, 4, 0), (24, 4, 1), (28, 4, 2)]
def MLX3 : List (Bool × Nat × Nat × Nat) := [(false, 32, 4, 1), (false, 37, 87, 2), (true, 44, 97, 1), (false, 48, 2, 2), (false, 51, 9, 2), (false, 57, 86, 2), (false, 60, 8, 2), (false, 63, 61, 2), (false, 66, 59, 1), (false, 70, 83, 1), (false, 74, 84, 2), (false, 78, 85, 3), (false, 82, 60, 2), (true, 85, 96, 1), (true, 88, 101, 1), (false, 92, 62, 2), (false, 95, 90, 2), (false, 101, 91, 3), (true, 105, 0, 1001)]
def KCX3 : List (Nat × Int64) := [(42, -1), (110, 1000000000), (112, 10)]
set_option maxRecDepth 20000 in
theorem FTX3_ok : ∀ t ∈ FTX3, p_fok cls TS RX3 t.1 t.2.1 t.2.2 := List.forall_mem_cons.mpr ⟨⟨RX3, TX3, 4, tyX3, kdX3, by decide, mT 420 rfl rfl⟩, List.forall_mem_cons.mpr ⟨⟨RX3, TX3, 4, tyX3, kdX3, by decide, mT 417 rfl rfl⟩, List.forall_mem_cons.mpr ⟨⟨RX3, TX3, 4, tyX3, kdX3, by decide, mT 418 rfl rfl⟩, List.forall_mem_cons.mpr ⟨⟨RX3, TX3, 4, tyX3, kdX3, by decide, mT 419 rfl rfl⟩, fun _ h => (List.not_mem_nil h).elim⟩⟩⟩⟩
set_option maxRecDepth 20000 in
theorem MLX3_ok : ∀ t ∈ MLX3, p_cx cls TS MT RX3 t.1 t.2.1 t.2.2.1 t.2.2.2 := List.forall_mem_cons.mpr ⟨caX0_clear.ok (mT 544 rfl rfl), List.forall_mem_cons.mpr ⟨caX6_cut.ok (mT 548 rfl rfl), List.forall_mem_cons.mpr ⟨caX8_isCell.okS (by decide) (by decide) (mT 553 rfl rfl), List.forall_mem_cons.mpr ⟨caX0_add.ok (mT 558 rfl rfl), List.forall_mem_cons.mpr ⟨caX1_tail.ok (mT 559 rfl rfl), List.forall_mem_cons.mpr ⟨caX6_add.ok (mT 564 rfl rfl), List.forall_mem_cons.mpr ⟨caX1_head.ok (mT 565 rfl rfl), List.forall_mem_cons.mpr ⟨caX3_printAtom.ok (mT 569 rfl rfl), List.forall_mem_cons.mpr ⟨caX3_nextElement.ok (mT 598 rfl rfl), List.forall_mem_cons.mpr ⟨caX6_size.ok (mT 602 rfl rfl), List.forall_mem_cons.mpr ⟨caX6_at.ok (mT 603 rfl rfl), List.forall_mem_cons.mpr ⟨caX6_put.ok (mT 604 rfl rfl), List.forall_mem_cons.mpr ⟨caX3_closeList.ok (mT 608 rfl rfl), List.forall_mem_cons.mpr ⟨caX8_isNumber.okS (by decide) (by decide) (mT 573 rfl rfl), List.forall_mem_cons.mpr ⟨caX8_number.okS (by decide) (by decide) (mT 577 rfl rfl), List.forall_mem_cons.mpr ⟨caX3_printNumber.ok (mT 580 rfl rfl), List.forall_mem_cons.mpr ⟨caX7_lengthOf.ok (mT 589 rfl rfl), List.forall_mem_cons.mpr ⟨caX7_signOf.ok (mT 593 rfl rfl), List.forall_mem_cons.mpr ⟨(show p_mw _ _ _ _ _ from ⟨mT 584 rfl rfl, mT 585 rfl rfl, mT 119 rfl rfl, mT 586 rfl rfl⟩), fun _ h => (List.not_mem_nil h).elim⟩⟩⟩⟩⟩⟩⟩⟩⟩⟩⟩⟩⟩⟩⟩⟩⟩⟩⟩
set_option maxRecDepth 20000 in
theorem KCX3_ok : ∀ t ∈ KCX3, Cond.constantLong RX3 t.1 t.2 ∈ TS := List.forall_mem_cons.mpr ⟨mT 552 rfl rfl, List.forall_mem_cons.mpr ⟨mT 587 rfl rfl, List.forall_mem_cons.mpr ⟨mT 588 rfl rfl, fun _ h => (List.not_mem_nil h).elim⟩⟩⟩
def FTX4 : List (Nat × Nat × Nat) := [(9, 5, 4), (15, 5, 5), (18, 5, 10), (22, 5, 0), (26, 5, 1), (30, 5, 2), (34, 5, 3), (38, 5, 9), (41, 5, 6), (44, 5, 7), (47, 5, 8), (50, 5, 11), (54, 5, 12)]
def MLX4 : List (Bool × Nat × Nat × Nat) := [(false, 58, 1, 2), (true, 63, 80, 1), (true, 67, 81, 1), (false, 70, 68, 3), (false, 74, 77, 1), (false, 78, 69, 1), (false, 81, 87, 2), (false, 87, 73, 2), (false, 90, 75, 1), (false, 93, 74, 1), (false, 96, 76, 2), (false, 99, 70, 1), (false, 102, 72, 1), (false, 106, 83, 1), (false, 109, 71, 2), (false, 112, 84, 2), (false, 119, 10, 3), (false, 125, 79, 3), (true, 129, 82, 1), (false, 132, 78, 1), (false, 136, 92, 4), (true, 154, 98, 1), (false, 159, 86, 2)]
def KCX4 : List (Nat × Int64) := [(117, -1), (142, 2147483648), (144, 10), (146, 48), (150, -2147483648), (152, 2147483647), (157, 2)]
set_option maxRecDepth 20000 in
theorem FTX4_ok : ∀ t ∈ FTX4, p_fok cls TS RX4 t.1 t.2.1 t.2.2 := List.forall_mem_cons.mpr ⟨⟨RX4, TX4, 13, tyX4, kdX4, by decide, mT 325 rfl rfl⟩, List.forall_mem_cons.mpr ⟨⟨RX4, TX4, 13, tyX4, kdX4, by decide, mT 326 rfl rfl⟩, List.forall_mem_cons.mpr ⟨⟨RX4, TX4, 13, tyX4, kdX4, by decide, mT 331 rfl rfl⟩, List.forall_mem_cons.mpr ⟨⟨RX4, TX4, 13, tyX4, kdX4, by decide, mT 321 rfl rfl⟩, List.forall_mem_cons.mpr ⟨⟨RX4, TX4, 13, tyX4, kdX4, by decide, mT 322 rfl rfl⟩, List.forall_mem_cons.mpr ⟨⟨RX4, TX4, 13, tyX4, kdX4, by decide, mT 323 rfl rfl⟩, List.forall_mem_cons.mpr ⟨⟨RX4, TX4, 13, tyX4, kdX4, by decide, mT 324 rfl rfl⟩, List.forall_mem_cons.mpr ⟨⟨RX4, TX4, 13, tyX4, kdX4, by decide, mT 330 rfl rfl⟩, List.forall_mem_cons.mpr ⟨⟨RX4, TX4, 13, tyX4, kdX4, by decide, mT 327 rfl rfl⟩, List.forall_mem_cons.mpr ⟨⟨RX4, TX4, 13, tyX4, kdX4, by decide, mT 328 rfl rfl⟩, List.forall_mem_cons.mpr ⟨⟨RX4, TX4, 13, tyX4, kdX4, by decide, mT 329 rfl rfl⟩, List.forall_mem_cons.mpr ⟨⟨RX4, TX4, 13, tyX4, kdX4, by decide, mT 332 rfl rfl⟩, List.forall_mem_cons.mpr ⟨⟨RX4, TX4, 13, tyX4, kdX4, by decide, mT 333 rfl rfl⟩, fun _ h => (List.not_mem_nil h).elim⟩⟩⟩⟩⟩⟩⟩⟩⟩⟩⟩⟩⟩
set_option maxRecDepth 20000 in
theorem MLX4_ok : ∀ t ∈ MLX4, p_cx cls TS MT RX4 t.1 t.2.1 t.2.2.1 t.2.2.2 := List.forall_mem_cons.mpr ⟨caX0_at.ok (mT 699 rfl rfl), List.forall_mem_cons.mpr ⟨caX4_isBlank.okS (by decide) (by decide) (mT 700 rfl rfl), List.forall_mem_cons.mpr ⟨caX4_isLetter.okS (by decide) (by decide) (mT 703 rfl rfl), List.forall_mem_cons.mpr ⟨caX4_fail.ok (mT 706 rfl rfl), List.forall_mem_cons.mpr ⟨caX4_readSymbol.ok (mT 710 rfl rfl), List.forall_mem_cons.mpr ⟨caX4_readToken.ok (mT 730 rfl rfl), List.forall_mem_cons.mpr ⟨caX6_cut.ok (mT 760 rfl rfl), List.forall_mem_cons.mpr ⟨caX4_openOne.ok (mT 734 rfl rfl), List.forall_mem_cons.mpr ⟨caX4_closeList.ok (mT 747 rfl rfl), List.forall_mem_cons.mpr ⟨caX4_readDot.ok (mT 771 rfl rfl), List.forall_mem_cons.mpr ⟨caX4_readAtom.ok (mT 775 rfl rfl), List.forall_mem_cons.mpr ⟨caX4_state.ok (mT 742 rfl rfl), List.forall_mem_cons.mpr ⟨caX4_mayBegin.ok (mT 738 rfl rfl), List.forall_mem_cons.mpr ⟨caX6_size.ok (mT 746 rfl rfl), List.forall_mem_cons.mpr ⟨caX4_setState.ok (mT 767 rfl rfl), List.forall_mem_cons.mpr ⟨caX6_at.ok (mT 751 rfl rfl), List.forall_mem_cons.mpr ⟨caX1_make.ok (mT 753 rfl rfl), List.forall_mem_cons.mpr ⟨caX4_complete.ok (mT 761 rfl rfl), List.forall_mem_cons.mpr ⟨caX4_isDigit.okS (by decide) (by decide) (mT 714 rfl rfl), List.forall_mem_cons.mpr ⟨caX4_readNumber.ok (mT 779 rfl rfl), List.forall_mem_cons.mpr ⟨caX7_named.ok (mT 717 rfl rfl), List.forall_mem_cons.mpr ⟨caX8_ofNumber.okS (by decide) (by decide) (mT 788 rfl rfl), List.forall_mem_cons.mpr ⟨caX6_add.ok (mT 766 rfl rfl), fun _ h => (List.not_mem_nil h).elim⟩⟩⟩⟩⟩⟩⟩⟩⟩⟩⟩⟩⟩⟩⟩⟩⟩⟩⟩⟩⟩⟩⟩
set_option maxRecDepth 20000 in
theorem KCX4_ok : ∀ t ∈ KCX4, Cond.constantLong RX4 t.1 t.2 ∈ TS := List.forall_mem_cons.mpr ⟨mT 752 rfl rfl, List.forall_mem_cons.mpr ⟨mT 783 rfl rfl, List.forall_mem_cons.mpr ⟨mT 784 rfl rfl, List.forall_mem_cons.mpr ⟨mT 785 rfl rfl, List.forall_mem_cons.mpr ⟨mT 786 rfl rfl, List.forall_mem_cons.mpr ⟨mT 787 rfl rfl, List.forall_mem_cons.mpr ⟨mT 765 rfl rfl, fun _ h => (List.not_mem_nil h).elim⟩⟩⟩⟩⟩⟩⟩
def FTX6 : List (Nat × Nat × Nat) := [(7, 7, 0), (13, 7, 1)]
def MLX6 : List (Bool × Nat × Nat × Nat) := []
def KCX6 : List (Nat × Int64) := [(19, -1)]
set_option maxRecDepth 20000 in
theorem FTX6_ok : ∀ t ∈ FTX6, p_fok cls TS RX6 t.1 t.2.1 t.2.2 := List.forall_mem_cons.mpr ⟨⟨RX6, TX6, 2, tyX6, kdX6, by decide, mT 140 rfl rfl⟩, List.forall_mem_cons.mpr ⟨⟨RX6, TX6, 2, tyX6, kdX6, by decide, mT 141 rfl rfl⟩, fun _ h => (List.not_mem_nil h).elim⟩⟩
set_option maxRecDepth 20000 in
theorem MLX6_ok : ∀ t ∈ MLX6, p_cx cls TS MT RX6 t.1 t.2.1 t.2.2.1 t.2.2.2 := fun _ h => (List.not_mem_nil h).elim
set_option maxRecDepth 20000 in
theorem KCX6_ok : ∀ t ∈ KCX6, Cond.constantLong RX6 t.1 t.2 ∈ TS := List.forall_mem_cons.mpr ⟨mT 509 rfl rfl, fun _ h => (List.not_mem_nil h).elim⟩
def FTX7 : List (Nat × Nat × Nat) := [(9, 8, 0), (15, 8, 1), (19, 8, 2)]
def MLX7 : List (Bool × Nat × Nat × Nat) := [(false, 35, 94, 2), (false, 39, 90, 2), (false, 43, 93, 4), (false, 47, 1, 2)]
def KCX7 : List (Nat × Int64) := []
set_option maxRecDepth 20000 in
theorem FTX7_ok : ∀ t ∈ FTX7, p_fok cls TS RX7 t.1 t.2.1 t.2.2 := List.forall_mem_cons.mpr ⟨⟨RX7, TX7, 3, tyX7, kdX7, by decide, mT 260 rfl rfl⟩, List.forall_mem_cons.mpr ⟨⟨RX7, TX7, 3, tyX7, kdX7, by decide, mT 261 rfl rfl⟩, List.forall_mem_cons.mpr ⟨⟨RX7, TX7, 3, tyX7, kdX7, by decide, mT 262 rfl rfl⟩, fun _ h => (List.not_mem_nil h).elim⟩⟩⟩
set_option maxRecDepth 20000 in
theorem MLX7_ok : ∀ t ∈ MLX7, p_cx cls TS MT RX7 t.1 t.2.1 t.2.2.1 t.2.2.2 := List.forall_mem_cons.mpr ⟨caX7_addSign.ok (mT 256 rfl rfl), List.forall_mem_cons.mpr ⟨caX7_lengthOf.ok (mT 597 rfl rfl), List.forall_mem_cons.mpr ⟨caX7_isNamed.ok (mT 721 rfl rfl), List.forall_mem_cons.mpr ⟨caX0_at.ok (mT 725 rfl rfl), fun _ h => (List.not_mem_nil h).elim⟩⟩⟩⟩
set_option maxRecDepth 20000 in
theorem KCX7_ok : ∀ t ∈ KCX7, Cond.constantLong RX7 t.1 t.2 ∈ TS := fun _ h => (List.not_mem_nil h).elim
def FTX8 : List (Nat × Nat × Nat) := []
def MLX8 : List (Bool × Nat × Nat × Nat) := []
def KCX8 : List (Nat × Int64) := [(9, 300), (13, 4294967296), (15, 8589934592), (17, 8589936592), (19, 4294967295)]
set_option maxRecDepth 20000 in
theorem FTX8_ok : ∀ t ∈ FTX8, p_fok cls TS RX8 t.1 t.2.1 t.2.2 := fun _ h => (List.not_mem_nil h).elim
set_option maxRecDepth 20000 in
theorem MLX8_ok : ∀ t ∈ MLX8, p_cx cls TS MT RX8 t.1 t.2.1 t.2.2.1 t.2.2.2 := fun _ h => (List.not_mem_nil h).elim
set_option maxRecDepth 20000 in
theorem KCX8_ok : ∀ t ∈ KCX8, Cond.constantLong RX8 t.1 t.2 ∈ TS := List.forall_mem_cons.mpr ⟨mT 833 rfl rfl, List.forall_mem_cons.mpr ⟨mT 576 rfl rfl, List.forall_mem_cons.mpr ⟨mT 556 rfl rfl, List.forall_mem_cons.mpr ⟨mT 557 rfl rfl, List.forall_mem_cons.mpr ⟨mT 791 rfl rfl, fun _ h => (List.not_mem_nil h).elim⟩⟩⟩⟩⟩
def FTX9 : List (Nat × Nat × Nat) := [(13, 9, 0), (19, 9, 1), (25, 9, 2), (33, 9, 3), (39, 9, 4), (51, 9, 5), (60, 9, 6), (69, 9, 7)]
def MLX9 : List (Bool × Nat × Nat × Nat) := [(false, 73, 0, 1), (false, 77, 3, 2), (false, 84, 65, 2), (false, 87, 66, 1), (false, 90, 67, 1), (false, 94, 4, 1), (false, 97, 63, 1), (false, 100, 85, 3), (false, 106, 20, 1), (false, 109, 21, 3), (false, 113, 16, 1), (false, 114, 17, 1), (false, 117, 58, 2), (false, 121, 64, 1), (false, 124, 11, 1), (false, 127, 7, 2), (false, 130, 89, 1), (false, 131, 18, 1), (false, 134, 19, 1), (false, 137, 5, 1), (false, 140, 6, 1), (false, 143, 88, 1), (false, 146, 84, 2), (false, 154, 1, 2)]
def KCX9 : List (Nat × Int64) := [(152, -1)]
set_option maxRecDepth 20000 in
theorem FTX9_ok : ∀ t ∈ FTX9, p_fok cls TS RX9 t.1 t.2.1 t.2.2 := List.forall_mem_cons.mpr ⟨⟨RX9, TX9, 8, tyX9, kdX9, by decide, mT 430 rfl rfl⟩, List.forall_mem_cons.mpr ⟨⟨RX9, TX9, 8, tyX9, kdX9, by decide, mT 431 rfl rfl⟩, List.forall_mem_cons.mpr ⟨⟨RX9, TX9, 8, tyX9, kdX9, by decide, mT 432 rfl rfl⟩, List.forall_mem_cons.mpr ⟨⟨RX9, TX9, 8, tyX9, kdX9, by decide, mT 433 rfl rfl⟩, List.forall_mem_cons.mpr ⟨⟨RX9, TX9, 8, tyX9, kdX9, by decide, mT 434 rfl rfl⟩, List.forall_mem_cons.mpr ⟨⟨RX9, TX9, 8, tyX9, kdX9, by decide, mT 435 rfl rfl⟩, List.forall_mem_cons.mpr ⟨⟨RX9, TX9, 8, tyX9, kdX9, by decide, mT 436 rfl rfl⟩, List.forall_mem_cons.mpr ⟨⟨RX9, TX9, 8, tyX9, kdX9, by decide, mT 437 rfl rfl⟩, fun _ h => (List.not_mem_nil h).elim⟩⟩⟩⟩⟩⟩⟩⟩
set_option maxRecDepth 20000 in
theorem MLX9_ok : ∀ t ∈ MLX9, p_cx cls TS MT RX9 t.1 t.2.1 t.2.2.1 t.2.2.2 := List.forall_mem_cons.mpr ⟨caX0_size.ok (mT 459 rfl rfl), List.forall_mem_cons.mpr ⟨caX0_addNumber.ok (mT 463 rfl rfl), List.forall_mem_cons.mpr ⟨caX4_begin.ok (mT 691 rfl rfl), List.forall_mem_cons.mpr ⟨caX4_readName.ok (mT 695 rfl rfl), List.forall_mem_cons.mpr ⟨caX4_readWhole.ok (mT 726 rfl rfl), List.forall_mem_cons.mpr ⟨caX0_clear.ok (mT 792 rfl rfl), List.forall_mem_cons.mpr ⟨caX4_fault.ok (mT 793 rfl rfl), List.forall_mem_cons.mpr ⟨caX6_put.ok (mT 797 rfl rfl), List.forall_mem_cons.mpr ⟨caX2_forget.ok (mT 805 rfl rfl), List.forall_mem_cons.mpr ⟨caX2_run.ok (mT 809 rfl rfl), List.forall_mem_cons.mpr ⟨caX2_fault.ok (mT 987 rfl rfl), List.forall_mem_cons.mpr ⟨caX2_answer.ok (mT 991 rfl rfl), List.forall_mem_cons.mpr ⟨caX3_print.ok (mT 540 rfl rfl), List.forall_mem_cons.mpr ⟨caX4_faultPlace.ok (mT 475 rfl rfl), List.forall_mem_cons.mpr ⟨caX1_reachedByFunctions.ok (mT 487 rfl rfl), List.forall_mem_cons.mpr ⟨caX1_setLimit.ok (mT 1009 rfl rfl), List.forall_mem_cons.mpr ⟨caX7_size.ok (mT 483 rfl rfl), List.forall_mem_cons.mpr ⟨caX2_fuelTaken.ok (mT 514 rfl rfl), List.forall_mem_cons.mpr ⟨caX2_mostFrames.ok (mT 518 rfl rfl), List.forall_mem_cons.mpr ⟨caX1_made.ok (mT 522 rfl rfl), List.forall_mem_cons.mpr ⟨caX1_limit.ok (mT 526 rfl rfl), List.forall_mem_cons.mpr ⟨caX6_present.ok (mT 530 rfl rfl), List.forall_mem_cons.mpr ⟨caX6_at.ok (mT 538 rfl rfl), List.forall_mem_cons.mpr ⟨caX0_at.ok (mT 616 rfl rfl), fun _ h => (List.not_mem_nil h).elim⟩⟩⟩⟩⟩⟩⟩⟩⟩⟩⟩⟩⟩⟩⟩⟩⟩⟩⟩⟩⟩⟩⟩⟩
set_option maxRecDepth 20000 in
theorem KCX9_ok : ∀ t ∈ KCX9, Cond.constantLong RX9 t.1 t.2 ∈ TS := List.forall_mem_cons.mpr ⟨mT 539 rfl rfl, fun _ h => (List.not_mem_nil h).elim⟩
def FTX10 : List (Nat × Nat × Nat) := [(7, 10, 1), (13, 10, 2), (16, 10, 3), (20, 10, 4), (31, 10, 7), (34, 10, 9), (37, 10, 10), (40, 10, 11), (43, 10, 12), (46, 10, 17), (50, 10, 19), (54, 10, 23), (57, 10, 24), (60, 10, 26), (63, 10, 27), (68, 10, 29), (72, 10, 30), (75, 10, 31), (78, 10, 32), (81, 10, 33), (84, 10, 35), (87, 10, 36), (90, 10, 37), (93, 10, 38), (96, 10, 39), (99, 10, 40), (102, 10, 45), (105, 10, 47), (120, 10, 5), (123, 10, 0), (130, 10, 8), (137, 10, 14), (140, 10, 13), (153, 10, 25), (156, 10, 34), (159, 10, 41), (162, 10, 15), (165, 10, 16), (176, 10, 18), (186, 10, 21), (189, 10, 22), (219, 10, 28), (252, 10, 44), (255, 10, 43), (261, 10, 42), (319, 10, 46), (329, 10, 20), (345, 10, 6)]
def MLX10 : List (Bool × Nat × Nat × Nat) := [(true, 133, 114, 1), (false, 143, 117, 2), (false, 147, 118, 1), (false, 150, 119, 1), (false, 168, 120, 4), (false, 172, 116, 2), (false, 179, 123, 2), (false, 183, 122, 2), (false, 192, 126, 2), (true, 196, 128, 1), (true, 200, 129, 1), (false, 203, 127, 3), (false, 222, 130, 1), (false, 225, 137, 1), (false, 229, 134, 1), (false, 233, 133, 1), (false, 236, 131, 1), (false, 239, 132, 1), (false, 242, 136, 3), (false, 246, 121, 4), (false, 258, 139, 1), (true, 264, 113, 1), (true, 269, 112, 1), (false, 272, 140, 2), (false, 275, 124, 2), (false, 280, 141, 4), (true, 288, 115, 1), (false, 292, 149, 2), (false, 297, 146, 1), (false, 302, 125, 2), (false, 305, 145, 2), (false, 308, 147, 2), (false, 311, 148, 2), (false, 315, 150, 4), (false, 322, 151, 2), (false, 326, 152, 2), (false, 332, 138, 1), (false, 335, 135, 1), (false, 338, 155, 3), (false, 342, 156, 1), (false, 348, 157, 2), (false, 351, 153, 2), (false, 354, 142, 1), (false, 357, 143, 1), (false, 360, 144, 1), (false, 363, 162, 1)]
def KCX10 : List (Nat × Int64) := [(66, -1), (126, 1097364144128), (128, 2400), (207, 3000000000), (209, 10), (211, 48), (213, -2147483648), (215, 2147483647), (217, 1099511627776), (250, -3), (267, -2), (278, -4), (284, -5), (286, -8), (295, -6), (300, -7)]
set_option maxRecDepth 20000 in
theorem FTX10_ok : ∀ t ∈ FTX10, p_fok cls TS RX10 t.1 t.2.1 t.2.2 := List.forall_mem_cons.mpr ⟨⟨RX10, TX10, 48, tyX10, kdX10, by decide, mT 1048 rfl rfl⟩, List.forall_mem_cons.mpr ⟨⟨RX10, TX10, 48, tyX10, kdX10, by decide, mT 1049 rfl rfl⟩, List.forall_mem_cons.mpr ⟨⟨RX10, TX10, 48, tyX10, kdX10, by decide, mT 1050 rfl rfl⟩, List.forall_mem_cons.mpr ⟨⟨RX10, TX10, 48, tyX10, kdX10, by decide, mT 1051 rfl rfl⟩, List.forall_mem_cons.mpr ⟨⟨RX10, TX10, 48, tyX10, kdX10, by decide, mT 1054 rfl rfl⟩, List.forall_mem_cons.mpr ⟨⟨RX10, TX10, 48, tyX10, kdX10, by decide, mT 1056 rfl rfl⟩, List.forall_mem_cons.mpr ⟨⟨RX10, TX10, 48, tyX10, kdX10, by decide, mT 1057 rfl rfl⟩, List.forall_mem_cons.mpr ⟨⟨RX10, TX10, 48, tyX10, kdX10, by decide, mT 1058 rfl rfl⟩, List.forall_mem_cons.mpr ⟨⟨RX10, TX10, 48, tyX10, kdX10, by decide, mT 1059 rfl rfl⟩, List.forall_mem_cons.mpr ⟨⟨RX10, TX10, 48, tyX10, kdX10, by decide, mT 1064 rfl rfl⟩, List.forall_mem_cons.mpr ⟨⟨RX10, TX10, 48, tyX10, kdX10, by decide, mT 1066 rfl rfl⟩, List.forall_mem_cons.mpr ⟨⟨RX10, TX10, 48, tyX10, kdX10, by decide, mT 1070 rfl rfl⟩, List.forall_mem_cons.mpr ⟨⟨RX10, TX10, 48, tyX10, kdX10, by decide, mT 1071 rfl rfl⟩, List.forall_mem_cons.mpr ⟨⟨RX10, TX10, 48, tyX10, kdX10, by decide, mT 1073 rfl rfl⟩, List.forall_mem_cons.mpr ⟨⟨RX10, TX10, 48, tyX10, kdX10, by decide, mT 1074 rfl rfl⟩, List.forall_mem_cons.mpr ⟨⟨RX10, TX10, 48, tyX10, kdX10, by decide, mT 1076 rfl rfl⟩, List.forall_mem_cons.mpr ⟨⟨RX10, TX10, 48, tyX10, kdX10, by decide, mT 1077 rfl rfl⟩, List.forall_mem_cons.mpr ⟨⟨RX10, TX10, 48, tyX10, kdX10, by decide, mT 1078 rfl rfl⟩, List.forall_mem_cons.mpr ⟨⟨RX10, TX10, 48, tyX10, kdX10, by decide, mT 1079 rfl rfl⟩, List.forall_mem_cons.mpr ⟨⟨RX10, TX10, 48, tyX10, kdX10, by decide, mT 1080 rfl rfl⟩, List.forall_mem_cons.mpr ⟨⟨RX10, TX10, 48, tyX10, kdX10, by decide, mT 1082 rfl rfl⟩, List.forall_mem_cons.mpr ⟨⟨RX10, TX10, 48, tyX10, kdX10, by decide, mT 1083 rfl rfl⟩, List.forall_mem_cons.mpr ⟨⟨RX10, TX10, 48, tyX10, kdX10, by decide, mT 1084 rfl rfl⟩, List.forall_mem_cons.mpr ⟨⟨RX10, TX10, 48, tyX10, kdX10, by decide, mT 1085 rfl rfl⟩, List.forall_mem_cons.mpr ⟨⟨RX10, TX10, 48, tyX10, kdX10, by decide, mT 1086 rfl rfl⟩, List.forall_mem_cons.mpr ⟨⟨RX10, TX10, 48, tyX10, kdX10, by decide, mT 1087 rfl rfl⟩, List.forall_mem_cons.mpr ⟨⟨RX10, TX10, 48, tyX10, kdX10, by decide, mT 1092 rfl rfl⟩, List.forall_mem_cons.mpr ⟨⟨RX10, TX10, 48, tyX10, kdX10, by decide, mT 1094 rfl rfl⟩, List.forall_mem_cons.mpr ⟨⟨RX10, TX10, 48, tyX10, kdX10, by decide, mT 1052 rfl rfl⟩, List.forall_mem_cons.mpr ⟨⟨RX10, TX10, 48, tyX10, kdX10, by decide, mT 1047 rfl rfl⟩, List.forall_mem_cons.mpr ⟨⟨RX10, TX10, 48, tyX10, kdX10, by decide, mT 1055 rfl rfl⟩, List.forall_mem_cons.mpr ⟨⟨RX10, TX10, 48, tyX10, kdX10, by decide, mT 1061 rfl rfl⟩, List.forall_mem_cons.mpr ⟨⟨RX10, TX10, 48, tyX10, kdX10, by decide, mT 1060 rfl rfl⟩, List.forall_mem_cons.mpr ⟨⟨RX10, TX10, 48, tyX10, kdX10, by decide, mT 1072 rfl rfl⟩, List.forall_mem_cons.mpr ⟨⟨RX10, TX10, 48, tyX10, kdX10, by decide, mT 1081 rfl rfl⟩, List.forall_mem_cons.mpr ⟨⟨RX10, TX10, 48, tyX10, kdX10, by decide, mT 1088 rfl rfl⟩, List.forall_mem_cons.mpr ⟨⟨RX10, TX10, 48, tyX10, kdX10, by decide, mT 1062 rfl rfl⟩, List.forall_mem_cons.mpr ⟨⟨RX10, TX10, 48, tyX10, kdX10, by decide, mT 1063 rfl rfl⟩, List.forall_mem_cons.mpr ⟨⟨RX10, TX10, 48, tyX10, kdX10, by decide, mT 1065 rfl rfl⟩, List.forall_mem_cons.mpr ⟨⟨RX10, TX10, 48, tyX10, kdX10, by decide, mT 1068 rfl rfl⟩, List.forall_mem_cons.mpr ⟨⟨RX10, TX10, 48, tyX10, kdX10, by decide, mT 1069 rfl rfl⟩, List.forall_mem_cons.mpr ⟨⟨RX10, TX10, 48, tyX10, kdX10, by decide, mT 1075 rfl rfl⟩, List.forall_mem_cons.mpr ⟨⟨RX10, TX10, 48, tyX10, kdX10, by decide, mT 1091 rfl rfl⟩, List.forall_mem_cons.mpr ⟨⟨RX10, TX10, 48, tyX10, kdX10, by decide, mT 1090 rfl rfl⟩, List.forall_mem_cons.mpr ⟨⟨RX10, TX10, 48, tyX10, kdX10, by decide, mT 1089 rfl rfl⟩, List.forall_mem_cons.mpr ⟨⟨RX10, TX10, 48, tyX10, kdX10, by decide, mT 1093 rfl rfl⟩, List.forall_mem_cons.mpr ⟨⟨RX10, TX10, 48, tyX10, kdX10, by decide, mT 1067 rfl rfl⟩, List.forall_mem_cons.mpr ⟨⟨RX10, TX10, 48, tyX10, kdX10, by decide, mT 1053 rfl rfl⟩, fun _ h => (List.not_mem_nil h).elim⟩⟩⟩⟩⟩⟩⟩⟩⟩⟩⟩⟩⟩⟩⟩⟩⟩⟩⟩⟩⟩⟩⟩⟩⟩⟩⟩⟩⟩⟩⟩⟩⟩⟩⟩⟩⟩⟩⟩⟩⟩⟩⟩⟩⟩⟩⟩⟩
set_option maxRecDepth 20000 in
theorem MLX10_ok : ∀ t ∈ MLX10, p_cx cls TS MT RX10 t.1 t.2.1 t.2.2.1 t.2.2.2 := List.forall_mem_cons.mpr ⟨caX10_isCell.okS (by decide) (by decide) (mT 1269 rfl rfl), List.forall_mem_cons.mpr ⟨caX10_visit.ok (mT 1265 rfl rfl), List.forall_mem_cons.mpr ⟨caX10_walks.ok (mT 1273 rfl rfl), List.forall_mem_cons.mpr ⟨caX10_reachFunctions.ok (mT 1261 rfl rfl), List.forall_mem_cons.mpr ⟨caX10_reach.ok (mT 1257 rfl rfl), List.forall_mem_cons.mpr ⟨caX10_fails.ok (mT 1227 rfl rfl), List.forall_mem_cons.mpr ⟨caX10_tailOf.ok (mT 1316 rfl rfl), List.forall_mem_cons.mpr ⟨caX10_headOf.ok (mT 1320 rfl rfl), List.forall_mem_cons.mpr ⟨caX10_byteAt.ok (mT 1216 rfl rfl), List.forall_mem_cons.mpr ⟨caX10_isCapital.okS (by decide) (by decide) (mT 1220 rfl rfl), List.forall_mem_cons.mpr ⟨caX10_isDigit.okS (by decide) (by decide) (mT 1235 rfl rfl), List.forall_mem_cons.mpr ⟨caX10_failsAt.ok (mT 1223 rfl rfl), List.forall_mem_cons.mpr ⟨caX10_blanks.ok (mT 1212 rfl rfl), List.forall_mem_cons.mpr ⟨caX10_closes.ok (mT 1249 rfl rfl), List.forall_mem_cons.mpr ⟨caX10_mayBegin.ok (mT 1277 rfl rfl), List.forall_mem_cons.mpr ⟨caX10_isAtom.ok (mT 1281 rfl rfl), List.forall_mem_cons.mpr ⟨caX10_symbol.ok (mT 1231 rfl rfl), List.forall_mem_cons.mpr ⟨caX10_number.ok (mT 1285 rfl rfl), List.forall_mem_cons.mpr ⟨caX10_quotes.ok (mT 1295 rfl rfl), List.forall_mem_cons.mpr ⟨caX10_cons.ok (mT 1253 rfl rfl), List.forall_mem_cons.mpr ⟨caX10_burn.ok (mT 1335 rfl rfl), List.forall_mem_cons.mpr ⟨caX10_isNumber.okS (by decide) (by decide) (mT 1343 rfl rfl), List.forall_mem_cons.mpr ⟨caX10_isSymbol.okS (by decide) (by decide) (mT 1328 rfl rfl), List.forall_mem_cons.mpr ⟨caX10_pairOf.ok (mT 1348 rfl rfl), List.forall_mem_cons.mpr ⟨caX10_second.ok (mT 1352 rfl rfl), List.forall_mem_cons.mpr ⟨caX10_frame.ok (mT 1357 rfl rfl), List.forall_mem_cons.mpr ⟨caX10_symbolOf.okS (by decide) (by decide) (mT 1238 rfl rfl), List.forall_mem_cons.mpr ⟨caX10_built.ok (mT 1371 rfl rfl), List.forall_mem_cons.mpr ⟨caX10_binds.ok (mT 1388 rfl rfl), List.forall_mem_cons.mpr ⟨caX10_third.ok (mT 1392 rfl rfl), List.forall_mem_cons.mpr ⟨caX10_variable.ok (mT 1396 rfl rfl), List.forall_mem_cons.mpr ⟨caX10_gives.ok (mT 1375 rfl rfl), List.forall_mem_cons.mpr ⟨caX10_says.ok (mT 1379 rfl rfl), List.forall_mem_cons.mpr ⟨caX10_counts.ok (mT 1383 rfl rfl), List.forall_mem_cons.mpr ⟨caX10_puts.ok (mT 1312 rfl rfl), List.forall_mem_cons.mpr ⟨caX10_atom.ok (mT 1324 rfl rfl), List.forall_mem_cons.mpr ⟨caX10_nothing.ok (mT 1208 rfl rfl), List.forall_mem_cons.mpr ⟨caX10_reads.ok (mT 1245 rfl rfl), List.forall_mem_cons.mpr ⟨caX10_begins.ok (mT 1204 rfl rfl), List.forall_mem_cons.mpr ⟨caX10_whole.ok (mT 1241 rfl rfl), List.forall_mem_cons.mpr ⟨caX10_failed.ok (mT 1300 rfl rfl), List.forall_mem_cons.mpr ⟨caX10_prints.ok (mT 1308 rfl rfl), List.forall_mem_cons.mpr ⟨caX10_evaluates.ok (mT 1339 rfl rfl), List.forall_mem_cons.mpr ⟨caX10_returns.ok (mT 1363 rfl rfl), List.forall_mem_cons.mpr ⟨caX10_applies.ok (mT 1367 rfl rfl), List.forall_mem_cons.mpr ⟨caX10_ofFunctions.ok (mT 1409 rfl rfl), fun _ h => (List.not_mem_nil h).elim⟩⟩⟩⟩⟩⟩⟩⟩⟩⟩⟩⟩⟩⟩⟩⟩⟩⟩⟩⟩⟩⟩⟩⟩⟩⟩⟩⟩⟩⟩⟩⟩⟩⟩⟩⟩⟩⟩⟩⟩⟩⟩⟩⟩⟩⟩
set_option maxRecDepth 20000 in
theorem KCX10_ok : ∀ t ∈ KCX10, Cond.constantLong RX10 t.1 t.2 ∈ TS := List.forall_mem_cons.mpr ⟨mT 1043 rfl rfl, List.forall_mem_cons.mpr ⟨mT 1346 rfl rfl, List.forall_mem_cons.mpr ⟨mT 1272 rfl rfl, List.forall_mem_cons.mpr ⟨mT 1289 rfl rfl, List.forall_mem_cons.mpr ⟨mT 1290 rfl rfl, List.forall_mem_cons.mpr ⟨mT 1291 rfl rfl, List.forall_mem_cons.mpr ⟨mT 1292 rfl rfl, List.forall_mem_cons.mpr ⟨mT 1293 rfl rfl, List.forall_mem_cons.mpr ⟨mT 1294 rfl rfl, List.forall_mem_cons.mpr ⟨mT 1299 rfl rfl, List.forall_mem_cons.mpr ⟨mT 1347 rfl rfl, List.forall_mem_cons.mpr ⟨mT 1356 rfl rfl, List.forall_mem_cons.mpr ⟨mT 1361 rfl rfl, List.forall_mem_cons.mpr ⟨mT 1362 rfl rfl, List.forall_mem_cons.mpr ⟨mT 1387 rfl rfl, List.forall_mem_cons.mpr ⟨mT 1400 rfl rfl, fun _ h => (List.not_mem_nil h).elim⟩⟩⟩⟩⟩⟩⟩⟩⟩⟩⟩⟩⟩⟩⟩⟩
