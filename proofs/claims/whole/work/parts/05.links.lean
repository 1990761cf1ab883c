abbrev cls : List vw_C := [(RX0, TX0, 4), (RX1, TX1, 1), (RX2, TX2, 6), (RX3, TX3, 3), (RX4, TX4, 4), (RX5, TX5, 7), (RX6, TX6, 9), (RX7, TX7, 2), (RX8, TX8, 1), (RX9, TX9, 7), (RX10, TX10, 12), (RX11, TX11, 38)]
def cn (o : Nat) : String := [RX0, RX1, RX2, RX3, RX4, RX5, RX6, RX7, RX8, RX9, RX10, RX11, RJ6, RJ9, RL].getD o RL
abbrev MI : Type := MethodName × ByteArray × Nat × Option FieldType × Nat × Nat
def MX10_feed : MI := (yX10_feed, cX10_feed, 6, some .int, 10, 5)
def MX7_push : MI := (yX7_push, cX7_push, 3, none, 7, 1)
def MX10_end : MI := (yX10_end, cX10_end, 2, some .boolean, 10, 1)
def MX7_cut : MI := (yX7_cut, cX7_cut, 2, some .boolean, 7, 1)
def MX10_net : MI := (yX10_net, cX10_net, 2, some .int, 10, 0)
def MX5_parse : MI := (yX5_parse, cX5_parse, 5, some .int, 5, 1)
def MX5_skipBlanks : MI := (yX5_skipBlanks, cX5_skipBlanks, 2, none, 5, 1)
def MX7_byteAt : MI := (yX7_byteAt, cX7_byteAt, 2, some .int, 7, 1)
def MX5_refuse : MI := (yX5_refuse, cX5_refuse, 3, some .int, 5, 2)
def MX5_takeToken : MI := (yX5_takeToken, cX5_takeToken, 7, some .long, 5, 1)
def MX10_isSmallLetter : MI := (yX10_isSmallLetter, cX10_isSmallLetter, 1, some .boolean, 10, 1)
def MX5_accept : MI := (yX5_accept, cX5_accept, 3, some .int, 5, 1)
def MX5_acceptRow : MI := (yX5_acceptRow, cX5_acceptRow, 3, some .int, 5, 1)
def MX5_acceptName : MI := (yX5_acceptName, cX5_acceptName, 3, some .int, 5, 1)
def MX5_isName : MI := (yX5_isName, cX5_isName, 2, some .boolean, 5, 1)
def MX5_find : MI := (yX5_find, cX5_find, 4, some .int, 5, 1)
def MX5_acceptPoint : MI := (yX5_acceptPoint, cX5_acceptPoint, 4, some .int, 5, 1)
def MX4_append : MI := (yX4_append, cX4_append, 3, none, 4, 2)
def MX4_hasPoint : MI := (yX4_hasPoint, cX4_hasPoint, 2, some .boolean, 4, 1)
def MX4_copyFrom : MI := (yX4_copyFrom, cX4_copyFrom, 2, none, 4, 1)
def MX3_forget : MI := (yX3_forget, cX3_forget, 1, none, 3, 0)
def MX10_fault : MI := (yX10_fault, cX10_fault, 1, some .int, 10, 0)
def MX10_now : MI := (yX10_now, cX10_now, 2, some .int, 10, 1)
def MX4_usedPoints : MI := (yX4_usedPoints, cX4_usedPoints, 3, some .int, 4, 0)
def MX4_isJoined : MI := (yX4_isJoined, cX4_isJoined, 1, some .boolean, 4, 0)
def MX4_spread : MI := (yX4_spread, cX4_spread, 8, some .int, 4, 3)
def MX10_inSet : MI := (yX10_inSet, cX10_inSet, 2, some .boolean, 10, 2)
def MX4_pointsWithExcess : MI := (yX4_pointsWithExcess, cX4_pointsWithExcess, 4, some .int, 4, 1)
def MX4_excess : MI := (yX4_excess, cX4_excess, 2, some .int, 4, 1)
def MX4_outOf : MI := (yX4_outOf, cX4_outOf, 4, some .int, 4, 1)
def MX4_into : MI := (yX4_into, cX4_into, 4, some .int, 4, 1)
def MX4_isStrong : MI := (yX4_isStrong, cX4_isStrong, 2, some .boolean, 4, 0)
def MX10_kind : MI := (yX10_kind, cX10_kind, 1, some .int, 10, 0)
def MX4_shape : MI := (yX4_shape, cX4_shape, 4, some .int, 4, 0)
def MX10_ends : MI := (yX10_ends, cX10_ends, 3, some .int, 10, 1)
def MX4_start : MI := (yX4_start, cX4_start, 2, some .int, 4, 1)
def MX4_pointOfExcess : MI := (yX4_pointOfExcess, cX4_pointOfExcess, 3, some .int, 4, 1)
def MX4_finish : MI := (yX4_finish, cX4_finish, 2, some .int, 4, 1)
def MX10_trees : MI := (yX10_trees, cX10_trees, 2, some .long, 10, 1)
def MX4_isUsed : MI := (yX4_isUsed, cX4_isUsed, 2, some .boolean, 4, 1)
def MX8_count : MI := (yX8_count, cX8_count, 3, some .long, 8, 2)
def MX8_countWithin : MI := (yX8_countWithin, cX8_countWithin, 4, some .long, 8, 3)
def MX0_load : MI := (yX0_load, cX0_load, 4, none, 0, 2)
def MX0_clear : MI := (yX0_clear, cX0_clear, 3, none, 0, 0)
def MX0_shift : MI := (yX0_shift, cX0_shift, 4, none, 0, 3)
def MX0_treesTo : MI := (yX0_treesTo, cX0_treesTo, 7, some .long, 0, 2)
def MX0_determinant : MI := (yX0_determinant, cX0_determinant, 9, some .long, 0, 1)
def MX10_walks : MI := (yX10_walks, cX10_walks, 1, some .long, 10, 0)
def MX9_count : MI := (yX9_count, cX9_count, 3, some .long, 9, 1)
def MX0_trailsTo : MI := (yX0_trailsTo, cX0_trailsTo, 6, some .long, 0, 1)
def MX10_factorial : MI := (yX10_factorial, cX10_factorial, 1, some .long, 10, 1)
def MX10_walkAt : MI := (yX10_walkAt, cX10_walkAt, 2, some .int, 10, 1)
def MX9_seenAt : MI := (yX9_seenAt, cX9_seenAt, 2, some .int, 9, 1)
def MX10_lasts : MI := (yX10_lasts, cX10_lasts, 1, some .int, 10, 0)
def MX10_rank : MI := (yX10_rank, cX10_rank, 3, some .long, 10, 0)
def MX9_lookAtTape : MI := (yX9_lookAtTape, cX9_lookAtTape, 8, some .long, 9, 2)
def MX4_hasArc : MI := (yX4_hasArc, cX4_hasArc, 2, some .boolean, 4, 1)
def MX9_lookAtPath : MI := (yX9_lookAtPath, cX9_lookAtPath, 4, none, 9, 2)
def MX9_rankOfPath : MI := (yX9_rankOfPath, cX9_rankOfPath, 10, some .long, 9, 2)
def MX10_by : MI := (yX10_by, cX10_by, 2, some .long, 10, 1)
def MX9_countLeavingBy : MI := (yX9_countLeavingBy, cX9_countLeavingBy, 10, some .long, 9, 2)
def MX9_takeLasts : MI := (yX9_takeLasts, cX9_takeLasts, 6, some .boolean, 9, 3)
def MX9_comesTo : MI := (yX9_comesTo, cX9_comesTo, 7, some .boolean, 9, 3)
def MX10_first : MI := (yX10_first, cX10_first, 2, some .long, 10, 1)
def MX9_firstLeavingBy : MI := (yX9_firstLeavingBy, cX9_firstLeavingBy, 8, some .long, 9, 2)
def MX9_leastFree : MI := (yX9_leastFree, cX9_leastFree, 5, some .int, 9, 3)
def MX10_drawn : MI := (yX10_drawn, cX10_drawn, 6, some .long, 10, 1)
def MX1_begin : MI := (yX1_begin, cX1_begin, 2, none, 1, 1)
def MX1_evenBelow : MI := (yX1_evenBelow, cX1_evenBelow, 8, some .long, 1, 1)
def MX1_wideDraw : MI := (yX1_wideDraw, cX1_wideDraw, 7, some .long, 1, 0)
def MX1_draw : MI := (yX1_draw, cX1_draw, 1, some .int, 1, 0)
def MX9_lookAtRank : MI := (yX9_lookAtRank, cX9_lookAtRank, 5, some .boolean, 9, 2)
def MX9_buildPath : MI := (yX9_buildPath, cX9_buildPath, 10, some .boolean, 9, 3)
def MX9_chooseNext : MI := (yX9_chooseNext, cX9_chooseNext, 8, some .int, 9, 4)
def MX10_words : MI := (yX10_words, cX10_words, 3, some .long, 10, 0)
def MX6_tell : MI := (yX6_tell, cX6_tell, 5, some .long, 6, 1)
def MJ6_bitCount : MI := (yJ6_bitCount_0f7a4, cJ6_bitCount_0f7a4, 1, some .int, 12, 1)
def MX6_takeLetters : MI := (yX6_takeLetters, cX6_takeLetters, 4, none, 6, 1)
def MX6_indexOf : MI := (yX6_indexOf, cX6_indexOf, 2, some .int, 6, 1)
def MX6_loadTold : MI := (yX6_loadTold, cX6_loadTold, 2, none, 6, 0)
def MX6_goal : MI := (yX6_goal, cX6_goal, 1, some .int, 6, 0)
def MX0_spellingsTo : MI := (yX0_spellingsTo, cX0_spellingsTo, 6, some .long, 0, 1)
def MX6_countAhead : MI := (yX6_countAhead, cX6_countAhead, 6, some .long, 6, 0)
def MX6_spellingsOver : MI := (yX6_spellingsOver, cX6_spellingsOver, 5, some .long, 6, 2)
def MX10_wordRank : MI := (yX10_wordRank, cX10_wordRank, 1, some .long, 10, 0)
def MX10_letterAt : MI := (yX10_letterAt, cX10_letterAt, 2, some .int, 10, 1)
def MX6_seenAt : MI := (yX6_seenAt, cX6_seenAt, 2, some .int, 6, 1)
def MX10_braid : MI := (yX10_braid, cX10_braid, 5, some .int, 10, 2)
def MX3_mark : MI := (yX3_mark, cX3_mark, 2, none, 3, 1)
def MX4_weave : MI := (yX4_weave, cX4_weave, 4, none, 4, 2)
def MX3_keep : MI := (yX3_keep, cX3_keep, 1, none, 3, 0)
def MJ9_min : MI := (yJ9_min_7cf53, cJ9_min_7cf53, 2, some .int, 13, 2)
def MX10_again : MI := (yX10_again, cX10_again, 1, some .int, 10, 0)
def MX2_fewestAgain : MI := (yX2_fewestAgain, cX2_fewestAgain, 4, some .int, 2, 1)
def MX2_sendAll : MI := (yX2_sendAll, cX2_sendAll, 4, some .boolean, 2, 1)
def MX2_hasSurplus : MI := (yX2_hasSurplus, cX2_hasSurplus, 3, some .boolean, 2, 1)
def MX2_findDistances : MI := (yX2_findDistances, cX2_findDistances, 7, none, 2, 1)
def MX2_nearestLacking : MI := (yX2_nearestLacking, cX2_nearestLacking, 5, some .int, 2, 1)
def MX2_sendOne : MI := (yX2_sendOne, cX2_sendOne, 6, none, 2, 2)
def MX10_lack : MI := (yX10_lack, cX10_lack, 3, some .int, 10, 0)
def MJ9_max : MI := (yJ9_max_7cf53, cJ9_max_7cf53, 2, some .int, 13, 2)
def MX10_righted : MI := (yX10_righted, cX10_righted, 3, some .int, 10, 1)
def MX2_leastTurned : MI := (yX2_leastTurned, cX2_leastTurned, 4, some .int, 2, 1)
def MX10_add : MI := (yX10_add, cX10_add, 3, some .int, 10, 2)
def MX10_drop : MI := (yX10_drop, cX10_drop, 2, some .int, 10, 1)
def MX4_remove : MI := (yX4_remove, cX4_remove, 3, none, 4, 1)
def MX10_turn : MI := (yX10_turn, cX10_turn, 2, some .int, 10, 1)
def MX4_flip : MI := (yX4_flip, cX4_flip, 3, none, 4, 1)
def MX10_deeds : MI := (yX10_deeds, cX10_deeds, 5, some .int, 10, 2)
def MX1_doDeed : MI := (yX1_doDeed, cX1_doDeed, 4, some .boolean, 1, 1)
def MX1_doAppend : MI := (yX1_doAppend, cX1_doAppend, 4, some .boolean, 1, 1)
def MX10_undo : MI := (yX10_undo, cX10_undo, 1, some .int, 10, 0)
def MX3_stepBack : MI := (yX3_stepBack, cX3_stepBack, 2, some .int, 3, 1)
def MX10_image : MI := (yX10_image, cX10_image, 2, some .boolean, 10, 1)
def MX10_restore : MI := (yX10_restore, cX10_restore, 2, some .boolean, 10, 1)
def MX10_arc : MI := (yX10_arc, cX10_arc, 3, some .int, 10, 2)
def MX10_degree : MI := (yX10_degree, cX10_degree, 3, some .int, 10, 2)
def MX10_tree : MI := (yX10_tree, cX10_tree, 4, some .int, 10, 2)
def MX8_ofNumber : MI := (yX8_ofNumber, cX8_ofNumber, 11, some .int, 8, 3)
def MX8_withOneFrom : MI := (yX8_withOneFrom, cX8_withOneFrom, 5, some .int, 8, 3)
def MX10_walk : MI := (yX10_walk, cX10_walk, 3, some .int, 10, 1)
def MX10_word : MI := (yX10_word, cX10_word, 3, some .int, 10, 1)
def MX6_lookAtRank : MI := (yX6_lookAtRank, cX6_lookAtRank, 10, some .boolean, 6, 1)
def MX11_thrown : MI := (yX11_thrown, cX11_thrown, 1, some .int, 11, 0)
def MX11_feed : MI := (yX11_feed, cX11_feed, 6, some .int, 11, 5)
def MX11_lay : MI := (yX11_lay, cX11_lay, 3, none, 11, 1)
def MX11_end : MI := (yX11_end, cX11_end, 2, some .boolean, 11, 1)
def MX11_net : MI := (yX11_net, cX11_net, 3, some .int, 11, 0)
def MX11_next : MI := (yX11_next, cX11_next, 1, none, 11, 0)
def MX11_isLetter : MI := (yX11_isLetter, cX11_isLetter, 1, some .boolean, 11, 1)
def MX11_tapeAt : MI := (yX11_tapeAt, cX11_tapeAt, 2, some .int, 11, 1)
def MX11_isPointWord : MI := (yX11_isPointWord, cX11_isPointWord, 1, some .boolean, 11, 0)
def MX11_spelt : MI := (yX11_spelt, cX11_spelt, 7, some .long, 11, 5)
def MX11_readPoint : MI := (yX11_readPoint, cX11_readPoint, 1, some .boolean, 11, 0)
def MX11_bad : MI := (yX11_bad, cX11_bad, 2, some .boolean, 11, 1)
def MX11_isName : MI := (yX11_isName, cX11_isName, 1, some .boolean, 11, 0)
def MX11_isArcWord : MI := (yX11_isArcWord, cX11_isArcWord, 1, some .boolean, 11, 0)
def MX11_named : MI := (yX11_named, cX11_named, 2, some .int, 11, 0)
def MX11_readArc : MI := (yX11_readArc, cX11_readArc, 3, some .boolean, 11, 0)
def MX11_goes : MI := (yX11_goes, cX11_goes, 3, none, 11, 3)
def MX11_readEnd : MI := (yX11_readEnd, cX11_readEnd, 1, some .boolean, 11, 0)
def MX11_copy : MI := (yX11_copy, cX11_copy, 5, none, 11, 4)
def MX11_fault : MI := (yX11_fault, cX11_fault, 1, some .int, 11, 0)
def MX11_now : MI := (yX11_now, cX11_now, 2, some .int, 11, 1)
def MX11_points : MI := (yX11_points, cX11_points, 1, some .int, 11, 0)
def MX11_arcs : MI := (yX11_arcs, cX11_arcs, 1, some .int, 11, 0)
def MX11_used : MI := (yX11_used, cX11_used, 3, some .int, 11, 1)
def MX11_isJoined : MI := (yX11_isJoined, cX11_isJoined, 1, some .boolean, 11, 1)
def MX11_reach : MI := (yX11_reach, cX11_reach, 6, some .int, 11, 3)
def MX11_has : MI := (yX11_has, cX11_has, 2, some .boolean, 11, 2)
def MX11_offs : MI := (yX11_offs, cX11_offs, 4, some .int, 11, 2)
def MX11_off : MI := (yX11_off, cX11_off, 2, some .int, 11, 2)
def MX11_out : MI := (yX11_out, cX11_out, 4, some .int, 11, 2)
def MX11_in : MI := (yX11_in, cX11_in, 4, some .int, 11, 2)
def MX11_isStrong : MI := (yX11_isStrong, cX11_isStrong, 2, some .boolean, 11, 1)
def MX11_arc : MI := (yX11_arc, cX11_arc, 3, some .int, 11, 2)
def MX11_isArc : MI := (yX11_isArc, cX11_isArc, 2, some .boolean, 11, 1)
def MX11_isIn : MI := (yX11_isIn, cX11_isIn, 3, some .boolean, 11, 3)
def MX11_refuse : MI := (yX11_refuse, cX11_refuse, 1, some .int, 11, 0)
def MX11_degree : MI := (yX11_degree, cX11_degree, 3, some .int, 11, 2)
def MX11_isPoint : MI := (yX11_isPoint, cX11_isPoint, 2, some .boolean, 11, 1)
def MX11_kind : MI := (yX11_kind, cX11_kind, 1, some .int, 11, 0)
def MX11_kindOf : MI := (yX11_kindOf, cX11_kindOf, 1, some .int, 11, 1)
def MX11_lacking : MI := (yX11_lacking, cX11_lacking, 3, some .int, 11, 1)
def MX11_ends : MI := (yX11_ends, cX11_ends, 2, some .int, 11, 1)
def MX11_start : MI := (yX11_start, cX11_start, 1, some .int, 11, 1)
def MX11_only : MI := (yX11_only, cX11_only, 2, some .int, 11, 1)
def MX11_last : MI := (yX11_last, cX11_last, 1, some .int, 11, 1)
def MX11_trees : MI := (yX11_trees, cX11_trees, 2, some .long, 11, 1)
def MX11_laysTrees : MI := (yX11_laysTrees, cX11_laysTrees, 2, none, 11, 1)
def MX11_chooses : MI := (yX11_chooses, cX11_chooses, 5, none, 11, 3)
def MX11_isTree : MI := (yX11_isTree, cX11_isTree, 6, some .boolean, 11, 2)
def MX11_tree : MI := (yX11_tree, cX11_tree, 6, some .int, 11, 2)
def MX11_walks : MI := (yX11_walks, cX11_walks, 1, some .long, 11, 0)
def MX11_laysWalks : MI := (yX11_laysWalks, cX11_laysWalks, 3, some .long, 11, 2)
def MX11_laysWays : MI := (yX11_laysWays, cX11_laysWays, 9, none, 11, 4)
def MX11_where : MI := (yX11_where, cX11_where, 6, some .int, 11, 3)
def MX11_mayGo : MI := (yX11_mayGo, cX11_mayGo, 8, some .boolean, 11, 5)
def MX11_begun : MI := (yX11_begun, cX11_begun, 1, some .int, 11, 0)
def MX11_walk : MI := (yX11_walk, cX11_walk, 3, some .int, 11, 1)
def MX11_laysRank : MI := (yX11_laysRank, cX11_laysRank, 14, none, 11, 6)
def MX11_bits : MI := (yX11_bits, cX11_bits, 3, some .int, 11, 1)
def MX11_looks : MI := (yX11_looks, cX11_looks, 6, none, 11, 1)
def MX11_walkAt : MI := (yX11_walkAt, cX11_walkAt, 2, some .int, 11, 1)
def MX11_lasts : MI := (yX11_lasts, cX11_lasts, 1, some .int, 11, 0)
def MX11_rank : MI := (yX11_rank, cX11_rank, 3, some .long, 11, 0)
def MX11_isWalk : MI := (yX11_isWalk, cX11_isWalk, 5, some .boolean, 11, 0)
def MX11_ahead : MI := (yX11_ahead, cX11_ahead, 6, some .long, 11, 0)
def MX11_by : MI := (yX11_by, cX11_by, 2, some .long, 11, 1)
def MX11_laysBy : MI := (yX11_laysBy, cX11_laysBy, 3, some .long, 11, 1)
def MX11_first : MI := (yX11_first, cX11_first, 2, some .long, 11, 1)
def MX11_drawn : MI := (yX11_drawn, cX11_drawn, 8, some .long, 11, 1)
def MX11_drawsMuch : MI := (yX11_drawsMuch, cX11_drawsMuch, 7, some .long, 11, 0)
def MX11_draw : MI := (yX11_draw, cX11_draw, 1, some .int, 11, 0)
def MX11_words : MI := (yX11_words, cX11_words, 3, some .long, 11, 0)
def MX11_isGood : MI := (yX11_isGood, cX11_isGood, 3, some .boolean, 11, 1)
def MX11_unlike : MI := (yX11_unlike, cX11_unlike, 4, some .int, 11, 1)
def MX11_laysLetters : MI := (yX11_laysLetters, cX11_laysLetters, 4, none, 11, 0)
def MX11_pointOf : MI := (yX11_pointOf, cX11_pointOf, 3, some .int, 11, 1)
def MX11_wordRank : MI := (yX11_wordRank, cX11_wordRank, 9, some .long, 11, 0)
def MX11_word : MI := (yX11_word, cX11_word, 4, some .int, 11, 1)
def MX11_letterAt : MI := (yX11_letterAt, cX11_letterAt, 2, some .int, 11, 1)
def MX11_braid : MI := (yX11_braid, cX11_braid, 5, some .int, 11, 2)
def MX11_snap : MI := (yX11_snap, cX11_snap, 2, none, 11, 0)
def MX11_again : MI := (yX11_again, cX11_again, 3, some .int, 11, 0)
def MX11_laysFar : MI := (yX11_laysFar, cX11_laysFar, 5, none, 11, 0)
def MX11_extra : MI := (yX11_extra, cX11_extra, 4, some .int, 11, 1)
def MX11_goesAgain : MI := (yX11_goesAgain, cX11_goesAgain, 5, none, 11, 1)
def MX11_lack : MI := (yX11_lack, cX11_lack, 2, some .int, 11, 0)
def MX11_righted : MI := (yX11_righted, cX11_righted, 4, some .int, 11, 1)
def MX11_isRight : MI := (yX11_isRight, cX11_isRight, 3, some .boolean, 11, 1)
def MX11_add : MI := (yX11_add, cX11_add, 3, some .int, 11, 2)
def MX11_drop : MI := (yX11_drop, cX11_drop, 2, some .int, 11, 1)
def MX11_drops : MI := (yX11_drops, cX11_drops, 3, none, 11, 2)
def MX11_turn : MI := (yX11_turn, cX11_turn, 2, some .int, 11, 1)
def MX11_turns : MI := (yX11_turns, cX11_turns, 3, none, 11, 2)
def MX11_deeds : MI := (yX11_deeds, cX11_deeds, 5, some .int, 11, 2)
def MX11_does : MI := (yX11_does, cX11_does, 3, some .boolean, 11, 0)
def MX11_stay : MI := (yX11_stay, cX11_stay, 1, none, 11, 0)
def MX11_undo : MI := (yX11_undo, cX11_undo, 1, some .int, 11, 0)
def MX11_image : MI := (yX11_image, cX11_image, 2, some .boolean, 11, 1)
def MX11_restore : MI := (yX11_restore, cX11_restore, 2, some .boolean, 11, 1)
def flT : List (Nat × Nat × Nat × Nat × Nat × Nat) := [(7, 9, 7, 0, 0, 3), (7, 15, 7, 1, 0, 0), (4, 9, 4, 0, 0, 3), (4, 15, 4, 1, 0, 3), (4, 18, 4, 2, 0, 0), (4, 22, 4, 3, 0, 0), (5, 12, 5, 0, 0, 3), (5, 18, 5, 1, 0, 3), (5, 22, 5, 2, 0, 0), (5, 26, 5, 3, 0, 0), (5, 29, 5, 4, 0, 0), (5, 32, 5, 5, 0, 0), (5, 35, 5, 6, 0, 0), (3, 13, 3, 0, 0, 3), (3, 17, 3, 1, 0, 0), (3, 21, 3, 2, 0, 0), (0, 11, 0, 0, 0, 3), (0, 16, 0, 1, 0, 3), (0, 22, 0, 2, 0, 3), (0, 25, 0, 3, 0, 3), (8, 12, 8, 0, 0, 3), (9, 12, 9, 0, 0, 3), (9, 18, 9, 1, 0, 3), (9, 22, 9, 2, 0, 3), (9, 25, 9, 3, 0, 3), (9, 28, 9, 4, 0, 1), (9, 32, 9, 5, 0, 0), (9, 36, 9, 6, 0, 0), (6, 12, 6, 0, 0, 3), (6, 18, 6, 1, 0, 3), (6, 22, 6, 2, 0, 3), (6, 25, 6, 3, 0, 3), (6, 28, 6, 4, 0, 0), (6, 32, 6, 5, 0, 0), (6, 35, 6, 6, 0, 0), (6, 38, 6, 7, 0, 1), (6, 44, 6, 8, 0, 1), (2, 9, 2, 0, 0, 3), (2, 15, 2, 1, 0, 3), (2, 18, 2, 2, 0, 3), (2, 21, 2, 3, 0, 3), (2, 24, 2, 4, 0, 3), (2, 27, 2, 5, 0, 0), (1, 9, 1, 0, 0, 0), (10, 10, 10, 0, 0, 3), (10, 19, 10, 1, 0, 3), (10, 26, 10, 2, 0, 3), (10, 33, 10, 3, 0, 3), (10, 37, 10, 4, 0, 3), (10, 41, 10, 5, 0, 3), (10, 48, 10, 6, 0, 3), (10, 55, 10, 7, 0, 3), (10, 62, 10, 8, 0, 3), (10, 69, 10, 9, 0, 3), (10, 76, 10, 10, 0, 3), (10, 80, 10, 11, 0, 0), (11, 1, 11, 0, 0, 0), (11, 7, 11, 1, 0, 3), (11, 11, 11, 2, 0, 0), (11, 18, 11, 3, 0, 0), (11, 21, 11, 4, 0, 0), (11, 24, 11, 5, 0, 0), (11, 27, 11, 6, 0, 0), (11, 57, 11, 7, 0, 0), (11, 60, 11, 8, 0, 0), (11, 34, 11, 9, 0, 1), (11, 69, 11, 10, 0, 3), (11, 72, 11, 11, 0, 3), (11, 75, 11, 12, 0, 3), (11, 78, 11, 13, 0, 3), (11, 81, 11, 14, 0, 3), (11, 84, 11, 15, 0, 3), (11, 87, 11, 16, 0, 3), (11, 90, 11, 17, 0, 3), (11, 94, 11, 18, 0, 3), (11, 165, 11, 19, 0, 0), (11, 98, 11, 20, 0, 3), (11, 237, 11, 21, 0, 0), (11, 102, 11, 22, 0, 3), (11, 105, 11, 23, 0, 3), (11, 249, 11, 24, 0, 0), (11, 108, 11, 25, 0, 3), (11, 111, 11, 26, 0, 3), (11, 271, 11, 27, 0, 0), (11, 114, 11, 28, 0, 0), (11, 296, 11, 29, 0, 0), (11, 117, 11, 30, 0, 3), (11, 120, 11, 31, 0, 3), (11, 123, 11, 32, 0, 3), (11, 311, 11, 33, 0, 0), (11, 323, 11, 34, 0, 0), (11, 126, 11, 35, 0, 3), (11, 129, 11, 36, 0, 3), (11, 132, 11, 37, 0, 3), (10, 84, 7, 1, 1, 0), (5, 48, 7, 1, 1, 0), (6, 47, 7, 1, 1, 0), (9, 95, 7, 1, 1, 0), (0, 41, 4, 0, 1, 3), (9, 49, 4, 0, 1, 3), (8, 45, 4, 0, 1, 3), (2, 64, 4, 0, 1, 3), (10, 144, 4, 0, 1, 3), (0, 44, 4, 1, 1, 3), (9, 52, 4, 1, 1, 3), (2, 67, 4, 1, 1, 3), (10, 148, 4, 1, 1, 3), (5, 38, 4, 2, 1, 0), (2, 31, 4, 2, 1, 0), (10, 112, 4, 2, 1, 0), (1, 43, 4, 2, 1, 0), (9, 117, 4, 2, 1, 0), (5, 41, 4, 3, 1, 0), (2, 40, 4, 3, 1, 0), (0, 31, 4, 3, 1, 0), (8, 41, 4, 3, 1, 0), (9, 81, 4, 3, 1, 0), (1, 31, 4, 3, 1, 0), (10, 115, 4, 3, 1, 0), (10, 102, 5, 0, 1, 3), (10, 99, 5, 6, 1, 0), (10, 133, 3, 2, 1, 0), (6, 102, 0, 0, 1, 3), (9, 92, 0, 1, 1, 3), (10, 198, 9, 6, 1, 0), (10, 231, 6, 6, 1, 0), (10, 222, 6, 8, 1, 1)]
def mlT_0 : List (Nat × Nat × Nat × MI) := [(14, 32, 0, MX10_feed), (10, 87, 0, MX7_push), (14, 37, 0, MX10_end), (10, 91, 0, MX7_cut), (14, 42, 0, MX10_net), (10, 95, 0, MX5_parse), (5, 44, 0, MX5_skipBlanks), (5, 65, 0, MX7_byteAt), (5, 53, 0, MX5_refuse), (5, 57, 0, MX5_takeToken), (5, 69, 3, MX10_isSmallLetter), (5, 61, 0, MX5_accept), (5, 77, 0, MX5_acceptRow), (5, 80, 0, MX5_acceptName), (5, 90, 1, MX5_isName), (5, 94, 0, MX5_find), (5, 83, 0, MX5_acceptPoint), (5, 97, 0, MX4_append), (4, 31, 0, MX4_hasPoint), (10, 105, 0, MX4_copyFrom)]
def mlT_1 : List (Nat × Nat × Nat × MI) := [(10, 109, 0, MX3_forget), (14, 47, 0, MX10_fault), (14, 51, 0, MX10_now), (10, 118, 0, MX4_usedPoints), (10, 122, 0, MX4_isJoined), (4, 60, 0, MX4_spread), (4, 53, 3, MX10_inSet), (4, 49, 0, MX4_usedPoints), (10, 126, 0, MX4_pointsWithExcess), (4, 57, 0, MX4_excess), (4, 42, 0, MX4_outOf), (4, 46, 0, MX4_into), (10, 130, 0, MX4_isStrong), (14, 68, 0, MX10_kind), (10, 162, 0, MX4_shape), (4, 64, 0, MX4_isJoined), (14, 72, 0, MX10_ends), (10, 165, 0, MX4_start), (4, 68, 0, MX4_pointOfExcess), (10, 168, 0, MX4_finish)]
def mlT_2 : List (Nat × Nat × Nat × MI) := [(14, 76, 0, MX10_trees), (10, 171, 0, MX4_isUsed), (10, 174, 0, MX8_count), (8, 19, 0, MX8_countWithin), (8, 23, 0, MX0_load), (0, 28, 0, MX0_clear), (0, 37, 3, MX10_inSet), (0, 47, 0, MX0_shift), (8, 27, 0, MX4_usedPoints), (8, 33, 0, MX0_treesTo), (0, 51, 0, MX0_determinant), (14, 84, 0, MX10_walks), (10, 186, 0, MX9_count), (9, 39, 0, MX4_shape), (9, 45, 0, MX0_load), (9, 55, 0, MX0_shift), (9, 59, 0, MX4_finish), (9, 63, 0, MX0_trailsTo), (0, 55, 3, MX10_factorial), (0, 58, 0, MX0_treesTo)]
def mlT_3 : List (Nat × Nat × Nat × MI) := [(14, 95, 0, MX10_walkAt), (10, 195, 0, MX9_seenAt), (14, 99, 0, MX10_lasts), (14, 103, 0, MX10_rank), (10, 201, 0, MX9_lookAtTape), (9, 78, 0, MX4_start), (9, 102, 0, MX7_byteAt), (9, 105, 0, MX4_hasArc), (9, 88, 3, MX10_inSet), (9, 75, 0, MX9_lookAtPath), (9, 109, 0, MX9_rankOfPath), (14, 107, 0, MX10_by), (10, 205, 0, MX9_countLeavingBy), (9, 113, 0, MX9_takeLasts), (9, 130, 0, MX4_usedPoints), (9, 133, 0, MX9_comesTo), (9, 120, 0, MX4_outOf), (9, 123, 3, MX10_factorial), (14, 111, 0, MX10_first), (10, 208, 0, MX9_firstLeavingBy)]
def mlT_4 : List (Nat × Nat × Nat × MI) := [(9, 126, 0, MX9_leastFree), (14, 115, 0, MX10_drawn), (10, 211, 0, MX1_begin), (10, 214, 0, MX1_evenBelow), (1, 22, 0, MX1_wideDraw), (1, 16, 0, MX1_draw), (10, 189, 0, MX9_lookAtRank), (9, 67, 0, MX9_count), (9, 71, 0, MX9_buildPath), (9, 84, 0, MX9_chooseNext), (14, 119, 0, MX10_words), (10, 218, 0, MX6_tell), (6, 52, 0, MX7_byteAt), (6, 56, 3, MX10_isSmallLetter), (6, 60, 1, MJ6_bitCount), (6, 65, 0, MX6_takeLetters), (6, 87, 3, MX10_inSet), (6, 69, 0, MX6_indexOf), (6, 72, 0, MX6_loadTold), (6, 91, 0, MX0_clear)]
def mlT_5 : List (Nat × Nat × Nat × MI) := [(6, 94, 0, MX0_shift), (6, 75, 0, MX6_goal), (6, 79, 0, MX0_spellingsTo), (0, 62, 0, MX0_trailsTo), (6, 83, 0, MX6_countAhead), (6, 98, 0, MX6_spellingsOver), (14, 123, 0, MX10_wordRank), (14, 130, 0, MX10_letterAt), (10, 234, 0, MX6_seenAt), (14, 134, 0, MX10_braid), (10, 235, 0, MX3_mark), (3, 25, 0, MX4_copyFrom), (10, 238, 0, MX4_weave), (4, 38, 0, MX4_append), (10, 242, 0, MX3_keep), (14, 138, 0, MX10_again), (10, 245, 0, MX2_fewestAgain), (2, 36, 0, MX4_excess), (2, 43, 0, MX2_sendAll), (2, 48, 0, MX2_hasSurplus)]
def mlT_6 : List (Nat × Nat × Nat × MI) := [(2, 51, 0, MX2_findDistances), (2, 55, 0, MX2_nearestLacking), (2, 59, 0, MX2_sendOne), (14, 142, 0, MX10_lack), (10, 249, 0, MX4_excess), (14, 146, 0, MX10_righted), (10, 258, 0, MX2_leastTurned), (10, 261, 1, MJ6_bitCount), (14, 150, 0, MX10_add), (10, 151, 0, MX4_hasPoint), (10, 266, 0, MX4_append), (14, 154, 0, MX10_drop), (10, 134, 0, MX4_hasArc), (10, 269, 0, MX4_remove), (4, 35, 0, MX4_hasArc), (14, 158, 0, MX10_turn), (10, 272, 0, MX4_flip), (14, 162, 0, MX10_deeds), (10, 275, 0, MX1_doDeed), (1, 27, 0, MX1_doAppend)]
def mlT_7 : List (Nat × Nat × Nat × MI) := [(1, 46, 0, MX4_append), (1, 36, 0, MX4_remove), (1, 40, 0, MX4_flip), (14, 166, 0, MX10_undo), (10, 279, 0, MX3_stepBack), (14, 170, 0, MX10_image), (14, 174, 0, MX10_restore), (14, 7, 0, MX10_arc), (14, 15, 0, MX10_degree), (10, 156, 0, MX4_outOf), (10, 159, 0, MX4_into), (14, 18, 0, MX10_tree), (10, 180, 0, MX8_ofNumber), (8, 37, 0, MX8_count), (8, 49, 3, MX10_inSet), (8, 53, 1, MX8_withOneFrom), (14, 21, 0, MX10_walk), (14, 25, 0, MX10_word), (10, 226, 0, MX6_lookAtRank), (14, 62, 0, MX11_thrown)]
def mlT_8 : List (Nat × Nat × Nat × MI) := [(14, 36, 0, MX11_feed), (11, 14, 0, MX11_lay), (14, 41, 0, MX11_end), (14, 46, 0, MX11_net), (11, 138, 0, MX11_next), (11, 30, 1, MX11_isLetter), (11, 38, 0, MX11_tapeAt), (11, 50, 0, MX11_isPointWord), (11, 46, 1, MX11_spelt), (11, 152, 0, MX11_readPoint), (11, 135, 0, MX11_bad), (11, 141, 0, MX11_isName), (11, 54, 0, MX11_isArcWord), (11, 144, 0, MX11_named), (11, 155, 0, MX11_readArc), (11, 148, 1, MX11_goes), (11, 158, 0, MX11_readEnd), (11, 161, 1, MX11_copy), (14, 50, 0, MX11_fault), (14, 55, 0, MX11_now)]
def mlT_9 : List (Nat × Nat × Nat × MI) := [(11, 168, 0, MX11_points), (11, 175, 0, MX11_arcs), (11, 186, 1, MX11_used), (11, 200, 1, MX11_isJoined), (11, 182, 1, MX11_reach), (11, 178, 1, MX11_has), (11, 207, 1, MX11_offs), (11, 197, 1, MX11_off), (11, 190, 1, MX11_out), (11, 194, 1, MX11_in), (11, 210, 1, MX11_isStrong), (14, 61, 0, MX11_arc), (11, 213, 0, MX11_isArc), (11, 171, 1, MX11_isIn), (11, 216, 0, MX11_refuse), (14, 67, 0, MX11_degree), (11, 219, 0, MX11_isPoint), (14, 71, 0, MX11_kind), (11, 222, 1, MX11_kindOf), (11, 204, 1, MX11_lacking)]
def mlT_10 : List (Nat × Nat × Nat × MI) := [(14, 75, 0, MX11_ends), (11, 228, 1, MX11_start), (11, 225, 1, MX11_only), (11, 231, 1, MX11_last), (14, 80, 0, MX11_trees), (11, 246, 0, MX11_laysTrees), (11, 240, 0, MX11_chooses), (11, 234, 0, MX11_isTree), (14, 83, 0, MX11_tree), (14, 88, 0, MX11_walks), (11, 267, 0, MX11_laysWalks), (11, 260, 0, MX11_laysWays), (11, 252, 0, MX11_where), (11, 256, 0, MX11_mayGo), (11, 264, 0, MX11_begun), (14, 94, 0, MX11_walk), (11, 277, 0, MX11_laysRank), (11, 274, 1, MX11_bits), (11, 281, 0, MX11_looks), (14, 98, 0, MX11_walkAt)]
def mlT_11 : List (Nat × Nat × Nat × MI) := [(14, 102, 0, MX11_lasts), (14, 106, 0, MX11_rank), (11, 285, 0, MX11_isWalk), (11, 288, 0, MX11_ahead), (14, 110, 0, MX11_by), (11, 292, 0, MX11_laysBy), (14, 114, 0, MX11_first), (14, 118, 0, MX11_drawn), (11, 305, 0, MX11_drawsMuch), (11, 300, 0, MX11_draw), (14, 122, 0, MX11_words), (11, 317, 0, MX11_isGood), (11, 308, 0, MX11_unlike), (11, 320, 0, MX11_laysLetters), (11, 314, 0, MX11_pointOf), (14, 126, 0, MX11_wordRank), (14, 129, 0, MX11_word), (14, 133, 0, MX11_letterAt), (14, 137, 0, MX11_braid), (11, 326, 0, MX11_snap)]
def mlT_12 : List (Nat × Nat × Nat × MI) := [(14, 141, 0, MX11_again), (11, 332, 0, MX11_laysFar), (11, 329, 0, MX11_extra), (11, 335, 0, MX11_goesAgain), (14, 145, 0, MX11_lack), (14, 149, 0, MX11_righted), (11, 338, 0, MX11_isRight), (14, 153, 0, MX11_add), (14, 157, 0, MX11_drop), (11, 341, 1, MX11_drops), (14, 161, 0, MX11_turn), (11, 345, 1, MX11_turns), (14, 165, 0, MX11_deeds), (11, 348, 0, MX11_does), (11, 351, 0, MX11_stay), (14, 169, 0, MX11_undo), (14, 173, 0, MX11_image), (14, 177, 0, MX11_restore)]
def mlT : List (Nat × Nat × Nat × MI) := mlT_0 ++ (mlT_1 ++ (mlT_2 ++ (mlT_3 ++ (mlT_4 ++ (mlT_5 ++ (mlT_6 ++ (mlT_7 ++ (mlT_8 ++ (mlT_9 ++ (mlT_10 ++ (mlT_11 ++ (mlT_12))))))))))))
def kiT : List (Nat × Nat × Int) := [(8, 18, 65535), (1, 15, 1103515245), (1, 26, 1000000), (12, 265, 1431655765), (12, 266, 858993459), (12, 267, 252645135), (2, 63, 268435456), (2, 47, 65536), (11, 101, 65536), (11, 299, 1103515245)]
def klT : List (Nat × Nat × Int) := [(6, 42, -1), (5, 73, 32), (5, 75, -1), (5, 86, 17278420), (5, 88, 1603), (10, 178, -1), (9, 100, -1), (1, 20, 4611686018427387904), (11, 42, 27), (11, 44, 96), (11, 244, -1), (11, 303, 4611686018427387904), (14, 89, 4294967295)]
def fl (o i : Nat) : Option (Nat × Nat × Nat × Nat) := (flT.find? (fun q => q.1 == o && q.2.1 == i)).map (fun q => q.2.2)
def ml (o i : Nat) : Option (Nat × MI) := (mlT.find? (fun q => q.1 == o && q.2.1 == i)).map (fun q => q.2.2)
def ki (o i : Nat) : Option Int := (kiT.find? (fun q => q.1 == o && q.2.1 == i)).map (fun q => q.2.2)
def kl (o i : Nat) : Option Int := (klT.find? (fun q => q.1 == o && q.2.1 == i)).map (fun q => q.2.2)
theorem fl_7_9 : fl 7 9 = some (7, 0, 0, 3) := rfl
theorem fl_7_15 : fl 7 15 = some (7, 1, 0, 0) := rfl
theorem fl_4_9 : fl 4 9 = some (4, 0, 0, 3) := rfl
theorem fl_4_15 : fl 4 15 = some (4, 1, 0, 3) := rfl
theorem fl_4_18 : fl 4 18 = some (4, 2, 0, 0) := rfl
theorem fl_4_22 : fl 4 22 = some (4, 3, 0, 0) := rfl
theorem fl_5_12 : fl 5 12 = some (5, 0, 0, 3) := rfl
theorem fl_5_18 : fl 5 18 = some (5, 1, 0, 3) := rfl
theorem fl_5_22 : fl 5 22 = some (5, 2, 0, 0) := rfl
theorem fl_5_26 : fl 5 26 = some (5, 3, 0, 0) := rfl
theorem fl_5_29 : fl 5 29 = some (5, 4, 0, 0) := rfl
theorem fl_5_32 : fl 5 32 = some (5, 5, 0, 0) := rfl
theorem fl_5_35 : fl 5 35 = some (5, 6, 0, 0) := rfl
theorem fl_3_13 : fl 3 13 = some (3, 0, 0, 3) := rfl
theorem fl_3_17 : fl 3 17 = some (3, 1, 0, 0) := rfl
theorem fl_3_21 : fl 3 21 = some (3, 2, 0, 0) := rfl
theorem fl_0_11 : fl 0 11 = some (0, 0, 0, 3) := rfl
theorem fl_0_16 : fl 0 16 = some (0, 1, 0, 3) := rfl
theorem fl_0_22 : fl 0 22 = some (0, 2, 0, 3) := rfl
theorem fl_0_25 : fl 0 25 = some (0, 3, 0, 3) := rfl
theorem fl_8_12 : fl 8 12 = some (8, 0, 0, 3) := rfl
theorem fl_9_12 : fl 9 12 = some (9, 0, 0, 3) := rfl
theorem fl_9_18 : fl 9 18 = some (9, 1, 0, 3) := rfl
theorem fl_9_22 : fl 9 22 = some (9, 2, 0, 3) := rfl
theorem fl_9_25 : fl 9 25 = some (9, 3, 0, 3) := rfl
theorem fl_9_28 : fl 9 28 = some (9, 4, 0, 1) := rfl
theorem fl_9_32 : fl 9 32 = some (9, 5, 0, 0) := rfl
theorem fl_9_36 : fl 9 36 = some (9, 6, 0, 0) := rfl
theorem fl_6_12 : fl 6 12 = some (6, 0, 0, 3) := rfl
theorem fl_6_18 : fl 6 18 = some (6, 1, 0, 3) := rfl
theorem fl_6_22 : fl 6 22 = some (6, 2, 0, 3) := rfl
theorem fl_6_25 : fl 6 25 = some (6, 3, 0, 3) := rfl
theorem fl_6_28 : fl 6 28 = some (6, 4, 0, 0) := rfl
theorem fl_6_32 : fl 6 32 = some (6, 5, 0, 0) := rfl
theorem fl_6_35 : fl 6 35 = some (6, 6, 0, 0) := rfl
theorem fl_6_38 : fl 6 38 = some (6, 7, 0, 1) := rfl
theorem fl_6_44 : fl 6 44 = some (6, 8, 0, 1) := rfl
theorem fl_2_9 : fl 2 9 = some (2, 0, 0, 3) := rfl
theorem fl_2_15 : fl 2 15 = some (2, 1, 0, 3) := rfl
theorem fl_2_18 : fl 2 18 = some (2, 2, 0, 3) := rfl
theorem fl_2_21 : fl 2 21 = some (2, 3, 0, 3) := rfl
theorem fl_2_24 : fl 2 24 = some (2, 4, 0, 3) := rfl
theorem fl_2_27 : fl 2 27 = some (2, 5, 0, 0) := rfl
theorem fl_1_9 : fl 1 9 = some (1, 0, 0, 0) := rfl
theorem fl_10_10 : fl 10 10 = some (10, 0, 0, 3) := rfl
theorem fl_10_19 : fl 10 19 = some (10, 1, 0, 3) := rfl
theorem fl_10_26 : fl 10 26 = some (10, 2, 0, 3) := rfl
theorem fl_10_33 : fl 10 33 = some (10, 3, 0, 3) := rfl
theorem fl_10_37 : fl 10 37 = some (10, 4, 0, 3) := rfl
theorem fl_10_41 : fl 10 41 = some (10, 5, 0, 3) := rfl
theorem fl_10_48 : fl 10 48 = some (10, 6, 0, 3) := rfl
theorem fl_10_55 : fl 10 55 = some (10, 7, 0, 3) := rfl
theorem fl_10_62 : fl 10 62 = some (10, 8, 0, 3) := rfl
theorem fl_10_69 : fl 10 69 = some (10, 9, 0, 3) := rfl
theorem fl_10_76 : fl 10 76 = some (10, 10, 0, 3) := rfl
theorem fl_10_80 : fl 10 80 = some (10, 11, 0, 0) := rfl
theorem fl_11_1 : fl 11 1 = some (11, 0, 0, 0) := rfl
theorem fl_11_7 : fl 11 7 = some (11, 1, 0, 3) := rfl
theorem fl_11_11 : fl 11 11 = some (11, 2, 0, 0) := rfl
theorem fl_11_18 : fl 11 18 = some (11, 3, 0, 0) := rfl
theorem fl_11_21 : fl 11 21 = some (11, 4, 0, 0) := rfl
theorem fl_11_24 : fl 11 24 = some (11, 5, 0, 0) := rfl
theorem fl_11_27 : fl 11 27 = some (11, 6, 0, 0) := rfl
theorem fl_11_57 : fl 11 57 = some (11, 7, 0, 0) := rfl
theorem fl_11_60 : fl 11 60 = some (11, 8, 0, 0) := rfl
theorem fl_11_34 : fl 11 34 = some (11, 9, 0, 1) := rfl
theorem fl_11_69 : fl 11 69 = some (11, 10, 0, 3) := rfl
theorem fl_11_72 : fl 11 72 = some (11, 11, 0, 3) := rfl
theorem fl_11_75 : fl 11 75 = some (11, 12, 0, 3) := rfl
theorem fl_11_78 : fl 11 78 = some (11, 13, 0, 3) := rfl
theorem fl_11_81 : fl 11 81 = some (11, 14, 0, 3) := rfl
theorem fl_11_84 : fl 11 84 = some (11, 15, 0, 3) := rfl
theorem fl_11_87 : fl 11 87 = some (11, 16, 0, 3) := rfl
theorem fl_11_90 : fl 11 90 = some (11, 17, 0, 3) := rfl
theorem fl_11_94 : fl 11 94 = some (11, 18, 0, 3) := rfl
theorem fl_11_165 : fl 11 165 = some (11, 19, 0, 0) := rfl
theorem fl_11_98 : fl 11 98 = some (11, 20, 0, 3) := rfl
theorem fl_11_237 : fl 11 237 = some (11, 21, 0, 0) := rfl
theorem fl_11_102 : fl 11 102 = some (11, 22, 0, 3) := rfl
theorem fl_11_105 : fl 11 105 = some (11, 23, 0, 3) := rfl
theorem fl_11_249 : fl 11 249 = some (11, 24, 0, 0) := rfl
theorem fl_11_108 : fl 11 108 = some (11, 25, 0, 3) := rfl
theorem fl_11_111 : fl 11 111 = some (11, 26, 0, 3) := rfl
theorem fl_11_271 : fl 11 271 = some (11, 27, 0, 0) := rfl
theorem fl_11_114 : fl 11 114 = some (11, 28, 0, 0) := rfl
theorem fl_11_296 : fl 11 296 = some (11, 29, 0, 0) := rfl
theorem fl_11_117 : fl 11 117 = some (11, 30, 0, 3) := rfl
theorem fl_11_120 : fl 11 120 = some (11, 31, 0, 3) := rfl
theorem fl_11_123 : fl 11 123 = some (11, 32, 0, 3) := rfl
theorem fl_11_311 : fl 11 311 = some (11, 33, 0, 0) := rfl
theorem fl_11_323 : fl 11 323 = some (11, 34, 0, 0) := rfl
theorem fl_11_126 : fl 11 126 = some (11, 35, 0, 3) := rfl
theorem fl_11_129 : fl 11 129 = some (11, 36, 0, 3) := rfl
theorem fl_11_132 : fl 11 132 = some (11, 37, 0, 3) := rfl
theorem fl_10_84 : fl 10 84 = some (7, 1, 1, 0) := rfl
theorem fl_5_48 : fl 5 48 = some (7, 1, 1, 0) := rfl
theorem fl_6_47 : fl 6 47 = some (7, 1, 1, 0) := rfl
theorem fl_9_95 : fl 9 95 = some (7, 1, 1, 0) := rfl
theorem fl_0_41 : fl 0 41 = some (4, 0, 1, 3) := rfl
theorem fl_9_49 : fl 9 49 = some (4, 0, 1, 3) := rfl
theorem fl_8_45 : fl 8 45 = some (4, 0, 1, 3) := rfl
theorem fl_2_64 : fl 2 64 = some (4, 0, 1, 3) := rfl
theorem fl_10_144 : fl 10 144 = some (4, 0, 1, 3) := rfl
theorem fl_0_44 : fl 0 44 = some (4, 1, 1, 3) := rfl
theorem fl_9_52 : fl 9 52 = some (4, 1, 1, 3) := rfl
theorem fl_2_67 : fl 2 67 = some (4, 1, 1, 3) := rfl
theorem fl_10_148 : fl 10 148 = some (4, 1, 1, 3) := rfl
theorem fl_5_38 : fl 5 38 = some (4, 2, 1, 0) := rfl
theorem fl_2_31 : fl 2 31 = some (4, 2, 1, 0) := rfl
theorem fl_10_112 : fl 10 112 = some (4, 2, 1, 0) := rfl
theorem fl_1_43 : fl 1 43 = some (4, 2, 1, 0) := rfl
theorem fl_9_117 : fl 9 117 = some (4, 2, 1, 0) := rfl
theorem fl_5_41 : fl 5 41 = some (4, 3, 1, 0) := rfl
theorem fl_2_40 : fl 2 40 = some (4, 3, 1, 0) := rfl
theorem fl_0_31 : fl 0 31 = some (4, 3, 1, 0) := rfl
theorem fl_8_41 : fl 8 41 = some (4, 3, 1, 0) := rfl
theorem fl_9_81 : fl 9 81 = some (4, 3, 1, 0) := rfl
theorem fl_1_31 : fl 1 31 = some (4, 3, 1, 0) := rfl
theorem fl_10_115 : fl 10 115 = some (4, 3, 1, 0) := rfl
theorem fl_10_102 : fl 10 102 = some (5, 0, 1, 3) := rfl
theorem fl_10_99 : fl 10 99 = some (5, 6, 1, 0) := rfl
theorem fl_10_133 : fl 10 133 = some (3, 2, 1, 0) := rfl
theorem fl_6_102 : fl 6 102 = some (0, 0, 1, 3) := rfl
theorem fl_9_92 : fl 9 92 = some (0, 1, 1, 3) := rfl
theorem fl_10_198 : fl 10 198 = some (9, 6, 1, 0) := rfl
theorem fl_10_231 : fl 10 231 = some (6, 6, 1, 0) := rfl
theorem fl_10_222 : fl 10 222 = some (6, 8, 1, 1) := rfl
theorem ml_14_32 : ml 14 32 = some (0, MX10_feed) := rfl
theorem ml_10_87 : ml 10 87 = some (0, MX7_push) := rfl
theorem ml_14_37 : ml 14 37 = some (0, MX10_end) := rfl
theorem ml_10_91 : ml 10 91 = some (0, MX7_cut) := rfl
theorem ml_14_42 : ml 14 42 = some (0, MX10_net) := rfl
theorem ml_10_95 : ml 10 95 = some (0, MX5_parse) := rfl
theorem ml_5_44 : ml 5 44 = some (0, MX5_skipBlanks) := rfl
theorem ml_5_65 : ml 5 65 = some (0, MX7_byteAt) := rfl
theorem ml_5_53 : ml 5 53 = some (0, MX5_refuse) := rfl
theorem ml_5_57 : ml 5 57 = some (0, MX5_takeToken) := rfl
theorem ml_5_69 : ml 5 69 = some (3, MX10_isSmallLetter) := rfl
theorem ml_5_61 : ml 5 61 = some (0, MX5_accept) := rfl
theorem ml_5_77 : ml 5 77 = some (0, MX5_acceptRow) := rfl
theorem ml_5_80 : ml 5 80 = some (0, MX5_acceptName) := rfl
theorem ml_5_90 : ml 5 90 = some (1, MX5_isName) := rfl
theorem ml_5_94 : ml 5 94 = some (0, MX5_find) := rfl
theorem ml_5_83 : ml 5 83 = some (0, MX5_acceptPoint) := rfl
theorem ml_5_97 : ml 5 97 = some (0, MX4_append) := rfl
theorem ml_4_31 : ml 4 31 = some (0, MX4_hasPoint) := rfl
theorem ml_10_105 : ml 10 105 = some (0, MX4_copyFrom) := rfl
theorem ml_10_109 : ml 10 109 = some (0, MX3_forget) := rfl
theorem ml_14_47 : ml 14 47 = some (0, MX10_fault) := rfl
theorem ml_14_51 : ml 14 51 = some (0, MX10_now) := rfl
theorem ml_10_118 : ml 10 118 = some (0, MX4_usedPoints) := rfl
theorem ml_10_122 : ml 10 122 = some (0, MX4_isJoined) := rfl
theorem ml_4_60 : ml 4 60 = some (0, MX4_spread) := rfl
theorem ml_4_53 : ml 4 53 = some (3, MX10_inSet) := rfl
theorem ml_4_49 : ml 4 49 = some (0, MX4_usedPoints) := rfl
theorem ml_10_126 : ml 10 126 = some (0, MX4_pointsWithExcess) := rfl
theorem ml_4_57 : ml 4 57 = some (0, MX4_excess) := rfl
theorem ml_4_42 : ml 4 42 = some (0, MX4_outOf) := rfl
theorem ml_4_46 : ml 4 46 = some (0, MX4_into) := rfl
theorem ml_10_130 : ml 10 130 = some (0, MX4_isStrong) := rfl
theorem ml_14_68 : ml 14 68 = some (0, MX10_kind) := rfl
theorem ml_10_162 : ml 10 162 = some (0, MX4_shape) := rfl
theorem ml_4_64 : ml 4 64 = some (0, MX4_isJoined) := rfl
theorem ml_14_72 : ml 14 72 = some (0, MX10_ends) := rfl
theorem ml_10_165 : ml 10 165 = some (0, MX4_start) := rfl
theorem ml_4_68 : ml 4 68 = some (0, MX4_pointOfExcess) := rfl
theorem ml_10_168 : ml 10 168 = some (0, MX4_finish) := rfl
theorem ml_14_76 : ml 14 76 = some (0, MX10_trees) := rfl
theorem ml_10_171 : ml 10 171 = some (0, MX4_isUsed) := rfl
theorem ml_10_174 : ml 10 174 = some (0, MX8_count) := rfl
theorem ml_8_19 : ml 8 19 = some (0, MX8_countWithin) := rfl
theorem ml_8_23 : ml 8 23 = some (0, MX0_load) := rfl
theorem ml_0_28 : ml 0 28 = some (0, MX0_clear) := rfl
theorem ml_0_37 : ml 0 37 = some (3, MX10_inSet) := rfl
theorem ml_0_47 : ml 0 47 = some (0, MX0_shift) := rfl
theorem ml_8_27 : ml 8 27 = some (0, MX4_usedPoints) := rfl
theorem ml_8_33 : ml 8 33 = some (0, MX0_treesTo) := rfl
theorem ml_0_51 : ml 0 51 = some (0, MX0_determinant) := rfl
theorem ml_14_84 : ml 14 84 = some (0, MX10_walks) := rfl
theorem ml_10_186 : ml 10 186 = some (0, MX9_count) := rfl
theorem ml_9_39 : ml 9 39 = some (0, MX4_shape) := rfl
theorem ml_9_45 : ml 9 45 = some (0, MX0_load) := rfl
theorem ml_9_55 : ml 9 55 = some (0, MX0_shift) := rfl
theorem ml_9_59 : ml 9 59 = some (0, MX4_finish) := rfl
theorem ml_9_63 : ml 9 63 = some (0, MX0_trailsTo) := rfl
theorem ml_0_55 : ml 0 55 = some (3, MX10_factorial) := rfl
theorem ml_0_58 : ml 0 58 = some (0, MX0_treesTo) := rfl
theorem ml_14_95 : ml 14 95 = some (0, MX10_walkAt) := rfl
theorem ml_10_195 : ml 10 195 = some (0, MX9_seenAt) := rfl
theorem ml_14_99 : ml 14 99 = some (0, MX10_lasts) := rfl
theorem ml_14_103 : ml 14 103 = some (0, MX10_rank) := rfl
theorem ml_10_201 : ml 10 201 = some (0, MX9_lookAtTape) := rfl
theorem ml_9_78 : ml 9 78 = some (0, MX4_start) := rfl
theorem ml_9_102 : ml 9 102 = some (0, MX7_byteAt) := rfl
theorem ml_9_105 : ml 9 105 = some (0, MX4_hasArc) := rfl
theorem ml_9_88 : ml 9 88 = some (3, MX10_inSet) := rfl
theorem ml_9_75 : ml 9 75 = some (0, MX9_lookAtPath) := rfl
theorem ml_9_109 : ml 9 109 = some (0, MX9_rankOfPath) := rfl
theorem ml_14_107 : ml 14 107 = some (0, MX10_by) := rfl
theorem ml_10_205 : ml 10 205 = some (0, MX9_countLeavingBy) := rfl
theorem ml_9_113 : ml 9 113 = some (0, MX9_takeLasts) := rfl
theorem ml_9_130 : ml 9 130 = some (0, MX4_usedPoints) := rfl
theorem ml_9_133 : ml 9 133 = some (0, MX9_comesTo) := rfl
theorem ml_9_120 : ml 9 120 = some (0, MX4_outOf) := rfl
theorem ml_9_123 : ml 9 123 = some (3, MX10_factorial) := rfl
theorem ml_14_111 : ml 14 111 = some (0, MX10_first) := rfl
theorem ml_10_208 : ml 10 208 = some (0, MX9_firstLeavingBy) := rfl
theorem ml_9_126 : ml 9 126 = some (0, MX9_leastFree) := rfl
theorem ml_14_115 : ml 14 115 = some (0, MX10_drawn) := rfl
theorem ml_10_211 : ml 10 211 = some (0, MX1_begin) := rfl
theorem ml_10_214 : ml 10 214 = some (0, MX1_evenBelow) := rfl
theorem ml_1_22 : ml 1 22 = some (0, MX1_wideDraw) := rfl
theorem ml_1_16 : ml 1 16 = some (0, MX1_draw) := rfl
theorem ml_10_189 : ml 10 189 = some (0, MX9_lookAtRank) := rfl
theorem ml_9_67 : ml 9 67 = some (0, MX9_count) := rfl
theorem ml_9_71 : ml 9 71 = some (0, MX9_buildPath) := rfl
theorem ml_9_84 : ml 9 84 = some (0, MX9_chooseNext) := rfl
theorem ml_14_119 : ml 14 119 = some (0, MX10_words) := rfl
theorem ml_10_218 : ml 10 218 = some (0, MX6_tell) := rfl
theorem ml_6_52 : ml 6 52 = some (0, MX7_byteAt) := rfl
theorem ml_6_56 : ml 6 56 = some (3, MX10_isSmallLetter) := rfl
theorem ml_6_60 : ml 6 60 = some (1, MJ6_bitCount) := rfl
theorem ml_6_65 : ml 6 65 = some (0, MX6_takeLetters) := rfl
theorem ml_6_87 : ml 6 87 = some (3, MX10_inSet) := rfl
theorem ml_6_69 : ml 6 69 = some (0, MX6_indexOf) := rfl
theorem ml_6_72 : ml 6 72 = some (0, MX6_loadTold) := rfl
theorem ml_6_91 : ml 6 91 = some (0, MX0_clear) := rfl
theorem ml_6_94 : ml 6 94 = some (0, MX0_shift) := rfl
theorem ml_6_75 : ml 6 75 = some (0, MX6_goal) := rfl
theorem ml_6_79 : ml 6 79 = some (0, MX0_spellingsTo) := rfl
theorem ml_0_62 : ml 0 62 = some (0, MX0_trailsTo) := rfl
theorem ml_6_83 : ml 6 83 = some (0, MX6_countAhead) := rfl
theorem ml_6_98 : ml 6 98 = some (0, MX6_spellingsOver) := rfl
theorem ml_14_123 : ml 14 123 = some (0, MX10_wordRank) := rfl
theorem ml_14_130 : ml 14 130 = some (0, MX10_letterAt) := rfl
theorem ml_10_234 : ml 10 234 = some (0, MX6_seenAt) := rfl
theorem ml_14_134 : ml 14 134 = some (0, MX10_braid) := rfl
theorem ml_10_235 : ml 10 235 = some (0, MX3_mark) := rfl
theorem ml_3_25 : ml 3 25 = some (0, MX4_copyFrom) := rfl
theorem ml_10_238 : ml 10 238 = some (0, MX4_weave) := rfl
theorem ml_4_38 : ml 4 38 = some (0, MX4_append) := rfl
theorem ml_10_242 : ml 10 242 = some (0, MX3_keep) := rfl
theorem ml_14_138 : ml 14 138 = some (0, MX10_again) := rfl
theorem ml_10_245 : ml 10 245 = some (0, MX2_fewestAgain) := rfl
theorem ml_2_36 : ml 2 36 = some (0, MX4_excess) := rfl
theorem ml_2_43 : ml 2 43 = some (0, MX2_sendAll) := rfl
theorem ml_2_48 : ml 2 48 = some (0, MX2_hasSurplus) := rfl
theorem ml_2_51 : ml 2 51 = some (0, MX2_findDistances) := rfl
theorem ml_2_55 : ml 2 55 = some (0, MX2_nearestLacking) := rfl
theorem ml_2_59 : ml 2 59 = some (0, MX2_sendOne) := rfl
theorem ml_14_142 : ml 14 142 = some (0, MX10_lack) := rfl
theorem ml_10_249 : ml 10 249 = some (0, MX4_excess) := rfl
theorem ml_14_146 : ml 14 146 = some (0, MX10_righted) := rfl
theorem ml_10_258 : ml 10 258 = some (0, MX2_leastTurned) := rfl
theorem ml_10_261 : ml 10 261 = some (1, MJ6_bitCount) := rfl
theorem ml_14_150 : ml 14 150 = some (0, MX10_add) := rfl
theorem ml_10_151 : ml 10 151 = some (0, MX4_hasPoint) := rfl
theorem ml_10_266 : ml 10 266 = some (0, MX4_append) := rfl
theorem ml_14_154 : ml 14 154 = some (0, MX10_drop) := rfl
theorem ml_10_134 : ml 10 134 = some (0, MX4_hasArc) := rfl
theorem ml_10_269 : ml 10 269 = some (0, MX4_remove) := rfl
theorem ml_4_35 : ml 4 35 = some (0, MX4_hasArc) := rfl
theorem ml_14_158 : ml 14 158 = some (0, MX10_turn) := rfl
theorem ml_10_272 : ml 10 272 = some (0, MX4_flip) := rfl
theorem ml_14_162 : ml 14 162 = some (0, MX10_deeds) := rfl
theorem ml_10_275 : ml 10 275 = some (0, MX1_doDeed) := rfl
theorem ml_1_27 : ml 1 27 = some (0, MX1_doAppend) := rfl
theorem ml_1_46 : ml 1 46 = some (0, MX4_append) := rfl
theorem ml_1_36 : ml 1 36 = some (0, MX4_remove) := rfl
theorem ml_1_40 : ml 1 40 = some (0, MX4_flip) := rfl
theorem ml_14_166 : ml 14 166 = some (0, MX10_undo) := rfl
theorem ml_10_279 : ml 10 279 = some (0, MX3_stepBack) := rfl
theorem ml_14_170 : ml 14 170 = some (0, MX10_image) := rfl
theorem ml_14_174 : ml 14 174 = some (0, MX10_restore) := rfl
theorem ml_14_7 : ml 14 7 = some (0, MX10_arc) := rfl
theorem ml_14_15 : ml 14 15 = some (0, MX10_degree) := rfl
theorem ml_10_156 : ml 10 156 = some (0, MX4_outOf) := rfl
theorem ml_10_159 : ml 10 159 = some (0, MX4_into) := rfl
theorem ml_14_18 : ml 14 18 = some (0, MX10_tree) := rfl
theorem ml_10_180 : ml 10 180 = some (0, MX8_ofNumber) := rfl
theorem ml_8_37 : ml 8 37 = some (0, MX8_count) := rfl
theorem ml_8_49 : ml 8 49 = some (3, MX10_inSet) := rfl
theorem ml_8_53 : ml 8 53 = some (1, MX8_withOneFrom) := rfl
theorem ml_14_21 : ml 14 21 = some (0, MX10_walk) := rfl
theorem ml_14_25 : ml 14 25 = some (0, MX10_word) := rfl
theorem ml_10_226 : ml 10 226 = some (0, MX6_lookAtRank) := rfl
theorem ml_14_62 : ml 14 62 = some (0, MX11_thrown) := rfl
theorem ml_14_36 : ml 14 36 = some (0, MX11_feed) := rfl
theorem ml_11_14 : ml 11 14 = some (0, MX11_lay) := rfl
theorem ml_14_41 : ml 14 41 = some (0, MX11_end) := rfl
theorem ml_14_46 : ml 14 46 = some (0, MX11_net) := rfl
theorem ml_11_138 : ml 11 138 = some (0, MX11_next) := rfl
theorem ml_11_30 : ml 11 30 = some (1, MX11_isLetter) := rfl
theorem ml_11_38 : ml 11 38 = some (0, MX11_tapeAt) := rfl
theorem ml_11_50 : ml 11 50 = some (0, MX11_isPointWord) := rfl
theorem ml_11_46 : ml 11 46 = some (1, MX11_spelt) := rfl
theorem ml_11_152 : ml 11 152 = some (0, MX11_readPoint) := rfl
theorem ml_11_135 : ml 11 135 = some (0, MX11_bad) := rfl
theorem ml_11_141 : ml 11 141 = some (0, MX11_isName) := rfl
theorem ml_11_54 : ml 11 54 = some (0, MX11_isArcWord) := rfl
theorem ml_11_144 : ml 11 144 = some (0, MX11_named) := rfl
theorem ml_11_155 : ml 11 155 = some (0, MX11_readArc) := rfl
theorem ml_11_148 : ml 11 148 = some (1, MX11_goes) := rfl
theorem ml_11_158 : ml 11 158 = some (0, MX11_readEnd) := rfl
theorem ml_11_161 : ml 11 161 = some (1, MX11_copy) := rfl
theorem ml_14_50 : ml 14 50 = some (0, MX11_fault) := rfl
theorem ml_14_55 : ml 14 55 = some (0, MX11_now) := rfl
theorem ml_11_168 : ml 11 168 = some (0, MX11_points) := rfl
theorem ml_11_175 : ml 11 175 = some (0, MX11_arcs) := rfl
theorem ml_11_186 : ml 11 186 = some (1, MX11_used) := rfl
theorem ml_11_200 : ml 11 200 = some (1, MX11_isJoined) := rfl
theorem ml_11_182 : ml 11 182 = some (1, MX11_reach) := rfl
theorem ml_11_178 : ml 11 178 = some (1, MX11_has) := rfl
theorem ml_11_207 : ml 11 207 = some (1, MX11_offs) := rfl
theorem ml_11_197 : ml 11 197 = some (1, MX11_off) := rfl
theorem ml_11_190 : ml 11 190 = some (1, MX11_out) := rfl
theorem ml_11_194 : ml 11 194 = some (1, MX11_in) := rfl
theorem ml_11_210 : ml 11 210 = some (1, MX11_isStrong) := rfl
theorem ml_14_61 : ml 14 61 = some (0, MX11_arc) := rfl
theorem ml_11_213 : ml 11 213 = some (0, MX11_isArc) := rfl
theorem ml_11_171 : ml 11 171 = some (1, MX11_isIn) := rfl
theorem ml_11_216 : ml 11 216 = some (0, MX11_refuse) := rfl
theorem ml_14_67 : ml 14 67 = some (0, MX11_degree) := rfl
theorem ml_11_219 : ml 11 219 = some (0, MX11_isPoint) := rfl
theorem ml_14_71 : ml 14 71 = some (0, MX11_kind) := rfl
theorem ml_11_222 : ml 11 222 = some (1, MX11_kindOf) := rfl
theorem ml_11_204 : ml 11 204 = some (1, MX11_lacking) := rfl
theorem ml_14_75 : ml 14 75 = some (0, MX11_ends) := rfl
theorem ml_11_228 : ml 11 228 = some (1, MX11_start) := rfl
theorem ml_11_225 : ml 11 225 = some (1, MX11_only) := rfl
theorem ml_11_231 : ml 11 231 = some (1, MX11_last) := rfl
theorem ml_14_80 : ml 14 80 = some (0, MX11_trees) := rfl
theorem ml_11_246 : ml 11 246 = some (0, MX11_laysTrees) := rfl
theorem ml_11_240 : ml 11 240 = some (0, MX11_chooses) := rfl
theorem ml_11_234 : ml 11 234 = some (0, MX11_isTree) := rfl
theorem ml_14_83 : ml 14 83 = some (0, MX11_tree) := rfl
theorem ml_14_88 : ml 14 88 = some (0, MX11_walks) := rfl
theorem ml_11_267 : ml 11 267 = some (0, MX11_laysWalks) := rfl
theorem ml_11_260 : ml 11 260 = some (0, MX11_laysWays) := rfl
theorem ml_11_252 : ml 11 252 = some (0, MX11_where) := rfl
theorem ml_11_256 : ml 11 256 = some (0, MX11_mayGo) := rfl
theorem ml_11_264 : ml 11 264 = some (0, MX11_begun) := rfl
theorem ml_14_94 : ml 14 94 = some (0, MX11_walk) := rfl
theorem ml_11_277 : ml 11 277 = some (0, MX11_laysRank) := rfl
theorem ml_11_274 : ml 11 274 = some (1, MX11_bits) := rfl
theorem ml_11_281 : ml 11 281 = some (0, MX11_looks) := rfl
theorem ml_14_98 : ml 14 98 = some (0, MX11_walkAt) := rfl
theorem ml_14_102 : ml 14 102 = some (0, MX11_lasts) := rfl
theorem ml_14_106 : ml 14 106 = some (0, MX11_rank) := rfl
theorem ml_11_285 : ml 11 285 = some (0, MX11_isWalk) := rfl
theorem ml_11_288 : ml 11 288 = some (0, MX11_ahead) := rfl
theorem ml_14_110 : ml 14 110 = some (0, MX11_by) := rfl
theorem ml_11_292 : ml 11 292 = some (0, MX11_laysBy) := rfl
theorem ml_14_114 : ml 14 114 = some (0, MX11_first) := rfl
theorem ml_14_118 : ml 14 118 = some (0, MX11_drawn) := rfl
theorem ml_11_305 : ml 11 305 = some (0, MX11_drawsMuch) := rfl
theorem ml_11_300 : ml 11 300 = some (0, MX11_draw) := rfl
theorem ml_14_122 : ml 14 122 = some (0, MX11_words) := rfl
theorem ml_11_317 : ml 11 317 = some (0, MX11_isGood) := rfl
theorem ml_11_308 : ml 11 308 = some (0, MX11_unlike) := rfl
theorem ml_11_320 : ml 11 320 = some (0, MX11_laysLetters) := rfl
theorem ml_11_314 : ml 11 314 = some (0, MX11_pointOf) := rfl
theorem ml_14_126 : ml 14 126 = some (0, MX11_wordRank) := rfl
theorem ml_14_129 : ml 14 129 = some (0, MX11_word) := rfl
theorem ml_14_133 : ml 14 133 = some (0, MX11_letterAt) := rfl
theorem ml_14_137 : ml 14 137 = some (0, MX11_braid) := rfl
theorem ml_11_326 : ml 11 326 = some (0, MX11_snap) := rfl
theorem ml_14_141 : ml 14 141 = some (0, MX11_again) := rfl
theorem ml_11_332 : ml 11 332 = some (0, MX11_laysFar) := rfl
theorem ml_11_329 : ml 11 329 = some (0, MX11_extra) := rfl
theorem ml_11_335 : ml 11 335 = some (0, MX11_goesAgain) := rfl
theorem ml_14_145 : ml 14 145 = some (0, MX11_lack) := rfl
theorem ml_14_149 : ml 14 149 = some (0, MX11_righted) := rfl
theorem ml_11_338 : ml 11 338 = some (0, MX11_isRight) := rfl
theorem ml_14_153 : ml 14 153 = some (0, MX11_add) := rfl
theorem ml_14_157 : ml 14 157 = some (0, MX11_drop) := rfl
theorem ml_11_341 : ml 11 341 = some (1, MX11_drops) := rfl
theorem ml_14_161 : ml 14 161 = some (0, MX11_turn) := rfl
theorem ml_11_345 : ml 11 345 = some (1, MX11_turns) := rfl
theorem ml_14_165 : ml 14 165 = some (0, MX11_deeds) := rfl
theorem ml_11_348 : ml 11 348 = some (0, MX11_does) := rfl
theorem ml_11_351 : ml 11 351 = some (0, MX11_stay) := rfl
theorem ml_14_169 : ml 14 169 = some (0, MX11_undo) := rfl
theorem ml_14_173 : ml 14 173 = some (0, MX11_image) := rfl
theorem ml_14_177 : ml 14 177 = some (0, MX11_restore) := rfl
theorem ki_8_18 : ki 8 18 = some (65535) := rfl
theorem ki_1_15 : ki 1 15 = some (1103515245) := rfl
theorem ki_1_26 : ki 1 26 = some (1000000) := rfl
theorem ki_12_265 : ki 12 265 = some (1431655765) := rfl
theorem ki_12_266 : ki 12 266 = some (858993459) := rfl
theorem ki_12_267 : ki 12 267 = some (252645135) := rfl
theorem ki_2_63 : ki 2 63 = some (268435456) := rfl
theorem ki_2_47 : ki 2 47 = some (65536) := rfl
theorem ki_11_101 : ki 11 101 = some (65536) := rfl
theorem ki_11_299 : ki 11 299 = some (1103515245) := rfl
theorem kl_6_42 : kl 6 42 = some (-1) := rfl
theorem kl_5_73 : kl 5 73 = some (32) := rfl
theorem kl_5_75 : kl 5 75 = some (-1) := rfl
theorem kl_5_86 : kl 5 86 = some (17278420) := rfl
theorem kl_5_88 : kl 5 88 = some (1603) := rfl
theorem kl_10_178 : kl 10 178 = some (-1) := rfl
theorem kl_9_100 : kl 9 100 = some (-1) := rfl
theorem kl_1_20 : kl 1 20 = some (4611686018427387904) := rfl
theorem kl_11_42 : kl 11 42 = some (27) := rfl
theorem kl_11_44 : kl 11 44 = some (96) := rfl
theorem kl_11_244 : kl 11 244 = some (-1) := rfl
theorem kl_11_303 : kl 11 303 = some (4611686018427387904) := rfl
theorem kl_14_89 : kl 14 89 = some (4294967295) := rfl
def flH : List Nat := [109, 110, 133, 139, 144, 150, 167, 169, 170, 171, 172, 173, 174, 203, 204, 205, 230, 232, 234, 235, 246, 258, 259, 260, 261, 262, 263, 264, 290, 291, 292, 293, 294, 295, 296, 298, 299, 326, 327, 328, 329, 330, 331, 351, 355, 356, 357, 358, 359, 360, 361, 362, 363, 364, 365, 366, 1043, 1044, 1045, 1046, 1047, 1048, 1049, 1050, 1051, 1052, 1053, 1054, 1055, 1056, 1057, 1058, 1059, 1060, 1061, 1062, 1063, 1064, 1065, 1066, 1067, 1068, 1069, 1070, 1071, 1072, 1073, 1074, 1075, 1076, 1077, 1078, 1079, 1080, 111, 112, 113, 114, 134, 135, 136, 137, 138, 140, 141, 142, 143, 145, 146, 147, 148, 149, 151, 152, 153, 154, 155, 156, 157, 168, 175, 206, 231, 233, 265, 297, 300]
def mlH_0 : List (Nat × Nat × Nat × Nat × Nat) := [(392, 395, 76, 393, 394), (396, 399, 77, 397, 398), (400, 403, 76, 401, 402), (404, 407, 77, 405, 406), (408, 411, 76, 409, 410), (412, 415, 78, 413, 414), (416, 419, 78, 418, 0), (420, 423, 77, 421, 422), (424, 427, 78, 426, 1), (428, 431, 78, 430, 2), (432, 434, 76, 433, 0), (437, 440, 78, 439, 3), (441, 444, 78, 443, 4), (447, 450, 78, 449, 5), (451, 453, 78, 452, 0), (454, 457, 78, 456, 6), (458, 461, 78, 460, 7), (462, 465, 79, 463, 464), (466, 469, 79, 467, 468), (470, 473, 79, 471, 472)]
def mlH_1 : List (Nat × Nat × Nat × Nat × Nat) := [(477, 480, 80, 478, 479), (481, 484, 76, 482, 483), (485, 488, 76, 486, 487), (489, 492, 79, 490, 491), (493, 496, 79, 494, 495), (497, 500, 79, 498, 499), (501, 503, 76, 502, 0), (504, 492, 79, 490, 491), (505, 508, 79, 506, 507), (509, 512, 79, 510, 511), (513, 516, 79, 514, 515), (517, 520, 79, 518, 519), (521, 524, 79, 522, 523), (525, 528, 76, 526, 527), (529, 532, 79, 530, 531), (533, 496, 79, 494, 495), (534, 537, 76, 535, 536), (538, 541, 79, 539, 540), (542, 545, 79, 544, 8), (546, 549, 79, 547, 548)]
def mlH_2 : List (Nat × Nat × Nat × Nat × Nat) := [(550, 553, 76, 551, 552), (554, 557, 79, 555, 556), (558, 561, 81, 559, 560), (563, 566, 81, 565, 9), (567, 570, 82, 568, 569), (571, 574, 82, 572, 573), (575, 503, 76, 502, 0), (576, 579, 82, 577, 578), (580, 492, 79, 490, 491), (581, 584, 82, 582, 583), (585, 588, 82, 587, 10), (590, 593, 76, 591, 592), (594, 597, 83, 595, 596), (598, 532, 79, 530, 531), (599, 570, 82, 568, 569), (600, 579, 82, 577, 578), (601, 549, 79, 547, 548), (602, 605, 82, 603, 604), (606, 608, 76, 607, 0), (611, 584, 82, 582, 583)]
def mlH_3 : List (Nat × Nat × Nat × Nat × Nat) := [(612, 615, 76, 613, 614), (616, 619, 83, 617, 618), (620, 623, 76, 621, 622), (624, 627, 76, 625, 626), (628, 631, 83, 629, 630), (633, 541, 79, 539, 540), (634, 423, 77, 421, 422), (635, 638, 79, 636, 637), (639, 503, 76, 502, 0), (640, 643, 83, 642, 11), (644, 647, 83, 646, 12), (648, 651, 76, 649, 650), (652, 655, 83, 653, 654), (656, 659, 83, 658, 13), (660, 492, 79, 490, 491), (661, 664, 83, 663, 14), (665, 516, 79, 514, 515), (666, 608, 76, 607, 0), (667, 670, 76, 668, 669), (671, 674, 83, 672, 673)]
def mlH_4 : List (Nat × Nat × Nat × Nat × Nat) := [(675, 678, 83, 677, 15), (679, 682, 76, 680, 681), (683, 686, 86, 684, 685), (687, 690, 86, 688, 689), (692, 695, 86, 694, 16), (696, 699, 86, 698, 17), (702, 705, 83, 703, 704), (706, 597, 83, 595, 596), (707, 710, 83, 709, 18), (711, 714, 83, 713, 19), (715, 718, 76, 716, 717), (719, 722, 84, 720, 721), (723, 423, 77, 421, 422), (724, 434, 76, 433, 0), (725, 727, 93, 726, 0), (731, 734, 84, 733, 20), (735, 503, 76, 502, 0), (736, 739, 84, 738, 21), (740, 743, 84, 742, 22), (744, 574, 82, 572, 573)]
def mlH_5 : List (Nat × Nat × Nat × Nat × Nat) := [(745, 579, 82, 577, 578), (746, 749, 84, 748, 23), (750, 753, 82, 751, 752), (754, 605, 82, 603, 604), (755, 758, 84, 757, 24), (759, 762, 84, 761, 25), (763, 766, 76, 764, 765), (767, 770, 76, 768, 769), (771, 774, 84, 772, 773), (775, 778, 76, 776, 777), (779, 782, 80, 780, 781), (783, 473, 79, 471, 472), (784, 787, 79, 785, 786), (788, 465, 79, 463, 464), (789, 792, 80, 790, 791), (796, 799, 76, 797, 798), (800, 803, 85, 801, 802), (804, 512, 79, 510, 511), (805, 808, 85, 807, 26), (809, 812, 85, 811, 27)]
def mlH_6 : List (Nat × Nat × Nat × Nat × Nat) := [(813, 816, 85, 815, 28), (818, 821, 85, 820, 29), (822, 825, 85, 824, 30), (826, 829, 76, 827, 828), (830, 512, 79, 510, 511), (834, 837, 76, 835, 836), (838, 841, 85, 839, 840), (843, 727, 93, 726, 0), (844, 847, 76, 845, 846), (848, 469, 79, 467, 468), (849, 465, 79, 463, 464), (850, 853, 76, 851, 852), (854, 638, 79, 636, 637), (855, 858, 79, 856, 857), (859, 638, 79, 636, 637), (860, 863, 76, 861, 862), (864, 867, 79, 865, 866), (868, 871, 76, 869, 870), (872, 875, 86, 873, 874), (876, 879, 86, 878, 31)]
def mlH_7 : List (Nat × Nat × Nat × Nat × Nat) := [(880, 465, 79, 463, 464), (881, 858, 79, 856, 857), (882, 867, 79, 865, 866), (883, 886, 76, 884, 885), (887, 890, 80, 888, 889), (891, 894, 76, 892, 893), (895, 898, 76, 896, 897), (903, 906, 76, 904, 905), (976, 979, 76, 977, 978), (981, 516, 79, 514, 515), (982, 520, 79, 518, 519), (986, 989, 76, 987, 988), (990, 993, 81, 991, 992), (994, 561, 81, 559, 560), (995, 503, 76, 502, 0), (996, 998, 81, 997, 0), (1003, 1006, 76, 1004, 1005), (1011, 1014, 76, 1012, 1013), (1015, 1018, 84, 1016, 1017), (1020, 1023, 87, 1021, 1022)]
def mlH_8 : List (Nat × Nat × Nat × Nat × Nat) := [(1024, 1027, 87, 1025, 1026), (1028, 1032, 87, 1030, 33), (1033, 1036, 87, 1034, 1035), (1158, 1161, 87, 1159, 1160), (1162, 1165, 87, 1164, 34), (1166, 1168, 87, 1167, 0), (1169, 1172, 87, 1171, 35), (1175, 1178, 87, 1177, 36), (1179, 1181, 87, 1180, 0), (1182, 1185, 87, 1184, 37), (1186, 1189, 87, 1188, 38), (1190, 1193, 87, 1192, 39), (1194, 1197, 87, 1196, 40), (1198, 1201, 87, 1200, 41), (1202, 1205, 87, 1204, 42), (1206, 1208, 87, 1207, 0), (1209, 1212, 87, 1211, 43), (1213, 1215, 87, 1214, 0), (1216, 1219, 87, 1217, 1218), (1220, 1223, 87, 1221, 1222)]
def mlH_9 : List (Nat × Nat × Nat × Nat × Nat) := [(1224, 1227, 87, 1226, 44), (1228, 1231, 87, 1230, 45), (1232, 1234, 87, 1233, 0), (1235, 1237, 87, 1236, 0), (1238, 1240, 87, 1239, 0), (1241, 1243, 87, 1242, 0), (1244, 1246, 87, 1245, 0), (1247, 1249, 87, 1248, 0), (1250, 1252, 87, 1251, 0), (1253, 1255, 87, 1254, 0), (1256, 1258, 87, 1257, 0), (1259, 1262, 87, 1260, 1261), (1263, 1266, 87, 1265, 46), (1267, 1269, 87, 1268, 0), (1270, 1273, 87, 1272, 47), (1274, 1277, 87, 1275, 1276), (1278, 1281, 87, 1280, 48), (1282, 1285, 87, 1283, 1284), (1286, 1288, 87, 1287, 0), (1289, 1291, 87, 1290, 0)]
def mlH_10 : List (Nat × Nat × Nat × Nat × Nat) := [(1292, 1295, 87, 1293, 1294), (1296, 1298, 87, 1297, 0), (1299, 1301, 87, 1300, 0), (1302, 1304, 87, 1303, 0), (1305, 1308, 87, 1306, 1307), (1310, 1313, 87, 1312, 49), (1314, 1317, 87, 1316, 50), (1318, 1321, 87, 1320, 51), (1322, 1325, 87, 1323, 1324), (1326, 1329, 87, 1327, 1328), (1330, 1333, 87, 1332, 52), (1334, 1337, 87, 1336, 53), (1338, 1341, 87, 1340, 54), (1342, 1345, 87, 1344, 55), (1346, 1349, 87, 1348, 56), (1350, 1353, 87, 1351, 1352), (1354, 1357, 87, 1356, 57), (1358, 1360, 87, 1359, 0), (1361, 1364, 87, 1363, 58), (1365, 1368, 87, 1366, 1367)]
def mlH_11 : List (Nat × Nat × Nat × Nat × Nat) := [(1369, 1372, 87, 1370, 1371), (1373, 1376, 87, 1374, 1375), (1377, 1380, 87, 1379, 59), (1381, 1384, 87, 1383, 60), (1385, 1388, 87, 1386, 1387), (1389, 1392, 87, 1391, 61), (1393, 1396, 87, 1394, 1395), (1397, 1400, 87, 1398, 1399), (1402, 1405, 87, 1404, 62), (1406, 1409, 87, 1408, 63), (1411, 1414, 87, 1412, 1413), (1415, 1418, 87, 1417, 64), (1419, 1422, 87, 1421, 65), (1423, 1426, 87, 1425, 66), (1427, 1430, 87, 1429, 67), (1431, 1434, 87, 1432, 1433), (1435, 1438, 87, 1436, 1437), (1439, 1442, 87, 1440, 1441), (1443, 1446, 87, 1444, 1445), (1447, 1450, 87, 1449, 68)]
def mlH_12 : List (Nat × Nat × Nat × Nat × Nat) := [(1451, 1454, 87, 1452, 1453), (1455, 1458, 87, 1457, 69), (1459, 1462, 87, 1461, 70), (1463, 1466, 87, 1465, 71), (1467, 1470, 87, 1468, 1469), (1471, 1474, 87, 1472, 1473), (1475, 1478, 87, 1477, 72), (1479, 1482, 87, 1480, 1481), (1483, 1486, 87, 1484, 1485), (1487, 1489, 87, 1488, 0), (1490, 1493, 87, 1491, 1492), (1494, 1496, 87, 1495, 0), (1497, 1500, 87, 1498, 1499), (1501, 1504, 87, 1503, 73), (1505, 1508, 87, 1507, 74), (1509, 1512, 87, 1510, 1511), (1513, 1516, 87, 1514, 1515), (1517, 1520, 87, 1518, 1519)]
