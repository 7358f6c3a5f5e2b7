def mX0_clear : gM := (yX0_clear, cX0_clear, 1, none, 0, 0, 0)
set_option maxRecDepth 100000 in
theorem kX0_clear : gMc mX0_clear 0 := ⟨g_in 485 (by rfl) rfl, g_in 71 (by decide +kernel) rfl, by decide +kernel⟩
def mX0_become : gM := (yX0_become, cX0_become, 2, none, 1, 0, 0)
set_option maxRecDepth 100000 in
theorem kX0_become : gMc mX0_become 1 := ⟨g_in 940 (by rfl) rfl, g_in 71 (by decide +kernel) rfl, by decide +kernel⟩
def mX0_mayBecome : gM := (yX0_mayBecome, cX0_mayBecome, 3, some .boolean, 0, 0, 0)
set_option maxRecDepth 100000 in
theorem kX0_mayBecome : gMc mX0_mayBecome 2 := ⟨g_in 704 (by rfl) rfl, g_in 71 (by decide +kernel) rfl, by decide +kernel⟩
def mX0_start : gM := (yX0_start, cX0_start, 2, some .int, 0, 0, 0)
set_option maxRecDepth 100000 in
theorem kX0_start : gMc mX0_start 1 := ⟨g_in 518 (by rfl) rfl, g_in 71 (by decide +kernel) rfl, by decide +kernel⟩
def mX0_end : gM := (yX0_end, cX0_end, 2, some .int, 0, 0, 0)
set_option maxRecDepth 100000 in
theorem kX0_end : gMc mX0_end 1 := ⟨g_in 522 (by rfl) rfl, g_in 71 (by decide +kernel) rfl, by decide +kernel⟩
def mX0_printed : gM := (yX0_printed, cX0_printed, 1, some .int, 1, 0, 0)
set_option maxRecDepth 100000 in
theorem kX0_printed : gMc mX0_printed 0 := ⟨g_in 548 (by rfl) rfl, g_in 71 (by decide +kernel) rfl, by decide +kernel⟩
def mX0_drafted : gM := (yX0_drafted, cX0_drafted, 1, some .int, 2, 0, 0)
set_option maxRecDepth 100000 in
theorem kX0_drafted : gMc mX0_drafted 0 := ⟨g_in 552 (by rfl) rfl, g_in 71 (by decide +kernel) rfl, by decide +kernel⟩
def mX0_append : gM := (yX0_append, cX0_append, 2, none, 0, 0, 0)
set_option maxRecDepth 100000 in
theorem kX0_append : gMc mX0_append 1 := ⟨g_in 720 (by rfl) rfl, g_in 71 (by decide +kernel) rfl, by decide +kernel⟩
def mX0_takeLast : gM := (yX0_takeLast, cX0_takeLast, 1, some .int, 0, 0, 0)
set_option maxRecDepth 100000 in
theorem kX0_takeLast : gMc mX0_takeLast 0 := ⟨g_in 728 (by rfl) rfl, g_in 71 (by decide +kernel) rfl, by decide +kernel⟩
def mX0_closeNumber : gM := (yX0_closeNumber, cX0_closeNumber, 1, none, 0, 0, 0)
set_option maxRecDepth 100000 in
theorem kX0_closeNumber : gMc mX0_closeNumber 0 := ⟨g_in 752 (by rfl) rfl, g_in 71 (by decide +kernel) rfl, by decide +kernel⟩
def mX0_sceneOf : gM := (yX0_sceneOf, cX0_sceneOf, 4, some .int, 1, 0, 0)
set_option maxRecDepth 100000 in
theorem kX0_sceneOf : gMc mX0_sceneOf 2 := ⟨g_in 774 (by rfl) rfl, g_in 71 (by decide +kernel) rfl, by decide +kernel⟩
def mX0_setUpTo : gM := (yX0_setUpTo, cX0_setUpTo, 2, some .int, 1, 0, 0)
set_option maxRecDepth 100000 in
theorem kX0_setUpTo : gMc mX0_setUpTo 1 := ⟨g_in 716 (by rfl) rfl, g_in 71 (by decide +kernel) rfl, by decide +kernel⟩
def mX0_setOf : gM := (yX0_setOf, cX0_setOf, 2, some .int, 1, 0, 0)
set_option maxRecDepth 100000 in
theorem kX0_setOf : gMc mX0_setOf 1 := ⟨g_in 514 (by rfl) rfl, g_in 71 (by decide +kernel) rfl, by decide +kernel⟩
def mX0_setFrom : gM := (yX0_setFrom, cX0_setFrom, 5, some .int, 0, 0, 0)
set_option maxRecDepth 100000 in
theorem kX0_setFrom : gMc mX0_setFrom 2 := ⟨g_in 526 (by rfl) rfl, g_in 71 (by decide +kernel) rfl, by decide +kernel⟩
def mX0_numberOf : gM := (yX0_numberOf, cX0_numberOf, 3, some .int, 2, 0, 0)
set_option maxRecDepth 100000 in
theorem kX0_numberOf : gMc mX0_numberOf 1 := ⟨g_in 510 (by rfl) rfl, g_in 71 (by decide +kernel) rfl, by decide +kernel⟩
def mX1_part : gM := (yX1_part, cX1_part, 5, none, 2, 0, 0)
set_option maxRecDepth 100000 in
theorem kX1_part : gMc mX1_part 1 := ⟨g_in 917 (by rfl) rfl, g_in 73 (by decide +kernel) rfl, by decide +kernel⟩
def mX1_chooseFirst : gM := (yX1_chooseFirst, cX1_chooseFirst, 7, none, 1, 0, 0)
set_option maxRecDepth 100000 in
theorem kX1_chooseFirst : gMc mX1_chooseFirst 3 := ⟨g_in 922 (by rfl) rfl, g_in 73 (by decide +kernel) rfl, by decide +kernel⟩
def mX1_uneven : gM := (yX1_uneven, cX1_uneven, 2, some .int, 0, 0, 0)
set_option maxRecDepth 100000 in
theorem kX1_uneven : gMc mX1_uneven 1 := ⟨g_in 928 (by rfl) rfl, g_in 73 (by decide +kernel) rfl, by decide +kernel⟩
def mX1_scenesIn : gM := (yX1_scenesIn, cX1_scenesIn, 5, some .int, 0, 0, 0)
set_option maxRecDepth 100000 in
theorem kX1_scenesIn : gMc mX1_scenesIn 2 := ⟨g_in 932 (by rfl) rfl, g_in 73 (by decide +kernel) rfl, by decide +kernel⟩
def mX2_forget : gM := (yX2_forget, cX2_forget, 1, none, 0, 0, 0)
set_option maxRecDepth 100000 in
theorem kX2_forget : gMc mX2_forget 0 := ⟨g_in 493 (by rfl) rfl, g_in 82 (by decide +kernel) rfl, by decide +kernel⟩
def mX2_worthOfBest : gM := (yX2_worthOfBest, cX2_worthOfBest, 2, some .int, 0, 0, 0)
set_option maxRecDepth 100000 in
theorem kX2_worthOfBest : gMc mX2_worthOfBest 1 := ⟨g_in 871 (by rfl) rfl, g_in 82 (by decide +kernel) rfl, by decide +kernel⟩
def mX2_partOfBest : gM := (yX2_partOfBest, cX2_partOfBest, 5, some .int, 1, 0, 0)
set_option maxRecDepth 100000 in
theorem kX2_partOfBest : gMc mX2_partOfBest 2 := ⟨g_in 875 (by rfl) rfl, g_in 82 (by decide +kernel) rfl, by decide +kernel⟩
def mX2_kindest : gM := (yX2_kindest, cX2_kindest, 5, some .int, 2, 0, 0)
set_option maxRecDepth 100000 in
theorem kX2_kindest : gMc mX2_kindest 2 := ⟨g_in 901 (by rfl) rfl, g_in 82 (by decide +kernel) rfl, by decide +kernel⟩
def mX2_isKinder : gM := (yX2_isKinder, cX2_isKinder, 5, some .boolean, 1, 0, 0)
set_option maxRecDepth 100000 in
theorem kX2_isKinder : gMc mX2_isKinder 3 := ⟨g_in 905 (by rfl) rfl, g_in 82 (by decide +kernel) rfl, by decide +kernel⟩
def mX2_worthGathered : gM := (yX2_worthGathered, cX2_worthGathered, 3, some .int, 0, 0, 0)
set_option maxRecDepth 100000 in
theorem kX2_worthGathered : gMc mX2_worthGathered 2 := ⟨g_in 909 (by rfl) rfl, g_in 82 (by decide +kernel) rfl, by decide +kernel⟩
def mX2_planFor : gM := (yX2_planFor, cX2_planFor, 6, none, 4, 0, 0)
set_option maxRecDepth 100000 in
theorem kX2_planFor : gMc mX2_planFor 1 := ⟨g_in 846 (by rfl) rfl, g_in 82 (by decide +kernel) rfl, by decide +kernel⟩
def mX2_chooseFirst : gM := (yX2_chooseFirst, cX2_chooseFirst, 10, none, 3, 0, 0)
set_option maxRecDepth 100000 in
theorem kX2_chooseFirst : gMc mX2_chooseFirst 2 := ⟨g_in 853 (by rfl) rfl, g_in 82 (by decide +kernel) rfl, by decide +kernel⟩
def mX2_gatherFor : gM := (yX2_gatherFor, cX2_gatherFor, 5, none, 4, 0, 0)
set_option maxRecDepth 100000 in
theorem kX2_gatherFor : gMc mX2_gatherFor 1 := ⟨g_in 889 (by rfl) rfl, g_in 82 (by decide +kernel) rfl, by decide +kernel⟩
def mX2_isGathered : gM := (yX2_isGathered, cX2_isGathered, 3, some .boolean, 0, 0, 0)
set_option maxRecDepth 100000 in
theorem kX2_isGathered : gMc mX2_isGathered 1 := ⟨g_in 893 (by rfl) rfl, g_in 82 (by decide +kernel) rfl, by decide +kernel⟩
def mX2_gatherBehind : gM := (yX2_gatherBehind, cX2_gatherBehind, 10, none, 3, 0, 0)
set_option maxRecDepth 100000 in
theorem kX2_gatherBehind : gMc mX2_gatherBehind 2 := ⟨g_in 897 (by rfl) rfl, g_in 82 (by decide +kernel) rfl, by decide +kernel⟩
def mX2_findParts : gM := (yX2_findParts, cX2_findParts, 8, none, 2, 0, 0)
set_option maxRecDepth 100000 in
theorem kX2_findParts : gMc mX2_findParts 2 := ⟨g_in 857 (by rfl) rfl, g_in 82 (by decide +kernel) rfl, by decide +kernel⟩
def mX2_growPart : gM := (yX2_growPart, cX2_growPart, 7, none, 1, 0, 0)
set_option maxRecDepth 100000 in
theorem kX2_growPart : gMc mX2_growPart 3 := ⟨g_in 861 (by rfl) rfl, g_in 82 (by decide +kernel) rfl, by decide +kernel⟩
def mX2_worthOfPart : gM := (yX2_worthOfPart, cX2_worthOfPart, 6, some .int, 1, 0, 0)
set_option maxRecDepth 100000 in
theorem kX2_worthOfPart : gMc mX2_worthOfPart 2 := ⟨g_in 867 (by rfl) rfl, g_in 82 (by decide +kernel) rfl, by decide +kernel⟩
def mX3_linesOf : gM := (yX3_linesOf, cX3_linesOf, 3, some .int, 3, 0, 0)
set_option maxRecDepth 100000 in
theorem kX3_linesOf : gMc mX3_linesOf 1 := ⟨g_in 736 (by rfl) rfl, g_in 72 (by decide +kernel) rfl, by decide +kernel⟩
def mX3_remindedIn : gM := (yX3_remindedIn, cX3_remindedIn, 6, some .int, 2, 0, 0)
set_option maxRecDepth 100000 in
theorem kX3_remindedIn : gMc mX3_remindedIn 1 := ⟨g_in 740 (by rfl) rfl, g_in 72 (by decide +kernel) rfl, by decide +kernel⟩
def mX3_openBehindNumber : gM := (yX3_openBehindNumber, cX3_openBehindNumber, 2, some .int, 2, 0, 0)
set_option maxRecDepth 100000 in
theorem kX3_openBehindNumber : gMc mX3_openBehindNumber 1 := ⟨g_in 766 (by rfl) rfl, g_in 72 (by decide +kernel) rfl, by decide +kernel⟩
def mX3_pullOf : gM := (yX3_pullOf, cX3_pullOf, 6, some .int, 3, 0, 0)
set_option maxRecDepth 100000 in
theorem kX3_pullOf : gMc mX3_pullOf 1 := ⟨g_in 762 (by rfl) rfl, g_in 72 (by decide +kernel) rfl, by decide +kernel⟩
def mX3_readersBehind : gM := (yX3_readersBehind, cX3_readersBehind, 5, some .int, 4, 0, 0)
set_option maxRecDepth 100000 in
theorem kX3_readersBehind : gMc mX3_readersBehind 1 := ⟨g_in 779 (by rfl) rfl, g_in 72 (by decide +kernel) rfl, by decide +kernel⟩
def mX4_read : gM := (yX4_read, cX4_read, 3, some .int, 9, 0, 0)
set_option maxRecDepth 100000 in
theorem kX4_read : gMc mX4_read 1 := ⟨g_in 363 (by rfl) rfl, g_in 67 (by decide +kernel) rfl, by decide +kernel⟩
def mX4_fail : gM := (yX4_fail, cX4_fail, 3, none, 0, 0, 0)
set_option maxRecDepth 100000 in
theorem kX4_fail : gMc mX4_fail 2 := ⟨g_in 428 (by rfl) rfl, g_in 67 (by decide +kernel) rfl, by decide +kernel⟩
def mX4_skipBlanks : gM := (yX4_skipBlanks, cX4_skipBlanks, 1, none, 1, 0, 0)
set_option maxRecDepth 100000 in
theorem kX4_skipBlanks : gMc mX4_skipBlanks 0 := ⟨g_in 367 (by rfl) rfl, g_in 67 (by decide +kernel) rfl, by decide +kernel⟩
def mX4_readClause : gM := (yX4_readClause, cX4_readClause, 4, none, 8, 0, 0)
set_option maxRecDepth 100000 in
theorem kX4_readClause : gMc mX4_readClause 0 := ⟨g_in 375 (by rfl) rfl, g_in 67 (by decide +kernel) rfl, by decide +kernel⟩
def mX4_readPart : gM := (yX4_readPart, cX4_readPart, 5, some .int, 7, 0, 0)
set_option maxRecDepth 100000 in
theorem kX4_readPart : gMc mX4_readPart 1 := ⟨g_in 470 (by rfl) rfl, g_in 67 (by decide +kernel) rfl, by decide +kernel⟩
def mX4_takeComma : gM := (yX4_takeComma, cX4_takeComma, 2, some .boolean, 2, 0, 0)
set_option maxRecDepth 100000 in
theorem kX4_takeComma : gMc mX4_takeComma 1 := ⟨g_in 474 (by rfl) rfl, g_in 67 (by decide +kernel) rfl, by decide +kernel⟩
def mX4_takeWord : gM := (yX4_takeWord, cX4_takeWord, 3, some .int, 6, 0, 0)
set_option maxRecDepth 100000 in
theorem kX4_takeWord : gMc mX4_takeWord 0 := ⟨g_in 379 (by rfl) rfl, g_in 67 (by decide +kernel) rfl, by decide +kernel⟩
def mX4_isWord : gM := (yX4_isWord, cX4_isWord, 5, some .boolean, 5, 0, 0)
set_option maxRecDepth 100000 in
theorem kX4_isWord : gMc mX4_isWord 2 := ⟨g_in 383 (by rfl) rfl, g_in 67 (by decide +kernel) rfl, by decide +kernel⟩
def mX4_readNumber : gM := (yX4_readNumber, cX4_readNumber, 5, none, 2, 0, 0)
set_option maxRecDepth 100000 in
theorem kX4_readNumber : gMc mX4_readNumber 1 := ⟨g_in 440 (by rfl) rfl, g_in 67 (by decide +kernel) rfl, by decide +kernel⟩
def mX4_faultOf : gM := (yX4_faultOf, cX4_faultOf, 4, some .int, 1, 0, 0)
set_option maxRecDepth 100000 in
theorem kX4_faultOf : gMc mX4_faultOf 3 := ⟨g_in 444 (by rfl) rfl, g_in 67 (by decide +kernel) rfl, by decide +kernel⟩
def mX4_take : gM := (yX4_take, cX4_take, 3, none, 1, 0, 0)
set_option maxRecDepth 100000 in
theorem kX4_take : gMc mX4_take 2 := ⟨g_in 457 (by rfl) rfl, g_in 67 (by decide +kernel) rfl, by decide +kernel⟩
def mX5_isNever : gM := (yX5_isNever, cX5_isNever, 3, some .boolean, 0, 0, 0)
set_option maxRecDepth 100000 in
theorem kX5_isNever : gMc mX5_isNever 2 := ⟨g_in 535 (by rfl) rfl, g_in 69 (by decide +kernel) rfl, by decide +kernel⟩
def mX5_turnNever : gM := (yX5_turnNever, cX5_turnNever, 3, none, 1, 0, 0)
set_option maxRecDepth 100000 in
theorem kX5_turnNever : gMc mX5_turnNever 2 := ⟨g_in 539 (by rfl) rfl, g_in 69 (by decide +kernel) rfl, by decide +kernel⟩
def mX5_nextBehind : gM := (yX5_nextBehind, cX5_nextBehind, 2, some .int, 2, 0, 0)
set_option maxRecDepth 100000 in
theorem kX5_nextBehind : gMc mX5_nextBehind 1 := ⟨g_in 583 (by rfl) rfl, g_in 69 (by decide +kernel) rfl, by decide +kernel⟩
def mX5_nextWhere : gM := (yX5_nextWhere, cX5_nextWhere, 8, some .int, 1, 0, 0)
set_option maxRecDepth 100000 in
theorem kX5_nextWhere : gMc mX5_nextWhere 4 := ⟨g_in 592 (by rfl) rfl, g_in 69 (by decide +kernel) rfl, by decide +kernel⟩
def mX5_mayTell : gM := (yX5_mayTell, cX5_mayTell, 4, some .boolean, 0, 0, 0)
set_option maxRecDepth 100000 in
theorem kX5_mayTell : gMc mX5_mayTell 2 := ⟨g_in 596 (by rfl) rfl, g_in 69 (by decide +kernel) rfl, by decide +kernel⟩
def mX6_build : gM := (yX6_build, cX6_build, 2, none, 2, 0, 0)
set_option maxRecDepth 100000 in
theorem kX6_build : gMc mX6_build 0 := ⟨g_in 612 (by rfl) rfl, g_in 70 (by decide +kernel) rfl, by decide +kernel⟩
def mX6_addUp : gM := (yX6_addUp, cX6_addUp, 7, none, 1, 0, 0)
set_option maxRecDepth 100000 in
theorem kX6_addUp : gMc mX6_addUp 2 := ⟨g_in 616 (by rfl) rfl, g_in 70 (by decide +kernel) rfl, by decide +kernel⟩
def mX6_spread : gM := (yX6_spread, cX6_spread, 4, none, 1, 0, 0)
set_option maxRecDepth 100000 in
theorem kX6_spread : gMc mX6_spread 1 := ⟨g_in 626 (by rfl) rfl, g_in 70 (by decide +kernel) rfl, by decide +kernel⟩
def mX6_countGood : gM := (yX6_countGood, cX6_countGood, 3, some .int, 0, 0, 0)
set_option maxRecDepth 100000 in
theorem kX6_countGood : gMc mX6_countGood 0 := ⟨g_in 650 (by rfl) rfl, g_in 70 (by decide +kernel) rfl, by decide +kernel⟩
def mX6_findEndings : gM := (yX6_findEndings, cX6_findEndings, 5, none, 0, 0, 0)
set_option maxRecDepth 100000 in
theorem kX6_findEndings : gMc mX6_findEndings 1 := ⟨g_in 642 (by rfl) rfl, g_in 70 (by decide +kernel) rfl, by decide +kernel⟩
def mX6_sceneOfOrder : gM := (yX6_sceneOfOrder, cX6_sceneOfOrder, 13, some .int, 1, 0, 0)
set_option maxRecDepth 100000 in
theorem kX6_sceneOfOrder : gMc mX6_sceneOfOrder 3 := ⟨g_in 638 (by rfl) rfl, g_in 70 (by decide +kernel) rfl, by decide +kernel⟩
def mX6_isPlace : gM := (yX6_isPlace, cX6_isPlace, 3, some .boolean, 0, 0, 0)
set_option maxRecDepth 100000 in
theorem kX6_isPlace : gMc mX6_isPlace 2 := ⟨g_in 662 (by rfl) rfl, g_in 70 (by decide +kernel) rfl, by decide +kernel⟩
def mX6_leastPlace : gM := (yX6_leastPlace, cX6_leastPlace, 5, some .int, 1, 0, 0)
set_option maxRecDepth 100000 in
theorem kX6_leastPlace : gMc mX6_leastPlace 1 := ⟨g_in 658 (by rfl) rfl, g_in 70 (by decide +kernel) rfl, by decide +kernel⟩
def mX6_greatestPlace : gM := (yX6_greatestPlace, cX6_greatestPlace, 4, some .int, 1, 0, 0)
set_option maxRecDepth 100000 in
theorem kX6_greatestPlace : gMc mX6_greatestPlace 1 := ⟨g_in 666 (by rfl) rfl, g_in 70 (by decide +kernel) rfl, by decide +kernel⟩
def mX6_takenAlong : gM := (yX6_takenAlong, cX6_takenAlong, 4, some .int, 1, 0, 0)
set_option maxRecDepth 100000 in
theorem kX6_takenAlong : gMc mX6_takenAlong 1 := ⟨g_in 687 (by rfl) rfl, g_in 70 (by decide +kernel) rfl, by decide +kernel⟩
def mX6_shortestTo : gM := (yX6_shortestTo, cX6_shortestTo, 4, some .int, 0, 0, 0)
set_option maxRecDepth 100000 in
theorem kX6_shortestTo : gMc mX6_shortestTo 1 := ⟨g_in 696 (by rfl) rfl, g_in 70 (by decide +kernel) rfl, by decide +kernel⟩
def mX7_isList : gM := (yX7_isList, cX7_isList, 1, some .boolean, 0, 0, 0)
set_option maxRecDepth 100000 in
theorem kX7_isList : gMc mX7_isList 1 := ⟨g_in 449 (by rfl) rfl, g_in 68 (by decide +kernel) rfl, by decide +kernel⟩
def mX7_cell : gM := (yX7_cell, cX7_cell, 3, some .int, 0, 0, 0)
set_option maxRecDepth 100000 in
theorem kX7_cell : gMc mX7_cell 2 := ⟨g_in 453 (by rfl) rfl, g_in 68 (by decide +kernel) rfl, by decide +kernel⟩
def mX7_put : gM := (yX7_put, cX7_put, 4, none, 0, 0, 0)
set_option maxRecDepth 100000 in
theorem kX7_put : gMc mX7_put 3 := ⟨g_in 436 (by rfl) rfl, g_in 68 (by decide +kernel) rfl, by decide +kernel⟩
def mX7_include : gM := (yX7_include, cX7_include, 4, none, 0, 0, 0)
set_option maxRecDepth 100000 in
theorem kX7_include : gMc mX7_include 3 := ⟨g_in 461 (by rfl) rfl, g_in 68 (by decide +kernel) rfl, by decide +kernel⟩
def mX7_clearScene : gM := (yX7_clearScene, cX7_clearScene, 3, none, 1, 0, 0)
set_option maxRecDepth 100000 in
theorem kX7_clearScene : gMc mX7_clearScene 1 := ⟨g_in 432 (by rfl) rfl, g_in 68 (by decide +kernel) rfl, by decide +kernel⟩
def mX7_closeScene : gM := (yX7_closeScene, cX7_closeScene, 1, none, 0, 0, 0)
set_option maxRecDepth 100000 in
theorem kX7_closeScene : gMc mX7_closeScene 0 := ⟨g_in 466 (by rfl) rfl, g_in 68 (by decide +kernel) rfl, by decide +kernel⟩
def mX7_become : gM := (yX7_become, cX7_become, 3, none, 1, 0, 0)
set_option maxRecDepth 100000 in
theorem kX7_become : gMc mX7_become 1 := ⟨g_in 478 (by rfl) rfl, g_in 68 (by decide +kernel) rfl, by decide +kernel⟩
def mX7_all : gM := (yX7_all, cX7_all, 1, some .int, 0, 0, 0)
set_option maxRecDepth 100000 in
theorem kX7_all : gMc mX7_all 0 := ⟨g_in 557 (by rfl) rfl, g_in 68 (by decide +kernel) rfl, by decide +kernel⟩
def mX7_union : gM := (yX7_union, cX7_union, 5, some .int, 0, 0, 0)
set_option maxRecDepth 100000 in
theorem kX7_union : gMc mX7_union 2 := ⟨g_in 565 (by rfl) rfl, g_in 68 (by decide +kernel) rfl, by decide +kernel⟩
def mX7_sum : gM := (yX7_sum, cX7_sum, 5, some .int, 0, 0, 0)
set_option maxRecDepth 100000 in
theorem kX7_sum : gMc mX7_sum 2 := ⟨g_in 561 (by rfl) rfl, g_in 68 (by decide +kernel) rfl, by decide +kernel⟩
def mX7_deadIn : gM := (yX7_deadIn, cX7_deadIn, 4, some .int, 0, 0, 0)
set_option maxRecDepth 100000 in
theorem kX7_deadIn : gMc mX7_deadIn 1 := ⟨g_in 588 (by rfl) rfl, g_in 68 (by decide +kernel) rfl, by decide +kernel⟩
def mX7_deathsOf : gM := (yX7_deathsOf, cX7_deathsOf, 4, some .int, 1, 0, 0)
set_option maxRecDepth 100000 in
theorem kX7_deathsOf : gMc mX7_deathsOf 1 := ⟨g_in 884 (by rfl) rfl, g_in 68 (by decide +kernel) rfl, by decide +kernel⟩
def mX7_openBehind : gM := (yX7_openBehind, cX7_openBehind, 2, some .int, 1, 0, 0)
set_option maxRecDepth 100000 in
theorem kX7_openBehind : gMc mX7_openBehind 1 := ⟨g_in 674 (by rfl) rfl, g_in 68 (by decide +kernel) rfl, by decide +kernel⟩
def mX8_append : gM := (yX8_append, cX8_append, 2, none, 0, 0, 0)
set_option maxRecDepth 100000 in
theorem kX8_append : gMc mX8_append 1 := ⟨g_in 355 (by rfl) rfl, g_in 66 (by decide +kernel) rfl, by decide +kernel⟩
def mX8_at : gM := (yX8_at, cX8_at, 2, some .int, 0, 0, 0)
set_option maxRecDepth 100000 in
theorem kX8_at : gMc mX8_at 1 := ⟨g_in 371 (by rfl) rfl, g_in 66 (by decide +kernel) rfl, by decide +kernel⟩
def mX9_feed : gM := (yX9_feed, cX9_feed, 5, some .int, 1, 0, 0)
set_option maxRecDepth 100000 in
theorem kX9_feed : gMc mX9_feed 2 := ⟨g_in 351 (by rfl) rfl, g_in 65 (by decide +kernel) rfl, by decide +kernel⟩
def mX9_story : gM := (yX9_story, cX9_story, 2, some .int, 10, 0, 0)
set_option maxRecDepth 100000 in
theorem kX9_story : gMc mX9_story 0 := ⟨g_in 359 (by rfl) rfl, g_in 65 (by decide +kernel) rfl, by decide +kernel⟩
def mX9_fault : gM := (yX9_fault, cX9_fault, 1, some .int, 0, 0, 0)
set_option maxRecDepth 100000 in
theorem kX9_fault : gMc mX9_fault 0 := ⟨g_in 498 (by rfl) rfl, g_in 65 (by decide +kernel) rfl, by decide +kernel⟩
def mX9_scene : gM := (yX9_scene, cX9_scene, 3, some .int, 3, 0, 0)
set_option maxRecDepth 100000 in
theorem kX9_scene : gMc mX9_scene 2 := ⟨g_in 502 (by rfl) rfl, g_in 65 (by decide +kernel) rfl, by decide +kernel⟩
def mX9_never : gM := (yX9_never, cX9_never, 5, some .int, 2, 0, 0)
set_option maxRecDepth 100000 in
theorem kX9_never : gMc mX9_never 3 := ⟨g_in 531 (by rfl) rfl, g_in 65 (by decide +kernel) rfl, by decide +kernel⟩
def mX9_count : gM := (yX9_count, cX9_count, 2, some .int, 3, 0, 0)
set_option maxRecDepth 100000 in
theorem kX9_count : gMc mX9_count 1 := ⟨g_in 544 (by rfl) rfl, g_in 65 (by decide +kernel) rfl, by decide +kernel⟩
def mX9_may : gM := (yX9_may, cX9_may, 3, some .int, 3, 0, 0)
set_option maxRecDepth 100000 in
theorem kX9_may : gMc mX9_may 2 := ⟨g_in 575 (by rfl) rfl, g_in 65 (by decide +kernel) rfl, by decide +kernel⟩
def mX9_next : gM := (yX9_next, cX9_next, 2, some .int, 3, 0, 0)
set_option maxRecDepth 100000 in
theorem kX9_next : gMc mX9_next 1 := ⟨g_in 600 (by rfl) rfl, g_in 65 (by decide +kernel) rfl, by decide +kernel⟩
def mX9_orders : gM := (yX9_orders, cX9_orders, 2, some .long, 4, 0, 0)
set_option maxRecDepth 100000 in
theorem kX9_orders : gMc mX9_orders 1 := ⟨g_in 604 (by rfl) rfl, g_in 65 (by decide +kernel) rfl, by decide +kernel⟩
def mX9_order : gM := (yX9_order, cX9_order, 5, some .int, 4, 0, 0)
set_option maxRecDepth 100000 in
theorem kX9_order : gMc mX9_order 3 := ⟨g_in 634 (by rfl) rfl, g_in 65 (by decide +kernel) rfl, by decide +kernel⟩
def mX9_good : gM := (yX9_good, cX9_good, 1, some .int, 4, 0, 0)
set_option maxRecDepth 100000 in
theorem kX9_good : gMc mX9_good 0 := ⟨g_in 646 (by rfl) rfl, g_in 65 (by decide +kernel) rfl, by decide +kernel⟩
def mX9_place : gM := (yX9_place, cX9_place, 3, some .int, 4, 0, 0)
set_option maxRecDepth 100000 in
theorem kX9_place : gMc mX9_place 2 := ⟨g_in 654 (by rfl) rfl, g_in 65 (by decide +kernel) rfl, by decide +kernel⟩
def mX9_open : gM := (yX9_open, cX9_open, 2, some .int, 2, 0, 0)
set_option maxRecDepth 100000 in
theorem kX9_open : gMc mX9_open 1 := ⟨g_in 670 (by rfl) rfl, g_in 65 (by decide +kernel) rfl, by decide +kernel⟩
def mX9_atOnce : gM := (yX9_atOnce, cX9_atOnce, 2, some .int, 4, 0, 0)
set_option maxRecDepth 100000 in
theorem kX9_atOnce : gMc mX9_atOnce 1 := ⟨g_in 679 (by rfl) rfl, g_in 65 (by decide +kernel) rfl, by decide +kernel⟩
def mX9_along : gM := (yX9_along, cX9_along, 2, some .int, 4, 0, 0)
set_option maxRecDepth 100000 in
theorem kX9_along : gMc mX9_along 1 := ⟨g_in 683 (by rfl) rfl, g_in 65 (by decide +kernel) rfl, by decide +kernel⟩
def mX9_shortest : gM := (yX9_shortest, cX9_shortest, 4, some .int, 4, 0, 0)
set_option maxRecDepth 100000 in
theorem kX9_shortest : gMc mX9_shortest 2 := ⟨g_in 692 (by rfl) rfl, g_in 65 (by decide +kernel) rfl, by decide +kernel⟩
def mX9_law : gM := (yX9_law, cX9_law, 4, some .int, 2, 0, 0)
set_option maxRecDepth 100000 in
theorem kX9_law : gMc mX9_law 2 := ⟨g_in 700 (by rfl) rfl, g_in 65 (by decide +kernel) rfl, by decide +kernel⟩
def mX9_add : gM := (yX9_add, cX9_add, 2, some .int, 3, 0, 0)
set_option maxRecDepth 100000 in
theorem kX9_add : gMc mX9_add 1 := ⟨g_in 712 (by rfl) rfl, g_in 65 (by decide +kernel) rfl, by decide +kernel⟩
def mX9_drop : gM := (yX9_drop, cX9_drop, 1, some .int, 3, 0, 0)
set_option maxRecDepth 100000 in
theorem kX9_drop : gMc mX9_drop 0 := ⟨g_in 724 (by rfl) rfl, g_in 65 (by decide +kernel) rfl, by decide +kernel⟩
def mX9_lines : gM := (yX9_lines, cX9_lines, 1, some .int, 4, 0, 0)
set_option maxRecDepth 100000 in
theorem kX9_lines : gMc mX9_lines 0 := ⟨g_in 732 (by rfl) rfl, g_in 65 (by decide +kernel) rfl, by decide +kernel⟩
def mX9_print : gM := (yX9_print, cX9_print, 2, some .int, 4, 0, 0)
set_option maxRecDepth 100000 in
theorem kX9_print : gMc mX9_print 0 := ⟨g_in 748 (by rfl) rfl, g_in 65 (by decide +kernel) rfl, by decide +kernel⟩
def mX9_number : gM := (yX9_number, cX9_number, 3, some .int, 5, 0, 0)
set_option maxRecDepth 100000 in
theorem kX9_number : gMc mX9_number 2 := ⟨g_in 756 (by rfl) rfl, g_in 65 (by decide +kernel) rfl, by decide +kernel⟩
def mX9_readers : gM := (yX9_readers, cX9_readers, 1, some .int, 5, 0, 0)
set_option maxRecDepth 100000 in
theorem kX9_readers : gMc mX9_readers 0 := ⟨g_in 796 (by rfl) rfl, g_in 65 (by decide +kernel) rfl, by decide +kernel⟩
def mX9_plan : gM := (yX9_plan, cX9_plan, 5, some .int, 5, 38, 34859)
set_option maxRecDepth 100000 in
theorem kX9_plan : gMc mX9_plan 3 := ⟨g_in 800 (by rfl) rfl, g_in 65 (by decide +kernel) rfl, by decide +kernel⟩
def mX9_kind : gM := (yX9_kind, cX9_kind, 7, some .int, 5, 38, 34859)
set_option maxRecDepth 100000 in
theorem kX9_kind : gMc mX9_kind 3 := ⟨g_in 880 (by rfl) rfl, g_in 65 (by decide +kernel) rfl, by decide +kernel⟩
def mX9_chapter : gM := (yX9_chapter, cX9_chapter, 3, some .int, 3, 0, 0)
set_option maxRecDepth 100000 in
theorem kX9_chapter : gMc mX9_chapter 2 := ⟨g_in 913 (by rfl) rfl, g_in 65 (by decide +kernel) rfl, by decide +kernel⟩
def mX9_keep : gM := (yX9_keep, cX9_keep, 2, some .int, 2, 0, 0)
set_option maxRecDepth 100000 in
theorem kX9_keep : gMc mX9_keep 1 := ⟨g_in 936 (by rfl) rfl, g_in 65 (by decide +kernel) rfl, by decide +kernel⟩
def mX9_goBack : gM := (yX9_goBack, cX9_goBack, 2, some .int, 2, 0, 0)
set_option maxRecDepth 100000 in
theorem kX9_goBack : gMc mX9_goBack 1 := ⟨g_in 945 (by rfl) rfl, g_in 65 (by decide +kernel) rfl, by decide +kernel⟩
def mX9_isScene : gM := (yX9_isScene, cX9_isScene, 2, some .boolean, 0, 0, 0)
set_option maxRecDepth 100000 in
theorem kX9_isScene : gMc mX9_isScene 1 := ⟨g_in 506 (by rfl) rfl, g_in 65 (by decide +kernel) rfl, by decide +kernel⟩
def mX9_areScenes : gM := (yX9_areScenes, cX9_areScenes, 2, some .boolean, 1, 0, 0)
set_option maxRecDepth 100000 in
theorem kX9_areScenes : gMc mX9_areScenes 1 := ⟨g_in 579 (by rfl) rfl, g_in 65 (by decide +kernel) rfl, by decide +kernel⟩
def mX9_freshSets : gM := (yX9_freshSets, cX9_freshSets, 1, some (.object "StoryNumbers$Sets"), 3, 0, 0)
set_option maxRecDepth 100000 in
theorem kX9_freshSets : gMc mX9_freshSets 0 := ⟨g_in 608 (by rfl) rfl, g_in 65 (by decide +kernel) rfl, by decide +kernel⟩
def mX9_freshPlans : gM := (yX9_freshPlans, cX9_freshPlans, 2, some (.object "StoryNumbers$Plans"), 4, 38, 34859)
set_option maxRecDepth 100000 in
theorem kX9_freshPlans : gMc mX9_freshPlans 0 := ⟨g_in 804 (by rfl) rfl, g_in 65 (by decide +kernel) rfl, by decide +kernel⟩
def mX9_forgetPlans : gM := (yX9_forgetPlans, cX9_forgetPlans, 1, none, 1, 0, 0)
set_option maxRecDepth 100000 in
theorem kX9_forgetPlans : gMc mX9_forgetPlans 0 := ⟨g_in 489 (by rfl) rfl, g_in 65 (by decide +kernel) rfl, by decide +kernel⟩
def mX10_in : gM := (yX10_in, cX10_in, 6, some .boolean, 0, 0, 0)
set_option maxRecDepth 100000 in
theorem kX10_in : gMc mX10_in 3 := ⟨g_in 1081 (by rfl) rfl, g_in 74 (by decide +kernel) rfl, by decide +kernel⟩
def mX10_one : gM := (yX10_one, cX10_one, 1, some .int, 0, 0, 0)
set_option maxRecDepth 100000 in
theorem kX10_one : gMc mX10_one 1 := ⟨g_in 1136 (by rfl) rfl, g_in 74 (by decide +kernel) rfl, by decide +kernel⟩
def mX10_ones : gM := (yX10_ones, cX10_ones, 3, some .int, 0, 0, 0)
set_option maxRecDepth 100000 in
theorem kX10_ones : gMc mX10_ones 1 := ⟨g_in 1172 (by rfl) rfl, g_in 74 (by decide +kernel) rfl, by decide +kernel⟩
def mX10_has : gM := (yX10_has, cX10_has, 2, some .boolean, 0, 0, 0)
set_option maxRecDepth 100000 in
theorem kX10_has : gMc mX10_has 2 := ⟨g_in 1129 (by rfl) rfl, g_in 74 (by decide +kernel) rfl, by decide +kernel⟩
def mX10_feed : gM := (yX10_feed, cX10_feed, 5, some .int, 1, 0, 0)
set_option maxRecDepth 100000 in
theorem kX10_feed : gMc mX10_feed 2 := ⟨g_in 1077 (by rfl) rfl, g_in 74 (by decide +kernel) rfl, by decide +kernel⟩
def mX10_here : gM := (yX10_here, cX10_here, 1, some .int, 0, 0, 0)
set_option maxRecDepth 100000 in
theorem kX10_here : gMc mX10_here 0 := ⟨g_in 1090 (by rfl) rfl, g_in 74 (by decide +kernel) rfl, by decide +kernel⟩
def mX10_want : gM := (yX10_want, cX10_want, 4, some .boolean, 0, 0, 0)
set_option maxRecDepth 100000 in
theorem kX10_want : gMc mX10_want 3 := ⟨g_in 1108 (by rfl) rfl, g_in 74 (by decide +kernel) rfl, by decide +kernel⟩
def mX10_takeWord : gM := (yX10_takeWord, cX10_takeWord, 2, none, 1, 0, 0)
set_option maxRecDepth 100000 in
theorem kX10_takeWord : gMc mX10_takeWord 0 := ⟨g_in 1098 (by rfl) rfl, g_in 74 (by decide +kernel) rfl, by decide +kernel⟩
def mX10_isWord : gM := (yX10_isWord, cX10_isWord, 9, some .boolean, 0, 0, 0)
set_option maxRecDepth 100000 in
theorem kX10_isWord : gMc mX10_isWord 6 := ⟨g_in 1104 (by rfl) rfl, g_in 74 (by decide +kernel) rfl, by decide +kernel⟩
def mX10_kindOf : gM := (yX10_kindOf, cX10_kindOf, 1, some .int, 1, 0, 0)
set_option maxRecDepth 100000 in
theorem kX10_kindOf : gMc mX10_kindOf 0 := ⟨g_in 1118 (by rfl) rfl, g_in 74 (by decide +kernel) rfl, by decide +kernel⟩
def mX10_takeNumber : gM := (yX10_takeNumber, cX10_takeNumber, 6, some .int, 1, 0, 0)
set_option maxRecDepth 100000 in
theorem kX10_takeNumber : gMc mX10_takeNumber 2 := ⟨g_in 1112 (by rfl) rfl, g_in 74 (by decide +kernel) rfl, by decide +kernel⟩
def mX10_isAhead : gM := (yX10_isAhead, cX10_isAhead, 5, some .boolean, 1, 0, 0)
set_option maxRecDepth 100000 in
theorem kX10_isAhead : gMc mX10_isAhead 2 := ⟨g_in 1133 (by rfl) rfl, g_in 74 (by decide +kernel) rfl, by decide +kernel⟩
def mX10_takeList : gM := (yX10_takeList, cX10_takeList, 6, none, 2, 0, 0)
set_option maxRecDepth 100000 in
theorem kX10_takeList : gMc mX10_takeList 1 := ⟨g_in 1126 (by rfl) rfl, g_in 74 (by decide +kernel) rfl, by decide +kernel⟩
def mX10_takeDying : gM := (yX10_takeDying, cX10_takeDying, 4, none, 2, 0, 0)
set_option maxRecDepth 100000 in
theorem kX10_takeDying : gMc mX10_takeDying 0 := ⟨g_in 1122 (by rfl) rfl, g_in 74 (by decide +kernel) rfl, by decide +kernel⟩
def mX10_takeScene : gM := (yX10_takeScene, cX10_takeScene, 3, none, 3, 0, 0)
set_option maxRecDepth 100000 in
theorem kX10_takeScene : gMc mX10_takeScene 0 := ⟨g_in 1094 (by rfl) rfl, g_in 74 (by decide +kernel) rfl, by decide +kernel⟩
def mX10_story : gM := (yX10_story, cX10_story, 2, some .int, 4, 0, 0)
set_option maxRecDepth 100000 in
theorem kX10_story : gMc mX10_story 0 := ⟨g_in 1086 (by rfl) rfl, g_in 74 (by decide +kernel) rfl, by decide +kernel⟩
def mX10_fault : gM := (yX10_fault, cX10_fault, 1, some .int, 0, 0, 0)
set_option maxRecDepth 100000 in
theorem kX10_fault : gMc mX10_fault 0 := ⟨g_in 1140 (by rfl) rfl, g_in 74 (by decide +kernel) rfl, by decide +kernel⟩
def mX10_setOf : gM := (yX10_setOf, cX10_setOf, 3, some .int, 0, 0, 0)
set_option maxRecDepth 100000 in
theorem kX10_setOf : gMc mX10_setOf 2 := ⟨g_in 1152 (by rfl) rfl, g_in 74 (by decide +kernel) rfl, by decide +kernel⟩
def mX10_noScene : gM := (yX10_noScene, cX10_noScene, 2, some .boolean, 1, 0, 0)
set_option maxRecDepth 100000 in
theorem kX10_noScene : gMc mX10_noScene 1 := ⟨g_in 1148 (by rfl) rfl, g_in 74 (by decide +kernel) rfl, by decide +kernel⟩
def mX10_all : gM := (yX10_all, cX10_all, 1, some .int, 0, 0, 0)
set_option maxRecDepth 100000 in
theorem kX10_all : gMc mX10_all 0 := ⟨g_in 1176 (by rfl) rfl, g_in 74 (by decide +kernel) rfl, by decide +kernel⟩
def mX10_noSet : gM := (yX10_noSet, cX10_noSet, 2, some .boolean, 1, 0, 0)
set_option maxRecDepth 100000 in
theorem kX10_noSet : gMc mX10_noSet 1 := ⟨g_in 1196 (by rfl) rfl, g_in 74 (by decide +kernel) rfl, by decide +kernel⟩
def mX10_scene : gM := (yX10_scene, cX10_scene, 3, some .int, 2, 0, 0)
set_option maxRecDepth 100000 in
theorem kX10_scene : gMc mX10_scene 2 := ⟨g_in 1144 (by rfl) rfl, g_in 74 (by decide +kernel) rfl, by decide +kernel⟩
def mX10_never : gM := (yX10_never, cX10_never, 5, some .int, 1, 0, 0)
set_option maxRecDepth 100000 in
theorem kX10_never : gMc mX10_never 3 := ⟨g_in 1164 (by rfl) rfl, g_in 74 (by decide +kernel) rfl, by decide +kernel⟩
def mX10_linesOf : gM := (yX10_linesOf, cX10_linesOf, 4, some .int, 1, 0, 0)
set_option maxRecDepth 100000 in
theorem kX10_linesOf : gMc mX10_linesOf 1 := ⟨g_in 1180 (by rfl) rfl, g_in 74 (by decide +kernel) rfl, by decide +kernel⟩
def mX10_union : gM := (yX10_union, cX10_union, 5, some .int, 1, 0, 0)
set_option maxRecDepth 100000 in
theorem kX10_union : gMc mX10_union 2 := ⟨g_in 1188 (by rfl) rfl, g_in 74 (by decide +kernel) rfl, by decide +kernel⟩
def mX10_nevers : gM := (yX10_nevers, cX10_nevers, 3, some .int, 1, 0, 0)
set_option maxRecDepth 100000 in
theorem kX10_nevers : gMc mX10_nevers 0 := ⟨g_in 1184 (by rfl) rfl, g_in 74 (by decide +kernel) rfl, by decide +kernel⟩
def mX10_count : gM := (yX10_count, cX10_count, 2, some .int, 2, 0, 0)
set_option maxRecDepth 100000 in
theorem kX10_count : gMc mX10_count 1 := ⟨g_in 1169 (by rfl) rfl, g_in 74 (by decide +kernel) rfl, by decide +kernel⟩
def mX10_mayCome : gM := (yX10_mayCome, cX10_mayCome, 6, some .boolean, 2, 0, 0)
set_option maxRecDepth 100000 in
theorem kX10_mayCome : gMc mX10_mayCome 2 := ⟨g_in 1200 (by rfl) rfl, g_in 74 (by decide +kernel) rfl, by decide +kernel⟩
def mX10_may : gM := (yX10_may, cX10_may, 3, some .int, 3, 0, 0)
set_option maxRecDepth 100000 in
theorem kX10_may : gMc mX10_may 2 := ⟨g_in 1192 (by rfl) rfl, g_in 74 (by decide +kernel) rfl, by decide +kernel⟩
def mX10_next : gM := (yX10_next, cX10_next, 4, some .int, 3, 0, 0)
set_option maxRecDepth 100000 in
theorem kX10_next : gMc mX10_next 1 := ⟨g_in 1204 (by rfl) rfl, g_in 74 (by decide +kernel) rfl, by decide +kernel⟩
def mX10_findComing : gM := (yX10_findComing, cX10_findComing, 3, none, 3, 0, 0)
set_option maxRecDepth 100000 in
theorem kX10_findComing : gMc mX10_findComing 0 := ⟨g_in 1217 (by rfl) rfl, g_in 74 (by decide +kernel) rfl, by decide +kernel⟩
def mX10_findWays : gM := (yX10_findWays, cX10_findWays, 4, none, 4, 0, 0)
set_option maxRecDepth 100000 in
theorem kX10_findWays : gMc mX10_findWays 1 := ⟨g_in 1213 (by rfl) rfl, g_in 74 (by decide +kernel) rfl, by decide +kernel⟩
def mX10_findGood : gM := (yX10_findGood, cX10_findGood, 4, none, 4, 0, 0)
set_option maxRecDepth 100000 in
theorem kX10_findGood : gMc mX10_findGood 0 := ⟨g_in 1229 (by rfl) rfl, g_in 74 (by decide +kernel) rfl, by decide +kernel⟩
def mX10_orders : gM := (yX10_orders, cX10_orders, 2, some .long, 5, 0, 0)
set_option maxRecDepth 100000 in
theorem kX10_orders : gMc mX10_orders 1 := ⟨g_in 1208 (by rfl) rfl, g_in 74 (by decide +kernel) rfl, by decide +kernel⟩
def mX10_order : gM := (yX10_order, cX10_order, 13, some .int, 5, 0, 0)
set_option maxRecDepth 100000 in
theorem kX10_order : gMc mX10_order 3 := ⟨g_in 1221 (by rfl) rfl, g_in 74 (by decide +kernel) rfl, by decide +kernel⟩
def mX10_good : gM := (yX10_good, cX10_good, 3, some .int, 5, 0, 0)
set_option maxRecDepth 100000 in
theorem kX10_good : gMc mX10_good 0 := ⟨g_in 1225 (by rfl) rfl, g_in 74 (by decide +kernel) rfl, by decide +kernel⟩
def mX10_place : gM := (yX10_place, cX10_place, 6, some .int, 5, 0, 0)
set_option maxRecDepth 100000 in
theorem kX10_place : gMc mX10_place 2 := ⟨g_in 1233 (by rfl) rfl, g_in 74 (by decide +kernel) rfl, by decide +kernel⟩
def mX10_openOf : gM := (yX10_openOf, cX10_openOf, 2, some .int, 2, 0, 0)
set_option maxRecDepth 100000 in
theorem kX10_openOf : gMc mX10_openOf 1 := ⟨g_in 1241 (by rfl) rfl, g_in 74 (by decide +kernel) rfl, by decide +kernel⟩
def mX10_open : gM := (yX10_open, cX10_open, 2, some .int, 3, 0, 0)
set_option maxRecDepth 100000 in
theorem kX10_open : gMc mX10_open 1 := ⟨g_in 1237 (by rfl) rfl, g_in 74 (by decide +kernel) rfl, by decide +kernel⟩
def mX10_atOnce : gM := (yX10_atOnce, cX10_atOnce, 7, some .int, 5, 0, 0)
set_option maxRecDepth 100000 in
theorem kX10_atOnce : gMc mX10_atOnce 1 := ⟨g_in 1245 (by rfl) rfl, g_in 74 (by decide +kernel) rfl, by decide +kernel⟩
def mX10_along : gM := (yX10_along, cX10_along, 4, some .int, 5, 0, 0)
set_option maxRecDepth 100000 in
theorem kX10_along : gMc mX10_along 1 := ⟨g_in 1250 (by rfl) rfl, g_in 74 (by decide +kernel) rfl, by decide +kernel⟩
def mX10_shortest : gM := (yX10_shortest, cX10_shortest, 5, some .int, 5, 0, 0)
set_option maxRecDepth 100000 in
theorem kX10_shortest : gMc mX10_shortest 2 := ⟨g_in 1254 (by rfl) rfl, g_in 74 (by decide +kernel) rfl, by decide +kernel⟩
def mX10_numberOf : gM := (yX10_numberOf, cX10_numberOf, 3, some .int, 1, 0, 0)
set_option maxRecDepth 100000 in
theorem kX10_numberOf : gMc mX10_numberOf 1 := ⟨g_in 1156 (by rfl) rfl, g_in 74 (by decide +kernel) rfl, by decide +kernel⟩
def mX10_setIn : gM := (yX10_setIn, cX10_setIn, 4, some .int, 0, 0, 0)
set_option maxRecDepth 100000 in
theorem kX10_setIn : gMc mX10_setIn 1 := ⟨g_in 1160 (by rfl) rfl, g_in 74 (by decide +kernel) rfl, by decide +kernel⟩
def mX10_law : gM := (yX10_law, cX10_law, 6, some .int, 1, 0, 0)
set_option maxRecDepth 100000 in
theorem kX10_law : gMc mX10_law 2 := ⟨g_in 1258 (by rfl) rfl, g_in 74 (by decide +kernel) rfl, by decide +kernel⟩
def mX10_add : gM := (yX10_add, cX10_add, 2, some .int, 3, 0, 0)
set_option maxRecDepth 100000 in
theorem kX10_add : gMc mX10_add 1 := ⟨g_in 1262 (by rfl) rfl, g_in 74 (by decide +kernel) rfl, by decide +kernel⟩
def mX10_drop : gM := (yX10_drop, cX10_drop, 2, some .int, 0, 0, 0)
set_option maxRecDepth 100000 in
theorem kX10_drop : gMc mX10_drop 0 := ⟨g_in 1266 (by rfl) rfl, g_in 74 (by decide +kernel) rfl, by decide +kernel⟩
def mX10_remindedOf : gM := (yX10_remindedOf, cX10_remindedOf, 7, some .int, 2, 0, 0)
set_option maxRecDepth 100000 in
theorem kX10_remindedOf : gMc mX10_remindedOf 2 := ⟨g_in 1278 (by rfl) rfl, g_in 74 (by decide +kernel) rfl, by decide +kernel⟩
def mX10_linesAs : gM := (yX10_linesAs, cX10_linesAs, 3, some .int, 3, 0, 0)
set_option maxRecDepth 100000 in
theorem kX10_linesAs : gMc mX10_linesAs 2 := ⟨g_in 1274 (by rfl) rfl, g_in 74 (by decide +kernel) rfl, by decide +kernel⟩
def mX10_lines : gM := (yX10_lines, cX10_lines, 1, some .int, 4, 0, 0)
set_option maxRecDepth 100000 in
theorem kX10_lines : gMc mX10_lines 0 := ⟨g_in 1270 (by rfl) rfl, g_in 74 (by decide +kernel) rfl, by decide +kernel⟩
def mX10_print : gM := (yX10_print, cX10_print, 2, some .int, 4, 0, 0)
set_option maxRecDepth 100000 in
theorem kX10_print : gMc mX10_print 0 := ⟨g_in 1282 (by rfl) rfl, g_in 74 (by decide +kernel) rfl, by decide +kernel⟩
def mX10_upTo : gM := (yX10_upTo, cX10_upTo, 4, some .int, 1, 0, 0)
set_option maxRecDepth 100000 in
theorem kX10_upTo : gMc mX10_upTo 1 := ⟨g_in 1294 (by rfl) rfl, g_in 74 (by decide +kernel) rfl, by decide +kernel⟩
def mX10_joyOf : gM := (yX10_joyOf, cX10_joyOf, 4, some .int, 1, 0, 0)
set_option maxRecDepth 100000 in
theorem kX10_joyOf : gMc mX10_joyOf 1 := ⟨g_in 1298 (by rfl) rfl, g_in 74 (by decide +kernel) rfl, by decide +kernel⟩
def mX10_pullOf : gM := (yX10_pullOf, cX10_pullOf, 6, some .int, 3, 0, 0)
set_option maxRecDepth 100000 in
theorem kX10_pullOf : gMc mX10_pullOf 1 := ⟨g_in 1290 (by rfl) rfl, g_in 74 (by decide +kernel) rfl, by decide +kernel⟩
def mX10_readersBehind : gM := (yX10_readersBehind, cX10_readersBehind, 5, some .int, 4, 0, 0)
set_option maxRecDepth 100000 in
theorem kX10_readersBehind : gMc mX10_readersBehind 1 := ⟨g_in 1302 (by rfl) rfl, g_in 74 (by decide +kernel) rfl, by decide +kernel⟩
def mX10_number : gM := (yX10_number, cX10_number, 3, some .int, 5, 0, 0)
set_option maxRecDepth 100000 in
theorem kX10_number : gMc mX10_number 2 := ⟨g_in 1286 (by rfl) rfl, g_in 74 (by decide +kernel) rfl, by decide +kernel⟩
def mX10_readers : gM := (yX10_readers, cX10_readers, 1, some .int, 5, 0, 0)
set_option maxRecDepth 100000 in
theorem kX10_readers : gMc mX10_readers 0 := ⟨g_in 1311 (by rfl) rfl, g_in 74 (by decide +kernel) rfl, by decide +kernel⟩
def mX10_findReach : gM := (yX10_findReach, cX10_findReach, 8, none, 1, 0, 0)
set_option maxRecDepth 100000 in
theorem kX10_findReach : gMc mX10_findReach 2 := ⟨g_in 1328 (by rfl) rfl, g_in 74 (by decide +kernel) rfl, by decide +kernel⟩
def mX10_hooks : gM := (yX10_hooks, cX10_hooks, 8, some .boolean, 3, 0, 0)
set_option maxRecDepth 100000 in
theorem kX10_hooks : gMc mX10_hooks 2 := ⟨g_in 1332 (by rfl) rfl, g_in 74 (by decide +kernel) rfl, by decide +kernel⟩
def mX10_findWorths : gM := (yX10_findWorths, cX10_findWorths, 5, none, 4, 0, 0)
set_option maxRecDepth 100000 in
theorem kX10_findWorths : gMc mX10_findWorths 2 := ⟨g_in 1324 (by rfl) rfl, g_in 74 (by decide +kernel) rfl, by decide +kernel⟩
def mX10_findPlan : gM := (yX10_findPlan, cX10_findPlan, 9, none, 5, 0, 0)
set_option maxRecDepth 100000 in
theorem kX10_findPlan : gMc mX10_findPlan 2 := ⟨g_in 1320 (by rfl) rfl, g_in 74 (by decide +kernel) rfl, by decide +kernel⟩
def mX10_plan : gM := (yX10_plan, cX10_plan, 7, some .int, 6, 0, 0)
set_option maxRecDepth 100000 in
theorem kX10_plan : gMc mX10_plan 3 := ⟨g_in 1315 (by rfl) rfl, g_in 74 (by decide +kernel) rfl, by decide +kernel⟩
def mX10_findAll : gM := (yX10_findAll, cX10_findAll, 9, none, 5, 0, 0)
set_option maxRecDepth 100000 in
theorem kX10_findAll : gMc mX10_findAll 2 := ⟨g_in 1340 (by rfl) rfl, g_in 74 (by decide +kernel) rfl, by decide +kernel⟩
def mX10_kind : gM := (yX10_kind, cX10_kind, 10, some .int, 6, 0, 0)
set_option maxRecDepth 100000 in
theorem kX10_kind : gMc mX10_kind 3 := ⟨g_in 1336 (by rfl) rfl, g_in 74 (by decide +kernel) rfl, by decide +kernel⟩
def mX10_chapter : gM := (yX10_chapter, cX10_chapter, 10, some .int, 1, 0, 0)
set_option maxRecDepth 100000 in
theorem kX10_chapter : gMc mX10_chapter 2 := ⟨g_in 1344 (by rfl) rfl, g_in 74 (by decide +kernel) rfl, by decide +kernel⟩
def mX10_keep : gM := (yX10_keep, cX10_keep, 4, some .int, 1, 0, 0)
set_option maxRecDepth 100000 in
theorem kX10_keep : gMc mX10_keep 1 := ⟨g_in 1349 (by rfl) rfl, g_in 74 (by decide +kernel) rfl, by decide +kernel⟩
def mX10_goBack : gM := (yX10_goBack, cX10_goBack, 4, some .int, 1, 0, 0)
set_option maxRecDepth 100000 in
theorem kX10_goBack : gMc mX10_goBack 1 := ⟨g_in 1353 (by rfl) rfl, g_in 74 (by decide +kernel) rfl, by decide +kernel⟩
def mJ6_bitCount_0f7a4 : gM := (yJ6_bitCount_0f7a4, cJ6_bitCount_0f7a4, 1, some .int, 0, 0, 0)
set_option maxRecDepth 100000 in
theorem kJ6_bitCount_0f7a4 : gMc mJ6_bitCount_0f7a4 1 := ⟨g_in 568 (by rfl) rfl, g_in 80 (by decide +kernel) rfl, by decide +kernel⟩
def mJ9_max_7cf53 : gM := (yJ9_max_7cf53, cJ9_max_7cf53, 2, some .int, 0, 0, 0)
set_option maxRecDepth 100000 in
theorem kJ9_max_7cf53 : gMc mJ9_max_7cf53 2 := ⟨g_in 622 (by rfl) rfl, g_in 81 (by decide +kernel) rfl, by decide +kernel⟩
def mJ9_max_f86c9 : gM := (yJ9_max_f86c9, cJ9_max_f86c9, 4, some .long, 0, 0, 0)
set_option maxRecDepth 100000 in
theorem kJ9_max_f86c9 : gMc mJ9_max_f86c9 2 := ⟨g_in 789 (by rfl) rfl, g_in 81 (by decide +kernel) rfl, by decide +kernel⟩
def mJ9_min_7cf53 : gM := (yJ9_min_7cf53, cJ9_min_7cf53, 2, some .int, 0, 0, 0)
set_option maxRecDepth 100000 in
theorem kJ9_min_7cf53 : gMc mJ9_min_7cf53 2 := ⟨g_in 629 (by rfl) rfl, g_in 81 (by decide +kernel) rfl, by decide +kernel⟩
def mJ9_min_f86c9 : gM := (yJ9_min_f86c9, cJ9_min_f86c9, 4, some .long, 0, 0, 0)
set_option maxRecDepth 100000 in
theorem kJ9_min_f86c9 : gMc mJ9_min_f86c9 2 := ⟨g_in 786 (by rfl) rfl, g_in 81 (by decide +kernel) rfl, by decide +kernel⟩
def mJ0_charAt_5068e : gM := (yJ0_charAt_5068e, cJ0_charAt_5068e, 2, some .char, 4, 0, 0)
set_option maxRecDepth 100000 in
theorem kJ0_charAt_5068e : gMc mJ0_charAt_5068e 1 := ⟨g_in 388 (by rfl) rfl, g_in 75 (by decide +kernel) rfl, by decide +kernel⟩
def mJ0_isLatin1_aae02 : gM := (yJ0_isLatin1_aae02, cJ0_isLatin1_aae02, 1, some .boolean, 0, 0, 0)
set_option maxRecDepth 100000 in
theorem kJ0_isLatin1_aae02 : gMc mJ0_isLatin1_aae02 0 := ⟨g_in 392 (by rfl) rfl, g_in 75 (by decide +kernel) rfl, by decide +kernel⟩
def mJ0_checkIndex_df160 : gM := (yJ0_checkIndex_df160, cJ0_checkIndex_df160, 2, none, 1, 0, 0)
set_option maxRecDepth 100000 in
theorem kJ0_checkIndex_df160 : gMc mJ0_checkIndex_df160 2 := ⟨g_in 400 (by rfl) rfl, g_in 75 (by decide +kernel) rfl, by decide +kernel⟩
def mJ1_charAt_3b067 : gM := (yJ1_charAt_3b067, cJ1_charAt_3b067, 2, some .char, 2, 0, 0)
set_option maxRecDepth 100000 in
theorem kJ1_charAt_3b067 : gMc mJ1_charAt_3b067 2 := ⟨g_in 397 (by rfl) rfl, g_in 76 (by decide +kernel) rfl, by decide +kernel⟩
def mJ2_getChar_3b067 : gM := (yJ2_getChar_3b067, cJ2_getChar_3b067, 2, some .char, 1, 0, 0)
set_option maxRecDepth 100000 in
theorem kJ2_getChar_3b067 : gMc mJ2_getChar_3b067 2 := ⟨g_in 418 (by rfl) rfl, g_in 78 (by decide +kernel) rfl, by decide +kernel⟩
def mJ2_length_9d52b : gM := (yJ2_length_9d52b, cJ2_length_9d52b, 1, some .int, 0, 0, 0)
set_option maxRecDepth 100000 in
theorem kJ2_length_9d52b : gMc mJ2_length_9d52b 1 := ⟨g_in 414 (by rfl) rfl, g_in 78 (by decide +kernel) rfl, by decide +kernel⟩
def mJ2_charAt_3b067 : gM := (yJ2_charAt_3b067, cJ2_charAt_3b067, 2, some .char, 3, 0, 0)
set_option maxRecDepth 100000 in
theorem kJ2_charAt_3b067 : gMc mJ2_charAt_3b067 2 := ⟨g_in 408 (by rfl) rfl, g_in 78 (by decide +kernel) rfl, by decide +kernel⟩
def mJ2_checkIndex_2214a : gM := (yJ2_checkIndex_2214a, cJ2_checkIndex_2214a, 2, none, 2, 0, 0)
set_option maxRecDepth 100000 in
theorem kJ2_checkIndex_2214a : gMc mJ2_checkIndex_2214a 2 := ⟨g_in 411 (by rfl) rfl, g_in 78 (by decide +kernel) rfl, by decide +kernel⟩
def mJ3_checkIndex_8e157 : gM := (yJ3_checkIndex_8e157, cJ3_checkIndex_8e157, 3, some .int, 0, 0, 0)
set_option maxRecDepth 100000 in
theorem kJ3_checkIndex_8e157 : gMc mJ3_checkIndex_8e157 3 := ⟨g_in 405 (by rfl) rfl, g_in 77 (by decide +kernel) rfl, by decide +kernel⟩
theorem lX9_88 : gLV RX9 88 mX8_append := ⟨g_in 352 (by decide +kernel) rfl, g_in 353 (by decide +kernel) rfl, g_in 354 (by decide +kernel) rfl⟩
theorem lX9_92 : gLV RX9 92 mX4_read := ⟨g_in 360 (by decide +kernel) rfl, g_in 361 (by decide +kernel) rfl, g_in 362 (by decide +kernel) rfl⟩
theorem lX4_43 : gLV RX4 43 mX4_skipBlanks := ⟨g_in 364 (by decide +kernel) rfl, g_in 366 (by decide +kernel) rfl, g_in 0 (by decide +kernel) rfl⟩
theorem lX4_54 : gLV RX4 54 mX8_at := ⟨g_in 368 (by decide +kernel) rfl, g_in 369 (by decide +kernel) rfl, g_in 370 (by decide +kernel) rfl⟩
theorem lX4_51 : gLV RX4 51 mX4_readClause := ⟨g_in 372 (by decide +kernel) rfl, g_in 374 (by decide +kernel) rfl, g_in 1 (by decide +kernel) rfl⟩
theorem lX4_57 : gLV RX4 57 mX4_takeWord := ⟨g_in 376 (by decide +kernel) rfl, g_in 378 (by decide +kernel) rfl, g_in 2 (by decide +kernel) rfl⟩
theorem lX4_85 : gLV RX4 85 mX4_isWord := ⟨g_in 380 (by decide +kernel) rfl, g_in 382 (by decide +kernel) rfl, g_in 3 (by decide +kernel) rfl⟩
theorem lX4_91 : gLV RX4 91 mJ0_charAt_5068e := ⟨g_in 385 (by decide +kernel) rfl, g_in 386 (by decide +kernel) rfl, g_in 387 (by decide +kernel) rfl⟩
theorem lJ0_492 : gLV RJ0 492 mJ0_isLatin1_aae02 := ⟨g_in 389 (by decide +kernel) rfl, g_in 390 (by decide +kernel) rfl, g_in 391 (by decide +kernel) rfl⟩
theorem lJ0_495 : gLS RJ0 495 mJ1_charAt_3b067 := ⟨g_in 395 (by decide +kernel) rfl, g_in 396 (by decide +kernel) rfl⟩
theorem lJ1_9 : gLS RJ1 9 mJ0_checkIndex_df160 := ⟨g_in 398 (by decide +kernel) rfl, g_in 399 (by decide +kernel) rfl⟩
theorem lJ0_1059 : gLS RJ0 1059 mJ3_checkIndex_8e157 := ⟨g_in 403 (by decide +kernel) rfl, g_in 404 (by decide +kernel) rfl⟩
theorem lJ0_498 : gLS RJ0 498 mJ2_charAt_3b067 := ⟨g_in 406 (by decide +kernel) rfl, g_in 407 (by decide +kernel) rfl⟩
theorem lJ2_67 : gLS RJ2 67 mJ2_checkIndex_2214a := ⟨g_in 409 (by decide +kernel) rfl, g_in 410 (by decide +kernel) rfl⟩
theorem lJ2_48 : gLS RJ2 48 mJ2_length_9d52b := ⟨g_in 412 (by decide +kernel) rfl, g_in 413 (by decide +kernel) rfl⟩
theorem lJ2_414 : gLS RJ2 414 mJ0_checkIndex_df160 := ⟨g_in 415 (by decide +kernel) rfl, g_in 399 (by decide +kernel) rfl⟩
theorem lJ2_71 : gLS RJ2 71 mJ2_getChar_3b067 := ⟨g_in 416 (by decide +kernel) rfl, g_in 417 (by decide +kernel) rfl⟩
theorem lX4_61 : gLV RX4 61 mX4_fail := ⟨g_in 425 (by decide +kernel) rfl, g_in 427 (by decide +kernel) rfl, g_in 4 (by decide +kernel) rfl⟩
theorem lX4_65 : gLV RX4 65 mX7_clearScene := ⟨g_in 429 (by decide +kernel) rfl, g_in 430 (by decide +kernel) rfl, g_in 431 (by decide +kernel) rfl⟩
theorem lX7_20 : gLV RX7 20 mX7_put := ⟨g_in 433 (by decide +kernel) rfl, g_in 434 (by decide +kernel) rfl, g_in 435 (by decide +kernel) rfl⟩
theorem lX4_69 : gLV RX4 69 mX4_readNumber := ⟨g_in 437 (by decide +kernel) rfl, g_in 439 (by decide +kernel) rfl, g_in 5 (by decide +kernel) rfl⟩
theorem lX4_97 : gLV RX4 97 mX4_faultOf := ⟨g_in 441 (by decide +kernel) rfl, g_in 443 (by decide +kernel) rfl, g_in 6 (by decide +kernel) rfl⟩
theorem lX4_82 : gLS RX4 82 mX7_isList := ⟨g_in 447 (by decide +kernel) rfl, g_in 448 (by decide +kernel) rfl⟩
theorem lX4_108 : gLV RX4 108 mX7_cell := ⟨g_in 450 (by decide +kernel) rfl, g_in 451 (by decide +kernel) rfl, g_in 452 (by decide +kernel) rfl⟩
theorem lX4_101 : gLV RX4 101 mX4_take := ⟨g_in 454 (by decide +kernel) rfl, g_in 456 (by decide +kernel) rfl, g_in 7 (by decide +kernel) rfl⟩
theorem lX4_112 : gLV RX4 112 mX7_include := ⟨g_in 458 (by decide +kernel) rfl, g_in 459 (by decide +kernel) rfl, g_in 460 (by decide +kernel) rfl⟩
theorem lX4_116 : gLV RX4 116 mX7_put := ⟨g_in 462 (by decide +kernel) rfl, g_in 434 (by decide +kernel) rfl, g_in 435 (by decide +kernel) rfl⟩
theorem lX4_72 : gLV RX4 72 mX7_closeScene := ⟨g_in 463 (by decide +kernel) rfl, g_in 464 (by decide +kernel) rfl, g_in 465 (by decide +kernel) rfl⟩
theorem lX4_75 : gLV RX4 75 mX4_readPart := ⟨g_in 467 (by decide +kernel) rfl, g_in 469 (by decide +kernel) rfl, g_in 8 (by decide +kernel) rfl⟩
theorem lX4_78 : gLV RX4 78 mX4_takeComma := ⟨g_in 471 (by decide +kernel) rfl, g_in 473 (by decide +kernel) rfl, g_in 9 (by decide +kernel) rfl⟩
theorem lX9_96 : gLV RX9 96 mX7_become := ⟨g_in 475 (by decide +kernel) rfl, g_in 476 (by decide +kernel) rfl, g_in 477 (by decide +kernel) rfl⟩
theorem lX9_99 : gLV RX9 99 mX0_clear := ⟨g_in 482 (by decide +kernel) rfl, g_in 483 (by decide +kernel) rfl, g_in 484 (by decide +kernel) rfl⟩
theorem lX9_106 : gLV RX9 106 mX9_forgetPlans := ⟨g_in 486 (by decide +kernel) rfl, g_in 488 (by decide +kernel) rfl, g_in 10 (by decide +kernel) rfl⟩
theorem lX9_295 : gLV RX9 295 mX2_forget := ⟨g_in 490 (by decide +kernel) rfl, g_in 491 (by decide +kernel) rfl, g_in 492 (by decide +kernel) rfl⟩
theorem lX9_115 : gLV RX9 115 mX9_isScene := ⟨g_in 503 (by decide +kernel) rfl, g_in 505 (by decide +kernel) rfl, g_in 11 (by decide +kernel) rfl⟩
theorem lX9_119 : gLV RX9 119 mX0_numberOf := ⟨g_in 507 (by decide +kernel) rfl, g_in 508 (by decide +kernel) rfl, g_in 509 (by decide +kernel) rfl⟩
theorem lX0_63 : gLV RX0 63 mX0_setOf := ⟨g_in 511 (by decide +kernel) rfl, g_in 512 (by decide +kernel) rfl, g_in 513 (by decide +kernel) rfl⟩
theorem lX0_48 : gLV RX0 48 mX0_start := ⟨g_in 515 (by decide +kernel) rfl, g_in 516 (by decide +kernel) rfl, g_in 517 (by decide +kernel) rfl⟩
theorem lX0_56 : gLV RX0 56 mX0_end := ⟨g_in 519 (by decide +kernel) rfl, g_in 520 (by decide +kernel) rfl, g_in 521 (by decide +kernel) rfl⟩
theorem lX0_59 : gLV RX0 59 mX0_setFrom := ⟨g_in 523 (by decide +kernel) rfl, g_in 525 (by decide +kernel) rfl, g_in 12 (by decide +kernel) rfl⟩
theorem lX9_123 : gLV RX9 123 mX7_cell := ⟨g_in 527 (by decide +kernel) rfl, g_in 451 (by decide +kernel) rfl, g_in 452 (by decide +kernel) rfl⟩
theorem lX9_127 : gLV RX9 127 mX5_isNever := ⟨g_in 532 (by decide +kernel) rfl, g_in 533 (by decide +kernel) rfl, g_in 534 (by decide +kernel) rfl⟩
theorem lX9_131 : gLV RX9 131 mX5_turnNever := ⟨g_in 536 (by decide +kernel) rfl, g_in 537 (by decide +kernel) rfl, g_in 538 (by decide +kernel) rfl⟩
theorem lX5_23 : gLV RX5 23 mX5_isNever := ⟨g_in 540 (by decide +kernel) rfl, g_in 533 (by decide +kernel) rfl, g_in 534 (by decide +kernel) rfl⟩
theorem lX9_135 : gLV RX9 135 mX0_printed := ⟨g_in 545 (by decide +kernel) rfl, g_in 546 (by decide +kernel) rfl, g_in 547 (by decide +kernel) rfl⟩
theorem lX9_142 : gLV RX9 142 mX0_drafted := ⟨g_in 549 (by decide +kernel) rfl, g_in 550 (by decide +kernel) rfl, g_in 551 (by decide +kernel) rfl⟩
theorem lX0_52 : gLV RX0 52 mX0_printed := ⟨g_in 553 (by decide +kernel) rfl, g_in 546 (by decide +kernel) rfl, g_in 547 (by decide +kernel) rfl⟩
theorem lX9_145 : gLV RX9 145 mX7_all := ⟨g_in 554 (by decide +kernel) rfl, g_in 555 (by decide +kernel) rfl, g_in 556 (by decide +kernel) rfl⟩
theorem lX9_148 : gLV RX9 148 mX7_sum := ⟨g_in 558 (by decide +kernel) rfl, g_in 559 (by decide +kernel) rfl, g_in 560 (by decide +kernel) rfl⟩
theorem lX9_154 : gLV RX9 154 mX7_union := ⟨g_in 562 (by decide +kernel) rfl, g_in 563 (by decide +kernel) rfl, g_in 564 (by decide +kernel) rfl⟩
theorem lX9_157 : gLS RX9 157 mJ6_bitCount_0f7a4 := ⟨g_in 566 (by decide +kernel) rfl, g_in 567 (by decide +kernel) rfl⟩
theorem lX9_162 : gLV RX9 162 mX9_areScenes := ⟨g_in 576 (by decide +kernel) rfl, g_in 578 (by decide +kernel) rfl, g_in 13 (by decide +kernel) rfl⟩
theorem lX9_165 : gLV RX9 165 mX5_nextBehind := ⟨g_in 580 (by decide +kernel) rfl, g_in 581 (by decide +kernel) rfl, g_in 582 (by decide +kernel) rfl⟩
theorem lX5_29 : gLV RX5 29 mX7_union := ⟨g_in 584 (by decide +kernel) rfl, g_in 563 (by decide +kernel) rfl, g_in 564 (by decide +kernel) rfl⟩
theorem lX5_33 : gLV RX5 33 mX7_deadIn := ⟨g_in 585 (by decide +kernel) rfl, g_in 586 (by decide +kernel) rfl, g_in 587 (by decide +kernel) rfl⟩
theorem lX5_37 : gLV RX5 37 mX5_nextWhere := ⟨g_in 589 (by decide +kernel) rfl, g_in 590 (by decide +kernel) rfl, g_in 591 (by decide +kernel) rfl⟩
theorem lX5_48 : gLV RX5 48 mX5_mayTell := ⟨g_in 593 (by decide +kernel) rfl, g_in 595 (by decide +kernel) rfl, g_in 14 (by decide +kernel) rfl⟩
theorem lX9_168 : gLV RX9 168 mX9_freshSets := ⟨g_in 605 (by decide +kernel) rfl, g_in 607 (by decide +kernel) rfl, g_in 15 (by decide +kernel) rfl⟩
theorem lX9_285 : gLV RX9 285 mX6_build := ⟨g_in 609 (by decide +kernel) rfl, g_in 610 (by decide +kernel) rfl, g_in 611 (by decide +kernel) rfl⟩
theorem lX6_66 : gLV RX6 66 mX6_addUp := ⟨g_in 613 (by decide +kernel) rfl, g_in 615 (by decide +kernel) rfl, g_in 16 (by decide +kernel) rfl⟩
theorem lX6_99 : gLV RX6 99 mX7_deadIn := ⟨g_in 617 (by decide +kernel) rfl, g_in 586 (by decide +kernel) rfl, g_in 587 (by decide +kernel) rfl⟩
theorem lX6_70 : gLV RX6 70 mX5_nextWhere := ⟨g_in 618 (by decide +kernel) rfl, g_in 590 (by decide +kernel) rfl, g_in 591 (by decide +kernel) rfl⟩
theorem lX6_76 : gLS RX6 76 mJ6_bitCount_0f7a4 := ⟨g_in 619 (by decide +kernel) rfl, g_in 567 (by decide +kernel) rfl⟩
theorem lX6_82 : gLS RX6 82 mJ9_max_7cf53 := ⟨g_in 620 (by decide +kernel) rfl, g_in 621 (by decide +kernel) rfl⟩
theorem lX6_88 : gLV RX6 88 mX6_spread := ⟨g_in 623 (by decide +kernel) rfl, g_in 625 (by decide +kernel) rfl, g_in 17 (by decide +kernel) rfl⟩
theorem lX6_102 : gLS RX6 102 mJ9_min_7cf53 := ⟨g_in 627 (by decide +kernel) rfl, g_in 628 (by decide +kernel) rfl⟩
theorem lX9_178 : gLV RX9 178 mX6_sceneOfOrder := ⟨g_in 635 (by decide +kernel) rfl, g_in 636 (by decide +kernel) rfl, g_in 637 (by decide +kernel) rfl⟩
theorem lX6_105 : gLV RX6 105 mX6_findEndings := ⟨g_in 639 (by decide +kernel) rfl, g_in 641 (by decide +kernel) rfl, g_in 18 (by decide +kernel) rfl⟩
theorem lX9_182 : gLV RX9 182 mX6_countGood := ⟨g_in 647 (by decide +kernel) rfl, g_in 648 (by decide +kernel) rfl, g_in 649 (by decide +kernel) rfl⟩
theorem lX9_185 : gLV RX9 185 mX6_leastPlace := ⟨g_in 655 (by decide +kernel) rfl, g_in 656 (by decide +kernel) rfl, g_in 657 (by decide +kernel) rfl⟩
theorem lX6_108 : gLV RX6 108 mX6_isPlace := ⟨g_in 659 (by decide +kernel) rfl, g_in 661 (by decide +kernel) rfl, g_in 19 (by decide +kernel) rfl⟩
theorem lX9_188 : gLV RX9 188 mX6_greatestPlace := ⟨g_in 663 (by decide +kernel) rfl, g_in 664 (by decide +kernel) rfl, g_in 665 (by decide +kernel) rfl⟩
theorem lX9_191 : gLV RX9 191 mX7_openBehind := ⟨g_in 671 (by decide +kernel) rfl, g_in 672 (by decide +kernel) rfl, g_in 673 (by decide +kernel) rfl⟩
theorem lX7_34 : gLV RX7 34 mX7_union := ⟨g_in 675 (by decide +kernel) rfl, g_in 563 (by decide +kernel) rfl, g_in 564 (by decide +kernel) rfl⟩
theorem lX9_197 : gLV RX9 197 mX6_takenAlong := ⟨g_in 684 (by decide +kernel) rfl, g_in 685 (by decide +kernel) rfl, g_in 686 (by decide +kernel) rfl⟩
theorem lX6_112 : gLV RX6 112 mX7_all := ⟨g_in 688 (by decide +kernel) rfl, g_in 555 (by decide +kernel) rfl, g_in 556 (by decide +kernel) rfl⟩
theorem lX9_200 : gLV RX9 200 mX6_shortestTo := ⟨g_in 693 (by decide +kernel) rfl, g_in 694 (by decide +kernel) rfl, g_in 695 (by decide +kernel) rfl⟩
theorem lX9_203 : gLV RX9 203 mX0_mayBecome := ⟨g_in 701 (by decide +kernel) rfl, g_in 702 (by decide +kernel) rfl, g_in 703 (by decide +kernel) rfl⟩
theorem lX9_212 : gLV RX9 212 mX0_setUpTo := ⟨g_in 713 (by decide +kernel) rfl, g_in 714 (by decide +kernel) rfl, g_in 715 (by decide +kernel) rfl⟩
theorem lX9_215 : gLV RX9 215 mX0_append := ⟨g_in 717 (by decide +kernel) rfl, g_in 718 (by decide +kernel) rfl, g_in 719 (by decide +kernel) rfl⟩
theorem lX9_216 : gLV RX9 216 mX0_takeLast := ⟨g_in 725 (by decide +kernel) rfl, g_in 726 (by decide +kernel) rfl, g_in 727 (by decide +kernel) rfl⟩
theorem lX9_219 : gLV RX9 219 mX3_linesOf := ⟨g_in 733 (by decide +kernel) rfl, g_in 734 (by decide +kernel) rfl, g_in 735 (by decide +kernel) rfl⟩
theorem lX3_25 : gLV RX3 25 mX3_remindedIn := ⟨g_in 737 (by decide +kernel) rfl, g_in 738 (by decide +kernel) rfl, g_in 739 (by decide +kernel) rfl⟩
theorem lX3_34 : gLV RX3 34 mX0_setOf := ⟨g_in 741 (by decide +kernel) rfl, g_in 512 (by decide +kernel) rfl, g_in 513 (by decide +kernel) rfl⟩
theorem lX3_43 : gLV RX3 43 mX7_union := ⟨g_in 742 (by decide +kernel) rfl, g_in 563 (by decide +kernel) rfl, g_in 564 (by decide +kernel) rfl⟩
theorem lX3_29 : gLS RX3 29 mJ6_bitCount_0f7a4 := ⟨g_in 743 (by decide +kernel) rfl, g_in 567 (by decide +kernel) rfl⟩
theorem lX3_39 : gLV RX3 39 mX7_sum := ⟨g_in 744 (by decide +kernel) rfl, g_in 559 (by decide +kernel) rfl, g_in 560 (by decide +kernel) rfl⟩
theorem lX9_222 : gLV RX9 222 mX0_closeNumber := ⟨g_in 749 (by decide +kernel) rfl, g_in 750 (by decide +kernel) rfl, g_in 751 (by decide +kernel) rfl⟩
theorem lX9_225 : gLV RX9 225 mX0_end := ⟨g_in 757 (by decide +kernel) rfl, g_in 520 (by decide +kernel) rfl, g_in 521 (by decide +kernel) rfl⟩
theorem lX9_228 : gLV RX9 228 mX0_start := ⟨g_in 758 (by decide +kernel) rfl, g_in 516 (by decide +kernel) rfl, g_in 517 (by decide +kernel) rfl⟩
theorem lX9_231 : gLV RX9 231 mX3_pullOf := ⟨g_in 759 (by decide +kernel) rfl, g_in 760 (by decide +kernel) rfl, g_in 761 (by decide +kernel) rfl⟩
theorem lX3_55 : gLV RX3 55 mX3_openBehindNumber := ⟨g_in 763 (by decide +kernel) rfl, g_in 764 (by decide +kernel) rfl, g_in 765 (by decide +kernel) rfl⟩
theorem lX3_46 : gLV RX3 46 mX0_end := ⟨g_in 767 (by decide +kernel) rfl, g_in 520 (by decide +kernel) rfl, g_in 521 (by decide +kernel) rfl⟩
theorem lX3_49 : gLV RX3 49 mX0_setUpTo := ⟨g_in 768 (by decide +kernel) rfl, g_in 714 (by decide +kernel) rfl, g_in 715 (by decide +kernel) rfl⟩
theorem lX3_52 : gLV RX3 52 mX7_openBehind := ⟨g_in 769 (by decide +kernel) rfl, g_in 672 (by decide +kernel) rfl, g_in 673 (by decide +kernel) rfl⟩
theorem lX3_58 : gLV RX3 58 mX0_start := ⟨g_in 770 (by decide +kernel) rfl, g_in 516 (by decide +kernel) rfl, g_in 517 (by decide +kernel) rfl⟩
theorem lX3_61 : gLV RX3 61 mX0_sceneOf := ⟨g_in 771 (by decide +kernel) rfl, g_in 772 (by decide +kernel) rfl, g_in 773 (by decide +kernel) rfl⟩
theorem lX3_64 : gLV RX3 64 mX7_cell := ⟨g_in 775 (by decide +kernel) rfl, g_in 451 (by decide +kernel) rfl, g_in 452 (by decide +kernel) rfl⟩
theorem lX9_234 : gLV RX9 234 mX3_readersBehind := ⟨g_in 776 (by decide +kernel) rfl, g_in 777 (by decide +kernel) rfl, g_in 778 (by decide +kernel) rfl⟩
theorem lX3_69 : gLV RX3 69 mX3_pullOf := ⟨g_in 781 (by decide +kernel) rfl, g_in 760 (by decide +kernel) rfl, g_in 761 (by decide +kernel) rfl⟩
theorem lX3_76 : gLS RX3 76 mJ9_min_f86c9 := ⟨g_in 784 (by decide +kernel) rfl, g_in 785 (by decide +kernel) rfl⟩
theorem lX3_82 : gLS RX3 82 mJ9_max_f86c9 := ⟨g_in 787 (by decide +kernel) rfl, g_in 788 (by decide +kernel) rfl⟩
theorem lX9_237 : gLV RX9 237 mX3_openBehindNumber := ⟨g_in 790 (by decide +kernel) rfl, g_in 764 (by decide +kernel) rfl, g_in 765 (by decide +kernel) rfl⟩
theorem lX9_240 : gLV RX9 240 mX3_remindedIn := ⟨g_in 791 (by decide +kernel) rfl, g_in 738 (by decide +kernel) rfl, g_in 739 (by decide +kernel) rfl⟩
theorem lX9_243 : gLV RX9 243 mX0_sceneOf := ⟨g_in 792 (by decide +kernel) rfl, g_in 772 (by decide +kernel) rfl, g_in 773 (by decide +kernel) rfl⟩
theorem lX9_246 : gLV RX9 246 mX9_freshPlans := ⟨g_in 801 (by decide +kernel) rfl, g_in 803 (by decide +kernel) rfl, g_in 20 (by decide +kernel) rfl⟩
theorem lX9_250 : gLV RX9 250 mX2_planFor := ⟨g_in 843 (by decide +kernel) rfl, g_in 844 (by decide +kernel) rfl, g_in 845 (by decide +kernel) rfl⟩
theorem lX2_58 : gLV RX2 58 mX0_printed := ⟨g_in 847 (by decide +kernel) rfl, g_in 546 (by decide +kernel) rfl, g_in 547 (by decide +kernel) rfl⟩
theorem lX2_64 : gLV RX2 64 mX0_setUpTo := ⟨g_in 848 (by decide +kernel) rfl, g_in 714 (by decide +kernel) rfl, g_in 715 (by decide +kernel) rfl⟩
theorem lX2_53 : gLS RX2 53 mJ6_bitCount_0f7a4 := ⟨g_in 849 (by decide +kernel) rfl, g_in 567 (by decide +kernel) rfl⟩
theorem lX2_69 : gLV RX2 69 mX2_chooseFirst := ⟨g_in 850 (by decide +kernel) rfl, g_in 852 (by decide +kernel) rfl, g_in 21 (by decide +kernel) rfl⟩
theorem lX2_73 : gLV RX2 73 mX2_findParts := ⟨g_in 854 (by decide +kernel) rfl, g_in 856 (by decide +kernel) rfl, g_in 22 (by decide +kernel) rfl⟩
theorem lX2_103 : gLV RX2 103 mX2_growPart := ⟨g_in 858 (by decide +kernel) rfl, g_in 860 (by decide +kernel) rfl, g_in 23 (by decide +kernel) rfl⟩
theorem lX2_112 : gLV RX2 112 mX7_cell := ⟨g_in 862 (by decide +kernel) rfl, g_in 451 (by decide +kernel) rfl, g_in 452 (by decide +kernel) rfl⟩
theorem lX2_87 : gLS RX2 87 mJ9_max_7cf53 := ⟨g_in 863 (by decide +kernel) rfl, g_in 621 (by decide +kernel) rfl⟩
theorem lX2_76 : gLV RX2 76 mX2_worthOfPart := ⟨g_in 864 (by decide +kernel) rfl, g_in 866 (by decide +kernel) rfl, g_in 24 (by decide +kernel) rfl⟩
theorem lX9_255 : gLV RX9 255 mX2_worthOfBest := ⟨g_in 868 (by decide +kernel) rfl, g_in 869 (by decide +kernel) rfl, g_in 870 (by decide +kernel) rfl⟩
theorem lX9_258 : gLV RX9 258 mX2_partOfBest := ⟨g_in 872 (by decide +kernel) rfl, g_in 873 (by decide +kernel) rfl, g_in 874 (by decide +kernel) rfl⟩
theorem lX2_45 : gLV RX2 45 mX2_worthOfBest := ⟨g_in 876 (by decide +kernel) rfl, g_in 869 (by decide +kernel) rfl, g_in 870 (by decide +kernel) rfl⟩
theorem lX9_261 : gLV RX9 261 mX7_deathsOf := ⟨g_in 881 (by decide +kernel) rfl, g_in 882 (by decide +kernel) rfl, g_in 883 (by decide +kernel) rfl⟩
theorem lX7_30 : gLV RX7 30 mX7_deadIn := ⟨g_in 885 (by decide +kernel) rfl, g_in 586 (by decide +kernel) rfl, g_in 587 (by decide +kernel) rfl⟩
theorem lX9_264 : gLV RX9 264 mX2_gatherFor := ⟨g_in 886 (by decide +kernel) rfl, g_in 887 (by decide +kernel) rfl, g_in 888 (by decide +kernel) rfl⟩
theorem lX2_80 : gLV RX2 80 mX2_isGathered := ⟨g_in 890 (by decide +kernel) rfl, g_in 892 (by decide +kernel) rfl, g_in 25 (by decide +kernel) rfl⟩
theorem lX2_84 : gLV RX2 84 mX2_gatherBehind := ⟨g_in 894 (by decide +kernel) rfl, g_in 896 (by decide +kernel) rfl, g_in 26 (by decide +kernel) rfl⟩
theorem lX9_267 : gLV RX9 267 mX2_kindest := ⟨g_in 898 (by decide +kernel) rfl, g_in 899 (by decide +kernel) rfl, g_in 900 (by decide +kernel) rfl⟩
theorem lX2_49 : gLV RX2 49 mX2_isKinder := ⟨g_in 902 (by decide +kernel) rfl, g_in 904 (by decide +kernel) rfl, g_in 27 (by decide +kernel) rfl⟩
theorem lX9_270 : gLV RX9 270 mX2_worthGathered := ⟨g_in 906 (by decide +kernel) rfl, g_in 907 (by decide +kernel) rfl, g_in 908 (by decide +kernel) rfl⟩
theorem lX9_273 : gLV RX9 273 mX1_part := ⟨g_in 914 (by decide +kernel) rfl, g_in 915 (by decide +kernel) rfl, g_in 916 (by decide +kernel) rfl⟩
theorem lX1_27 : gLV RX1 27 mX0_printed := ⟨g_in 918 (by decide +kernel) rfl, g_in 546 (by decide +kernel) rfl, g_in 547 (by decide +kernel) rfl⟩
theorem lX1_33 : gLV RX1 33 mX1_chooseFirst := ⟨g_in 919 (by decide +kernel) rfl, g_in 921 (by decide +kernel) rfl, g_in 28 (by decide +kernel) rfl⟩
theorem lX1_43 : gLV RX1 43 mX7_sum := ⟨g_in 924 (by decide +kernel) rfl, g_in 559 (by decide +kernel) rfl, g_in 560 (by decide +kernel) rfl⟩
theorem lX9_276 : gLV RX9 276 mX1_uneven := ⟨g_in 925 (by decide +kernel) rfl, g_in 926 (by decide +kernel) rfl, g_in 927 (by decide +kernel) rfl⟩
theorem lX9_279 : gLV RX9 279 mX1_scenesIn := ⟨g_in 929 (by decide +kernel) rfl, g_in 930 (by decide +kernel) rfl, g_in 931 (by decide +kernel) rfl⟩
theorem lX9_282 : gLV RX9 282 mX0_become := ⟨g_in 937 (by decide +kernel) rfl, g_in 938 (by decide +kernel) rfl, g_in 939 (by decide +kernel) rfl⟩
theorem lX10_99 : gLS RX10 99 mX10_in := ⟨g_in 1079 (by decide +kernel) rfl, g_in 1080 (by decide +kernel) rfl⟩
theorem lX10_114 : gLV RX10 114 mX10_here := ⟨g_in 1087 (by decide +kernel) rfl, g_in 1089 (by decide +kernel) rfl, g_in 29 (by decide +kernel) rfl⟩
theorem lX10_171 : gLV RX10 171 mX10_takeScene := ⟨g_in 1091 (by decide +kernel) rfl, g_in 1093 (by decide +kernel) rfl, g_in 30 (by decide +kernel) rfl⟩
theorem lX10_158 : gLV RX10 158 mX10_takeWord := ⟨g_in 1095 (by decide +kernel) rfl, g_in 1097 (by decide +kernel) rfl, g_in 31 (by decide +kernel) rfl⟩
theorem lX10_128 : gLV RX10 128 mX10_isWord := ⟨g_in 1101 (by decide +kernel) rfl, g_in 1103 (by decide +kernel) rfl, g_in 32 (by decide +kernel) rfl⟩
theorem lX10_136 : gLV RX10 136 mX10_want := ⟨g_in 1105 (by decide +kernel) rfl, g_in 1107 (by decide +kernel) rfl, g_in 33 (by decide +kernel) rfl⟩
theorem lX10_147 : gLV RX10 147 mX10_takeNumber := ⟨g_in 1109 (by decide +kernel) rfl, g_in 1111 (by decide +kernel) rfl, g_in 34 (by decide +kernel) rfl⟩
theorem lX10_161 : gLV RX10 161 mX10_kindOf := ⟨g_in 1115 (by decide +kernel) rfl, g_in 1117 (by decide +kernel) rfl, g_in 35 (by decide +kernel) rfl⟩
theorem lX10_164 : gLV RX10 164 mX10_takeDying := ⟨g_in 1119 (by decide +kernel) rfl, g_in 1121 (by decide +kernel) rfl, g_in 36 (by decide +kernel) rfl⟩
theorem lX10_167 : gLV RX10 167 mX10_takeList := ⟨g_in 1123 (by decide +kernel) rfl, g_in 1125 (by decide +kernel) rfl, g_in 37 (by decide +kernel) rfl⟩
theorem lX10_143 : gLS RX10 143 mX10_has := ⟨g_in 1127 (by decide +kernel) rfl, g_in 1128 (by decide +kernel) rfl⟩
theorem lX10_151 : gLV RX10 151 mX10_isAhead := ⟨g_in 1130 (by decide +kernel) rfl, g_in 1132 (by decide +kernel) rfl, g_in 38 (by decide +kernel) rfl⟩
theorem lX10_154 : gLS RX10 154 mX10_one := ⟨g_in 1134 (by decide +kernel) rfl, g_in 1135 (by decide +kernel) rfl⟩
theorem lX10_195 : gLV RX10 195 mX10_noScene := ⟨g_in 1145 (by decide +kernel) rfl, g_in 1147 (by decide +kernel) rfl, g_in 39 (by decide +kernel) rfl⟩
theorem lX10_199 : gLV RX10 199 mX10_setOf := ⟨g_in 1149 (by decide +kernel) rfl, g_in 1151 (by decide +kernel) rfl, g_in 40 (by decide +kernel) rfl⟩
theorem lX10_202 : gLV RX10 202 mX10_numberOf := ⟨g_in 1153 (by decide +kernel) rfl, g_in 1155 (by decide +kernel) rfl, g_in 41 (by decide +kernel) rfl⟩
theorem lX10_241 : gLV RX10 241 mX10_setIn := ⟨g_in 1157 (by decide +kernel) rfl, g_in 1159 (by decide +kernel) rfl, g_in 42 (by decide +kernel) rfl⟩
theorem lX10_208 : gLS RX10 208 mX10_ones := ⟨g_in 1170 (by decide +kernel) rfl, g_in 1171 (by decide +kernel) rfl⟩
theorem lX10_192 : gLV RX10 192 mX10_all := ⟨g_in 1173 (by decide +kernel) rfl, g_in 1175 (by decide +kernel) rfl, g_in 43 (by decide +kernel) rfl⟩
theorem lX10_211 : gLV RX10 211 mX10_linesOf := ⟨g_in 1177 (by decide +kernel) rfl, g_in 1179 (by decide +kernel) rfl, g_in 44 (by decide +kernel) rfl⟩
theorem lX10_214 : gLV RX10 214 mX10_nevers := ⟨g_in 1181 (by decide +kernel) rfl, g_in 1183 (by decide +kernel) rfl, g_in 45 (by decide +kernel) rfl⟩
theorem lX10_217 : gLV RX10 217 mX10_union := ⟨g_in 1185 (by decide +kernel) rfl, g_in 1187 (by decide +kernel) rfl, g_in 46 (by decide +kernel) rfl⟩
theorem lX10_220 : gLV RX10 220 mX10_noSet := ⟨g_in 1193 (by decide +kernel) rfl, g_in 1195 (by decide +kernel) rfl, g_in 47 (by decide +kernel) rfl⟩
theorem lX10_223 : gLV RX10 223 mX10_mayCome := ⟨g_in 1197 (by decide +kernel) rfl, g_in 1199 (by decide +kernel) rfl, g_in 48 (by decide +kernel) rfl⟩
theorem lX10_231 : gLV RX10 231 mX10_findWays := ⟨g_in 1210 (by decide +kernel) rfl, g_in 1212 (by decide +kernel) rfl, g_in 49 (by decide +kernel) rfl⟩
theorem lX10_226 : gLV RX10 226 mX10_findComing := ⟨g_in 1214 (by decide +kernel) rfl, g_in 1216 (by decide +kernel) rfl, g_in 50 (by decide +kernel) rfl⟩
theorem lX10_234 : gLV RX10 234 mX10_findGood := ⟨g_in 1226 (by decide +kernel) rfl, g_in 1228 (by decide +kernel) rfl, g_in 51 (by decide +kernel) rfl⟩
theorem lX10_237 : gLV RX10 237 mX10_openOf := ⟨g_in 1238 (by decide +kernel) rfl, g_in 1240 (by decide +kernel) rfl, g_in 52 (by decide +kernel) rfl⟩
theorem lX10_247 : gLV RX10 247 mX10_linesAs := ⟨g_in 1271 (by decide +kernel) rfl, g_in 1273 (by decide +kernel) rfl, g_in 53 (by decide +kernel) rfl⟩
theorem lX10_244 : gLV RX10 244 mX10_remindedOf := ⟨g_in 1275 (by decide +kernel) rfl, g_in 1277 (by decide +kernel) rfl, g_in 54 (by decide +kernel) rfl⟩
theorem lX10_258 : gLV RX10 258 mX10_pullOf := ⟨g_in 1287 (by decide +kernel) rfl, g_in 1289 (by decide +kernel) rfl, g_in 55 (by decide +kernel) rfl⟩
theorem lX10_250 : gLV RX10 250 mX10_upTo := ⟨g_in 1291 (by decide +kernel) rfl, g_in 1293 (by decide +kernel) rfl, g_in 56 (by decide +kernel) rfl⟩
theorem lX10_253 : gLV RX10 253 mX10_joyOf := ⟨g_in 1295 (by decide +kernel) rfl, g_in 1297 (by decide +kernel) rfl, g_in 57 (by decide +kernel) rfl⟩
theorem lX10_265 : gLV RX10 265 mX10_readersBehind := ⟨g_in 1299 (by decide +kernel) rfl, g_in 1301 (by decide +kernel) rfl, g_in 58 (by decide +kernel) rfl⟩
theorem lX10_284 : gLV RX10 284 mX10_findPlan := ⟨g_in 1317 (by decide +kernel) rfl, g_in 1319 (by decide +kernel) rfl, g_in 59 (by decide +kernel) rfl⟩
theorem lX10_279 : gLV RX10 279 mX10_findWorths := ⟨g_in 1321 (by decide +kernel) rfl, g_in 1323 (by decide +kernel) rfl, g_in 60 (by decide +kernel) rfl⟩
theorem lX10_272 : gLV RX10 272 mX10_findReach := ⟨g_in 1325 (by decide +kernel) rfl, g_in 1327 (by decide +kernel) rfl, g_in 61 (by decide +kernel) rfl⟩
theorem lX10_276 : gLV RX10 276 mX10_hooks := ⟨g_in 1329 (by decide +kernel) rfl, g_in 1331 (by decide +kernel) rfl, g_in 62 (by decide +kernel) rfl⟩
theorem lX10_287 : gLV RX10 287 mX10_findAll := ⟨g_in 1337 (by decide +kernel) rfl, g_in 1339 (by decide +kernel) rfl, g_in 63 (by decide +kernel) rfl⟩
