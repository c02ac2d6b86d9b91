theorem w_0 : Cond.selects RX5 yX5_cellOf yX5_cellOf ∈ WT := wTS (q := (yX5_cellOf, 4)) (List.mem_append_left _ (List.mem_of_getElem? (i := 0) rfl))
theorem w_1 : Cond.selects RX7 yX7_isWrong yX7_isWrong ∈ WT := wTS (q := (yX7_isWrong, 9)) (List.mem_append_left _ (List.mem_of_getElem? (i := 1) rfl))
theorem w_2 : Cond.selects RX7 yX7_sourcesOfPage yX7_sourcesOfPage ∈ WT := wTS (q := (yX7_sourcesOfPage, 9)) (List.mem_append_left _ (List.mem_of_getElem? (i := 2) rfl))
theorem w_3 : Cond.selects RX7 yX7_isNowhere yX7_isNowhere ∈ WT := wTS (q := (yX7_isNowhere, 9)) (List.mem_append_left _ (List.mem_of_getElem? (i := 3) rfl))
theorem w_4 : Cond.selects RX1 yX1_begin yX1_begin ∈ WT := wTS (q := (yX1_begin, 13)) (List.mem_append_left _ (List.mem_of_getElem? (i := 4) rfl))
theorem w_5 : Cond.selects RX6 yX6_byteAt yX6_byteAt ∈ WT := wTS (q := (yX6_byteAt, 7)) (List.mem_append_left _ (List.mem_of_getElem? (i := 5) rfl))
theorem w_6 : Cond.selects RX6 yX6_goOverNumber yX6_goOverNumber ∈ WT := wTS (q := (yX6_goOverNumber, 7)) (List.mem_append_left _ (List.mem_of_getElem? (i := 6) rfl))
theorem w_7 : Cond.selects RX6 yX6_goOverWord yX6_goOverWord ∈ WT := wTS (q := (yX6_goOverWord, 7)) (List.mem_append_left _ (List.mem_of_getElem? (i := 7) rfl))
theorem w_8 : Cond.selects RX6 yX6_wordNumber yX6_wordNumber ∈ WT := wTS (q := (yX6_wordNumber, 7)) (List.mem_append_left _ (List.mem_of_getElem? (i := 8) rfl))
theorem w_9 : Cond.selects RX6 yX6_goOverSign yX6_goOverSign ∈ WT := wTS (q := (yX6_goOverSign, 7)) (List.mem_append_left _ (List.mem_of_getElem? (i := 9) rfl))
theorem w_10 : Cond.selects RX1 yX1_takeClause yX1_takeClause ∈ WT := wTS (q := (yX1_takeClause, 13)) (List.mem_append_left _ (List.mem_of_getElem? (i := 10) rfl))
theorem w_11 : Cond.selects RX1 yX1_beginsClause yX1_beginsClause ∈ WT := wTS (q := (yX1_beginsClause, 13)) (List.mem_append_left _ (List.mem_of_getElem? (i := 11) rfl))
theorem w_12 : Cond.selects RX1 yX1_fail yX1_fail ∈ WT := wTS (q := (yX1_fail, 13)) (List.mem_append_left _ (List.mem_of_getElem? (i := 12) rfl))
theorem w_13 : Cond.selects RX1 yX1_takeSetting yX1_takeSetting ∈ WT := wTS (q := (yX1_takeSetting, 13)) (List.mem_append_left _ (List.mem_of_getElem? (i := 13) rfl))
theorem w_14 : Cond.selects RX1 yX1_set yX1_set ∈ WT := wTS (q := (yX1_set, 13)) (List.mem_append_left _ (List.mem_of_getElem? (i := 14) rfl))
theorem w_15 : Cond.selects RX1 yX1_takeValue yX1_takeValue ∈ WT := wTS (q := (yX1_takeValue, 13)) (List.mem_append_left _ (List.mem_of_getElem? (i := 15) rfl))
theorem w_16 : Cond.selects RX1 yX1_emit yX1_emit ∈ WT := wTS (q := (yX1_emit, 13)) (List.mem_append_right _ (List.mem_append_left _ (List.mem_of_getElem? (i := 0) rfl)))
theorem w_17 : Cond.selects RX1 yX1_takeFactStart yX1_takeFactStart ∈ WT := wTS (q := (yX1_takeFactStart, 13)) (List.mem_append_right _ (List.mem_append_left _ (List.mem_of_getElem? (i := 1) rfl)))
theorem w_18 : Cond.selects RX1 yX1_putOff yX1_putOff ∈ WT := wTS (q := (yX1_putOff, 13)) (List.mem_append_right _ (List.mem_append_left _ (List.mem_of_getElem? (i := 2) rfl)))
theorem w_19 : Cond.selects RX1 yX1_takeBehindValue yX1_takeBehindValue ∈ WT := wTS (q := (yX1_takeBehindValue, 13)) (List.mem_append_right _ (List.mem_append_left _ (List.mem_of_getElem? (i := 3) rfl)))
theorem w_20 : Cond.selects RX1 yX1_join yX1_join ∈ WT := wTS (q := (yX1_join, 13)) (List.mem_append_right _ (List.mem_append_left _ (List.mem_of_getElem? (i := 4) rfl)))
theorem w_21 : Cond.selects RX1 yX1_emitDownTo yX1_emitDownTo ∈ WT := wTS (q := (yX1_emitDownTo, 13)) (List.mem_append_right _ (List.mem_append_left _ (List.mem_of_getElem? (i := 5) rfl)))
theorem w_22 : Cond.selects RX1 yX1_lastWaiting yX1_lastWaiting ∈ WT := wTS (q := (yX1_lastWaiting, 13)) (List.mem_append_right _ (List.mem_append_left _ (List.mem_of_getElem? (i := 6) rfl)))
theorem w_23 : Cond.selects RX1 yX1_takeBehindFact yX1_takeBehindFact ∈ WT := wTS (q := (yX1_takeBehindFact, 13)) (List.mem_append_right _ (List.mem_append_left _ (List.mem_of_getElem? (i := 7) rfl)))
theorem w_24 : Cond.selects RX1 yX1_dropBracket yX1_dropBracket ∈ WT := wTS (q := (yX1_dropBracket, 13)) (List.mem_append_right _ (List.mem_append_left _ (List.mem_of_getElem? (i := 8) rfl)))
theorem w_25 : Cond.selects RX1 yX1_takeBehindClause yX1_takeBehindClause ∈ WT := wTS (q := (yX1_takeBehindClause, 13)) (List.mem_append_right _ (List.mem_append_left _ (List.mem_of_getElem? (i := 9) rfl)))
theorem w_26 : Cond.selects RX1 yX1_takeSign yX1_takeSign ∈ WT := wTS (q := (yX1_takeSign, 13)) (List.mem_append_right _ (List.mem_append_left _ (List.mem_of_getElem? (i := 10) rfl)))
theorem w_27 : Cond.selects RX8 yX8_readerAt yX8_readerAt ∈ WT := wTS (q := (yX8_readerAt, 10)) (List.mem_append_right _ (List.mem_append_left _ (List.mem_of_getElem? (i := 11) rfl)))
theorem w_28 : Cond.selects RX8 yX8_chanceOf yX8_chanceOf ∈ WT := wTS (q := (yX8_chanceOf, 10)) (List.mem_append_right _ (List.mem_append_left _ (List.mem_of_getElem? (i := 12) rfl)))
theorem w_29 : Cond.selects RX7 yX7_apart yX7_apart ∈ WT := wTS (q := (yX7_apart, 9)) (List.mem_append_right _ (List.mem_append_left _ (List.mem_of_getElem? (i := 13) rfl)))
theorem w_30 : Cond.selects RX7 yX7_late yX7_late ∈ WT := wTS (q := (yX7_late, 9)) (List.mem_append_right _ (List.mem_append_left _ (List.mem_of_getElem? (i := 14) rfl)))
theorem w_31 : Cond.selects RX7 yX7_isVolume yX7_isVolume ∈ WT := wTS (q := (yX7_isVolume, 9)) (List.mem_append_right _ (List.mem_append_left _ (List.mem_of_getElem? (i := 15) rfl)))
theorem w_32 : Cond.selects RX3 yX3_pop yX3_pop ∈ WT := wTS (q := (yX3_pop, 6)) (List.mem_append_right _ (List.mem_append_right _ (List.mem_append_left _ (List.mem_of_getElem? (i := 0) rfl))))
theorem w_33 : Cond.selects RX3 yX3_step yX3_step ∈ WT := wTS (q := (yX3_step, 6)) (List.mem_append_right _ (List.mem_append_right _ (List.mem_append_left _ (List.mem_of_getElem? (i := 1) rfl))))
theorem w_34 : Cond.selects RX3 yX3_push yX3_push ∈ WT := wTS (q := (yX3_push, 6)) (List.mem_append_right _ (List.mem_append_right _ (List.mem_append_left _ (List.mem_of_getElem? (i := 2) rfl))))
theorem w_35 : Cond.selects RX0 yX0_canWrite yX0_canWrite ∈ WT := wTS (q := (yX0_canWrite, 5)) (List.mem_append_right _ (List.mem_append_right _ (List.mem_append_left _ (List.mem_of_getElem? (i := 3) rfl))))
theorem w_36 : Cond.selects RX0 yX0_placeFrom yX0_placeFrom ∈ WT := wTS (q := (yX0_placeFrom, 5)) (List.mem_append_right _ (List.mem_append_right _ (List.mem_append_left _ (List.mem_of_getElem? (i := 4) rfl))))
theorem w_37 : Cond.selects RX8 yX8_makerAt yX8_makerAt ∈ WT := wTS (q := (yX8_makerAt, 10)) (List.mem_append_right _ (List.mem_append_right _ (List.mem_append_left _ (List.mem_of_getElem? (i := 5) rfl))))
theorem w_38 : Cond.selects RX7 yX7_growthBehind yX7_growthBehind ∈ WT := wTS (q := (yX7_growthBehind, 9)) (List.mem_append_right _ (List.mem_append_right _ (List.mem_append_left _ (List.mem_of_getElem? (i := 6) rfl))))
theorem w_39 : Cond.selects RX0 yX0_placeFor yX0_placeFor ∈ WT := wTS (q := (yX0_placeFor, 5)) (List.mem_append_right _ (List.mem_append_right _ (List.mem_append_left _ (List.mem_of_getElem? (i := 7) rfl))))
theorem w_40 : Cond.selects RX8 yX8_fillRow yX8_fillRow ∈ WT := wTS (q := (yX8_fillRow, 10)) (List.mem_append_right _ (List.mem_append_right _ (List.mem_append_left _ (List.mem_of_getElem? (i := 8) rfl))))
theorem w_41 : Cond.selects RX4 yX4_waitWith yX4_waitWith ∈ WT := wTS (q := (yX4_waitWith, 6)) (List.mem_append_right _ (List.mem_append_right _ (List.mem_append_left _ (List.mem_of_getElem? (i := 9) rfl))))
theorem w_42 : Cond.selects RX4 yX4_waitOf yX4_waitOf ∈ WT := wTS (q := (yX4_waitOf, 6)) (List.mem_append_right _ (List.mem_append_right _ (List.mem_append_left _ (List.mem_of_getElem? (i := 10) rfl))))
theorem w_43 : Cond.selects RX4 yX4_firstOf yX4_firstOf ∈ WT := wTS (q := (yX4_firstOf, 6)) (List.mem_append_right _ (List.mem_append_right _ (List.mem_append_left _ (List.mem_of_getElem? (i := 11) rfl))))
theorem w_44 : Cond.selects RX4 yX4_chanceOfAll yX4_chanceOfAll ∈ WT := wTS (q := (yX4_chanceOfAll, 6)) (List.mem_append_right _ (List.mem_append_right _ (List.mem_append_left _ (List.mem_of_getElem? (i := 12) rfl))))
theorem w_45 : Cond.selects RX4 yX4_coinsOf yX4_coinsOf ∈ WT := wTS (q := (yX4_coinsOf, 6)) (List.mem_append_right _ (List.mem_append_right _ (List.mem_append_left _ (List.mem_of_getElem? (i := 13) rfl))))
theorem w_46 : Cond.selects RX7 yX7_knewWrongDay yX7_knewWrongDay ∈ WT := wTS (q := (yX7_knewWrongDay, 9)) (List.mem_append_right _ (List.mem_append_right _ (List.mem_append_left _ (List.mem_of_getElem? (i := 14) rfl))))
theorem w_47 : Cond.selects RX9 yX9_truthOf yX9_truthOf ∈ WT := wTS (q := (yX9_truthOf, 36)) (List.mem_append_right _ (List.mem_append_right _ (List.mem_append_left _ (List.mem_of_getElem? (i := 15) rfl))))
theorem w_48 : Cond.selects RX9 yX9_factOf yX9_factOf ∈ WT := wTS (q := (yX9_factOf, 36)) (List.mem_append_right _ (List.mem_append_right _ (List.mem_append_right _ (List.mem_append_left _ (List.mem_of_getElem? (i := 0) rfl)))))
theorem w_49 : Cond.selects RX9 yX9_isPiece yX9_isPiece ∈ WT := wTS (q := (yX9_isPiece, 36)) (List.mem_append_right _ (List.mem_append_right _ (List.mem_append_right _ (List.mem_append_left _ (List.mem_of_getElem? (i := 1) rfl)))))
theorem w_50 : Cond.selects RX9 yX9_hasDay yX9_hasDay ∈ WT := wTS (q := (yX9_hasDay, 36)) (List.mem_append_right _ (List.mem_append_right _ (List.mem_append_right _ (List.mem_append_left _ (List.mem_of_getElem? (i := 2) rfl)))))
theorem w_51 : Cond.selects RX9 yX9_adds yX9_adds ∈ WT := wTS (q := (yX9_adds, 36)) (List.mem_append_right _ (List.mem_append_right _ (List.mem_append_right _ (List.mem_append_left _ (List.mem_of_getElem? (i := 3) rfl)))))
theorem w_52 : Cond.selects RX9 yX9_pagesOf yX9_pagesOf ∈ WT := wTS (q := (yX9_pagesOf, 36)) (List.mem_append_right _ (List.mem_append_right _ (List.mem_append_right _ (List.mem_append_left _ (List.mem_of_getElem? (i := 4) rfl)))))
theorem w_53 : Cond.selects RX9 yX9_isWrong yX9_isWrong ∈ WT := wTS (q := (yX9_isWrong, 36)) (List.mem_append_right _ (List.mem_append_right _ (List.mem_append_right _ (List.mem_append_left _ (List.mem_of_getElem? (i := 5) rfl)))))
theorem w_54 : Cond.selects RX9 yX9_isSharedAny yX9_isSharedAny ∈ WT := wTS (q := (yX9_isSharedAny, 36)) (List.mem_append_right _ (List.mem_append_right _ (List.mem_append_right _ (List.mem_append_left _ (List.mem_of_getElem? (i := 6) rfl)))))
theorem w_55 : Cond.selects RX9 yX9_isShared yX9_isShared ∈ WT := wTS (q := (yX9_isShared, 36)) (List.mem_append_right _ (List.mem_append_right _ (List.mem_append_right _ (List.mem_append_left _ (List.mem_of_getElem? (i := 7) rfl)))))
theorem w_56 : Cond.selects RX9 yX9_isNowhere yX9_isNowhere ∈ WT := wTS (q := (yX9_isNowhere, 36)) (List.mem_append_right _ (List.mem_append_right _ (List.mem_append_right _ (List.mem_append_left _ (List.mem_of_getElem? (i := 8) rfl)))))
theorem w_57 : Cond.selects RX9 yX9_age yX9_age ∈ WT := wTS (q := (yX9_age, 36)) (List.mem_append_right _ (List.mem_append_right _ (List.mem_append_right _ (List.mem_append_left _ (List.mem_of_getElem? (i := 9) rfl)))))
theorem w_58 : Cond.selects RX9 yX9_pieceCell yX9_pieceCell ∈ WT := wTS (q := (yX9_pieceCell, 36)) (List.mem_append_right _ (List.mem_append_right _ (List.mem_append_right _ (List.mem_append_left _ (List.mem_of_getElem? (i := 10) rfl)))))
theorem w_59 : Cond.selects RX9 yX9_young yX9_young ∈ WT := wTS (q := (yX9_young, 36)) (List.mem_append_right _ (List.mem_append_right _ (List.mem_append_right _ (List.mem_append_left _ (List.mem_of_getElem? (i := 11) rfl)))))
theorem w_60 : Cond.selects RX9 yX9_sharedWith yX9_sharedWith ∈ WT := wTS (q := (yX9_sharedWith, 36)) (List.mem_append_right _ (List.mem_append_right _ (List.mem_append_right _ (List.mem_append_left _ (List.mem_of_getElem? (i := 12) rfl)))))
theorem w_61 : Cond.selects RX9 yX9_four yX9_four ∈ WT := wTS (q := (yX9_four, 36)) (List.mem_append_right _ (List.mem_append_right _ (List.mem_append_right _ (List.mem_append_left _ (List.mem_of_getElem? (i := 13) rfl)))))
theorem w_62 : Cond.selects RX9 yX9_reads yX9_reads ∈ WT := wTS (q := (yX9_reads, 36)) (List.mem_append_right _ (List.mem_append_right _ (List.mem_append_right _ (List.mem_append_left _ (List.mem_of_getElem? (i := 14) rfl)))))
theorem w_63 : Cond.selects RX9 yX9_clauseHere yX9_clauseHere ∈ WT := wTS (q := (yX9_clauseHere, 36)) (List.mem_append_right _ (List.mem_append_right _ (List.mem_append_right _ (List.mem_append_left _ (List.mem_of_getElem? (i := 15) rfl)))))
theorem w_64 : Cond.selects RX9 yX9_see yX9_see ∈ WT := wTS (q := (yX9_see, 36)) (List.mem_append_right _ (List.mem_append_right _ (List.mem_append_right _ (List.mem_append_right _ (List.mem_append_left _ (List.mem_of_getElem? (i := 0) rfl))))))
theorem w_65 : Cond.selects RX9 yX9_isWord yX9_isWord ∈ WT := wTS (q := (yX9_isWord, 36)) (List.mem_append_right _ (List.mem_append_right _ (List.mem_append_right _ (List.mem_append_right _ (List.mem_append_left _ (List.mem_of_getElem? (i := 1) rfl))))))
theorem w_66 : Cond.selects RX9 yX9_isLetter yX9_isLetter ∈ WT := wTS (q := (yX9_isLetter, 36)) (List.mem_append_right _ (List.mem_append_right _ (List.mem_append_right _ (List.mem_append_right _ (List.mem_append_left _ (List.mem_of_getElem? (i := 2) rfl))))))
theorem w_67 : Cond.selects RX9 yX9_fails yX9_fails ∈ WT := wTS (q := (yX9_fails, 36)) (List.mem_append_right _ (List.mem_append_right _ (List.mem_append_right _ (List.mem_append_right _ (List.mem_append_left _ (List.mem_of_getElem? (i := 3) rfl))))))
theorem w_68 : Cond.selects RX9 yX9_yes yX9_yes ∈ WT := wTS (q := (yX9_yes, 36)) (List.mem_append_right _ (List.mem_append_right _ (List.mem_append_right _ (List.mem_append_right _ (List.mem_append_left _ (List.mem_of_getElem? (i := 4) rfl))))))
theorem w_69 : Cond.selects RX9 yX9_passWord yX9_passWord ∈ WT := wTS (q := (yX9_passWord, 36)) (List.mem_append_right _ (List.mem_append_right _ (List.mem_append_right _ (List.mem_append_right _ (List.mem_append_left _ (List.mem_of_getElem? (i := 5) rfl))))))
theorem w_70 : Cond.selects RX9 yX9_sum yX9_sum ∈ WT := wTS (q := (yX9_sum, 36)) (List.mem_append_right _ (List.mem_append_right _ (List.mem_append_right _ (List.mem_append_right _ (List.mem_append_left _ (List.mem_of_getElem? (i := 6) rfl))))))
theorem w_71 : Cond.selects RX9 yX9_term yX9_term ∈ WT := wTS (q := (yX9_term, 36)) (List.mem_append_right _ (List.mem_append_right _ (List.mem_append_right _ (List.mem_append_right _ (List.mem_append_left _ (List.mem_of_getElem? (i := 7) rfl))))))
theorem w_72 : Cond.selects RX9 yX9_value yX9_value ∈ WT := wTS (q := (yX9_value, 36)) (List.mem_append_right _ (List.mem_append_right _ (List.mem_append_right _ (List.mem_append_right _ (List.mem_append_left _ (List.mem_of_getElem? (i := 8) rfl))))))
theorem w_73 : Cond.selects RX9 yX9_isDigit yX9_isDigit ∈ WT := wTS (q := (yX9_isDigit, 36)) (List.mem_append_right _ (List.mem_append_right _ (List.mem_append_right _ (List.mem_append_right _ (List.mem_append_left _ (List.mem_of_getElem? (i := 9) rfl))))))
theorem w_74 : Cond.selects RX9 yX9_number yX9_number ∈ WT := wTS (q := (yX9_number, 36)) (List.mem_append_right _ (List.mem_append_right _ (List.mem_append_right _ (List.mem_append_right _ (List.mem_append_left _ (List.mem_of_getElem? (i := 10) rfl))))))
theorem w_75 : Cond.selects RX9 yX9_makes yX9_makes ∈ WT := wTS (q := (yX9_makes, 36)) (List.mem_append_right _ (List.mem_append_right _ (List.mem_append_right _ (List.mem_append_right _ (List.mem_append_left _ (List.mem_of_getElem? (i := 11) rfl))))))
theorem w_76 : Cond.selects RX9 yX9_puts yX9_puts ∈ WT := wTS (q := (yX9_puts, 36)) (List.mem_append_right _ (List.mem_append_right _ (List.mem_append_right _ (List.mem_append_right _ (List.mem_append_left _ (List.mem_of_getElem? (i := 12) rfl))))))
theorem w_77 : Cond.selects RX9 yX9_wordHere yX9_wordHere ∈ WT := wTS (q := (yX9_wordHere, 36)) (List.mem_append_right _ (List.mem_append_right _ (List.mem_append_right _ (List.mem_append_right _ (List.mem_append_left _ (List.mem_of_getElem? (i := 13) rfl))))))
theorem w_78 : Cond.selects RX9 yX9_takesWord yX9_takesWord ∈ WT := wTS (q := (yX9_takesWord, 36)) (List.mem_append_right _ (List.mem_append_right _ (List.mem_append_right _ (List.mem_append_right _ (List.mem_append_left _ (List.mem_of_getElem? (i := 14) rfl))))))
theorem w_79 : Cond.selects RX9 yX9_tested yX9_tested ∈ WT := wTS (q := (yX9_tested, 36)) (List.mem_append_right _ (List.mem_append_right _ (List.mem_append_right _ (List.mem_append_right _ (List.mem_append_left _ (List.mem_of_getElem? (i := 15) rfl))))))
theorem w_80 : Cond.selects RX9 yX9_fact_ yX9_fact_ ∈ WT := wTS (q := (yX9_fact_, 36)) (List.mem_append_right _ (List.mem_append_right _ (List.mem_append_right _ (List.mem_append_right _ (List.mem_append_right _ (List.mem_append_left _ (List.mem_of_getElem? (i := 0) rfl)))))))
theorem w_81 : Cond.selects RX9 yX9_opens yX9_opens ∈ WT := wTS (q := (yX9_opens, 36)) (List.mem_append_right _ (List.mem_append_right _ (List.mem_append_right _ (List.mem_append_right _ (List.mem_append_right _ (List.mem_append_left _ (List.mem_of_getElem? (i := 1) rfl)))))))
theorem w_82 : Cond.selects RX9 yX9_compare yX9_compare ∈ WT := wTS (q := (yX9_compare, 36)) (List.mem_append_right _ (List.mem_append_right _ (List.mem_append_right _ (List.mem_append_right _ (List.mem_append_right _ (List.mem_append_left _ (List.mem_of_getElem? (i := 2) rfl)))))))
theorem w_83 : Cond.selects RX9 yX9_closes yX9_closes ∈ WT := wTS (q := (yX9_closes, 36)) (List.mem_append_right _ (List.mem_append_right _ (List.mem_append_right _ (List.mem_append_right _ (List.mem_append_right _ (List.mem_append_left _ (List.mem_of_getElem? (i := 3) rfl)))))))
theorem w_84 : Cond.selects RX9 yX9_settles yX9_settles ∈ WT := wTS (q := (yX9_settles, 36)) (List.mem_append_right _ (List.mem_append_right _ (List.mem_append_right _ (List.mem_append_right _ (List.mem_append_right _ (List.mem_append_left _ (List.mem_of_getElem? (i := 4) rfl)))))))
theorem w_85 : Cond.selects RX9 yX9_isInside yX9_isInside ∈ WT := wTS (q := (yX9_isInside, 36)) (List.mem_append_right _ (List.mem_append_right _ (List.mem_append_right _ (List.mem_append_right _ (List.mem_append_right _ (List.mem_append_left _ (List.mem_of_getElem? (i := 5) rfl)))))))
theorem w_86 : Cond.selects RX9 yX9_sets yX9_sets ∈ WT := wTS (q := (yX9_sets, 36)) (List.mem_append_right _ (List.mem_append_right _ (List.mem_append_right _ (List.mem_append_right _ (List.mem_append_right _ (List.mem_append_left _ (List.mem_of_getElem? (i := 6) rfl)))))))
theorem w_87 : Cond.selects RX9 yX9_sourced yX9_sourced ∈ WT := wTS (q := (yX9_sourced, 36)) (List.mem_append_right _ (List.mem_append_right _ (List.mem_append_right _ (List.mem_append_right _ (List.mem_append_right _ (List.mem_append_left _ (List.mem_of_getElem? (i := 7) rfl)))))))
theorem w_88 : Cond.selects RX9 yX9_stuffed yX9_stuffed ∈ WT := wTS (q := (yX9_stuffed, 36)) (List.mem_append_right _ (List.mem_append_right _ (List.mem_append_right _ (List.mem_append_right _ (List.mem_append_right _ (List.mem_append_left _ (List.mem_of_getElem? (i := 8) rfl)))))))
theorem w_89 : Cond.selects RX9 yX9_isReader yX9_isReader ∈ WT := wTS (q := (yX9_isReader, 36)) (List.mem_append_right _ (List.mem_append_right _ (List.mem_append_right _ (List.mem_append_right _ (List.mem_append_right _ (List.mem_append_left _ (List.mem_of_getElem? (i := 9) rfl)))))))
theorem w_90 : Cond.selects RX9 yX9_areTwo yX9_areTwo ∈ WT := wTS (q := (yX9_areTwo, 36)) (List.mem_append_right _ (List.mem_append_right _ (List.mem_append_right _ (List.mem_append_right _ (List.mem_append_right _ (List.mem_append_left _ (List.mem_of_getElem? (i := 10) rfl)))))))
theorem w_91 : Cond.selects RX9 yX9_chanceOf yX9_chanceOf ∈ WT := wTS (q := (yX9_chanceOf, 36)) (List.mem_append_right _ (List.mem_append_right _ (List.mem_append_right _ (List.mem_append_right _ (List.mem_append_right _ (List.mem_append_left _ (List.mem_of_getElem? (i := 11) rfl)))))))
theorem w_92 : Cond.selects RX9 yX9_late yX9_late ∈ WT := wTS (q := (yX9_late, 36)) (List.mem_append_right _ (List.mem_append_right _ (List.mem_append_right _ (List.mem_append_right _ (List.mem_append_right _ (List.mem_append_left _ (List.mem_of_getElem? (i := 12) rfl)))))))
theorem w_93 : Cond.selects RX9 yX9_volumes yX9_volumes ∈ WT := wTS (q := (yX9_volumes, 36)) (List.mem_append_right _ (List.mem_append_right _ (List.mem_append_right _ (List.mem_append_right _ (List.mem_append_right _ (List.mem_append_left _ (List.mem_of_getElem? (i := 13) rfl)))))))
theorem w_94 : Cond.selects RX9 yX9_reckons yX9_reckons ∈ WT := wTS (q := (yX9_reckons, 36)) (List.mem_append_right _ (List.mem_append_right _ (List.mem_append_right _ (List.mem_append_right _ (List.mem_append_right _ (List.mem_append_left _ (List.mem_of_getElem? (i := 14) rfl)))))))
theorem w_95 : Cond.selects RX9 yX9_push yX9_push ∈ WT := wTS (q := (yX9_push, 36)) (List.mem_append_right _ (List.mem_append_right _ (List.mem_append_right _ (List.mem_append_right _ (List.mem_append_right _ (List.mem_append_left _ (List.mem_of_getElem? (i := 15) rfl)))))))
theorem w_96 : Cond.selects RX9 yX9_pop yX9_pop ∈ WT := wTS (q := (yX9_pop, 36)) (List.mem_append_right _ (List.mem_append_right _ (List.mem_append_right _ (List.mem_append_right _ (List.mem_append_right _ (List.mem_append_right _ (List.mem_of_getElem? (i := 0) rfl)))))))
theorem w_97 : Cond.selects RX9 yX9_isClose yX9_isClose ∈ WT := wTS (q := (yX9_isClose, 36)) (List.mem_append_right _ (List.mem_append_right _ (List.mem_append_right _ (List.mem_append_right _ (List.mem_append_right _ (List.mem_append_right _ (List.mem_of_getElem? (i := 1) rfl)))))))
theorem w_98 : Cond.selects RX9 yX9_firstTest yX9_firstTest ∈ WT := wTS (q := (yX9_firstTest, 36)) (List.mem_append_right _ (List.mem_append_right _ (List.mem_append_right _ (List.mem_append_right _ (List.mem_append_right _ (List.mem_append_right _ (List.mem_of_getElem? (i := 2) rfl)))))))
theorem w_99 : Cond.selects RX9 yX9_isHis yX9_isHis ∈ WT := wTS (q := (yX9_isHis, 36)) (List.mem_append_right _ (List.mem_append_right _ (List.mem_append_right _ (List.mem_append_right _ (List.mem_append_right _ (List.mem_append_right _ (List.mem_of_getElem? (i := 3) rfl)))))))
theorem w_100 : Cond.selects RX9 yX9_isMaker yX9_isMaker ∈ WT := wTS (q := (yX9_isMaker, 36)) (List.mem_append_right _ (List.mem_append_right _ (List.mem_append_right _ (List.mem_append_right _ (List.mem_append_right _ (List.mem_append_right _ (List.mem_of_getElem? (i := 4) rfl)))))))
theorem w_101 : Cond.selects RX9 yX9_works yX9_works ∈ WT := wTS (q := (yX9_works, 36)) (List.mem_append_right _ (List.mem_append_right _ (List.mem_append_right _ (List.mem_append_right _ (List.mem_append_right _ (List.mem_append_right _ (List.mem_of_getElem? (i := 5) rfl)))))))
theorem w_102 : Cond.selects RX9 yX9_placeBy yX9_placeBy ∈ WT := wTS (q := (yX9_placeBy, 36)) (List.mem_append_right _ (List.mem_append_right _ (List.mem_append_right _ (List.mem_append_right _ (List.mem_append_right _ (List.mem_append_right _ (List.mem_of_getElem? (i := 6) rfl)))))))
theorem w_103 : Cond.selects RX9 yX9_waitOf yX9_waitOf ∈ WT := wTS (q := (yX9_waitOf, 36)) (List.mem_append_right _ (List.mem_append_right _ (List.mem_append_right _ (List.mem_append_right _ (List.mem_append_right _ (List.mem_append_right _ (List.mem_of_getElem? (i := 7) rfl)))))))
theorem w_104 : Cond.selects RX9 yX9_turns yX9_turns ∈ WT := wTS (q := (yX9_turns, 36)) (List.mem_append_right _ (List.mem_append_right _ (List.mem_append_right _ (List.mem_append_right _ (List.mem_append_right _ (List.mem_append_right _ (List.mem_of_getElem? (i := 8) rfl)))))))
theorem w_105 : Cond.selects RX9 yX9_isPerson yX9_isPerson ∈ WT := wTS (q := (yX9_isPerson, 36)) (List.mem_append_right _ (List.mem_append_right _ (List.mem_append_right _ (List.mem_append_right _ (List.mem_append_right _ (List.mem_append_right _ (List.mem_of_getElem? (i := 9) rfl)))))))
theorem w_106 : Cond.selects RX9 yX9_knew yX9_knew ∈ WT := wTS (q := (yX9_knew, 36)) (List.mem_append_right _ (List.mem_append_right _ (List.mem_append_right _ (List.mem_append_right _ (List.mem_append_right _ (List.mem_append_right _ (List.mem_of_getElem? (i := 10) rfl)))))))
theorem w_108 : Cond.initialized RX8 ∈ WT := wT0 (wT1 (List.mem_of_getElem? (i := 1) rfl)) rfl
theorem w_109 : Cond.initialized RX7 ∈ WT := wT0 (wT1 (List.mem_of_getElem? (i := 2) rfl)) rfl
theorem w_110 : Cond.initialized RX5 ∈ WT := wT0 (wT1 (List.mem_of_getElem? (i := 3) rfl)) rfl
theorem w_111 : Cond.initialized RJ9 ∈ WT := wT0 (wT1 (List.mem_of_getElem? (i := 4) rfl)) rfl
theorem w_112 : Cond.initialized RX2 ∈ WT := wT0 (wT1 (List.mem_of_getElem? (i := 5) rfl)) rfl
theorem w_113 : Cond.initialized RX6 ∈ WT := wT0 (wT1 (List.mem_of_getElem? (i := 6) rfl)) rfl
theorem w_114 : Cond.initialized RX1 ∈ WT := wT0 (wT1 (List.mem_of_getElem? (i := 7) rfl)) rfl
theorem w_115 : Cond.initialized RX4 ∈ WT := wT0 (wT1 (List.mem_of_getElem? (i := 8) rfl)) rfl
theorem w_116 : Cond.initialized RX3 ∈ WT := wT0 (wT1 (List.mem_of_getElem? (i := 9) rfl)) rfl
theorem w_117 : Cond.initialized RX0 ∈ WT := wT0 (wT1 (List.mem_of_getElem? (i := 10) rfl)) rfl
theorem w_118 : Cond.initialized RX9 ∈ WT := wT0 (wT1 (List.mem_of_getElem? (i := 11) rfl)) rfl
theorem w_119 : Cond.initialized RJ10 ∈ WT := wT0 (wT1 (List.mem_of_getElem? (i := 12) rfl)) rfl
theorem w_120 : Cond.initialized RJ0 ∈ WT := wT0 (wT1 (List.mem_of_getElem? (i := 13) rfl)) rfl
theorem w_121 : Cond.initialized RJ1 ∈ WT := wT0 (wT1 (List.mem_of_getElem? (i := 14) rfl)) rfl
theorem w_122 : Cond.initialized RJ3 ∈ WT := wT0 (wT1 (List.mem_of_getElem? (i := 15) rfl)) rfl
theorem w_124 : Cond.initialized RJ6 ∈ WT := wT0 (wT1 (List.mem_of_getElem? (i := 17) rfl)) rfl
theorem w_125 : Cond.classLink RL 7 RX8 ∈ WT := wT0 (wT1 (List.mem_of_getElem? (i := 18) rfl)) rfl
theorem w_126 : Cond.instantiable RX8 10 ∈ WT := wT0 (wT1 (List.mem_of_getElem? (i := 19) rfl)) rfl
theorem w_127 : Cond.methodLink RL 9 yX8_init ∈ WT := wT0 (wT1 (List.mem_of_getElem? (i := 20) rfl)) rfl
theorem w_128 : Cond.instanceMethod yX8_init ∈ WT := wT0 (wT1 (List.mem_of_getElem? (i := 21) rfl)) rfl
theorem w_129 : Cond.code yX8_init cX8_init 2 none ∈ WT := wT0 (wT1 (List.mem_of_getElem? (i := 22) rfl)) rfl
theorem w_130 : Cond.methodLink RX8 1 objectInit ∈ WT := wT0 (wT1 (List.mem_of_getElem? (i := 23) rfl)) rfl
theorem w_131 : Cond.instanceMethod objectInit ∈ WT := wT0 (wT1 (List.mem_of_getElem? (i := 24) rfl)) rfl
theorem w_132 : Cond.code objectInit ⟨#[0xb1]⟩ 1 none ∈ WT := wT0 (wT1 (List.mem_of_getElem? (i := 25) rfl)) rfl
theorem w_133 : Cond.classLink RX8 7 RX7 ∈ WT := wT0 (wT1 (List.mem_of_getElem? (i := 26) rfl)) rfl
theorem w_134 : Cond.instantiable RX7 9 ∈ WT := wT0 (wT1 (List.mem_of_getElem? (i := 27) rfl)) rfl
theorem w_135 : Cond.methodLinkNest RX8 9 yX7_init "SafeVolumes" ∈ NT := nT0 (wT1 (List.mem_of_getElem? (i := 28) rfl)) rfl
theorem w_136 : Cond.instanceMethod yX7_init ∈ WT := wT0 (wT1 (List.mem_of_getElem? (i := 29) rfl)) rfl
theorem w_137 : Cond.code yX7_init cX7_init 1 none ∈ WT := wT0 (wT1 (List.mem_of_getElem? (i := 30) rfl)) rfl
theorem w_138 : Cond.methodLink RX7 3 objectInit ∈ WT := wT0 (wT1 (List.mem_of_getElem? (i := 31) rfl)) rfl
theorem w_139 : Cond.classLink RX7 15 RX5 ∈ WT := wT0 (wT1 (List.mem_of_getElem? (i := 32) rfl)) rfl
theorem w_140 : Cond.instantiable RX5 4 ∈ WT := wT0 (wT1 (List.mem_of_getElem? (i := 33) rfl)) rfl
theorem w_141 : Cond.methodLink RX7 17 yX5_init ∈ WT := wT0 (wT1 (List.mem_of_getElem? (i := 34) rfl)) rfl
theorem w_142 : Cond.instanceMethod yX5_init ∈ WT := wT0 (wT1 (List.mem_of_getElem? (i := 35) rfl)) rfl
theorem w_143 : Cond.code yX5_init cX5_init 3 none ∈ WT := wT0 (wT1 (List.mem_of_getElem? (i := 36) rfl)) rfl
theorem w_144 : Cond.methodLink RX5 3 objectInit ∈ WT := wT0 (wT1 (List.mem_of_getElem? (i := 37) rfl)) rfl
theorem w_145 : Cond.methodLink RX5 15 yJ9_max_7cf53 ∈ WT := wT0 (wT1 (List.mem_of_getElem? (i := 38) rfl)) rfl
theorem w_146 : Cond.static yJ9_max_7cf53 ∈ WT := wT0 (wT1 (List.mem_of_getElem? (i := 39) rfl)) rfl
theorem w_147 : Cond.code yJ9_max_7cf53 cJ9_max_7cf53 2 (some .int) ∈ WT := wT0 (wT1 (List.mem_of_getElem? (i := 40) rfl)) rfl
theorem w_148 : Cond.fieldLink RX5 27 RX5 (TX5 0).2.1 (TX5 0).2.2.1 ∈ WT := wT0 (wT1 (List.mem_of_getElem? (i := 41) rfl)) rfl
theorem w_149 : Cond.fieldLink RX5 24 RX5 (TX5 1).2.1 (TX5 1).2.2.1 ∈ WT := wT0 (wT1 (List.mem_of_getElem? (i := 42) rfl)) rfl
theorem w_150 : Cond.fieldLink RX5 21 RX5 (TX5 2).2.1 (TX5 2).2.2.1 ∈ WT := wT0 (wT1 (List.mem_of_getElem? (i := 43) rfl)) rfl
theorem w_151 : Cond.fieldLink RX5 9 RX5 (TX5 3).2.1 (TX5 3).2.2.1 ∈ WT := wT0 (wT1 (List.mem_of_getElem? (i := 44) rfl)) rfl
theorem w_161 : Cond.arrayClass FieldType.int ∈ WT := wT0 (wT1 (List.mem_of_getElem? (i := 54) rfl)) rfl
theorem w_162 : Cond.classLink RX7 24 RX2 ∈ WT := wT0 (wT1 (List.mem_of_getElem? (i := 55) rfl)) rfl
theorem w_163 : Cond.instantiable RX2 3 ∈ WT := wT0 (wT1 (List.mem_of_getElem? (i := 56) rfl)) rfl
theorem w_164 : Cond.methodLink RX7 26 yX2_init ∈ WT := wT0 (wT1 (List.mem_of_getElem? (i := 57) rfl)) rfl
theorem w_165 : Cond.instanceMethod yX2_init ∈ WT := wT0 (wT1 (List.mem_of_getElem? (i := 58) rfl)) rfl
theorem w_166 : Cond.code yX2_init cX2_init 2 none ∈ WT := wT0 (wT1 (List.mem_of_getElem? (i := 59) rfl)) rfl
theorem w_167 : Cond.methodLink RX2 3 objectInit ∈ WT := wT0 (wT1 (List.mem_of_getElem? (i := 60) rfl)) rfl
theorem w_168 : Cond.methodLink RX2 15 yJ9_max_7cf53 ∈ WT := wT0 (wT1 (List.mem_of_getElem? (i := 61) rfl)) rfl
theorem w_169 : Cond.fieldLink RX2 21 RX2 (TX2 0).2.1 (TX2 0).2.2.1 ∈ WT := wT0 (wT1 (List.mem_of_getElem? (i := 62) rfl)) rfl
theorem w_170 : Cond.fieldLink RX2 25 RX2 (TX2 1).2.1 (TX2 1).2.2.1 ∈ WT := wT0 (wT1 (List.mem_of_getElem? (i := 63) rfl)) rfl
theorem w_171 : Cond.fieldLink RX2 9 RX2 (TX2 2).2.1 (TX2 2).2.2.1 ∈ WT := wT0 (wT1 (List.mem_of_getElem? (i := 64) rfl)) rfl
theorem w_179 : Cond.fieldLink RX7 9 RX7 (TX7 0).2.1 (TX7 0).2.2.1 ∈ WT := wT0 (wT1 (List.mem_of_getElem? (i := 72) rfl)) rfl
theorem w_180 : Cond.fieldLinkNest RX8 66 RX7 (TX7 0).2.1 (TX7 0).2.2.1 "SafeVolumes" ∈ NT := nT0 (wT1 (List.mem_of_getElem? (i := 73) rfl)) rfl
theorem w_181 : Cond.fieldLink RX7 20 RX7 (TX7 1).2.1 (TX7 1).2.2.1 ∈ WT := wT0 (wT1 (List.mem_of_getElem? (i := 74) rfl)) rfl
theorem w_182 : Cond.fieldLinkNest RX8 73 RX7 (TX7 1).2.1 (TX7 1).2.2.1 "SafeVolumes" ∈ NT := nT0 (wT1 (List.mem_of_getElem? (i := 75) rfl)) rfl
theorem w_183 : Cond.fieldLink RX7 29 RX7 (TX7 2).2.1 (TX7 2).2.2.1 ∈ WT := wT0 (wT1 (List.mem_of_getElem? (i := 76) rfl)) rfl
theorem w_184 : Cond.fieldLinkNest RX8 87 RX7 (TX7 2).2.1 (TX7 2).2.2.1 "SafeVolumes" ∈ NT := nT0 (wT1 (List.mem_of_getElem? (i := 77) rfl)) rfl
theorem w_185 : Cond.fieldLinkNest RX0 73 RX7 (TX7 2).2.1 (TX7 2).2.2.1 "SafeVolumes" ∈ NT := nT0 (wT1 (List.mem_of_getElem? (i := 78) rfl)) rfl
theorem w_186 : Cond.fieldLink RX7 33 RX7 (TX7 3).2.1 (TX7 3).2.2.1 ∈ WT := wT0 (wT1 (List.mem_of_getElem? (i := 79) rfl)) rfl
theorem w_187 : Cond.fieldLinkNest RX0 32 RX7 (TX7 3).2.1 (TX7 3).2.2.1 "SafeVolumes" ∈ NT := nT0 (wT1 (List.mem_of_getElem? (i := 80) rfl)) rfl
theorem w_188 : Cond.fieldLinkNest RX8 97 RX7 (TX7 3).2.1 (TX7 3).2.2.1 "SafeVolumes" ∈ NT := nT0 (wT1 (List.mem_of_getElem? (i := 81) rfl)) rfl
theorem w_189 : Cond.fieldLink RX7 36 RX7 (TX7 4).2.1 (TX7 4).2.2.1 ∈ WT := wT0 (wT1 (List.mem_of_getElem? (i := 82) rfl)) rfl
theorem w_190 : Cond.fieldLinkNest RX0 44 RX7 (TX7 4).2.1 (TX7 4).2.2.1 "SafeVolumes" ∈ NT := nT0 (wT1 (List.mem_of_getElem? (i := 83) rfl)) rfl
theorem w_191 : Cond.fieldLinkNest RX8 107 RX7 (TX7 4).2.1 (TX7 4).2.2.1 "SafeVolumes" ∈ NT := nT0 (wT1 (List.mem_of_getElem? (i := 84) rfl)) rfl
theorem w_192 : Cond.fieldLink RX7 39 RX7 (TX7 5).2.1 (TX7 5).2.2.1 ∈ WT := wT0 (wT1 (List.mem_of_getElem? (i := 85) rfl)) rfl
theorem w_193 : Cond.fieldLinkNest RX0 63 RX7 (TX7 5).2.1 (TX7 5).2.2.1 "SafeVolumes" ∈ NT := nT0 (wT1 (List.mem_of_getElem? (i := 86) rfl)) rfl
theorem w_194 : Cond.fieldLinkNest RX8 114 RX7 (TX7 5).2.1 (TX7 5).2.2.1 "SafeVolumes" ∈ NT := nT0 (wT1 (List.mem_of_getElem? (i := 87) rfl)) rfl
theorem w_195 : Cond.fieldLink RX7 42 RX7 (TX7 6).2.1 (TX7 6).2.2.1 ∈ WT := wT0 (wT1 (List.mem_of_getElem? (i := 88) rfl)) rfl
theorem w_196 : Cond.fieldLinkNest RX8 166 RX7 (TX7 6).2.1 (TX7 6).2.2.1 "SafeVolumes" ∈ NT := nT0 (wT1 (List.mem_of_getElem? (i := 89) rfl)) rfl
theorem w_197 : Cond.fieldLink RX7 45 RX7 (TX7 7).2.1 (TX7 7).2.2.1 ∈ WT := wT0 (wT1 (List.mem_of_getElem? (i := 90) rfl)) rfl
theorem w_198 : Cond.fieldLinkNest RX8 190 RX7 (TX7 7).2.1 (TX7 7).2.2.1 "SafeVolumes" ∈ NT := nT0 (wT1 (List.mem_of_getElem? (i := 91) rfl)) rfl
theorem w_199 : Cond.fieldLink RX7 48 RX7 (TX7 8).2.1 (TX7 8).2.2.1 ∈ WT := wT0 (wT1 (List.mem_of_getElem? (i := 92) rfl)) rfl
theorem w_200 : Cond.fieldLinkNest RX8 258 RX7 (TX7 8).2.1 (TX7 8).2.2.1 "SafeVolumes" ∈ NT := nT0 (wT1 (List.mem_of_getElem? (i := 93) rfl)) rfl
theorem w_220 : Cond.arrayOver (.object RX7) ∈ NT := nT0 (wT1 (List.mem_of_getElem? (i := 113) rfl)) rfl
theorem w_221 : Cond.classLink RX8 20 RX6 ∈ WT := wT0 (wT1 (List.mem_of_getElem? (i := 114) rfl)) rfl
theorem w_222 : Cond.instantiable RX6 7 ∈ WT := wT0 (wT1 (List.mem_of_getElem? (i := 115) rfl)) rfl
theorem w_223 : Cond.methodLinkNest RX8 22 yX6_init "SafeVolumes" ∈ NT := nT0 (wT1 (List.mem_of_getElem? (i := 116) rfl)) rfl
theorem w_224 : Cond.instanceMethod yX6_init ∈ WT := wT0 (wT1 (List.mem_of_getElem? (i := 117) rfl)) rfl
theorem w_225 : Cond.code yX6_init cX6_init 1 none ∈ WT := wT0 (wT1 (List.mem_of_getElem? (i := 118) rfl)) rfl
theorem w_226 : Cond.methodLink RX6 3 objectInit ∈ WT := wT0 (wT1 (List.mem_of_getElem? (i := 119) rfl)) rfl
theorem w_227 : Cond.fieldLink RX6 9 RX6 (TX6 0).2.1 (TX6 0).2.2.1 ∈ WT := wT0 (wT1 (List.mem_of_getElem? (i := 120) rfl)) rfl
theorem w_228 : Cond.fieldLink RX6 15 RX6 (TX6 1).2.1 (TX6 1).2.2.1 ∈ WT := wT0 (wT1 (List.mem_of_getElem? (i := 121) rfl)) rfl
theorem w_229 : Cond.fieldLink RX6 19 RX6 (TX6 2).2.1 (TX6 2).2.2.1 ∈ WT := wT0 (wT1 (List.mem_of_getElem? (i := 122) rfl)) rfl
theorem w_230 : Cond.fieldLink RX6 22 RX6 (TX6 3).2.1 (TX6 3).2.2.1 ∈ WT := wT0 (wT1 (List.mem_of_getElem? (i := 123) rfl)) rfl
theorem w_231 : Cond.fieldLinkNest RX1 96 RX6 (TX6 3).2.1 (TX6 3).2.2.1 "SafeVolumes" ∈ NT := nT0 (wT1 (List.mem_of_getElem? (i := 124) rfl)) rfl
theorem w_232 : Cond.fieldLink RX6 25 RX6 (TX6 4).2.1 (TX6 4).2.2.1 ∈ WT := wT0 (wT1 (List.mem_of_getElem? (i := 125) rfl)) rfl
theorem w_233 : Cond.fieldLinkNest RX1 99 RX6 (TX6 4).2.1 (TX6 4).2.2.1 "SafeVolumes" ∈ NT := nT0 (wT1 (List.mem_of_getElem? (i := 126) rfl)) rfl
theorem w_234 : Cond.fieldLink RX6 28 RX6 (TX6 5).2.1 (TX6 5).2.2.1 ∈ WT := wT0 (wT1 (List.mem_of_getElem? (i := 127) rfl)) rfl
theorem w_235 : Cond.fieldLinkNest RX1 117 RX6 (TX6 5).2.1 (TX6 5).2.2.1 "SafeVolumes" ∈ NT := nT0 (wT1 (List.mem_of_getElem? (i := 128) rfl)) rfl
theorem w_236 : Cond.fieldLink RX6 31 RX6 (TX6 6).2.1 (TX6 6).2.2.1 ∈ WT := wT0 (wT1 (List.mem_of_getElem? (i := 129) rfl)) rfl
theorem w_237 : Cond.fieldLinkNest RX1 114 RX6 (TX6 6).2.1 (TX6 6).2.2.1 "SafeVolumes" ∈ NT := nT0 (wT1 (List.mem_of_getElem? (i := 130) rfl)) rfl
theorem w_253 : Cond.classLink RX8 27 RX1 ∈ WT := wT0 (wT1 (List.mem_of_getElem? (i := 146) rfl)) rfl
theorem w_254 : Cond.instantiable RX1 13 ∈ WT := wT0 (wT1 (List.mem_of_getElem? (i := 147) rfl)) rfl
theorem w_255 : Cond.methodLinkNest RX8 29 yX1_init "SafeVolumes" ∈ NT := nT0 (wT1 (List.mem_of_getElem? (i := 148) rfl)) rfl
theorem w_256 : Cond.instanceMethod yX1_init ∈ WT := wT0 (wT1 (List.mem_of_getElem? (i := 149) rfl)) rfl
theorem w_257 : Cond.code yX1_init cX1_init 1 none ∈ WT := wT0 (wT1 (List.mem_of_getElem? (i := 150) rfl)) rfl
theorem w_258 : Cond.methodLink RX1 3 objectInit ∈ WT := wT0 (wT1 (List.mem_of_getElem? (i := 151) rfl)) rfl
theorem w_259 : Cond.fieldLink RX1 9 RX1 (TX1 0).2.1 (TX1 0).2.2.1 ∈ WT := wT0 (wT1 (List.mem_of_getElem? (i := 152) rfl)) rfl
theorem w_260 : Cond.fieldLink RX1 15 RX1 (TX1 1).2.1 (TX1 1).2.2.1 ∈ WT := wT0 (wT1 (List.mem_of_getElem? (i := 153) rfl)) rfl
theorem w_261 : Cond.fieldLink RX1 19 RX1 (TX1 2).2.1 (TX1 2).2.2.1 ∈ WT := wT0 (wT1 (List.mem_of_getElem? (i := 154) rfl)) rfl
theorem w_262 : Cond.fieldLink RX1 23 RX1 (TX1 3).2.1 (TX1 3).2.2.1 ∈ WT := wT0 (wT1 (List.mem_of_getElem? (i := 155) rfl)) rfl
theorem w_263 : Cond.fieldLink RX1 26 RX1 (TX1 4).2.1 (TX1 4).2.2.1 ∈ WT := wT0 (wT1 (List.mem_of_getElem? (i := 156) rfl)) rfl
theorem w_264 : Cond.fieldLink RX1 29 RX1 (TX1 5).2.1 (TX1 5).2.2.1 ∈ WT := wT0 (wT1 (List.mem_of_getElem? (i := 157) rfl)) rfl
theorem w_265 : Cond.fieldLink RX1 32 RX1 (TX1 6).2.1 (TX1 6).2.2.1 ∈ WT := wT0 (wT1 (List.mem_of_getElem? (i := 158) rfl)) rfl
theorem w_266 : Cond.fieldLink RX1 35 RX1 (TX1 7).2.1 (TX1 7).2.2.1 ∈ WT := wT0 (wT1 (List.mem_of_getElem? (i := 159) rfl)) rfl
theorem w_267 : Cond.fieldLink RX1 38 RX1 (TX1 8).2.1 (TX1 8).2.2.1 ∈ WT := wT0 (wT1 (List.mem_of_getElem? (i := 160) rfl)) rfl
theorem w_268 : Cond.fieldLink RX1 41 RX1 (TX1 9).2.1 (TX1 9).2.2.1 ∈ WT := wT0 (wT1 (List.mem_of_getElem? (i := 161) rfl)) rfl
theorem w_269 : Cond.fieldLink RX1 45 RX1 (TX1 10).2.1 (TX1 10).2.2.1 ∈ WT := wT0 (wT1 (List.mem_of_getElem? (i := 162) rfl)) rfl
theorem w_270 : Cond.fieldLink RX1 48 RX1 (TX1 11).2.1 (TX1 11).2.2.1 ∈ WT := wT0 (wT1 (List.mem_of_getElem? (i := 163) rfl)) rfl
theorem w_271 : Cond.fieldLink RX1 51 RX1 (TX1 12).2.1 (TX1 12).2.2.1 ∈ WT := wT0 (wT1 (List.mem_of_getElem? (i := 164) rfl)) rfl
theorem w_299 : Cond.classLink RX8 34 RX3 ∈ WT := wT0 (wT1 (List.mem_of_getElem? (i := 192) rfl)) rfl
theorem w_300 : Cond.arrayOver (.object RX3) ∈ NT := nT0 (wT1 (List.mem_of_getElem? (i := 193) rfl)) rfl
theorem w_301 : Cond.classLink RX8 44 RX0 ∈ WT := wT0 (wT1 (List.mem_of_getElem? (i := 194) rfl)) rfl
theorem w_302 : Cond.arrayOver (.object RX0) ∈ NT := nT0 (wT1 (List.mem_of_getElem? (i := 195) rfl)) rfl
theorem w_303 : Cond.classLink RX8 57 RX4 ∈ WT := wT0 (wT1 (List.mem_of_getElem? (i := 196) rfl)) rfl
theorem w_304 : Cond.instantiable RX4 6 ∈ WT := wT0 (wT1 (List.mem_of_getElem? (i := 197) rfl)) rfl
theorem w_305 : Cond.methodLinkNest RX8 59 yX4_init "SafeVolumes" ∈ NT := nT0 (wT1 (List.mem_of_getElem? (i := 198) rfl)) rfl
theorem w_306 : Cond.instanceMethod yX4_init ∈ WT := wT0 (wT1 (List.mem_of_getElem? (i := 199) rfl)) rfl
theorem w_307 : Cond.code yX4_init cX4_init 1 none ∈ WT := wT0 (wT1 (List.mem_of_getElem? (i := 200) rfl)) rfl
theorem w_308 : Cond.methodLink RX4 3 objectInit ∈ WT := wT0 (wT1 (List.mem_of_getElem? (i := 201) rfl)) rfl
theorem w_309 : Cond.fieldLink RX4 9 RX4 (TX4 0).2.1 (TX4 0).2.2.1 ∈ WT := wT0 (wT1 (List.mem_of_getElem? (i := 202) rfl)) rfl
theorem w_310 : Cond.fieldLink RX4 15 RX4 (TX4 1).2.1 (TX4 1).2.2.1 ∈ WT := wT0 (wT1 (List.mem_of_getElem? (i := 203) rfl)) rfl
theorem w_311 : Cond.fieldLink RX4 18 RX4 (TX4 2).2.1 (TX4 2).2.2.1 ∈ WT := wT0 (wT1 (List.mem_of_getElem? (i := 204) rfl)) rfl
theorem w_312 : Cond.fieldLink RX4 21 RX4 (TX4 3).2.1 (TX4 3).2.2.1 ∈ WT := wT0 (wT1 (List.mem_of_getElem? (i := 205) rfl)) rfl
theorem w_313 : Cond.fieldLink RX4 24 RX4 (TX4 4).2.1 (TX4 4).2.2.1 ∈ WT := wT0 (wT1 (List.mem_of_getElem? (i := 206) rfl)) rfl
theorem w_314 : Cond.fieldLink RX4 28 RX4 (TX4 5).2.1 (TX4 5).2.2.1 ∈ WT := wT0 (wT1 (List.mem_of_getElem? (i := 207) rfl)) rfl
theorem w_328 : Cond.arrayClass FieldType.long ∈ WT := wT0 (wT1 (List.mem_of_getElem? (i := 221) rfl)) rfl
theorem w_329 : Cond.instantiable RX3 6 ∈ WT := wT0 (wT1 (List.mem_of_getElem? (i := 222) rfl)) rfl
theorem w_330 : Cond.methodLinkNest RX8 64 yX3_init "SafeVolumes" ∈ NT := nT0 (wT1 (List.mem_of_getElem? (i := 223) rfl)) rfl
theorem w_331 : Cond.instanceMethod yX3_init ∈ WT := wT0 (wT1 (List.mem_of_getElem? (i := 224) rfl)) rfl
theorem w_332 : Cond.code yX3_init cX3_init 1 none ∈ WT := wT0 (wT1 (List.mem_of_getElem? (i := 225) rfl)) rfl
theorem w_333 : Cond.methodLink RX3 3 objectInit ∈ WT := wT0 (wT1 (List.mem_of_getElem? (i := 226) rfl)) rfl
theorem w_334 : Cond.fieldLink RX3 9 RX3 (TX3 0).2.1 (TX3 0).2.2.1 ∈ WT := wT0 (wT1 (List.mem_of_getElem? (i := 227) rfl)) rfl
theorem w_335 : Cond.fieldLinkNest RX8 182 RX3 (TX3 0).2.1 (TX3 0).2.2.1 "SafeVolumes" ∈ NT := nT0 (wT1 (List.mem_of_getElem? (i := 228) rfl)) rfl
theorem w_336 : Cond.fieldLink RX3 15 RX3 (TX3 1).2.1 (TX3 1).2.2.1 ∈ WT := wT0 (wT1 (List.mem_of_getElem? (i := 229) rfl)) rfl
theorem w_337 : Cond.fieldLinkNest RX8 288 RX3 (TX3 1).2.1 (TX3 1).2.2.1 "SafeVolumes" ∈ NT := nT0 (wT1 (List.mem_of_getElem? (i := 230) rfl)) rfl
theorem w_338 : Cond.fieldLink RX3 18 RX3 (TX3 2).2.1 (TX3 2).2.2.1 ∈ WT := wT0 (wT1 (List.mem_of_getElem? (i := 231) rfl)) rfl
theorem w_339 : Cond.fieldLink RX3 22 RX3 (TX3 3).2.1 (TX3 3).2.2.1 ∈ WT := wT0 (wT1 (List.mem_of_getElem? (i := 232) rfl)) rfl
theorem w_340 : Cond.fieldLink RX3 25 RX3 (TX3 4).2.1 (TX3 4).2.2.1 ∈ WT := wT0 (wT1 (List.mem_of_getElem? (i := 233) rfl)) rfl
theorem w_341 : Cond.fieldLink RX3 29 RX3 (TX3 5).2.1 (TX3 5).2.2.1 ∈ WT := wT0 (wT1 (List.mem_of_getElem? (i := 234) rfl)) rfl
theorem w_355 : Cond.instantiable RX0 5 ∈ WT := wT0 (wT2 (List.mem_of_getElem? (i := 8) rfl)) rfl
theorem w_356 : Cond.methodLinkNest RX8 65 yX0_init "SafeVolumes" ∈ NT := nT0 (wT2 (List.mem_of_getElem? (i := 9) rfl)) rfl
theorem w_357 : Cond.instanceMethod yX0_init ∈ WT := wT0 (wT2 (List.mem_of_getElem? (i := 10) rfl)) rfl
theorem w_358 : Cond.code yX0_init cX0_init 1 none ∈ WT := wT0 (wT2 (List.mem_of_getElem? (i := 11) rfl)) rfl
theorem w_359 : Cond.methodLink RX0 3 objectInit ∈ WT := wT0 (wT2 (List.mem_of_getElem? (i := 12) rfl)) rfl
theorem w_360 : Cond.fieldLink RX0 9 RX0 (TX0 0).2.1 (TX0 0).2.2.1 ∈ WT := wT0 (wT2 (List.mem_of_getElem? (i := 13) rfl)) rfl
theorem w_361 : Cond.fieldLinkNest RX8 224 RX0 (TX0 0).2.1 (TX0 0).2.2.1 "SafeVolumes" ∈ NT := nT0 (wT2 (List.mem_of_getElem? (i := 14) rfl)) rfl
theorem w_362 : Cond.fieldLink RX0 15 RX0 (TX0 1).2.1 (TX0 1).2.2.1 ∈ WT := wT0 (wT2 (List.mem_of_getElem? (i := 15) rfl)) rfl
theorem w_363 : Cond.fieldLink RX0 18 RX0 (TX0 2).2.1 (TX0 2).2.2.1 ∈ WT := wT0 (wT2 (List.mem_of_getElem? (i := 16) rfl)) rfl
theorem w_364 : Cond.fieldLinkNest RX8 233 RX0 (TX0 2).2.1 (TX0 2).2.2.1 "SafeVolumes" ∈ NT := nT0 (wT2 (List.mem_of_getElem? (i := 17) rfl)) rfl
theorem w_365 : Cond.fieldLink RX0 21 RX0 (TX0 3).2.1 (TX0 3).2.2.1 ∈ WT := wT0 (wT2 (List.mem_of_getElem? (i := 18) rfl)) rfl
theorem w_366 : Cond.fieldLink RX0 25 RX0 (TX0 4).2.1 (TX0 4).2.2.1 ∈ WT := wT0 (wT2 (List.mem_of_getElem? (i := 19) rfl)) rfl
theorem w_378 : Cond.fieldLink RX8 10 RX8 (TX8 0).2.1 (TX8 0).2.2.1 ∈ WT := wT0 (wT2 (List.mem_of_getElem? (i := 31) rfl)) rfl
theorem w_379 : Cond.fieldLink RX8 16 RX8 (TX8 1).2.1 (TX8 1).2.2.1 ∈ WT := wT0 (wT2 (List.mem_of_getElem? (i := 32) rfl)) rfl
theorem w_380 : Cond.fieldLink RX8 23 RX8 (TX8 2).2.1 (TX8 2).2.2.1 ∈ WT := wT0 (wT2 (List.mem_of_getElem? (i := 33) rfl)) rfl
theorem w_381 : Cond.fieldLink RX8 30 RX8 (TX8 3).2.1 (TX8 3).2.2.1 ∈ WT := wT0 (wT2 (List.mem_of_getElem? (i := 34) rfl)) rfl
theorem w_382 : Cond.fieldLink RX8 36 RX8 (TX8 4).2.1 (TX8 4).2.2.1 ∈ WT := wT0 (wT2 (List.mem_of_getElem? (i := 35) rfl)) rfl
theorem w_383 : Cond.fieldLink RX8 40 RX8 (TX8 5).2.1 (TX8 5).2.2.1 ∈ WT := wT0 (wT2 (List.mem_of_getElem? (i := 36) rfl)) rfl
theorem w_384 : Cond.fieldLink RX8 46 RX8 (TX8 6).2.1 (TX8 6).2.2.1 ∈ WT := wT0 (wT2 (List.mem_of_getElem? (i := 37) rfl)) rfl
theorem w_385 : Cond.fieldLink RX8 50 RX8 (TX8 7).2.1 (TX8 7).2.2.1 ∈ WT := wT0 (wT2 (List.mem_of_getElem? (i := 38) rfl)) rfl
theorem w_386 : Cond.fieldLink RX8 53 RX8 (TX8 8).2.1 (TX8 8).2.2.1 ∈ WT := wT0 (wT2 (List.mem_of_getElem? (i := 39) rfl)) rfl
theorem w_387 : Cond.fieldLink RX8 60 RX8 (TX8 9).2.1 (TX8 9).2.2.1 ∈ WT := wT0 (wT2 (List.mem_of_getElem? (i := 40) rfl)) rfl
theorem w_409 : Cond.methodLink RL 13 yX8_clock ∈ WT := wT0 (wT2 (List.mem_of_getElem? (i := 62) rfl)) rfl
theorem w_410 : Cond.instanceMethod yX8_clock ∈ WT := wT0 (wT2 (List.mem_of_getElem? (i := 63) rfl)) rfl
theorem w_411 : Cond.selects RX8 yX8_clock yX8_clock ∈ WT := wT0 (wT2 (List.mem_of_getElem? (i := 64) rfl)) rfl
theorem w_412 : Cond.code yX8_clock cX8_clock 2 (some .boolean) ∈ WT := wT0 (wT2 (List.mem_of_getElem? (i := 65) rfl)) rfl
theorem w_413 : Cond.methodLink RX8 69 yX8_isFrom ∈ WT := wT0 (wT2 (List.mem_of_getElem? (i := 66) rfl)) rfl
theorem w_414 : Cond.static yX8_isFrom ∈ WT := wT0 (wT2 (List.mem_of_getElem? (i := 67) rfl)) rfl
theorem w_415 : Cond.code yX8_isFrom cX8_isFrom 3 (some .boolean) ∈ WT := wT0 (wT2 (List.mem_of_getElem? (i := 68) rfl)) rfl
theorem w_416 : Cond.methodLink RL 18 yX8_stuff ∈ WT := wT0 (wT2 (List.mem_of_getElem? (i := 69) rfl)) rfl
theorem w_417 : Cond.instanceMethod yX8_stuff ∈ WT := wT0 (wT2 (List.mem_of_getElem? (i := 70) rfl)) rfl
theorem w_418 : Cond.selects RX8 yX8_stuff yX8_stuff ∈ WT := wT0 (wT2 (List.mem_of_getElem? (i := 71) rfl)) rfl
theorem w_419 : Cond.code yX8_stuff cX8_stuff 4 (some .int) ∈ WT := wT0 (wT2 (List.mem_of_getElem? (i := 72) rfl)) rfl
theorem w_420 : Cond.methodLink RX8 77 yX5_addRow ∈ WT := wT0 (wT2 (List.mem_of_getElem? (i := 73) rfl)) rfl
theorem w_421 : Cond.instanceMethod yX5_addRow ∈ WT := wT0 (wT2 (List.mem_of_getElem? (i := 74) rfl)) rfl
theorem w_422 : Cond.selects RX5 yX5_addRow yX5_addRow ∈ WT := wT0 (wT2 (List.mem_of_getElem? (i := 75) rfl)) rfl
theorem w_423 : Cond.code yX5_addRow cX5_addRow 2 (some .int) ∈ WT := wT0 (wT2 (List.mem_of_getElem? (i := 76) rfl)) rfl
theorem w_424 : Cond.methodLink RX5 31 yX5_isFull ∈ WT := wT0 (wT2 (List.mem_of_getElem? (i := 77) rfl)) rfl
theorem w_425 : Cond.instanceMethod yX5_isFull ∈ WT := wT0 (wT2 (List.mem_of_getElem? (i := 78) rfl)) rfl
theorem w_426 : Cond.selects RX5 yX5_isFull yX5_isFull ∈ WT := wT0 (wT2 (List.mem_of_getElem? (i := 79) rfl)) rfl
theorem w_427 : Cond.code yX5_isFull cX5_isFull 1 (some .boolean) ∈ WT := wT0 (wT2 (List.mem_of_getElem? (i := 80) rfl)) rfl
theorem w_428 : Cond.methodLink RX5 35 yX5_put ∈ WT := wT0 (wT2 (List.mem_of_getElem? (i := 81) rfl)) rfl
theorem w_429 : Cond.instanceMethod yX5_put ∈ WT := wT0 (wT2 (List.mem_of_getElem? (i := 82) rfl)) rfl
theorem w_430 : Cond.selects RX5 yX5_put yX5_put ∈ WT := wT0 (wT2 (List.mem_of_getElem? (i := 83) rfl)) rfl
theorem w_431 : Cond.code yX5_put cX5_put 5 none ∈ WT := wT0 (wT2 (List.mem_of_getElem? (i := 84) rfl)) rfl
theorem w_432 : Cond.methodLink RX5 39 yX5_cellOf ∈ WT := wT0 (wT2 (List.mem_of_getElem? (i := 85) rfl)) rfl
theorem w_434 : Cond.instanceMethod yX5_cellOf ∈ WT := wT0 (wT2 (List.mem_of_getElem? (i := 87) rfl)) rfl
theorem w_435 : Cond.code yX5_cellOf cX5_cellOf 3 (some .int) ∈ WT := wT0 (wT2 (List.mem_of_getElem? (i := 88) rfl)) rfl
theorem w_436 : Cond.methodLink RX5 42 yX5_has ∈ WT := wT0 (wT2 (List.mem_of_getElem? (i := 89) rfl)) rfl
theorem w_437 : Cond.instanceMethod yX5_has ∈ WT := wT0 (wT2 (List.mem_of_getElem? (i := 90) rfl)) rfl
theorem w_438 : Cond.selects RX5 yX5_has yX5_has ∈ WT := wT0 (wT2 (List.mem_of_getElem? (i := 91) rfl)) rfl
theorem w_439 : Cond.code yX5_has cX5_has 2 (some .boolean) ∈ WT := wT0 (wT2 (List.mem_of_getElem? (i := 92) rfl)) rfl
theorem w_440 : Cond.methodLink RX8 83 yX5_put ∈ WT := wT0 (wT2 (List.mem_of_getElem? (i := 93) rfl)) rfl
theorem w_441 : Cond.methodLink RL 23 yX8_truth ∈ WT := wT0 (wT2 (List.mem_of_getElem? (i := 94) rfl)) rfl
theorem w_442 : Cond.instanceMethod yX8_truth ∈ WT := wT0 (wT2 (List.mem_of_getElem? (i := 95) rfl)) rfl
theorem w_443 : Cond.selects RX8 yX8_truth yX8_truth ∈ WT := wT0 (wT2 (List.mem_of_getElem? (i := 96) rfl)) rfl
theorem w_444 : Cond.code yX8_truth cX8_truth 3 (some .int) ∈ WT := wT0 (wT2 (List.mem_of_getElem? (i := 97) rfl)) rfl
theorem w_445 : Cond.methodLink RX8 91 yX2_insert ∈ WT := wT0 (wT2 (List.mem_of_getElem? (i := 98) rfl)) rfl
theorem w_446 : Cond.instanceMethod yX2_insert ∈ WT := wT0 (wT2 (List.mem_of_getElem? (i := 99) rfl)) rfl
theorem w_447 : Cond.selects RX2 yX2_insert yX2_insert ∈ WT := wT0 (wT2 (List.mem_of_getElem? (i := 100) rfl)) rfl
theorem w_448 : Cond.code yX2_insert cX2_insert 4 (some .int) ∈ WT := wT0 (wT2 (List.mem_of_getElem? (i := 101) rfl)) rfl
theorem w_449 : Cond.methodLink RX2 31 yX2_firstFrom ∈ WT := wT0 (wT2 (List.mem_of_getElem? (i := 102) rfl)) rfl
theorem w_450 : Cond.instanceMethod yX2_firstFrom ∈ WT := wT0 (wT2 (List.mem_of_getElem? (i := 103) rfl)) rfl
theorem w_451 : Cond.selects RX2 yX2_firstFrom yX2_firstFrom ∈ WT := wT0 (wT2 (List.mem_of_getElem? (i := 104) rfl)) rfl
theorem w_452 : Cond.code yX2_firstFrom cX2_firstFrom 5 (some .int) ∈ WT := wT0 (wT2 (List.mem_of_getElem? (i := 105) rfl)) rfl
theorem w_453 : Cond.methodLink RX2 28 yJ9_min_7cf53 ∈ WT := wT0 (wT2 (List.mem_of_getElem? (i := 106) rfl)) rfl
theorem w_454 : Cond.static yJ9_min_7cf53 ∈ WT := wT0 (wT2 (List.mem_of_getElem? (i := 107) rfl)) rfl
theorem w_455 : Cond.code yJ9_min_7cf53 cJ9_min_7cf53 2 (some .int) ∈ WT := wT0 (wT2 (List.mem_of_getElem? (i := 108) rfl)) rfl
theorem w_456 : Cond.methodLink RX2 35 yX2_keyAt ∈ WT := wT0 (wT2 (List.mem_of_getElem? (i := 109) rfl)) rfl
theorem w_457 : Cond.instanceMethod yX2_keyAt ∈ WT := wT0 (wT2 (List.mem_of_getElem? (i := 110) rfl)) rfl
theorem w_458 : Cond.selects RX2 yX2_keyAt yX2_keyAt ∈ WT := wT0 (wT2 (List.mem_of_getElem? (i := 111) rfl)) rfl
theorem w_459 : Cond.code yX2_keyAt cX2_keyAt 2 (some .int) ∈ WT := wT0 (wT2 (List.mem_of_getElem? (i := 112) rfl)) rfl
theorem w_460 : Cond.methodLink RX2 41 ⟨"java/lang/System", "arraycopy", "(Ljava/lang/Object;ILjava/lang/Object;II)V"⟩ ∈ WT := wT0 (wT2 (List.mem_of_getElem? (i := 113) rfl)) rfl
theorem w_461 : Cond.static ⟨"java/lang/System", "arraycopy", "(Ljava/lang/Object;ILjava/lang/Object;II)V"⟩ ∈ WT := wT0 (wT2 (List.mem_of_getElem? (i := 114) rfl)) rfl
theorem w_462 : Cond.native ⟨"java/lang/System", "arraycopy", "(Ljava/lang/Object;ILjava/lang/Object;II)V"⟩ ∈ WT := wT0 (wT2 (List.mem_of_getElem? (i := 115) rfl)) rfl
theorem w_463 : Cond.methodLink RL 27 yX8_fact ∈ WT := wT0 (wT2 (List.mem_of_getElem? (i := 116) rfl)) rfl
theorem w_464 : Cond.instanceMethod yX8_fact ∈ WT := wT0 (wT2 (List.mem_of_getElem? (i := 117) rfl)) rfl
theorem w_465 : Cond.selects RX8 yX8_fact yX8_fact ∈ WT := wT0 (wT2 (List.mem_of_getElem? (i := 118) rfl)) rfl
theorem w_466 : Cond.code yX8_fact cX8_fact 4 (some .int) ∈ WT := wT0 (wT2 (List.mem_of_getElem? (i := 119) rfl)) rfl
theorem w_467 : Cond.methodLink RL 32 yX8_piece ∈ WT := wT0 (wT2 (List.mem_of_getElem? (i := 120) rfl)) rfl
theorem w_468 : Cond.instanceMethod yX8_piece ∈ WT := wT0 (wT2 (List.mem_of_getElem? (i := 121) rfl)) rfl
theorem w_469 : Cond.selects RX8 yX8_piece yX8_piece ∈ WT := wT0 (wT2 (List.mem_of_getElem? (i := 122) rfl)) rfl
theorem w_470 : Cond.code yX8_piece cX8_piece 11 (some .int) ∈ WT := wT0 (wT2 (List.mem_of_getElem? (i := 123) rfl)) rfl
theorem w_471 : Cond.methodLink RX8 100 yX8_isHand ∈ WT := wT0 (wT2 (List.mem_of_getElem? (i := 124) rfl)) rfl
theorem w_472 : Cond.static yX8_isHand ∈ WT := wT0 (wT2 (List.mem_of_getElem? (i := 125) rfl)) rfl
theorem w_473 : Cond.code yX8_isHand cX8_isHand 5 (some .boolean) ∈ WT := wT0 (wT2 (List.mem_of_getElem? (i := 126) rfl)) rfl
theorem w_474 : Cond.methodLink RX8 104 yX5_size ∈ WT := wT0 (wT2 (List.mem_of_getElem? (i := 127) rfl)) rfl
theorem w_475 : Cond.instanceMethod yX5_size ∈ WT := wT0 (wT2 (List.mem_of_getElem? (i := 128) rfl)) rfl
theorem w_476 : Cond.selects RX5 yX5_size yX5_size ∈ WT := wT0 (wT2 (List.mem_of_getElem? (i := 129) rfl)) rfl
theorem w_477 : Cond.code yX5_size cX5_size 1 (some .int) ∈ WT := wT0 (wT2 (List.mem_of_getElem? (i := 130) rfl)) rfl
theorem w_478 : Cond.methodLink RL 37 yX8_page ∈ WT := wT0 (wT2 (List.mem_of_getElem? (i := 131) rfl)) rfl
theorem w_479 : Cond.instanceMethod yX8_page ∈ WT := wT0 (wT2 (List.mem_of_getElem? (i := 132) rfl)) rfl
theorem w_480 : Cond.selects RX8 yX8_page yX8_page ∈ WT := wT0 (wT2 (List.mem_of_getElem? (i := 133) rfl)) rfl
theorem w_481 : Cond.code yX8_page cX8_page 4 (some .int) ∈ WT := wT0 (wT2 (List.mem_of_getElem? (i := 134) rfl)) rfl
theorem w_482 : Cond.methodLink RX8 110 yX5_has ∈ WT := wT0 (wT2 (List.mem_of_getElem? (i := 135) rfl)) rfl
theorem w_483 : Cond.methodLink RL 41 yX8_of ∈ WT := wT0 (wT2 (List.mem_of_getElem? (i := 136) rfl)) rfl
theorem w_484 : Cond.instanceMethod yX8_of ∈ WT := wT0 (wT2 (List.mem_of_getElem? (i := 137) rfl)) rfl
theorem w_485 : Cond.selects RX8 yX8_of yX8_of ∈ WT := wT0 (wT2 (List.mem_of_getElem? (i := 138) rfl)) rfl
theorem w_486 : Cond.code yX8_of cX8_of 3 (some .int) ∈ WT := wT0 (wT2 (List.mem_of_getElem? (i := 139) rfl)) rfl
theorem w_487 : Cond.methodLink RX8 117 yX7_pagesOf ∈ WT := wT0 (wT2 (List.mem_of_getElem? (i := 140) rfl)) rfl
theorem w_488 : Cond.instanceMethod yX7_pagesOf ∈ WT := wT0 (wT2 (List.mem_of_getElem? (i := 141) rfl)) rfl
theorem w_489 : Cond.selects RX7 yX7_pagesOf yX7_pagesOf ∈ WT := wT0 (wT2 (List.mem_of_getElem? (i := 142) rfl)) rfl
theorem w_490 : Cond.code yX7_pagesOf cX7_pagesOf 2 (some .int) ∈ WT := wT0 (wT2 (List.mem_of_getElem? (i := 143) rfl)) rfl
theorem w_491 : Cond.methodLink RX7 80 yX7_pagesEnd ∈ WT := wT0 (wT2 (List.mem_of_getElem? (i := 144) rfl)) rfl
theorem w_492 : Cond.instanceMethod yX7_pagesEnd ∈ WT := wT0 (wT2 (List.mem_of_getElem? (i := 145) rfl)) rfl
theorem w_493 : Cond.selects RX7 yX7_pagesEnd yX7_pagesEnd ∈ WT := wT0 (wT2 (List.mem_of_getElem? (i := 146) rfl)) rfl
theorem w_494 : Cond.code yX7_pagesEnd cX7_pagesEnd 2 (some .int) ∈ WT := wT0 (wT2 (List.mem_of_getElem? (i := 147) rfl)) rfl
theorem w_495 : Cond.methodLink RX7 73 yX2_firstFrom ∈ WT := wT0 (wT2 (List.mem_of_getElem? (i := 148) rfl)) rfl
theorem w_496 : Cond.methodLink RX7 83 yX7_firstPage ∈ WT := wT0 (wT2 (List.mem_of_getElem? (i := 149) rfl)) rfl
theorem w_497 : Cond.instanceMethod yX7_firstPage ∈ WT := wT0 (wT2 (List.mem_of_getElem? (i := 150) rfl)) rfl
theorem w_498 : Cond.selects RX7 yX7_firstPage yX7_firstPage ∈ WT := wT0 (wT2 (List.mem_of_getElem? (i := 151) rfl)) rfl
theorem w_499 : Cond.code yX7_firstPage cX7_firstPage 2 (some .int) ∈ WT := wT0 (wT2 (List.mem_of_getElem? (i := 152) rfl)) rfl
theorem w_500 : Cond.methodLink RX8 121 yX7_wrongPages ∈ WT := wT0 (wT2 (List.mem_of_getElem? (i := 153) rfl)) rfl
theorem w_501 : Cond.instanceMethod yX7_wrongPages ∈ WT := wT0 (wT2 (List.mem_of_getElem? (i := 154) rfl)) rfl
theorem w_502 : Cond.selects RX7 yX7_wrongPages yX7_wrongPages ∈ WT := wT0 (wT2 (List.mem_of_getElem? (i := 155) rfl)) rfl
theorem w_503 : Cond.code yX7_wrongPages cX7_wrongPages 5 (some .int) ∈ WT := wT0 (wT2 (List.mem_of_getElem? (i := 156) rfl)) rfl
theorem w_504 : Cond.methodLink RX7 98 yX7_isWrong ∈ WT := wT0 (wT2 (List.mem_of_getElem? (i := 157) rfl)) rfl
theorem w_506 : Cond.instanceMethod yX7_isWrong ∈ WT := wT0 (wT2 (List.mem_of_getElem? (i := 159) rfl)) rfl
theorem w_507 : Cond.code yX7_isWrong cX7_isWrong 3 (some .boolean) ∈ WT := wT0 (wT2 (List.mem_of_getElem? (i := 160) rfl)) rfl
theorem w_508 : Cond.methodLink RX7 86 yX7_dayOfPage ∈ WT := wT0 (wT2 (List.mem_of_getElem? (i := 161) rfl)) rfl
theorem w_509 : Cond.instanceMethod yX7_dayOfPage ∈ WT := wT0 (wT2 (List.mem_of_getElem? (i := 162) rfl)) rfl
theorem w_510 : Cond.selects RX7 yX7_dayOfPage yX7_dayOfPage ∈ WT := wT0 (wT2 (List.mem_of_getElem? (i := 163) rfl)) rfl
theorem w_511 : Cond.code yX7_dayOfPage cX7_dayOfPage 2 (some .int) ∈ WT := wT0 (wT2 (List.mem_of_getElem? (i := 164) rfl)) rfl
theorem w_512 : Cond.methodLink RX7 77 yX2_keyAt ∈ WT := wT0 (wT2 (List.mem_of_getElem? (i := 165) rfl)) rfl
theorem w_513 : Cond.methodLink RX7 89 yX2_placeOf ∈ WT := wT0 (wT2 (List.mem_of_getElem? (i := 166) rfl)) rfl
theorem w_514 : Cond.instanceMethod yX2_placeOf ∈ WT := wT0 (wT2 (List.mem_of_getElem? (i := 167) rfl)) rfl
theorem w_515 : Cond.selects RX2 yX2_placeOf yX2_placeOf ∈ WT := wT0 (wT2 (List.mem_of_getElem? (i := 168) rfl)) rfl
theorem w_516 : Cond.code yX2_placeOf cX2_placeOf 3 (some .int) ∈ WT := wT0 (wT2 (List.mem_of_getElem? (i := 169) rfl)) rfl
theorem w_517 : Cond.methodLink RX2 38 yX2_placeAt ∈ WT := wT0 (wT2 (List.mem_of_getElem? (i := 170) rfl)) rfl
theorem w_518 : Cond.instanceMethod yX2_placeAt ∈ WT := wT0 (wT2 (List.mem_of_getElem? (i := 171) rfl)) rfl
theorem w_519 : Cond.selects RX2 yX2_placeAt yX2_placeAt ∈ WT := wT0 (wT2 (List.mem_of_getElem? (i := 172) rfl)) rfl
theorem w_520 : Cond.code yX2_placeAt cX2_placeAt 2 (some .int) ∈ WT := wT0 (wT2 (List.mem_of_getElem? (i := 173) rfl)) rfl
theorem w_521 : Cond.methodLink RX7 92 yX2_placeAt ∈ WT := wT0 (wT2 (List.mem_of_getElem? (i := 174) rfl)) rfl
theorem w_522 : Cond.methodLink RX8 124 yX7_sharedPages ∈ WT := wT0 (wT2 (List.mem_of_getElem? (i := 175) rfl)) rfl
theorem w_523 : Cond.instanceMethod yX7_sharedPages ∈ WT := wT0 (wT2 (List.mem_of_getElem? (i := 176) rfl)) rfl
theorem w_524 : Cond.selects RX7 yX7_sharedPages yX7_sharedPages ∈ WT := wT0 (wT2 (List.mem_of_getElem? (i := 177) rfl)) rfl
theorem w_525 : Cond.code yX7_sharedPages cX7_sharedPages 5 (some .int) ∈ WT := wT0 (wT2 (List.mem_of_getElem? (i := 178) rfl)) rfl
theorem w_526 : Cond.methodLink RX7 101 yX7_sourcesOfPage ∈ WT := wT0 (wT2 (List.mem_of_getElem? (i := 179) rfl)) rfl
theorem w_528 : Cond.instanceMethod yX7_sourcesOfPage ∈ WT := wT0 (wT2 (List.mem_of_getElem? (i := 181) rfl)) rfl
theorem w_529 : Cond.code yX7_sourcesOfPage cX7_sourcesOfPage 7 (some .int) ∈ WT := wT0 (wT2 (List.mem_of_getElem? (i := 182) rfl)) rfl
theorem w_530 : Cond.methodLink RX8 127 yX7_nowherePages ∈ WT := wT0 (wT2 (List.mem_of_getElem? (i := 183) rfl)) rfl
theorem w_531 : Cond.instanceMethod yX7_nowherePages ∈ WT := wT0 (wT2 (List.mem_of_getElem? (i := 184) rfl)) rfl
theorem w_532 : Cond.selects RX7 yX7_nowherePages yX7_nowherePages ∈ WT := wT0 (wT2 (List.mem_of_getElem? (i := 185) rfl)) rfl
theorem w_533 : Cond.code yX7_nowherePages cX7_nowherePages 5 (some .int) ∈ WT := wT0 (wT2 (List.mem_of_getElem? (i := 186) rfl)) rfl
theorem w_534 : Cond.methodLink RX7 108 yX7_isNowhere ∈ WT := wT0 (wT2 (List.mem_of_getElem? (i := 187) rfl)) rfl
theorem w_536 : Cond.instanceMethod yX7_isNowhere ∈ WT := wT0 (wT2 (List.mem_of_getElem? (i := 189) rfl)) rfl
theorem w_537 : Cond.code yX7_isNowhere cX7_isNowhere 5 (some .boolean) ∈ WT := wT0 (wT2 (List.mem_of_getElem? (i := 190) rfl)) rfl
theorem w_538 : Cond.methodLink RX7 95 yX2_hasKey ∈ WT := wT0 (wT2 (List.mem_of_getElem? (i := 191) rfl)) rfl
theorem w_539 : Cond.instanceMethod yX2_hasKey ∈ WT := wT0 (wT2 (List.mem_of_getElem? (i := 192) rfl)) rfl
theorem w_540 : Cond.selects RX2 yX2_hasKey yX2_hasKey ∈ WT := wT0 (wT2 (List.mem_of_getElem? (i := 193) rfl)) rfl
theorem w_541 : Cond.code yX2_hasKey cX2_hasKey 2 (some .boolean) ∈ WT := wT0 (wT2 (List.mem_of_getElem? (i := 194) rfl)) rfl
theorem w_542 : Cond.methodLink RX8 130 yX7_ageOf ∈ WT := wT0 (wT2 (List.mem_of_getElem? (i := 195) rfl)) rfl
theorem w_543 : Cond.instanceMethod yX7_ageOf ∈ WT := wT0 (wT2 (List.mem_of_getElem? (i := 196) rfl)) rfl
theorem w_544 : Cond.selects RX7 yX7_ageOf yX7_ageOf ∈ WT := wT0 (wT2 (List.mem_of_getElem? (i := 197) rfl)) rfl
theorem w_545 : Cond.code yX7_ageOf cX7_ageOf 3 (some .int) ∈ WT := wT0 (wT2 (List.mem_of_getElem? (i := 198) rfl)) rfl
theorem w_546 : Cond.methodLink RX8 133 yX5_at ∈ WT := wT0 (wT2 (List.mem_of_getElem? (i := 199) rfl)) rfl
theorem w_547 : Cond.instanceMethod yX5_at ∈ WT := wT0 (wT2 (List.mem_of_getElem? (i := 200) rfl)) rfl
theorem w_548 : Cond.selects RX5 yX5_at yX5_at ∈ WT := wT0 (wT2 (List.mem_of_getElem? (i := 201) rfl)) rfl
theorem w_549 : Cond.code yX5_at cX5_at 4 (some .int) ∈ WT := wT0 (wT2 (List.mem_of_getElem? (i := 202) rfl)) rfl
theorem w_550 : Cond.methodLink RX8 136 yX7_tooYoung ∈ WT := wT0 (wT2 (List.mem_of_getElem? (i := 203) rfl)) rfl
theorem w_551 : Cond.instanceMethod yX7_tooYoung ∈ WT := wT0 (wT2 (List.mem_of_getElem? (i := 204) rfl)) rfl
theorem w_552 : Cond.selects RX7 yX7_tooYoung yX7_tooYoung ∈ WT := wT0 (wT2 (List.mem_of_getElem? (i := 205) rfl)) rfl
theorem w_553 : Cond.code yX7_tooYoung cX7_tooYoung 6 (some .int) ∈ WT := wT0 (wT2 (List.mem_of_getElem? (i := 206) rfl)) rfl
theorem w_554 : Cond.methodLink RX7 62 yX5_at ∈ WT := wT0 (wT2 (List.mem_of_getElem? (i := 207) rfl)) rfl
theorem w_555 : Cond.methodLink RX7 111 yX7_ageOf ∈ WT := wT0 (wT2 (List.mem_of_getElem? (i := 208) rfl)) rfl
theorem w_556 : Cond.methodLink RX7 66 yX5_size ∈ WT := wT0 (wT2 (List.mem_of_getElem? (i := 209) rfl)) rfl
theorem w_557 : Cond.methodLinkNest RX7 104 yX8_hasBit "SafeVolumes" ∈ NT := nT0 (wT2 (List.mem_of_getElem? (i := 210) rfl)) rfl
theorem w_558 : Cond.static yX8_hasBit ∈ WT := wT0 (wT2 (List.mem_of_getElem? (i := 211) rfl)) rfl
theorem w_559 : Cond.code yX8_hasBit cX8_hasBit 2 (some .boolean) ∈ WT := wT0 (wT2 (List.mem_of_getElem? (i := 212) rfl)) rfl
theorem w_560 : Cond.methodLink RL 45 yX8_shared ∈ WT := wT0 (wT2 (List.mem_of_getElem? (i := 213) rfl)) rfl
theorem w_561 : Cond.instanceMethod yX8_shared ∈ WT := wT0 (wT2 (List.mem_of_getElem? (i := 214) rfl)) rfl
theorem w_562 : Cond.selects RX8 yX8_shared yX8_shared ∈ WT := wT0 (wT2 (List.mem_of_getElem? (i := 215) rfl)) rfl
theorem w_563 : Cond.code yX8_shared cX8_shared 3 (some .int) ∈ WT := wT0 (wT2 (List.mem_of_getElem? (i := 216) rfl)) rfl
theorem w_564 : Cond.methodLink RX8 139 yX7_pagesSharedWith ∈ WT := wT0 (wT2 (List.mem_of_getElem? (i := 217) rfl)) rfl
theorem w_565 : Cond.instanceMethod yX7_pagesSharedWith ∈ WT := wT0 (wT2 (List.mem_of_getElem? (i := 218) rfl)) rfl
theorem w_566 : Cond.selects RX7 yX7_pagesSharedWith yX7_pagesSharedWith ∈ WT := wT0 (wT2 (List.mem_of_getElem? (i := 219) rfl)) rfl
theorem w_567 : Cond.code yX7_pagesSharedWith cX7_pagesSharedWith 6 (some .int) ∈ WT := wT0 (wT2 (List.mem_of_getElem? (i := 220) rfl)) rfl
theorem w_568 : Cond.methodLink RL 49 yX8_feed ∈ WT := wT0 (wT2 (List.mem_of_getElem? (i := 221) rfl)) rfl
theorem w_569 : Cond.instanceMethod yX8_feed ∈ WT := wT0 (wT2 (List.mem_of_getElem? (i := 222) rfl)) rfl
theorem w_570 : Cond.selects RX8 yX8_feed yX8_feed ∈ WT := wT0 (wT2 (List.mem_of_getElem? (i := 223) rfl)) rfl
theorem w_571 : Cond.code yX8_feed cX8_feed 6 (some .int) ∈ WT := wT0 (wT2 (List.mem_of_getElem? (i := 224) rfl)) rfl
theorem w_572 : Cond.methodLink RX8 142 yX6_size ∈ WT := wT0 (wT2 (List.mem_of_getElem? (i := 225) rfl)) rfl
theorem w_573 : Cond.instanceMethod yX6_size ∈ WT := wT0 (wT2 (List.mem_of_getElem? (i := 226) rfl)) rfl
theorem w_574 : Cond.selects RX6 yX6_size yX6_size ∈ WT := wT0 (wT2 (List.mem_of_getElem? (i := 227) rfl)) rfl
theorem w_575 : Cond.code yX6_size cX6_size 1 (some .int) ∈ WT := wT0 (wT2 (List.mem_of_getElem? (i := 228) rfl)) rfl
theorem w_576 : Cond.methodLink RX8 143 yX6_addFour ∈ WT := wT0 (wT2 (List.mem_of_getElem? (i := 229) rfl)) rfl
theorem w_577 : Cond.instanceMethod yX6_addFour ∈ WT := wT0 (wT2 (List.mem_of_getElem? (i := 230) rfl)) rfl
theorem w_578 : Cond.selects RX6 yX6_addFour yX6_addFour ∈ WT := wT0 (wT2 (List.mem_of_getElem? (i := 231) rfl)) rfl
theorem w_579 : Cond.code yX6_addFour cX6_addFour 3 none ∈ WT := wT0 (wT2 (List.mem_of_getElem? (i := 232) rfl)) rfl
theorem w_580 : Cond.methodLink RL 54 yX8_end ∈ WT := wT0 (wT2 (List.mem_of_getElem? (i := 233) rfl)) rfl
theorem w_581 : Cond.instanceMethod yX8_end ∈ WT := wT0 (wT2 (List.mem_of_getElem? (i := 234) rfl)) rfl
theorem w_582 : Cond.selects RX8 yX8_end yX8_end ∈ WT := wT0 (wT2 (List.mem_of_getElem? (i := 235) rfl)) rfl
theorem w_583 : Cond.code yX8_end cX8_end 2 (some .int) ∈ WT := wT0 (wT2 (List.mem_of_getElem? (i := 236) rfl)) rfl
theorem w_584 : Cond.methodLink RX8 147 yX6_cut ∈ WT := wT0 (wT2 (List.mem_of_getElem? (i := 237) rfl)) rfl
theorem w_585 : Cond.instanceMethod yX6_cut ∈ WT := wT0 (wT2 (List.mem_of_getElem? (i := 238) rfl)) rfl
theorem w_586 : Cond.selects RX6 yX6_cut yX6_cut ∈ WT := wT0 (wT2 (List.mem_of_getElem? (i := 239) rfl)) rfl
theorem w_587 : Cond.code yX6_cut cX6_cut 2 none ∈ WT := wT0 (wT3 (List.mem_of_getElem? (i := 0) rfl)) rfl
theorem w_588 : Cond.methodLink RL 59 yX8_reader ∈ WT := wT0 (wT3 (List.mem_of_getElem? (i := 1) rfl)) rfl
theorem w_589 : Cond.instanceMethod yX8_reader ∈ WT := wT0 (wT3 (List.mem_of_getElem? (i := 2) rfl)) rfl
theorem w_590 : Cond.selects RX8 yX8_reader yX8_reader ∈ WT := wT0 (wT3 (List.mem_of_getElem? (i := 3) rfl)) rfl
theorem w_591 : Cond.code yX8_reader cX8_reader 2 (some .int) ∈ WT := wT0 (wT3 (List.mem_of_getElem? (i := 4) rfl)) rfl
theorem w_592 : Cond.methodLink RX8 150 yX1_parse ∈ WT := wT0 (wT3 (List.mem_of_getElem? (i := 5) rfl)) rfl
theorem w_593 : Cond.instanceMethod yX1_parse ∈ WT := wT0 (wT3 (List.mem_of_getElem? (i := 6) rfl)) rfl
theorem w_594 : Cond.selects RX1 yX1_parse yX1_parse ∈ WT := wT0 (wT3 (List.mem_of_getElem? (i := 7) rfl)) rfl
theorem w_595 : Cond.code yX1_parse cX1_parse 5 (some .int) ∈ WT := wT0 (wT3 (List.mem_of_getElem? (i := 8) rfl)) rfl
theorem w_596 : Cond.methodLink RX1 54 yX1_begin ∈ WT := wT0 (wT3 (List.mem_of_getElem? (i := 9) rfl)) rfl
theorem w_598 : Cond.instanceMethod yX1_begin ∈ WT := wT0 (wT3 (List.mem_of_getElem? (i := 11) rfl)) rfl
theorem w_599 : Cond.code yX1_begin cX1_begin 3 none ∈ WT := wT0 (wT3 (List.mem_of_getElem? (i := 12) rfl)) rfl
theorem w_600 : Cond.methodLink RX1 88 yX3_clear ∈ WT := wT0 (wT3 (List.mem_of_getElem? (i := 13) rfl)) rfl
theorem w_601 : Cond.instanceMethod yX3_clear ∈ WT := wT0 (wT3 (List.mem_of_getElem? (i := 14) rfl)) rfl
theorem w_602 : Cond.selects RX3 yX3_clear yX3_clear ∈ WT := wT0 (wT3 (List.mem_of_getElem? (i := 15) rfl)) rfl
theorem w_603 : Cond.code yX3_clear cX3_clear 1 none ∈ WT := wT0 (wT3 (List.mem_of_getElem? (i := 16) rfl)) rfl
theorem w_604 : Cond.methodLink RX1 93 yX0_clear ∈ WT := wT0 (wT3 (List.mem_of_getElem? (i := 17) rfl)) rfl
theorem w_605 : Cond.instanceMethod yX0_clear ∈ WT := wT0 (wT3 (List.mem_of_getElem? (i := 18) rfl)) rfl
theorem w_606 : Cond.selects RX0 yX0_clear yX0_clear ∈ WT := wT0 (wT3 (List.mem_of_getElem? (i := 19) rfl)) rfl
theorem w_607 : Cond.code yX0_clear cX0_clear 1 none ∈ WT := wT0 (wT3 (List.mem_of_getElem? (i := 20) rfl)) rfl
theorem w_608 : Cond.methodLink RX1 58 yX6_rewind ∈ WT := wT0 (wT3 (List.mem_of_getElem? (i := 21) rfl)) rfl
theorem w_609 : Cond.instanceMethod yX6_rewind ∈ WT := wT0 (wT3 (List.mem_of_getElem? (i := 22) rfl)) rfl
theorem w_610 : Cond.selects RX6 yX6_rewind yX6_rewind ∈ WT := wT0 (wT3 (List.mem_of_getElem? (i := 23) rfl)) rfl
theorem w_611 : Cond.code yX6_rewind cX6_rewind 1 none ∈ WT := wT0 (wT3 (List.mem_of_getElem? (i := 24) rfl)) rfl
theorem w_612 : Cond.methodLink RX1 63 yX6_nextToken ∈ WT := wT0 (wT3 (List.mem_of_getElem? (i := 25) rfl)) rfl
theorem w_613 : Cond.instanceMethod yX6_nextToken ∈ WT := wT0 (wT3 (List.mem_of_getElem? (i := 26) rfl)) rfl
theorem w_614 : Cond.selects RX6 yX6_nextToken yX6_nextToken ∈ WT := wT0 (wT3 (List.mem_of_getElem? (i := 27) rfl)) rfl
theorem w_615 : Cond.code yX6_nextToken cX6_nextToken 2 none ∈ WT := wT0 (wT3 (List.mem_of_getElem? (i := 28) rfl)) rfl
theorem w_616 : Cond.methodLink RX6 34 yX6_byteAt ∈ WT := wT0 (wT3 (List.mem_of_getElem? (i := 29) rfl)) rfl
theorem w_618 : Cond.instanceMethod yX6_byteAt ∈ WT := wT0 (wT3 (List.mem_of_getElem? (i := 31) rfl)) rfl
theorem w_619 : Cond.code yX6_byteAt cX6_byteAt 2 (some .int) ∈ WT := wT0 (wT3 (List.mem_of_getElem? (i := 32) rfl)) rfl
theorem w_620 : Cond.methodLinkNest RX6 38 yX8_isFrom "SafeVolumes" ∈ NT := nT0 (wT3 (List.mem_of_getElem? (i := 33) rfl)) rfl
theorem w_621 : Cond.methodLink RX6 42 yX6_goOverNumber ∈ WT := wT0 (wT3 (List.mem_of_getElem? (i := 34) rfl)) rfl
theorem w_623 : Cond.instanceMethod yX6_goOverNumber ∈ WT := wT0 (wT3 (List.mem_of_getElem? (i := 36) rfl)) rfl
theorem w_624 : Cond.code yX6_goOverNumber cX6_goOverNumber 1 none ∈ WT := wT0 (wT3 (List.mem_of_getElem? (i := 37) rfl)) rfl
theorem w_625 : Cond.methodLink RX6 45 yX6_goOverWord ∈ WT := wT0 (wT3 (List.mem_of_getElem? (i := 38) rfl)) rfl
theorem w_627 : Cond.instanceMethod yX6_goOverWord ∈ WT := wT0 (wT3 (List.mem_of_getElem? (i := 40) rfl)) rfl
theorem w_628 : Cond.code yX6_goOverWord cX6_goOverWord 2 none ∈ WT := wT0 (wT3 (List.mem_of_getElem? (i := 41) rfl)) rfl
theorem w_629 : Cond.methodLink RX6 52 yX6_wordNumber ∈ WT := wT0 (wT3 (List.mem_of_getElem? (i := 42) rfl)) rfl
theorem w_631 : Cond.instanceMethod yX6_wordNumber ∈ WT := wT0 (wT3 (List.mem_of_getElem? (i := 44) rfl)) rfl
theorem w_632 : Cond.code yX6_wordNumber cX6_wordNumber 8 (some .int) ∈ WT := wT0 (wT3 (List.mem_of_getElem? (i := 45) rfl)) rfl
theorem w_634 : Cond.methodLink RX6 58 yJ0_length_8abf5 ∈ WT := wT0 (wT3 (List.mem_of_getElem? (i := 47) rfl)) rfl
theorem w_635 : Cond.instanceMethod yJ0_length_8abf5 ∈ WT := wT0 (wT3 (List.mem_of_getElem? (i := 48) rfl)) rfl
theorem w_636 : Cond.selects RJ0 yJ0_length_8abf5 yJ0_length_8abf5 ∈ WT := wT0 (wT3 (List.mem_of_getElem? (i := 49) rfl)) rfl
theorem w_637 : Cond.code yJ0_length_8abf5 cJ0_length_8abf5 1 (some .int) ∈ WT := wT0 (wT3 (List.mem_of_getElem? (i := 50) rfl)) rfl
theorem w_638 : Cond.methodLink RJ0 335 yJ0_coder_7d493 ∈ WT := wT0 (wT3 (List.mem_of_getElem? (i := 51) rfl)) rfl
theorem w_639 : Cond.instanceMethod yJ0_coder_7d493 ∈ WT := wT0 (wT3 (List.mem_of_getElem? (i := 52) rfl)) rfl
theorem w_640 : Cond.selects RJ0 yJ0_coder_7d493 yJ0_coder_7d493 ∈ WT := wT0 (wT3 (List.mem_of_getElem? (i := 53) rfl)) rfl
theorem w_641 : Cond.code yJ0_coder_7d493 cJ0_coder_7d493 1 (some .byte) ∈ WT := wT0 (wT3 (List.mem_of_getElem? (i := 54) rfl)) rfl
theorem w_642 : Cond.fieldLink RJ0 38 "java/lang/String" "COMPACT_STRINGS" "Z" ∈ WT := wT0 (wT3 (List.mem_of_getElem? (i := 55) rfl)) rfl
theorem w_644 : Cond.methodLink RX6 64 yJ0_charAt_5068e ∈ WT := wT0 (wT3 (List.mem_of_getElem? (i := 57) rfl)) rfl
theorem w_645 : Cond.instanceMethod yJ0_charAt_5068e ∈ WT := wT0 (wT3 (List.mem_of_getElem? (i := 58) rfl)) rfl
theorem w_646 : Cond.selects RJ0 yJ0_charAt_5068e yJ0_charAt_5068e ∈ WT := wT0 (wT3 (List.mem_of_getElem? (i := 59) rfl)) rfl
theorem w_647 : Cond.code yJ0_charAt_5068e cJ0_charAt_5068e 2 (some .char) ∈ WT := wT0 (wT3 (List.mem_of_getElem? (i := 60) rfl)) rfl
theorem w_648 : Cond.methodLink RJ0 492 yJ0_isLatin1_aae02 ∈ WT := wT0 (wT3 (List.mem_of_getElem? (i := 61) rfl)) rfl
theorem w_649 : Cond.instanceMethod yJ0_isLatin1_aae02 ∈ WT := wT0 (wT3 (List.mem_of_getElem? (i := 62) rfl)) rfl
theorem w_650 : Cond.selects RJ0 yJ0_isLatin1_aae02 yJ0_isLatin1_aae02 ∈ WT := wT0 (wT3 (List.mem_of_getElem? (i := 63) rfl)) rfl
theorem w_651 : Cond.code yJ0_isLatin1_aae02 cJ0_isLatin1_aae02 1 (some .boolean) ∈ WT := wT0 (wT3 (List.mem_of_getElem? (i := 64) rfl)) rfl
theorem w_652 : Cond.methodLink RJ0 495 yJ1_charAt_3b067 ∈ WT := wT0 (wT3 (List.mem_of_getElem? (i := 65) rfl)) rfl
theorem w_653 : Cond.static yJ1_charAt_3b067 ∈ WT := wT0 (wT3 (List.mem_of_getElem? (i := 66) rfl)) rfl
theorem w_654 : Cond.code yJ1_charAt_3b067 cJ1_charAt_3b067 2 (some .char) ∈ WT := wT0 (wT3 (List.mem_of_getElem? (i := 67) rfl)) rfl
theorem w_655 : Cond.methodLink RJ1 9 yJ0_checkIndex_df160 ∈ WT := wT0 (wT3 (List.mem_of_getElem? (i := 68) rfl)) rfl
theorem w_656 : Cond.static yJ0_checkIndex_df160 ∈ WT := wT0 (wT3 (List.mem_of_getElem? (i := 69) rfl)) rfl
theorem w_657 : Cond.code yJ0_checkIndex_df160 cJ0_checkIndex_df160 2 none ∈ WT := wT0 (wT3 (List.mem_of_getElem? (i := 70) rfl)) rfl
theorem w_658 : Cond.fieldLink RJ0 1053 "jdk/internal/util/Preconditions" "SIOOBE_FORMATTER" "Ljava/util/function/BiFunction;" ∈ WT := wT0 (wT3 (List.mem_of_getElem? (i := 71) rfl)) rfl
theorem w_660 : Cond.methodLink RJ0 1059 yJ3_checkIndex_8e157 ∈ WT := wT0 (wT3 (List.mem_of_getElem? (i := 73) rfl)) rfl
theorem w_661 : Cond.static yJ3_checkIndex_8e157 ∈ WT := wT0 (wT3 (List.mem_of_getElem? (i := 74) rfl)) rfl
theorem w_662 : Cond.code yJ3_checkIndex_8e157 cJ3_checkIndex_8e157 3 (some .int) ∈ WT := wT0 (wT3 (List.mem_of_getElem? (i := 75) rfl)) rfl
theorem w_682 : Cond.methodLink RX6 48 yX6_goOverSign ∈ WT := wT0 (wT3 (List.mem_of_getElem? (i := 95) rfl)) rfl
theorem w_684 : Cond.instanceMethod yX6_goOverSign ∈ WT := wT0 (wT3 (List.mem_of_getElem? (i := 97) rfl)) rfl
theorem w_685 : Cond.code yX6_goOverSign cX6_goOverSign 2 none ∈ WT := wT0 (wT3 (List.mem_of_getElem? (i := 98) rfl)) rfl
theorem w_686 : Cond.methodLink RX6 68 yX6_kindOfSign ∈ WT := wT0 (wT3 (List.mem_of_getElem? (i := 99) rfl)) rfl
theorem w_687 : Cond.static yX6_kindOfSign ∈ WT := wT0 (wT3 (List.mem_of_getElem? (i := 100) rfl)) rfl
theorem w_688 : Cond.code yX6_kindOfSign cX6_kindOfSign 1 (some .int) ∈ WT := wT0 (wT3 (List.mem_of_getElem? (i := 101) rfl)) rfl
theorem w_689 : Cond.methodLink RX1 66 yX1_takeClause ∈ WT := wT0 (wT3 (List.mem_of_getElem? (i := 102) rfl)) rfl
theorem w_691 : Cond.instanceMethod yX1_takeClause ∈ WT := wT0 (wT3 (List.mem_of_getElem? (i := 104) rfl)) rfl
theorem w_692 : Cond.code yX1_takeClause cX1_takeClause 3 none ∈ WT := wT0 (wT3 (List.mem_of_getElem? (i := 105) rfl)) rfl
theorem w_693 : Cond.methodLink RX1 102 yX1_beginsClause ∈ WT := wT0 (wT3 (List.mem_of_getElem? (i := 106) rfl)) rfl
theorem w_695 : Cond.instanceMethod yX1_beginsClause ∈ WT := wT0 (wT3 (List.mem_of_getElem? (i := 108) rfl)) rfl
theorem w_696 : Cond.code yX1_beginsClause cX1_beginsClause 2 (some .boolean) ∈ WT := wT0 (wT3 (List.mem_of_getElem? (i := 109) rfl)) rfl
theorem w_697 : Cond.methodLink RX1 106 yX1_fail ∈ WT := wT0 (wT3 (List.mem_of_getElem? (i := 110) rfl)) rfl
theorem w_699 : Cond.instanceMethod yX1_fail ∈ WT := wT0 (wT3 (List.mem_of_getElem? (i := 112) rfl)) rfl
theorem w_700 : Cond.code yX1_fail cX1_fail 3 none ∈ WT := wT0 (wT3 (List.mem_of_getElem? (i := 113) rfl)) rfl
theorem w_701 : Cond.methodLinkNest RX1 110 yX8_hasBit "SafeVolumes" ∈ NT := nT0 (wT3 (List.mem_of_getElem? (i := 114) rfl)) rfl
theorem w_702 : Cond.methodLink RX1 70 yX1_takeSetting ∈ WT := wT0 (wT3 (List.mem_of_getElem? (i := 115) rfl)) rfl
theorem w_704 : Cond.instanceMethod yX1_takeSetting ∈ WT := wT0 (wT3 (List.mem_of_getElem? (i := 117) rfl)) rfl
theorem w_705 : Cond.code yX1_takeSetting cX1_takeSetting 2 none ∈ WT := wT0 (wT3 (List.mem_of_getElem? (i := 118) rfl)) rfl
theorem w_706 : Cond.methodLink RX1 120 yX1_set ∈ WT := wT0 (wT3 (List.mem_of_getElem? (i := 119) rfl)) rfl
theorem w_708 : Cond.instanceMethod yX1_set ∈ WT := wT0 (wT3 (List.mem_of_getElem? (i := 121) rfl)) rfl
theorem w_709 : Cond.code yX1_set cX1_set 2 (some .boolean) ∈ WT := wT0 (wT3 (List.mem_of_getElem? (i := 122) rfl)) rfl
theorem w_710 : Cond.methodLink RX1 123 yX3_set ∈ WT := wT0 (wT3 (List.mem_of_getElem? (i := 123) rfl)) rfl
theorem w_711 : Cond.instanceMethod yX3_set ∈ WT := wT0 (wT3 (List.mem_of_getElem? (i := 124) rfl)) rfl
theorem w_712 : Cond.selects RX3 yX3_set yX3_set ∈ WT := wT0 (wT3 (List.mem_of_getElem? (i := 125) rfl)) rfl
theorem w_713 : Cond.code yX3_set cX3_set 3 (some .boolean) ∈ WT := wT0 (wT3 (List.mem_of_getElem? (i := 126) rfl)) rfl
theorem w_714 : Cond.methodLinkNest RX3 32 yX8_isFrom "SafeVolumes" ∈ NT := nT0 (wT3 (List.mem_of_getElem? (i := 127) rfl)) rfl
theorem w_715 : Cond.methodLink RX1 125 yX0_set ∈ WT := wT0 (wT3 (List.mem_of_getElem? (i := 128) rfl)) rfl
theorem w_716 : Cond.instanceMethod yX0_set ∈ WT := wT0 (wT3 (List.mem_of_getElem? (i := 129) rfl)) rfl
theorem w_717 : Cond.selects RX0 yX0_set yX0_set ∈ WT := wT0 (wT3 (List.mem_of_getElem? (i := 130) rfl)) rfl
theorem w_718 : Cond.code yX0_set cX0_set 3 (some .boolean) ∈ WT := wT0 (wT3 (List.mem_of_getElem? (i := 131) rfl)) rfl
theorem w_719 : Cond.methodLinkNest RX0 28 yX8_isFrom "SafeVolumes" ∈ NT := nT0 (wT3 (List.mem_of_getElem? (i := 132) rfl)) rfl
theorem w_720 : Cond.methodLink RX1 73 yX1_takeValue ∈ WT := wT0 (wT3 (List.mem_of_getElem? (i := 133) rfl)) rfl
theorem w_722 : Cond.instanceMethod yX1_takeValue ∈ WT := wT0 (wT3 (List.mem_of_getElem? (i := 135) rfl)) rfl
theorem w_723 : Cond.code yX1_takeValue cX1_takeValue 3 none ∈ WT := wT0 (wT3 (List.mem_of_getElem? (i := 136) rfl)) rfl
theorem w_724 : Cond.methodLinkNest RX1 130 yX8_isFrom "SafeVolumes" ∈ NT := nT0 (wT3 (List.mem_of_getElem? (i := 137) rfl)) rfl
theorem w_725 : Cond.methodLink RX1 134 yX3_codeOfNumber ∈ WT := wT0 (wT3 (List.mem_of_getElem? (i := 138) rfl)) rfl
theorem w_726 : Cond.static yX3_codeOfNumber ∈ WT := wT0 (wT3 (List.mem_of_getElem? (i := 139) rfl)) rfl
theorem w_727 : Cond.code yX3_codeOfNumber cX3_codeOfNumber 1 (some .int) ∈ WT := wT0 (wT3 (List.mem_of_getElem? (i := 140) rfl)) rfl
theorem w_728 : Cond.methodLink RX1 138 yX1_emit ∈ WT := wT0 (wT3 (List.mem_of_getElem? (i := 141) rfl)) rfl
theorem w_730 : Cond.instanceMethod yX1_emit ∈ WT := wT0 (wT3 (List.mem_of_getElem? (i := 143) rfl)) rfl
theorem w_731 : Cond.code yX1_emit cX1_emit 2 none ∈ WT := wT0 (wT3 (List.mem_of_getElem? (i := 144) rfl)) rfl
theorem w_732 : Cond.methodLink RX1 160 yX3_addCode ∈ WT := wT0 (wT3 (List.mem_of_getElem? (i := 145) rfl)) rfl
theorem w_733 : Cond.instanceMethod yX3_addCode ∈ WT := wT0 (wT3 (List.mem_of_getElem? (i := 146) rfl)) rfl
theorem w_734 : Cond.selects RX3 yX3_addCode yX3_addCode ∈ WT := wT0 (wT3 (List.mem_of_getElem? (i := 147) rfl)) rfl
theorem w_735 : Cond.code yX3_addCode cX3_addCode 2 none ∈ WT := wT0 (wT3 (List.mem_of_getElem? (i := 148) rfl)) rfl
theorem w_736 : Cond.methodLink RX1 76 yX1_takeFactStart ∈ WT := wT0 (wT3 (List.mem_of_getElem? (i := 149) rfl)) rfl
theorem w_738 : Cond.instanceMethod yX1_takeFactStart ∈ WT := wT0 (wT3 (List.mem_of_getElem? (i := 151) rfl)) rfl
theorem w_739 : Cond.code yX1_takeFactStart cX1_takeFactStart 2 none ∈ WT := wT0 (wT3 (List.mem_of_getElem? (i := 152) rfl)) rfl
theorem w_740 : Cond.methodLink RX1 126 yX1_putOff ∈ WT := wT0 (wT3 (List.mem_of_getElem? (i := 153) rfl)) rfl
theorem w_742 : Cond.instanceMethod yX1_putOff ∈ WT := wT0 (wT3 (List.mem_of_getElem? (i := 155) rfl)) rfl
theorem w_743 : Cond.code yX1_putOff cX1_putOff 2 none ∈ WT := wT0 (wT3 (List.mem_of_getElem? (i := 156) rfl)) rfl
theorem w_744 : Cond.methodLink RX1 79 yX1_takeBehindValue ∈ WT := wT0 (wT3 (List.mem_of_getElem? (i := 157) rfl)) rfl
theorem w_746 : Cond.instanceMethod yX1_takeBehindValue ∈ WT := wT0 (wT3 (List.mem_of_getElem? (i := 159) rfl)) rfl
theorem w_747 : Cond.code yX1_takeBehindValue cX1_takeBehindValue 3 none ∈ WT := wT0 (wT3 (List.mem_of_getElem? (i := 160) rfl)) rfl
theorem w_748 : Cond.methodLink RX1 141 yX1_join ∈ WT := wT0 (wT3 (List.mem_of_getElem? (i := 161) rfl)) rfl
theorem w_750 : Cond.instanceMethod yX1_join ∈ WT := wT0 (wT3 (List.mem_of_getElem? (i := 163) rfl)) rfl
theorem w_751 : Cond.code yX1_join cX1_join 2 none ∈ WT := wT0 (wT3 (List.mem_of_getElem? (i := 164) rfl)) rfl
theorem w_752 : Cond.methodLink RX1 153 yX1_closeness ∈ WT := wT0 (wT3 (List.mem_of_getElem? (i := 165) rfl)) rfl
theorem w_753 : Cond.static yX1_closeness ∈ WT := wT0 (wT3 (List.mem_of_getElem? (i := 166) rfl)) rfl
theorem w_754 : Cond.code yX1_closeness cX1_closeness 1 (some .int) ∈ WT := wT0 (wT3 (List.mem_of_getElem? (i := 167) rfl)) rfl
theorem w_755 : Cond.methodLink RX1 147 yX1_emitDownTo ∈ WT := wT0 (wT3 (List.mem_of_getElem? (i := 168) rfl)) rfl
theorem w_757 : Cond.instanceMethod yX1_emitDownTo ∈ WT := wT0 (wT3 (List.mem_of_getElem? (i := 170) rfl)) rfl
theorem w_758 : Cond.code yX1_emitDownTo cX1_emitDownTo 2 none ∈ WT := wT0 (wT3 (List.mem_of_getElem? (i := 171) rfl)) rfl
theorem w_759 : Cond.methodLink RX1 156 yX1_lastWaiting ∈ WT := wT0 (wT3 (List.mem_of_getElem? (i := 172) rfl)) rfl
theorem w_761 : Cond.instanceMethod yX1_lastWaiting ∈ WT := wT0 (wT3 (List.mem_of_getElem? (i := 174) rfl)) rfl
theorem w_762 : Cond.code yX1_lastWaiting cX1_lastWaiting 1 (some .int) ∈ WT := wT0 (wT3 (List.mem_of_getElem? (i := 175) rfl)) rfl
theorem w_763 : Cond.methodLink RX1 82 yX1_takeBehindFact ∈ WT := wT0 (wT3 (List.mem_of_getElem? (i := 176) rfl)) rfl
theorem w_765 : Cond.instanceMethod yX1_takeBehindFact ∈ WT := wT0 (wT3 (List.mem_of_getElem? (i := 178) rfl)) rfl
theorem w_766 : Cond.code yX1_takeBehindFact cX1_takeBehindFact 2 none ∈ WT := wT0 (wT3 (List.mem_of_getElem? (i := 179) rfl)) rfl
theorem w_767 : Cond.methodLink RX1 150 yX1_dropBracket ∈ WT := wT0 (wT3 (List.mem_of_getElem? (i := 180) rfl)) rfl
theorem w_769 : Cond.instanceMethod yX1_dropBracket ∈ WT := wT0 (wT3 (List.mem_of_getElem? (i := 182) rfl)) rfl
theorem w_770 : Cond.code yX1_dropBracket cX1_dropBracket 1 none ∈ WT := wT0 (wT3 (List.mem_of_getElem? (i := 183) rfl)) rfl
theorem w_771 : Cond.methodLink RX1 85 yX1_takeBehindClause ∈ WT := wT0 (wT3 (List.mem_of_getElem? (i := 184) rfl)) rfl
theorem w_773 : Cond.instanceMethod yX1_takeBehindClause ∈ WT := wT0 (wT3 (List.mem_of_getElem? (i := 186) rfl)) rfl
theorem w_774 : Cond.code yX1_takeBehindClause cX1_takeBehindClause 2 none ∈ WT := wT0 (wT3 (List.mem_of_getElem? (i := 187) rfl)) rfl
theorem w_775 : Cond.methodLink RX1 144 yX1_takeSign ∈ WT := wT0 (wT3 (List.mem_of_getElem? (i := 188) rfl)) rfl
theorem w_777 : Cond.instanceMethod yX1_takeSign ∈ WT := wT0 (wT3 (List.mem_of_getElem? (i := 190) rfl)) rfl
theorem w_778 : Cond.code yX1_takeSign cX1_takeSign 2 none ∈ WT := wT0 (wT3 (List.mem_of_getElem? (i := 191) rfl)) rfl
theorem w_779 : Cond.arrayClass FieldType.byte ∈ WT := wT0 (wT3 (List.mem_of_getElem? (i := 192) rfl)) rfl
theorem w_780 : Cond.methodLink RL 64 yX8_maker ∈ WT := wT0 (wT3 (List.mem_of_getElem? (i := 193) rfl)) rfl
theorem w_781 : Cond.instanceMethod yX8_maker ∈ WT := wT0 (wT3 (List.mem_of_getElem? (i := 194) rfl)) rfl
theorem w_782 : Cond.selects RX8 yX8_maker yX8_maker ∈ WT := wT0 (wT3 (List.mem_of_getElem? (i := 195) rfl)) rfl
theorem w_783 : Cond.code yX8_maker cX8_maker 2 (some .int) ∈ WT := wT0 (wT3 (List.mem_of_getElem? (i := 196) rfl)) rfl
theorem w_784 : Cond.methodLink RL 68 yX8_chance ∈ WT := wT0 (wT3 (List.mem_of_getElem? (i := 197) rfl)) rfl
theorem w_785 : Cond.instanceMethod yX8_chance ∈ WT := wT0 (wT3 (List.mem_of_getElem? (i := 198) rfl)) rfl
theorem w_786 : Cond.selects RX8 yX8_chance yX8_chance ∈ WT := wT0 (wT3 (List.mem_of_getElem? (i := 199) rfl)) rfl
theorem w_787 : Cond.code yX8_chance cX8_chance 5 (some .int) ∈ WT := wT0 (wT3 (List.mem_of_getElem? (i := 200) rfl)) rfl
theorem w_788 : Cond.methodLink RX8 154 yX8_readerAt ∈ WT := wT0 (wT3 (List.mem_of_getElem? (i := 201) rfl)) rfl
theorem w_790 : Cond.instanceMethod yX8_readerAt ∈ WT := wT0 (wT3 (List.mem_of_getElem? (i := 203) rfl)) rfl
theorem w_791 : Cond.code yX8_readerAt cX8_readerAt 2 (some (.object RX3)) ∈ WT := wT0 (wT3 (List.mem_of_getElem? (i := 204) rfl)) rfl
theorem w_792 : Cond.methodLink RX8 185 yJ9_min_7cf53 ∈ WT := wT0 (wT3 (List.mem_of_getElem? (i := 205) rfl)) rfl
theorem w_793 : Cond.methodLink RX8 158 yX7_areUnlike ∈ WT := wT0 (wT3 (List.mem_of_getElem? (i := 206) rfl)) rfl
theorem w_794 : Cond.instanceMethod yX7_areUnlike ∈ WT := wT0 (wT3 (List.mem_of_getElem? (i := 207) rfl)) rfl
theorem w_795 : Cond.selects RX7 yX7_areUnlike yX7_areUnlike ∈ WT := wT0 (wT3 (List.mem_of_getElem? (i := 208) rfl)) rfl
theorem w_796 : Cond.code yX7_areUnlike cX7_areUnlike 3 (some .boolean) ∈ WT := wT0 (wT3 (List.mem_of_getElem? (i := 209) rfl)) rfl
theorem w_797 : Cond.methodLink RX7 58 yX5_has ∈ WT := wT0 (wT3 (List.mem_of_getElem? (i := 210) rfl)) rfl
theorem w_798 : Cond.methodLink RX8 162 yX8_chanceOf ∈ WT := wT0 (wT3 (List.mem_of_getElem? (i := 211) rfl)) rfl
theorem w_800 : Cond.instanceMethod yX8_chanceOf ∈ WT := wT0 (wT3 (List.mem_of_getElem? (i := 213) rfl)) rfl
theorem w_801 : Cond.code yX8_chanceOf cX8_chanceOf 4 (some .int) ∈ WT := wT0 (wT3 (List.mem_of_getElem? (i := 214) rfl)) rfl
theorem w_802 : Cond.methodLink RX8 277 yX7_fillWords ∈ WT := wT0 (wT3 (List.mem_of_getElem? (i := 215) rfl)) rfl
theorem w_803 : Cond.instanceMethod yX7_fillWords ∈ WT := wT0 (wT3 (List.mem_of_getElem? (i := 216) rfl)) rfl
theorem w_804 : Cond.selects RX7 yX7_fillWords yX7_fillWords ∈ WT := wT0 (wT3 (List.mem_of_getElem? (i := 217) rfl)) rfl
theorem w_805 : Cond.code yX7_fillWords cX7_fillWords 4 none ∈ WT := wT0 (wT3 (List.mem_of_getElem? (i := 218) rfl)) rfl
theorem w_806 : Cond.methodLink RX7 122 yX7_apart ∈ WT := wT0 (wT3 (List.mem_of_getElem? (i := 219) rfl)) rfl
theorem w_808 : Cond.instanceMethod yX7_apart ∈ WT := wT0 (wT3 (List.mem_of_getElem? (i := 221) rfl)) rfl
theorem w_809 : Cond.code yX7_apart cX7_apart 5 (some .int) ∈ WT := wT0 (wT3 (List.mem_of_getElem? (i := 222) rfl)) rfl
theorem w_810 : Cond.methodLink RX7 114 yJ9_abs_0f7a4 ∈ WT := wT0 (wT3 (List.mem_of_getElem? (i := 223) rfl)) rfl
theorem w_811 : Cond.static yJ9_abs_0f7a4 ∈ WT := wT0 (wT3 (List.mem_of_getElem? (i := 224) rfl)) rfl
theorem w_812 : Cond.code yJ9_abs_0f7a4 cJ9_abs_0f7a4 1 (some .int) ∈ WT := wT0 (wT3 (List.mem_of_getElem? (i := 225) rfl)) rfl
theorem w_813 : Cond.methodLink RX7 125 yX7_late ∈ WT := wT0 (wT3 (List.mem_of_getElem? (i := 226) rfl)) rfl
theorem w_815 : Cond.instanceMethod yX7_late ∈ WT := wT0 (wT3 (List.mem_of_getElem? (i := 228) rfl)) rfl
theorem w_816 : Cond.code yX7_late cX7_late 6 (some .int) ∈ WT := wT0 (wT3 (List.mem_of_getElem? (i := 229) rfl)) rfl
theorem w_817 : Cond.methodLink RX7 119 yJ9_max_7cf53 ∈ WT := wT0 (wT3 (List.mem_of_getElem? (i := 230) rfl)) rfl
theorem w_818 : Cond.methodLink RX7 128 yX7_wrongPages ∈ WT := wT0 (wT3 (List.mem_of_getElem? (i := 231) rfl)) rfl
theorem w_819 : Cond.methodLink RX7 131 yX7_sharedPages ∈ WT := wT0 (wT3 (List.mem_of_getElem? (i := 232) rfl)) rfl
theorem w_820 : Cond.methodLink RX7 134 yX7_nowherePages ∈ WT := wT0 (wT3 (List.mem_of_getElem? (i := 233) rfl)) rfl
theorem w_821 : Cond.methodLink RX7 137 yX7_pagesOf ∈ WT := wT0 (wT3 (List.mem_of_getElem? (i := 234) rfl)) rfl
theorem w_822 : Cond.methodLink RX7 140 yX7_volumes ∈ WT := wT0 (wT3 (List.mem_of_getElem? (i := 235) rfl)) rfl
theorem w_823 : Cond.instanceMethod yX7_volumes ∈ WT := wT0 (wT3 (List.mem_of_getElem? (i := 236) rfl)) rfl
theorem w_824 : Cond.selects RX7 yX7_volumes yX7_volumes ∈ WT := wT0 (wT3 (List.mem_of_getElem? (i := 237) rfl)) rfl
theorem w_825 : Cond.code yX7_volumes cX7_volumes 3 (some .int) ∈ WT := wT0 (wT3 (List.mem_of_getElem? (i := 238) rfl)) rfl
theorem w_826 : Cond.methodLink RX7 70 yX7_isVolume ∈ WT := wT0 (wT3 (List.mem_of_getElem? (i := 239) rfl)) rfl
theorem w_828 : Cond.instanceMethod yX7_isVolume ∈ WT := wT0 (wT4 (List.mem_of_getElem? (i := 1) rfl)) rfl
theorem w_829 : Cond.code yX7_isVolume cX7_isVolume 2 (some .boolean) ∈ WT := wT0 (wT4 (List.mem_of_getElem? (i := 2) rfl)) rfl
theorem w_830 : Cond.methodLink RX8 281 yX3_chanceBy ∈ WT := wT0 (wT4 (List.mem_of_getElem? (i := 3) rfl)) rfl
theorem w_831 : Cond.instanceMethod yX3_chanceBy ∈ WT := wT0 (wT4 (List.mem_of_getElem? (i := 4) rfl)) rfl
theorem w_832 : Cond.selects RX3 yX3_chanceBy yX3_chanceBy ∈ WT := wT0 (wT4 (List.mem_of_getElem? (i := 5) rfl)) rfl
theorem w_833 : Cond.code yX3_chanceBy cX3_chanceBy 7 (some .int) ∈ WT := wT0 (wT4 (List.mem_of_getElem? (i := 6) rfl)) rfl
theorem w_834 : Cond.methodLink RX3 36 yX3_pop ∈ WT := wT0 (wT4 (List.mem_of_getElem? (i := 7) rfl)) rfl
theorem w_836 : Cond.instanceMethod yX3_pop ∈ WT := wT0 (wT4 (List.mem_of_getElem? (i := 9) rfl)) rfl
theorem w_837 : Cond.code yX3_pop cX3_pop 1 (some .long) ∈ WT := wT0 (wT4 (List.mem_of_getElem? (i := 10) rfl)) rfl
theorem w_838 : Cond.methodLink RX3 40 yX3_held ∈ WT := wT0 (wT4 (List.mem_of_getElem? (i := 11) rfl)) rfl
theorem w_839 : Cond.static yX3_held ∈ WT := wT0 (wT4 (List.mem_of_getElem? (i := 12) rfl)) rfl
theorem w_840 : Cond.code yX3_held cX3_held 2 (some .int) ∈ WT := wT0 (wT4 (List.mem_of_getElem? (i := 13) rfl)) rfl
theorem w_841 : Cond.constantLong RX3 48 (1000) ∈ WT := wT0 (wT4 (List.mem_of_getElem? (i := 14) rfl)) rfl
theorem w_842 : Cond.methodLink RX3 50 yJ9_min_f86c9 ∈ WT := wT0 (wT4 (List.mem_of_getElem? (i := 15) rfl)) rfl
theorem w_843 : Cond.static yJ9_min_f86c9 ∈ WT := wT0 (wT4 (List.mem_of_getElem? (i := 16) rfl)) rfl
theorem w_844 : Cond.code yJ9_min_f86c9 cJ9_min_f86c9 4 (some .long) ∈ WT := wT0 (wT4 (List.mem_of_getElem? (i := 17) rfl)) rfl
theorem w_845 : Cond.methodLink RX3 56 yJ9_max_f86c9 ∈ WT := wT0 (wT4 (List.mem_of_getElem? (i := 18) rfl)) rfl
theorem w_846 : Cond.static yJ9_max_f86c9 ∈ WT := wT0 (wT4 (List.mem_of_getElem? (i := 19) rfl)) rfl
theorem w_847 : Cond.code yJ9_max_f86c9 cJ9_max_f86c9 4 (some .long) ∈ WT := wT0 (wT4 (List.mem_of_getElem? (i := 20) rfl)) rfl
theorem w_848 : Cond.methodLink RX3 44 yX3_step ∈ WT := wT0 (wT4 (List.mem_of_getElem? (i := 21) rfl)) rfl
theorem w_850 : Cond.instanceMethod yX3_step ∈ WT := wT0 (wT4 (List.mem_of_getElem? (i := 23) rfl)) rfl
theorem w_851 : Cond.code yX3_step cX3_step 7 none ∈ WT := wT0 (wT4 (List.mem_of_getElem? (i := 24) rfl)) rfl
theorem w_852 : Cond.methodLink RX3 59 yX3_push ∈ WT := wT0 (wT4 (List.mem_of_getElem? (i := 25) rfl)) rfl
theorem w_854 : Cond.instanceMethod yX3_push ∈ WT := wT0 (wT4 (List.mem_of_getElem? (i := 27) rfl)) rfl
theorem w_855 : Cond.code yX3_push cX3_push 3 none ∈ WT := wT0 (wT4 (List.mem_of_getElem? (i := 28) rfl)) rfl
theorem w_856 : Cond.methodLink RX3 63 yX3_bit ∈ WT := wT0 (wT4 (List.mem_of_getElem? (i := 29) rfl)) rfl
theorem w_857 : Cond.static yX3_bit ∈ WT := wT0 (wT4 (List.mem_of_getElem? (i := 30) rfl)) rfl
theorem w_858 : Cond.code yX3_bit cX3_bit 1 (some .long) ∈ WT := wT0 (wT4 (List.mem_of_getElem? (i := 31) rfl)) rfl
theorem w_859 : Cond.methodLink RX3 67 yX3_joined ∈ WT := wT0 (wT4 (List.mem_of_getElem? (i := 32) rfl)) rfl
theorem w_860 : Cond.static yX3_joined ∈ WT := wT0 (wT4 (List.mem_of_getElem? (i := 33) rfl)) rfl
theorem w_861 : Cond.code yX3_joined cX3_joined 5 (some .long) ∈ WT := wT0 (wT4 (List.mem_of_getElem? (i := 34) rfl)) rfl
theorem w_862 : Cond.methodLink RL 72 yX8_tells ∈ WT := wT0 (wT4 (List.mem_of_getElem? (i := 35) rfl)) rfl
theorem w_863 : Cond.instanceMethod yX8_tells ∈ WT := wT0 (wT4 (List.mem_of_getElem? (i := 36) rfl)) rfl
theorem w_864 : Cond.selects RX8 yX8_tells yX8_tells ∈ WT := wT0 (wT4 (List.mem_of_getElem? (i := 37) rfl)) rfl
theorem w_865 : Cond.code yX8_tells cX8_tells 6 (some .int) ∈ WT := wT0 (wT4 (List.mem_of_getElem? (i := 38) rfl)) rfl
theorem w_866 : Cond.methodLink RL 77 yX8_look ∈ WT := wT0 (wT4 (List.mem_of_getElem? (i := 39) rfl)) rfl
theorem w_867 : Cond.instanceMethod yX8_look ∈ WT := wT0 (wT4 (List.mem_of_getElem? (i := 40) rfl)) rfl
theorem w_868 : Cond.selects RX8 yX8_look yX8_look ∈ WT := wT0 (wT4 (List.mem_of_getElem? (i := 41) rfl)) rfl
theorem w_869 : Cond.code yX8_look cX8_look 8 (some .int) ∈ WT := wT0 (wT4 (List.mem_of_getElem? (i := 42) rfl)) rfl
theorem w_870 : Cond.methodLink RX8 169 yX5_isFull ∈ WT := wT0 (wT4 (List.mem_of_getElem? (i := 43) rfl)) rfl
theorem w_871 : Cond.methodLink RX8 173 yX7_isKeptClose ∈ WT := wT0 (wT4 (List.mem_of_getElem? (i := 44) rfl)) rfl
theorem w_872 : Cond.instanceMethod yX7_isKeptClose ∈ WT := wT0 (wT4 (List.mem_of_getElem? (i := 45) rfl)) rfl
theorem w_873 : Cond.selects RX7 yX7_isKeptClose yX7_isKeptClose ∈ WT := wT0 (wT4 (List.mem_of_getElem? (i := 46) rfl)) rfl
theorem w_874 : Cond.code yX7_isKeptClose cX7_isKeptClose 2 (some .boolean) ∈ WT := wT0 (wT4 (List.mem_of_getElem? (i := 47) rfl)) rfl
theorem w_875 : Cond.methodLink RX8 176 yX8_drawn ∈ WT := wT0 (wT4 (List.mem_of_getElem? (i := 48) rfl)) rfl
theorem w_876 : Cond.static yX8_drawn ∈ WT := wT0 (wT4 (List.mem_of_getElem? (i := 49) rfl)) rfl
theorem w_877 : Cond.code yX8_drawn cX8_drawn 1 (some .int) ∈ WT := wT0 (wT4 (List.mem_of_getElem? (i := 50) rfl)) rfl
theorem w_878 : Cond.constantLong RX8 271 (1103515245) ∈ WT := wT0 (wT4 (List.mem_of_getElem? (i := 51) rfl)) rfl
theorem w_879 : Cond.constantLong RX8 273 (12345) ∈ WT := wT0 (wT4 (List.mem_of_getElem? (i := 52) rfl)) rfl
theorem w_880 : Cond.constantLong RX8 275 (2147483647) ∈ WT := wT0 (wT4 (List.mem_of_getElem? (i := 53) rfl)) rfl
theorem w_881 : Cond.methodLink RX8 179 yX8_perMille ∈ WT := wT0 (wT4 (List.mem_of_getElem? (i := 54) rfl)) rfl
theorem w_882 : Cond.static yX8_perMille ∈ WT := wT0 (wT4 (List.mem_of_getElem? (i := 55) rfl)) rfl
theorem w_883 : Cond.code yX8_perMille cX8_perMille 1 (some .int) ∈ WT := wT0 (wT4 (List.mem_of_getElem? (i := 56) rfl)) rfl
theorem w_884 : Cond.methodLink RL 81 yX8_test ∈ WT := wT0 (wT4 (List.mem_of_getElem? (i := 57) rfl)) rfl
theorem w_885 : Cond.instanceMethod yX8_test ∈ WT := wT0 (wT4 (List.mem_of_getElem? (i := 58) rfl)) rfl
theorem w_886 : Cond.selects RX8 yX8_test yX8_test ∈ WT := wT0 (wT4 (List.mem_of_getElem? (i := 59) rfl)) rfl
theorem w_887 : Cond.code yX8_test cX8_test 4 (some .int) ∈ WT := wT0 (wT4 (List.mem_of_getElem? (i := 60) rfl)) rfl
theorem w_888 : Cond.methodLink RX8 193 yX8_hasBit ∈ WT := wT0 (wT4 (List.mem_of_getElem? (i := 61) rfl)) rfl
theorem w_889 : Cond.methodLink RL 85 yX8_keep ∈ WT := wT0 (wT4 (List.mem_of_getElem? (i := 62) rfl)) rfl
theorem w_890 : Cond.instanceMethod yX8_keep ∈ WT := wT0 (wT4 (List.mem_of_getElem? (i := 63) rfl)) rfl
theorem w_891 : Cond.selects RX8 yX8_keep yX8_keep ∈ WT := wT0 (wT4 (List.mem_of_getElem? (i := 64) rfl)) rfl
theorem w_892 : Cond.code yX8_keep cX8_keep 4 (some .int) ∈ WT := wT0 (wT4 (List.mem_of_getElem? (i := 65) rfl)) rfl
theorem w_893 : Cond.methodLink RL 89 yX8_stand ∈ WT := wT0 (wT4 (List.mem_of_getElem? (i := 66) rfl)) rfl
theorem w_894 : Cond.instanceMethod yX8_stand ∈ WT := wT0 (wT4 (List.mem_of_getElem? (i := 67) rfl)) rfl
theorem w_895 : Cond.selects RX8 yX8_stand yX8_stand ∈ WT := wT0 (wT4 (List.mem_of_getElem? (i := 68) rfl)) rfl
theorem w_896 : Cond.code yX8_stand cX8_stand 3 (some .int) ∈ WT := wT0 (wT4 (List.mem_of_getElem? (i := 69) rfl)) rfl
theorem w_897 : Cond.methodLink RX8 196 yX7_standUpTo ∈ WT := wT0 (wT4 (List.mem_of_getElem? (i := 70) rfl)) rfl
theorem w_898 : Cond.instanceMethod yX7_standUpTo ∈ WT := wT0 (wT4 (List.mem_of_getElem? (i := 71) rfl)) rfl
theorem w_899 : Cond.selects RX7 yX7_standUpTo yX7_standUpTo ∈ WT := wT0 (wT4 (List.mem_of_getElem? (i := 72) rfl)) rfl
theorem w_900 : Cond.code yX7_standUpTo cX7_standUpTo 8 (some .int) ∈ WT := wT0 (wT4 (List.mem_of_getElem? (i := 73) rfl)) rfl
theorem w_901 : Cond.methodLink RX7 143 yX7_tooYoung ∈ WT := wT0 (wT4 (List.mem_of_getElem? (i := 74) rfl)) rfl
theorem w_902 : Cond.methodLink RL 93 yX8_cost ∈ WT := wT0 (wT4 (List.mem_of_getElem? (i := 75) rfl)) rfl
theorem w_903 : Cond.instanceMethod yX8_cost ∈ WT := wT0 (wT4 (List.mem_of_getElem? (i := 76) rfl)) rfl
theorem w_904 : Cond.selects RX8 yX8_cost yX8_cost ∈ WT := wT0 (wT4 (List.mem_of_getElem? (i := 77) rfl)) rfl
theorem w_905 : Cond.code yX8_cost cX8_cost 2 (some .int) ∈ WT := wT0 (wT4 (List.mem_of_getElem? (i := 78) rfl)) rfl
theorem w_906 : Cond.methodLink RX8 199 yX7_costOfKeeping ∈ WT := wT0 (wT4 (List.mem_of_getElem? (i := 79) rfl)) rfl
theorem w_907 : Cond.instanceMethod yX7_costOfKeeping ∈ WT := wT0 (wT4 (List.mem_of_getElem? (i := 80) rfl)) rfl
theorem w_908 : Cond.selects RX7 yX7_costOfKeeping yX7_costOfKeeping ∈ WT := wT0 (wT4 (List.mem_of_getElem? (i := 81) rfl)) rfl
theorem w_909 : Cond.code yX7_costOfKeeping cX7_costOfKeeping 5 (some .int) ∈ WT := wT0 (wT4 (List.mem_of_getElem? (i := 82) rfl)) rfl
theorem w_910 : Cond.methodLink RL 97 yX8_cheapest ∈ WT := wT0 (wT4 (List.mem_of_getElem? (i := 83) rfl)) rfl
theorem w_911 : Cond.instanceMethod yX8_cheapest ∈ WT := wT0 (wT4 (List.mem_of_getElem? (i := 84) rfl)) rfl
theorem w_912 : Cond.selects RX8 yX8_cheapest yX8_cheapest ∈ WT := wT0 (wT4 (List.mem_of_getElem? (i := 85) rfl)) rfl
theorem w_913 : Cond.code yX8_cheapest cX8_cheapest 2 (some .int) ∈ WT := wT0 (wT4 (List.mem_of_getElem? (i := 86) rfl)) rfl
theorem w_914 : Cond.methodLink RX8 202 yX7_cheapestTooYoung ∈ WT := wT0 (wT4 (List.mem_of_getElem? (i := 87) rfl)) rfl
theorem w_915 : Cond.instanceMethod yX7_cheapestTooYoung ∈ WT := wT0 (wT4 (List.mem_of_getElem? (i := 88) rfl)) rfl
theorem w_916 : Cond.selects RX7 yX7_cheapestTooYoung yX7_cheapestTooYoung ∈ WT := wT0 (wT4 (List.mem_of_getElem? (i := 89) rfl)) rfl
theorem w_917 : Cond.code yX7_cheapestTooYoung cX7_cheapestTooYoung 6 (some .int) ∈ WT := wT0 (wT4 (List.mem_of_getElem? (i := 90) rfl)) rfl
theorem w_918 : Cond.methodLink RL 101 yX8_likely ∈ WT := wT0 (wT4 (List.mem_of_getElem? (i := 91) rfl)) rfl
theorem w_919 : Cond.instanceMethod yX8_likely ∈ WT := wT0 (wT4 (List.mem_of_getElem? (i := 92) rfl)) rfl
theorem w_920 : Cond.selects RX8 yX8_likely yX8_likely ∈ WT := wT0 (wT4 (List.mem_of_getElem? (i := 93) rfl)) rfl
theorem w_921 : Cond.code yX8_likely cX8_likely 2 (some .int) ∈ WT := wT0 (wT4 (List.mem_of_getElem? (i := 94) rfl)) rfl
theorem w_922 : Cond.methodLink RX8 205 yX7_likeliestSource ∈ WT := wT0 (wT4 (List.mem_of_getElem? (i := 95) rfl)) rfl
theorem w_923 : Cond.instanceMethod yX7_likeliestSource ∈ WT := wT0 (wT4 (List.mem_of_getElem? (i := 96) rfl)) rfl
theorem w_924 : Cond.selects RX7 yX7_likeliestSource yX7_likeliestSource ∈ WT := wT0 (wT4 (List.mem_of_getElem? (i := 97) rfl)) rfl
theorem w_925 : Cond.code yX7_likeliestSource cX7_likeliestSource 6 (some .int) ∈ WT := wT0 (wT4 (List.mem_of_getElem? (i := 98) rfl)) rfl
theorem w_926 : Cond.methodLink RX7 146 yX7_pagesSharedWith ∈ WT := wT0 (wT4 (List.mem_of_getElem? (i := 99) rfl)) rfl
theorem w_927 : Cond.methodLink RL 105 yX8_kin ∈ WT := wT0 (wT4 (List.mem_of_getElem? (i := 100) rfl)) rfl
theorem w_928 : Cond.instanceMethod yX8_kin ∈ WT := wT0 (wT4 (List.mem_of_getElem? (i := 101) rfl)) rfl
theorem w_929 : Cond.selects RX8 yX8_kin yX8_kin ∈ WT := wT0 (wT4 (List.mem_of_getElem? (i := 102) rfl)) rfl
theorem w_930 : Cond.code yX8_kin cX8_kin 3 (some .int) ∈ WT := wT0 (wT4 (List.mem_of_getElem? (i := 103) rfl)) rfl
theorem w_931 : Cond.methodLink RX8 208 yX7_sourcesOf ∈ WT := wT0 (wT4 (List.mem_of_getElem? (i := 104) rfl)) rfl
theorem w_932 : Cond.instanceMethod yX7_sourcesOf ∈ WT := wT0 (wT4 (List.mem_of_getElem? (i := 105) rfl)) rfl
theorem w_933 : Cond.selects RX7 yX7_sourcesOf yX7_sourcesOf ∈ WT := wT0 (wT4 (List.mem_of_getElem? (i := 106) rfl)) rfl
theorem w_934 : Cond.code yX7_sourcesOf cX7_sourcesOf 5 (some .int) ∈ WT := wT0 (wT4 (List.mem_of_getElem? (i := 107) rfl)) rfl
theorem w_935 : Cond.methodLink RX8 211 yJ6_bitCount_0f7a4 ∈ WT := wT0 (wT4 (List.mem_of_getElem? (i := 108) rfl)) rfl
theorem w_936 : Cond.static yJ6_bitCount_0f7a4 ∈ WT := wT0 (wT4 (List.mem_of_getElem? (i := 109) rfl)) rfl
theorem w_937 : Cond.code yJ6_bitCount_0f7a4 cJ6_bitCount_0f7a4 1 (some .int) ∈ WT := wT0 (wT4 (List.mem_of_getElem? (i := 110) rfl)) rfl
theorem w_938 : Cond.constant RJ6 265 (1431655765) ∈ WT := wT0 (wT4 (List.mem_of_getElem? (i := 111) rfl)) rfl
theorem w_939 : Cond.constant RJ6 266 (858993459) ∈ WT := wT0 (wT4 (List.mem_of_getElem? (i := 112) rfl)) rfl
theorem w_940 : Cond.constant RJ6 267 (252645135) ∈ WT := wT0 (wT4 (List.mem_of_getElem? (i := 113) rfl)) rfl
theorem w_941 : Cond.methodLink RL 109 yX8_could ∈ WT := wT0 (wT4 (List.mem_of_getElem? (i := 114) rfl)) rfl
theorem w_942 : Cond.instanceMethod yX8_could ∈ WT := wT0 (wT4 (List.mem_of_getElem? (i := 115) rfl)) rfl
theorem w_943 : Cond.selects RX8 yX8_could yX8_could ∈ WT := wT0 (wT4 (List.mem_of_getElem? (i := 116) rfl)) rfl
theorem w_944 : Cond.code yX8_could cX8_could 5 (some .int) ∈ WT := wT0 (wT4 (List.mem_of_getElem? (i := 117) rfl)) rfl
theorem w_945 : Cond.methodLink RX8 216 yX0_canMake ∈ WT := wT0 (wT4 (List.mem_of_getElem? (i := 118) rfl)) rfl
theorem w_946 : Cond.instanceMethod yX0_canMake ∈ WT := wT0 (wT4 (List.mem_of_getElem? (i := 119) rfl)) rfl
theorem w_947 : Cond.selects RX0 yX0_canMake yX0_canMake ∈ WT := wT0 (wT4 (List.mem_of_getElem? (i := 120) rfl)) rfl
theorem w_948 : Cond.code yX0_canMake cX0_canMake 5 (some .boolean) ∈ WT := wT0 (wT4 (List.mem_of_getElem? (i := 121) rfl)) rfl
theorem w_949 : Cond.methodLink RX0 48 yX5_at ∈ WT := wT0 (wT4 (List.mem_of_getElem? (i := 122) rfl)) rfl
theorem w_950 : Cond.methodLink RX0 54 yX7_pagesEnd ∈ WT := wT0 (wT4 (List.mem_of_getElem? (i := 123) rfl)) rfl
theorem w_951 : Cond.methodLink RX0 57 yX7_firstPage ∈ WT := wT0 (wT4 (List.mem_of_getElem? (i := 124) rfl)) rfl
theorem w_952 : Cond.methodLink RX0 60 yX7_dayOfPage ∈ WT := wT0 (wT4 (List.mem_of_getElem? (i := 125) rfl)) rfl
theorem w_953 : Cond.methodLink RX0 66 yX2_placeAt ∈ WT := wT0 (wT4 (List.mem_of_getElem? (i := 126) rfl)) rfl
theorem w_954 : Cond.methodLink RX0 69 yX0_canWrite ∈ WT := wT0 (wT4 (List.mem_of_getElem? (i := 127) rfl)) rfl
theorem w_956 : Cond.instanceMethod yX0_canWrite ∈ WT := wT0 (wT4 (List.mem_of_getElem? (i := 129) rfl)) rfl
theorem w_957 : Cond.code yX0_canWrite cX0_canWrite 5 (some .boolean) ∈ WT := wT0 (wT4 (List.mem_of_getElem? (i := 130) rfl)) rfl
theorem w_958 : Cond.methodLink RX0 38 yX2_placeOf ∈ WT := wT0 (wT4 (List.mem_of_getElem? (i := 131) rfl)) rfl
theorem w_959 : Cond.methodLink RX0 76 yX0_placeFrom ∈ WT := wT0 (wT4 (List.mem_of_getElem? (i := 132) rfl)) rfl
theorem w_961 : Cond.instanceMethod yX0_placeFrom ∈ WT := wT0 (wT4 (List.mem_of_getElem? (i := 134) rfl)) rfl
theorem w_962 : Cond.code yX0_placeFrom cX0_placeFrom 4 (some .int) ∈ WT := wT0 (wT4 (List.mem_of_getElem? (i := 135) rfl)) rfl
theorem w_963 : Cond.methodLink RL 113 yX8_outrun ∈ WT := wT0 (wT4 (List.mem_of_getElem? (i := 136) rfl)) rfl
theorem w_964 : Cond.instanceMethod yX8_outrun ∈ WT := wT0 (wT4 (List.mem_of_getElem? (i := 137) rfl)) rfl
theorem w_965 : Cond.selects RX8 yX8_outrun yX8_outrun ∈ WT := wT0 (wT4 (List.mem_of_getElem? (i := 138) rfl)) rfl
theorem w_966 : Cond.code yX8_outrun cX8_outrun 4 (some .int) ∈ WT := wT0 (wT4 (List.mem_of_getElem? (i := 139) rfl)) rfl
theorem w_967 : Cond.methodLink RX8 220 yX8_makerAt ∈ WT := wT0 (wT4 (List.mem_of_getElem? (i := 140) rfl)) rfl
theorem w_969 : Cond.instanceMethod yX8_makerAt ∈ WT := wT0 (wT4 (List.mem_of_getElem? (i := 142) rfl)) rfl
theorem w_970 : Cond.code yX8_makerAt cX8_makerAt 2 (some (.object RX0)) ∈ WT := wT0 (wT4 (List.mem_of_getElem? (i := 143) rfl)) rfl
theorem w_971 : Cond.methodLink RX8 227 yX7_weekTooFast ∈ WT := wT0 (wT4 (List.mem_of_getElem? (i := 144) rfl)) rfl
theorem w_972 : Cond.instanceMethod yX7_weekTooFast ∈ WT := wT0 (wT4 (List.mem_of_getElem? (i := 145) rfl)) rfl
theorem w_973 : Cond.selects RX7 yX7_weekTooFast yX7_weekTooFast ∈ WT := wT0 (wT4 (List.mem_of_getElem? (i := 146) rfl)) rfl
theorem w_974 : Cond.code yX7_weekTooFast cX7_weekTooFast 6 (some .int) ∈ WT := wT0 (wT4 (List.mem_of_getElem? (i := 147) rfl)) rfl
theorem w_975 : Cond.methodLink RL 117 yX8_grows ∈ WT := wT0 (wT4 (List.mem_of_getElem? (i := 148) rfl)) rfl
theorem w_976 : Cond.instanceMethod yX8_grows ∈ WT := wT0 (wT4 (List.mem_of_getElem? (i := 149) rfl)) rfl
theorem w_977 : Cond.selects RX8 yX8_grows yX8_grows ∈ WT := wT0 (wT4 (List.mem_of_getElem? (i := 150) rfl)) rfl
theorem w_978 : Cond.code yX8_grows cX8_grows 1 (some .int) ∈ WT := wT0 (wT4 (List.mem_of_getElem? (i := 151) rfl)) rfl
theorem w_979 : Cond.methodLink RX8 230 yX7_growth ∈ WT := wT0 (wT4 (List.mem_of_getElem? (i := 152) rfl)) rfl
theorem w_980 : Cond.instanceMethod yX7_growth ∈ WT := wT0 (wT4 (List.mem_of_getElem? (i := 153) rfl)) rfl
theorem w_981 : Cond.selects RX7 yX7_growth yX7_growth ∈ WT := wT0 (wT4 (List.mem_of_getElem? (i := 154) rfl)) rfl
theorem w_982 : Cond.code yX7_growth cX7_growth 4 (some .int) ∈ WT := wT0 (wT4 (List.mem_of_getElem? (i := 155) rfl)) rfl
theorem w_983 : Cond.methodLink RX7 149 yX7_growthBehind ∈ WT := wT0 (wT4 (List.mem_of_getElem? (i := 156) rfl)) rfl
theorem w_985 : Cond.instanceMethod yX7_growthBehind ∈ WT := wT0 (wT4 (List.mem_of_getElem? (i := 158) rfl)) rfl
theorem w_986 : Cond.code yX7_growthBehind cX7_growthBehind 10 (some .int) ∈ WT := wT0 (wT4 (List.mem_of_getElem? (i := 159) rfl)) rfl
theorem w_987 : Cond.methodLink RX7 152 yJ6_signum_0f7a4 ∈ WT := wT0 (wT4 (List.mem_of_getElem? (i := 160) rfl)) rfl
theorem w_988 : Cond.static yJ6_signum_0f7a4 ∈ WT := wT0 (wT4 (List.mem_of_getElem? (i := 161) rfl)) rfl
theorem w_989 : Cond.code yJ6_signum_0f7a4 cJ6_signum_0f7a4 1 (some .int) ∈ WT := wT0 (wT4 (List.mem_of_getElem? (i := 162) rfl)) rfl
theorem w_990 : Cond.methodLink RL 121 yX8_make ∈ WT := wT0 (wT4 (List.mem_of_getElem? (i := 163) rfl)) rfl
theorem w_991 : Cond.instanceMethod yX8_make ∈ WT := wT0 (wT4 (List.mem_of_getElem? (i := 164) rfl)) rfl
theorem w_992 : Cond.selects RX8 yX8_make yX8_make ∈ WT := wT0 (wT4 (List.mem_of_getElem? (i := 165) rfl)) rfl
theorem w_993 : Cond.code yX8_make cX8_make 8 (some .int) ∈ WT := wT0 (wT4 (List.mem_of_getElem? (i := 166) rfl)) rfl
theorem w_994 : Cond.methodLink RX8 235 yX0_writePages ∈ WT := wT0 (wT4 (List.mem_of_getElem? (i := 167) rfl)) rfl
theorem w_995 : Cond.instanceMethod yX0_writePages ∈ WT := wT0 (wT4 (List.mem_of_getElem? (i := 168) rfl)) rfl
theorem w_996 : Cond.selects RX0 yX0_writePages yX0_writePages ∈ WT := wT0 (wT4 (List.mem_of_getElem? (i := 169) rfl)) rfl
theorem w_997 : Cond.code yX0_writePages cX0_writePages 14 (some .int) ∈ WT := wT0 (wT4 (List.mem_of_getElem? (i := 170) rfl)) rfl
theorem w_998 : Cond.methodLinkNest RX0 80 yX8_drawn "SafeVolumes" ∈ NT := nT0 (wT4 (List.mem_of_getElem? (i := 171) rfl)) rfl
theorem w_999 : Cond.methodLinkNest RX0 83 yX8_perMille "SafeVolumes" ∈ NT := nT0 (wT4 (List.mem_of_getElem? (i := 172) rfl)) rfl
theorem w_1000 : Cond.methodLink RX0 86 yX0_placeFor ∈ WT := wT0 (wT4 (List.mem_of_getElem? (i := 173) rfl)) rfl
theorem w_1002 : Cond.instanceMethod yX0_placeFor ∈ WT := wT0 (wT4 (List.mem_of_getElem? (i := 175) rfl)) rfl
theorem w_1003 : Cond.code yX0_placeFor cX0_placeFor 7 (some .int) ∈ WT := wT0 (wT4 (List.mem_of_getElem? (i := 176) rfl)) rfl
theorem w_1004 : Cond.methodLink RX0 90 yX2_hasKey ∈ WT := wT0 (wT4 (List.mem_of_getElem? (i := 177) rfl)) rfl
theorem w_1005 : Cond.methodLink RX0 94 yX2_insert ∈ WT := wT0 (wT4 (List.mem_of_getElem? (i := 178) rfl)) rfl
theorem w_1006 : Cond.methodLink RX8 239 yX2_size ∈ WT := wT0 (wT4 (List.mem_of_getElem? (i := 179) rfl)) rfl
theorem w_1007 : Cond.instanceMethod yX2_size ∈ WT := wT0 (wT4 (List.mem_of_getElem? (i := 180) rfl)) rfl
theorem w_1008 : Cond.selects RX2 yX2_size yX2_size ∈ WT := wT0 (wT4 (List.mem_of_getElem? (i := 181) rfl)) rfl
theorem w_1009 : Cond.code yX2_size cX2_size 1 (some .int) ∈ WT := wT0 (wT4 (List.mem_of_getElem? (i := 182) rfl)) rfl
theorem w_1010 : Cond.methodLink RL 125 yX8_soonest ∈ WT := wT0 (wT4 (List.mem_of_getElem? (i := 183) rfl)) rfl
theorem w_1011 : Cond.instanceMethod yX8_soonest ∈ WT := wT0 (wT4 (List.mem_of_getElem? (i := 184) rfl)) rfl
theorem w_1012 : Cond.selects RX8 yX8_soonest yX8_soonest ∈ WT := wT0 (wT4 (List.mem_of_getElem? (i := 185) rfl)) rfl
theorem w_1013 : Cond.code yX8_soonest cX8_soonest 5 (some .long) ∈ WT := wT0 (wT4 (List.mem_of_getElem? (i := 186) rfl)) rfl
theorem w_1014 : Cond.constantLong RX8 240 (-1) ∈ WT := wT0 (wT4 (List.mem_of_getElem? (i := 187) rfl)) rfl
theorem w_1015 : Cond.methodLink RX8 242 yX8_fillRow ∈ WT := wT0 (wT4 (List.mem_of_getElem? (i := 188) rfl)) rfl
theorem w_1017 : Cond.instanceMethod yX8_fillRow ∈ WT := wT0 (wT4 (List.mem_of_getElem? (i := 190) rfl)) rfl
theorem w_1018 : Cond.code yX8_fillRow cX8_fillRow 6 none ∈ WT := wT0 (wT4 (List.mem_of_getElem? (i := 191) rfl)) rfl
theorem w_1019 : Cond.methodLink RX8 285 yX4_clear ∈ WT := wT0 (wT4 (List.mem_of_getElem? (i := 192) rfl)) rfl
theorem w_1020 : Cond.instanceMethod yX4_clear ∈ WT := wT0 (wT4 (List.mem_of_getElem? (i := 193) rfl)) rfl
theorem w_1021 : Cond.selects RX4 yX4_clear yX4_clear ∈ WT := wT0 (wT4 (List.mem_of_getElem? (i := 194) rfl)) rfl
theorem w_1022 : Cond.code yX4_clear cX4_clear 1 none ∈ WT := wT0 (wT4 (List.mem_of_getElem? (i := 195) rfl)) rfl
theorem w_1023 : Cond.methodLink RX8 291 yX4_add ∈ WT := wT0 (wT4 (List.mem_of_getElem? (i := 196) rfl)) rfl
theorem w_1024 : Cond.instanceMethod yX4_add ∈ WT := wT0 (wT4 (List.mem_of_getElem? (i := 197) rfl)) rfl
theorem w_1025 : Cond.selects RX4 yX4_add yX4_add ∈ WT := wT0 (wT4 (List.mem_of_getElem? (i := 198) rfl)) rfl
theorem w_1026 : Cond.code yX4_add cX4_add 5 none ∈ WT := wT0 (wT4 (List.mem_of_getElem? (i := 199) rfl)) rfl
theorem w_1027 : Cond.methodLink RX8 245 yX4_findLeastWaits ∈ WT := wT0 (wT4 (List.mem_of_getElem? (i := 200) rfl)) rfl
theorem w_1028 : Cond.instanceMethod yX4_findLeastWaits ∈ WT := wT0 (wT4 (List.mem_of_getElem? (i := 201) rfl)) rfl
theorem w_1029 : Cond.selects RX4 yX4_findLeastWaits yX4_findLeastWaits ∈ WT := wT0 (wT4 (List.mem_of_getElem? (i := 202) rfl)) rfl
theorem w_1030 : Cond.code yX4_findLeastWaits cX4_findLeastWaits 5 none ∈ WT := wT0 (wT4 (List.mem_of_getElem? (i := 203) rfl)) rfl
theorem w_1031 : Cond.constantLong RX4 44 (-1) ∈ WT := wT0 (wT4 (List.mem_of_getElem? (i := 204) rfl)) rfl
theorem w_1032 : Cond.methodLinkNest RX4 46 yX8_hasBit "SafeVolumes" ∈ NT := nT0 (wT4 (List.mem_of_getElem? (i := 205) rfl)) rfl
theorem w_1033 : Cond.methodLink RX4 50 yX4_waitWith ∈ WT := wT0 (wT4 (List.mem_of_getElem? (i := 206) rfl)) rfl
theorem w_1035 : Cond.instanceMethod yX4_waitWith ∈ WT := wT0 (wT4 (List.mem_of_getElem? (i := 208) rfl)) rfl
theorem w_1036 : Cond.code yX4_waitWith cX4_waitWith 7 (some .long) ∈ WT := wT0 (wT4 (List.mem_of_getElem? (i := 209) rfl)) rfl
theorem w_1037 : Cond.methodLink RX4 32 yJ6_bitCount_0f7a4 ∈ WT := wT0 (wT4 (List.mem_of_getElem? (i := 210) rfl)) rfl
theorem w_1038 : Cond.constantLong RX4 38 (1000) ∈ WT := wT0 (wT4 (List.mem_of_getElem? (i := 211) rfl)) rfl
theorem w_1039 : Cond.methodLink RX4 40 yX4_waitOf ∈ WT := wT0 (wT4 (List.mem_of_getElem? (i := 212) rfl)) rfl
theorem w_1041 : Cond.instanceMethod yX4_waitOf ∈ WT := wT0 (wT4 (List.mem_of_getElem? (i := 214) rfl)) rfl
theorem w_1042 : Cond.code yX4_waitOf cX4_waitOf 2 (some .long) ∈ WT := wT0 (wT4 (List.mem_of_getElem? (i := 215) rfl)) rfl
theorem w_1043 : Cond.methodLink RX8 248 yX4_leastWait ∈ WT := wT0 (wT4 (List.mem_of_getElem? (i := 216) rfl)) rfl
theorem w_1044 : Cond.instanceMethod yX4_leastWait ∈ WT := wT0 (wT4 (List.mem_of_getElem? (i := 217) rfl)) rfl
theorem w_1045 : Cond.selects RX4 yX4_leastWait yX4_leastWait ∈ WT := wT0 (wT4 (List.mem_of_getElem? (i := 218) rfl)) rfl
theorem w_1046 : Cond.code yX4_leastWait cX4_leastWait 1 (some .long) ∈ WT := wT0 (wT4 (List.mem_of_getElem? (i := 219) rfl)) rfl
theorem w_1047 : Cond.methodLink RX8 252 yX4_readerInPlace ∈ WT := wT0 (wT4 (List.mem_of_getElem? (i := 220) rfl)) rfl
theorem w_1048 : Cond.instanceMethod yX4_readerInPlace ∈ WT := wT0 (wT4 (List.mem_of_getElem? (i := 221) rfl)) rfl
theorem w_1049 : Cond.selects RX4 yX4_readerInPlace yX4_readerInPlace ∈ WT := wT0 (wT4 (List.mem_of_getElem? (i := 222) rfl)) rfl
theorem w_1050 : Cond.code yX4_readerInPlace cX4_readerInPlace 6 (some .int) ∈ WT := wT0 (wT4 (List.mem_of_getElem? (i := 223) rfl)) rfl
theorem w_1051 : Cond.methodLink RX4 54 yX4_firstOf ∈ WT := wT0 (wT4 (List.mem_of_getElem? (i := 224) rfl)) rfl
theorem w_1053 : Cond.instanceMethod yX4_firstOf ∈ WT := wT0 (wT4 (List.mem_of_getElem? (i := 226) rfl)) rfl
theorem w_1054 : Cond.code yX4_firstOf cX4_firstOf 4 (some .int) ∈ WT := wT0 (wT4 (List.mem_of_getElem? (i := 227) rfl)) rfl
theorem w_1055 : Cond.methodLink RL 130 yX8_surest ∈ WT := wT0 (wT4 (List.mem_of_getElem? (i := 228) rfl)) rfl
theorem w_1056 : Cond.instanceMethod yX8_surest ∈ WT := wT0 (wT4 (List.mem_of_getElem? (i := 229) rfl)) rfl
theorem w_1057 : Cond.selects RX8 yX8_surest yX8_surest ∈ WT := wT0 (wT4 (List.mem_of_getElem? (i := 230) rfl)) rfl
theorem w_1058 : Cond.code yX8_surest cX8_surest 5 (some .int) ∈ WT := wT0 (wT4 (List.mem_of_getElem? (i := 231) rfl)) rfl
theorem w_1059 : Cond.methodLink RX8 255 yX4_surestFor ∈ WT := wT0 (wT4 (List.mem_of_getElem? (i := 232) rfl)) rfl
theorem w_1060 : Cond.instanceMethod yX4_surestFor ∈ WT := wT0 (wT4 (List.mem_of_getElem? (i := 233) rfl)) rfl
theorem w_1061 : Cond.selects RX4 yX4_surestFor yX4_surestFor ∈ WT := wT0 (wT4 (List.mem_of_getElem? (i := 234) rfl)) rfl
theorem w_1062 : Cond.code yX4_surestFor cX4_surestFor 10 (some .int) ∈ WT := wT0 (wT4 (List.mem_of_getElem? (i := 235) rfl)) rfl
theorem w_1063 : Cond.methodLink RX4 58 yX4_chanceOfAll ∈ WT := wT0 (wT4 (List.mem_of_getElem? (i := 236) rfl)) rfl
theorem w_1065 : Cond.instanceMethod yX4_chanceOfAll ∈ WT := wT0 (wT4 (List.mem_of_getElem? (i := 238) rfl)) rfl
theorem w_1066 : Cond.code yX4_chanceOfAll cX4_chanceOfAll 5 (some .long) ∈ WT := wT0 (wT4 (List.mem_of_getElem? (i := 239) rfl)) rfl
theorem w_1067 : Cond.methodLink RX4 61 yX4_coinsOf ∈ WT := wT0 (wT5 (List.mem_of_getElem? (i := 0) rfl)) rfl
theorem w_1069 : Cond.instanceMethod yX4_coinsOf ∈ WT := wT0 (wT5 (List.mem_of_getElem? (i := 2) rfl)) rfl
theorem w_1070 : Cond.code yX4_coinsOf cX4_coinsOf 4 (some .int) ∈ WT := wT0 (wT5 (List.mem_of_getElem? (i := 3) rfl)) rfl
theorem w_1071 : Cond.methodLink RL 134 yX8_person ∈ WT := wT0 (wT5 (List.mem_of_getElem? (i := 4) rfl)) rfl
theorem w_1072 : Cond.instanceMethod yX8_person ∈ WT := wT0 (wT5 (List.mem_of_getElem? (i := 5) rfl)) rfl
theorem w_1073 : Cond.selects RX8 yX8_person yX8_person ∈ WT := wT0 (wT5 (List.mem_of_getElem? (i := 6) rfl)) rfl
theorem w_1074 : Cond.code yX8_person cX8_person 6 (some .int) ∈ WT := wT0 (wT5 (List.mem_of_getElem? (i := 7) rfl)) rfl
theorem w_1075 : Cond.methodLink RL 138 yX8_ask ∈ WT := wT0 (wT5 (List.mem_of_getElem? (i := 8) rfl)) rfl
theorem w_1076 : Cond.instanceMethod yX8_ask ∈ WT := wT0 (wT5 (List.mem_of_getElem? (i := 9) rfl)) rfl
theorem w_1077 : Cond.selects RX8 yX8_ask yX8_ask ∈ WT := wT0 (wT5 (List.mem_of_getElem? (i := 10) rfl)) rfl
theorem w_1078 : Cond.code yX8_ask cX8_ask 2 (some .boolean) ∈ WT := wT0 (wT5 (List.mem_of_getElem? (i := 11) rfl)) rfl
theorem w_1079 : Cond.methodLink RL 142 yX8_unasked ∈ WT := wT0 (wT5 (List.mem_of_getElem? (i := 12) rfl)) rfl
theorem w_1080 : Cond.instanceMethod yX8_unasked ∈ WT := wT0 (wT5 (List.mem_of_getElem? (i := 13) rfl)) rfl
theorem w_1081 : Cond.selects RX8 yX8_unasked yX8_unasked ∈ WT := wT0 (wT5 (List.mem_of_getElem? (i := 14) rfl)) rfl
theorem w_1082 : Cond.code yX8_unasked cX8_unasked 3 (some .int) ∈ WT := wT0 (wT5 (List.mem_of_getElem? (i := 15) rfl)) rfl
theorem w_1083 : Cond.methodLink RX8 261 yX7_unaskedUpTo ∈ WT := wT0 (wT5 (List.mem_of_getElem? (i := 16) rfl)) rfl
theorem w_1084 : Cond.instanceMethod yX7_unaskedUpTo ∈ WT := wT0 (wT5 (List.mem_of_getElem? (i := 17) rfl)) rfl
theorem w_1085 : Cond.selects RX7 yX7_unaskedUpTo yX7_unaskedUpTo ∈ WT := wT0 (wT5 (List.mem_of_getElem? (i := 18) rfl)) rfl
theorem w_1086 : Cond.code yX7_unaskedUpTo cX7_unaskedUpTo 7 (some .int) ∈ WT := wT0 (wT5 (List.mem_of_getElem? (i := 19) rfl)) rfl
theorem w_1087 : Cond.methodLink RX7 161 yX7_knewWrongDay ∈ WT := wT0 (wT5 (List.mem_of_getElem? (i := 20) rfl)) rfl
theorem w_1089 : Cond.instanceMethod yX7_knewWrongDay ∈ WT := wT0 (wT5 (List.mem_of_getElem? (i := 22) rfl)) rfl
theorem w_1090 : Cond.code yX7_knewWrongDay cX7_knewWrongDay 7 (some .boolean) ∈ WT := wT0 (wT5 (List.mem_of_getElem? (i := 23) rfl)) rfl
theorem w_1091 : Cond.methodLinkNest RX7 157 yX8_isFrom "SafeVolumes" ∈ NT := nT0 (wT5 (List.mem_of_getElem? (i := 24) rfl)) rfl
theorem w_1092 : Cond.methodLink RL 146 yX8_gain ∈ WT := wT0 (wT5 (List.mem_of_getElem? (i := 25) rfl)) rfl
theorem w_1093 : Cond.instanceMethod yX8_gain ∈ WT := wT0 (wT5 (List.mem_of_getElem? (i := 26) rfl)) rfl
theorem w_1094 : Cond.selects RX8 yX8_gain yX8_gain ∈ WT := wT0 (wT5 (List.mem_of_getElem? (i := 27) rfl)) rfl
theorem w_1095 : Cond.code yX8_gain cX8_gain 3 (some .int) ∈ WT := wT0 (wT5 (List.mem_of_getElem? (i := 28) rfl)) rfl
theorem w_1096 : Cond.methodLink RX8 264 yX7_gainUpTo ∈ WT := wT0 (wT5 (List.mem_of_getElem? (i := 29) rfl)) rfl
theorem w_1097 : Cond.instanceMethod yX7_gainUpTo ∈ WT := wT0 (wT5 (List.mem_of_getElem? (i := 30) rfl)) rfl
theorem w_1098 : Cond.selects RX7 yX7_gainUpTo yX7_gainUpTo ∈ WT := wT0 (wT5 (List.mem_of_getElem? (i := 31) rfl)) rfl
theorem w_1099 : Cond.code yX7_gainUpTo cX7_gainUpTo 6 (some .int) ∈ WT := wT0 (wT5 (List.mem_of_getElem? (i := 32) rfl)) rfl
theorem w_1100 : Cond.methodLink RL 150 yX8_count ∈ WT := wT0 (wT5 (List.mem_of_getElem? (i := 33) rfl)) rfl
theorem w_1101 : Cond.instanceMethod yX8_count ∈ WT := wT0 (wT5 (List.mem_of_getElem? (i := 34) rfl)) rfl
theorem w_1102 : Cond.selects RX8 yX8_count yX8_count ∈ WT := wT0 (wT5 (List.mem_of_getElem? (i := 35) rfl)) rfl
theorem w_1103 : Cond.code yX8_count cX8_count 2 (some .int) ∈ WT := wT0 (wT5 (List.mem_of_getElem? (i := 36) rfl)) rfl
theorem w_1104 : Cond.methodLink RL 154 yX8_image ∈ WT := wT0 (wT5 (List.mem_of_getElem? (i := 37) rfl)) rfl
theorem w_1105 : Cond.instanceMethod yX8_image ∈ WT := wT0 (wT5 (List.mem_of_getElem? (i := 38) rfl)) rfl
theorem w_1106 : Cond.selects RX8 yX8_image yX8_image ∈ WT := wT0 (wT5 (List.mem_of_getElem? (i := 39) rfl)) rfl
theorem w_1107 : Cond.code yX8_image cX8_image 2 (some .int) ∈ WT := wT0 (wT5 (List.mem_of_getElem? (i := 40) rfl)) rfl
theorem w_1108 : Cond.methodLink RX8 267 yX7_copyFrom ∈ WT := wT0 (wT5 (List.mem_of_getElem? (i := 41) rfl)) rfl
theorem w_1109 : Cond.instanceMethod yX7_copyFrom ∈ WT := wT0 (wT5 (List.mem_of_getElem? (i := 42) rfl)) rfl
theorem w_1110 : Cond.selects RX7 yX7_copyFrom yX7_copyFrom ∈ WT := wT0 (wT5 (List.mem_of_getElem? (i := 43) rfl)) rfl
theorem w_1111 : Cond.code yX7_copyFrom cX7_copyFrom 2 none ∈ WT := wT0 (wT5 (List.mem_of_getElem? (i := 44) rfl)) rfl
theorem w_1112 : Cond.methodLink RX7 51 yX5_copyFrom ∈ WT := wT0 (wT5 (List.mem_of_getElem? (i := 45) rfl)) rfl
theorem w_1113 : Cond.instanceMethod yX5_copyFrom ∈ WT := wT0 (wT5 (List.mem_of_getElem? (i := 46) rfl)) rfl
theorem w_1114 : Cond.selects RX5 yX5_copyFrom yX5_copyFrom ∈ WT := wT0 (wT5 (List.mem_of_getElem? (i := 47) rfl)) rfl
theorem w_1115 : Cond.code yX5_copyFrom cX5_copyFrom 3 none ∈ WT := wT0 (wT5 (List.mem_of_getElem? (i := 48) rfl)) rfl
theorem w_1116 : Cond.methodLink RX5 46 ⟨"java/lang/System", "arraycopy", "(Ljava/lang/Object;ILjava/lang/Object;II)V"⟩ ∈ WT := wT0 (wT5 (List.mem_of_getElem? (i := 49) rfl)) rfl
theorem w_1117 : Cond.methodLink RX7 55 yX2_copyFrom ∈ WT := wT0 (wT5 (List.mem_of_getElem? (i := 50) rfl)) rfl
theorem w_1118 : Cond.instanceMethod yX2_copyFrom ∈ WT := wT0 (wT5 (List.mem_of_getElem? (i := 51) rfl)) rfl
theorem w_1119 : Cond.selects RX2 yX2_copyFrom yX2_copyFrom ∈ WT := wT0 (wT5 (List.mem_of_getElem? (i := 52) rfl)) rfl
theorem w_1120 : Cond.code yX2_copyFrom cX2_copyFrom 2 none ∈ WT := wT0 (wT5 (List.mem_of_getElem? (i := 53) rfl)) rfl
theorem w_1121 : Cond.methodLink RL 158 yX8_back ∈ WT := wT0 (wT5 (List.mem_of_getElem? (i := 54) rfl)) rfl
theorem w_1122 : Cond.instanceMethod yX8_back ∈ WT := wT0 (wT5 (List.mem_of_getElem? (i := 55) rfl)) rfl
theorem w_1123 : Cond.selects RX8 yX8_back yX8_back ∈ WT := wT0 (wT5 (List.mem_of_getElem? (i := 56) rfl)) rfl
theorem w_1124 : Cond.code yX8_back cX8_back 2 (some .int) ∈ WT := wT0 (wT5 (List.mem_of_getElem? (i := 57) rfl)) rfl
theorem w_1125 : Cond.classLink RL 10 RX9 ∈ WT := wT0 (wT5 (List.mem_of_getElem? (i := 58) rfl)) rfl
theorem w_1126 : Cond.instantiable RX9 36 ∈ WT := wT0 (wT5 (List.mem_of_getElem? (i := 59) rfl)) rfl
theorem w_1127 : Cond.methodLink RL 12 yX9_init ∈ WT := wT0 (wT5 (List.mem_of_getElem? (i := 60) rfl)) rfl
theorem w_1128 : Cond.instanceMethod yX9_init ∈ WT := wT0 (wT5 (List.mem_of_getElem? (i := 61) rfl)) rfl
theorem w_1129 : Cond.code yX9_init cX9_init 1 none ∈ WT := wT0 (wT5 (List.mem_of_getElem? (i := 62) rfl)) rfl
theorem w_1130 : Cond.methodLink RX9 1 objectInit ∈ WT := wT0 (wT5 (List.mem_of_getElem? (i := 63) rfl)) rfl
theorem w_1131 : Cond.fieldLink RX9 7 RX9 (TX9 0).2.1 (TX9 0).2.2.1 ∈ WT := wT0 (wT5 (List.mem_of_getElem? (i := 64) rfl)) rfl
theorem w_1132 : Cond.fieldLink RX9 13 RX9 (TX9 1).2.1 (TX9 1).2.2.1 ∈ WT := wT0 (wT5 (List.mem_of_getElem? (i := 65) rfl)) rfl
theorem w_1133 : Cond.fieldLink RX9 152 RX9 (TX9 2).2.1 (TX9 2).2.2.1 ∈ WT := wT0 (wT5 (List.mem_of_getElem? (i := 66) rfl)) rfl
theorem w_1134 : Cond.fieldLink RX9 17 RX9 (TX9 3).2.1 (TX9 3).2.2.1 ∈ WT := wT0 (wT5 (List.mem_of_getElem? (i := 67) rfl)) rfl
theorem w_1135 : Cond.fieldLink RX9 20 RX9 (TX9 4).2.1 (TX9 4).2.2.1 ∈ WT := wT0 (wT5 (List.mem_of_getElem? (i := 68) rfl)) rfl
theorem w_1136 : Cond.fieldLink RX9 23 RX9 (TX9 5).2.1 (TX9 5).2.2.1 ∈ WT := wT0 (wT5 (List.mem_of_getElem? (i := 69) rfl)) rfl
theorem w_1137 : Cond.fieldLink RX9 26 RX9 (TX9 6).2.1 (TX9 6).2.2.1 ∈ WT := wT0 (wT5 (List.mem_of_getElem? (i := 70) rfl)) rfl
theorem w_1138 : Cond.fieldLink RX9 29 RX9 (TX9 7).2.1 (TX9 7).2.2.1 ∈ WT := wT0 (wT5 (List.mem_of_getElem? (i := 71) rfl)) rfl
theorem w_1139 : Cond.fieldLink RX9 32 RX9 (TX9 8).2.1 (TX9 8).2.2.1 ∈ WT := wT0 (wT5 (List.mem_of_getElem? (i := 72) rfl)) rfl
theorem w_1140 : Cond.fieldLink RX9 35 RX9 (TX9 9).2.1 (TX9 9).2.2.1 ∈ WT := wT0 (wT5 (List.mem_of_getElem? (i := 73) rfl)) rfl
theorem w_1141 : Cond.fieldLink RX9 38 RX9 (TX9 10).2.1 (TX9 10).2.2.1 ∈ WT := wT0 (wT5 (List.mem_of_getElem? (i := 74) rfl)) rfl
theorem w_1142 : Cond.fieldLink RX9 41 RX9 (TX9 11).2.1 (TX9 11).2.2.1 ∈ WT := wT0 (wT5 (List.mem_of_getElem? (i := 75) rfl)) rfl
theorem w_1143 : Cond.fieldLink RX9 44 RX9 (TX9 12).2.1 (TX9 12).2.2.1 ∈ WT := wT0 (wT5 (List.mem_of_getElem? (i := 76) rfl)) rfl
theorem w_1144 : Cond.fieldLink RX9 47 RX9 (TX9 13).2.1 (TX9 13).2.2.1 ∈ WT := wT0 (wT5 (List.mem_of_getElem? (i := 77) rfl)) rfl
theorem w_1145 : Cond.fieldLink RX9 313 RX9 (TX9 14).2.1 (TX9 14).2.2.1 ∈ WT := wT0 (wT5 (List.mem_of_getElem? (i := 78) rfl)) rfl
theorem w_1146 : Cond.fieldLink RX9 319 RX9 (TX9 15).2.1 (TX9 15).2.2.1 ∈ WT := wT0 (wT5 (List.mem_of_getElem? (i := 79) rfl)) rfl
theorem w_1147 : Cond.fieldLink RX9 163 RX9 (TX9 16).2.1 (TX9 16).2.2.1 ∈ WT := wT0 (wT5 (List.mem_of_getElem? (i := 80) rfl)) rfl
theorem w_1148 : Cond.fieldLink RX9 160 RX9 (TX9 17).2.1 (TX9 17).2.2.1 ∈ WT := wT0 (wT5 (List.mem_of_getElem? (i := 81) rfl)) rfl
theorem w_1149 : Cond.fieldLink RX9 186 RX9 (TX9 18).2.1 (TX9 18).2.2.1 ∈ WT := wT0 (wT5 (List.mem_of_getElem? (i := 82) rfl)) rfl
theorem w_1150 : Cond.fieldLink RX9 209 RX9 (TX9 19).2.1 (TX9 19).2.2.1 ∈ WT := wT0 (wT5 (List.mem_of_getElem? (i := 83) rfl)) rfl
theorem w_1151 : Cond.fieldLink RX9 212 RX9 (TX9 20).2.1 (TX9 20).2.2.1 ∈ WT := wT0 (wT5 (List.mem_of_getElem? (i := 84) rfl)) rfl
theorem w_1152 : Cond.fieldLink RX9 215 RX9 (TX9 21).2.1 (TX9 21).2.2.1 ∈ WT := wT0 (wT5 (List.mem_of_getElem? (i := 85) rfl)) rfl
theorem w_1153 : Cond.fieldLink RX9 294 RX9 (TX9 22).2.1 (TX9 22).2.2.1 ∈ WT := wT0 (wT5 (List.mem_of_getElem? (i := 86) rfl)) rfl
theorem w_1154 : Cond.fieldLink RX9 50 RX9 (TX9 23).2.1 (TX9 23).2.2.1 ∈ WT := wT0 (wT5 (List.mem_of_getElem? (i := 87) rfl)) rfl
theorem w_1155 : Cond.fieldLink RX9 218 RX9 (TX9 24).2.1 (TX9 24).2.2.1 ∈ WT := wT0 (wT5 (List.mem_of_getElem? (i := 88) rfl)) rfl
theorem w_1156 : Cond.fieldLink RX9 53 RX9 (TX9 25).2.1 (TX9 25).2.2.1 ∈ WT := wT0 (wT5 (List.mem_of_getElem? (i := 89) rfl)) rfl
theorem w_1157 : Cond.fieldLink RX9 322 RX9 (TX9 26).2.1 (TX9 26).2.2.1 ∈ WT := wT0 (wT5 (List.mem_of_getElem? (i := 90) rfl)) rfl
theorem w_1158 : Cond.fieldLink RX9 57 RX9 (TX9 27).2.1 (TX9 27).2.2.1 ∈ WT := wT0 (wT5 (List.mem_of_getElem? (i := 91) rfl)) rfl
theorem w_1159 : Cond.fieldLink RX9 60 RX9 (TX9 28).2.1 (TX9 28).2.2.1 ∈ WT := wT0 (wT5 (List.mem_of_getElem? (i := 92) rfl)) rfl
theorem w_1160 : Cond.fieldLink RX9 63 RX9 (TX9 29).2.1 (TX9 29).2.2.1 ∈ WT := wT0 (wT5 (List.mem_of_getElem? (i := 93) rfl)) rfl
theorem w_1161 : Cond.fieldLink RX9 386 RX9 (TX9 30).2.1 (TX9 30).2.2.1 ∈ WT := wT0 (wT5 (List.mem_of_getElem? (i := 94) rfl)) rfl
theorem w_1162 : Cond.fieldLink RX9 66 RX9 (TX9 31).2.1 (TX9 31).2.2.1 ∈ WT := wT0 (wT5 (List.mem_of_getElem? (i := 95) rfl)) rfl
theorem w_1163 : Cond.fieldLink RX9 69 RX9 (TX9 32).2.1 (TX9 32).2.2.1 ∈ WT := wT0 (wT5 (List.mem_of_getElem? (i := 96) rfl)) rfl
theorem w_1164 : Cond.fieldLink RX9 72 RX9 (TX9 33).2.1 (TX9 33).2.2.1 ∈ WT := wT0 (wT5 (List.mem_of_getElem? (i := 97) rfl)) rfl
theorem w_1165 : Cond.fieldLink RX9 75 RX9 (TX9 34).2.1 (TX9 34).2.2.1 ∈ WT := wT0 (wT5 (List.mem_of_getElem? (i := 98) rfl)) rfl
theorem w_1166 : Cond.fieldLink RX9 78 RX9 (TX9 35).2.1 (TX9 35).2.2.1 ∈ WT := wT0 (wT5 (List.mem_of_getElem? (i := 99) rfl)) rfl
theorem w_1240 : Cond.arrayClass FieldType.boolean ∈ WT := wT0 (wT5 (List.mem_of_getElem? (i := 173) rfl)) rfl
theorem w_1241 : Cond.methodLink RL 17 yX9_clock ∈ WT := wT0 (wT5 (List.mem_of_getElem? (i := 174) rfl)) rfl
theorem w_1242 : Cond.instanceMethod yX9_clock ∈ WT := wT0 (wT5 (List.mem_of_getElem? (i := 175) rfl)) rfl
theorem w_1243 : Cond.selects RX9 yX9_clock yX9_clock ∈ WT := wT0 (wT5 (List.mem_of_getElem? (i := 176) rfl)) rfl
theorem w_1244 : Cond.code yX9_clock cX9_clock 2 (some .boolean) ∈ WT := wT0 (wT5 (List.mem_of_getElem? (i := 177) rfl)) rfl
theorem w_1245 : Cond.constantLong RX9 82 (519) ∈ WT := wT0 (wT5 (List.mem_of_getElem? (i := 178) rfl)) rfl
theorem w_1246 : Cond.methodLink RX9 84 yX9_in ∈ WT := wT0 (wT5 (List.mem_of_getElem? (i := 179) rfl)) rfl
theorem w_1247 : Cond.static yX9_in ∈ WT := wT0 (wT5 (List.mem_of_getElem? (i := 180) rfl)) rfl
theorem w_1248 : Cond.code yX9_in cX9_in 6 (some .boolean) ∈ WT := wT0 (wT5 (List.mem_of_getElem? (i := 181) rfl)) rfl
theorem w_1249 : Cond.methodLink RL 22 yX9_stuff ∈ WT := wT0 (wT5 (List.mem_of_getElem? (i := 182) rfl)) rfl
theorem w_1250 : Cond.instanceMethod yX9_stuff ∈ WT := wT0 (wT5 (List.mem_of_getElem? (i := 183) rfl)) rfl
theorem w_1251 : Cond.selects RX9 yX9_stuff yX9_stuff ∈ WT := wT0 (wT5 (List.mem_of_getElem? (i := 184) rfl)) rfl
theorem w_1252 : Cond.code yX9_stuff cX9_stuff 3 (some .int) ∈ WT := wT0 (wT5 (List.mem_of_getElem? (i := 185) rfl)) rfl
theorem w_1253 : Cond.constantLong RX9 88 (1800) ∈ WT := wT0 (wT5 (List.mem_of_getElem? (i := 186) rfl)) rfl
theorem w_1254 : Cond.constantLong RX9 90 (1999) ∈ WT := wT0 (wT5 (List.mem_of_getElem? (i := 187) rfl)) rfl
theorem w_1255 : Cond.constantLong RX9 92 (99) ∈ WT := wT0 (wT5 (List.mem_of_getElem? (i := 188) rfl)) rfl
theorem w_1256 : Cond.methodLink RL 26 yX9_truth ∈ WT := wT0 (wT5 (List.mem_of_getElem? (i := 189) rfl)) rfl
theorem w_1257 : Cond.instanceMethod yX9_truth ∈ WT := wT0 (wT5 (List.mem_of_getElem? (i := 190) rfl)) rfl
theorem w_1258 : Cond.selects RX9 yX9_truth yX9_truth ∈ WT := wT0 (wT5 (List.mem_of_getElem? (i := 191) rfl)) rfl
theorem w_1259 : Cond.code yX9_truth cX9_truth 3 (some .int) ∈ WT := wT0 (wT5 (List.mem_of_getElem? (i := 192) rfl)) rfl
theorem w_1260 : Cond.methodLink RX9 94 yX9_isDay ∈ WT := wT0 (wT5 (List.mem_of_getElem? (i := 193) rfl)) rfl
theorem w_1261 : Cond.static yX9_isDay ∈ WT := wT0 (wT5 (List.mem_of_getElem? (i := 194) rfl)) rfl
theorem w_1262 : Cond.code yX9_isDay cX9_isDay 1 (some .boolean) ∈ WT := wT0 (wT5 (List.mem_of_getElem? (i := 195) rfl)) rfl
theorem w_1263 : Cond.methodLink RX9 98 yX9_truthOf ∈ WT := wT0 (wT5 (List.mem_of_getElem? (i := 196) rfl)) rfl
theorem w_1265 : Cond.instanceMethod yX9_truthOf ∈ WT := wT0 (wT5 (List.mem_of_getElem? (i := 198) rfl)) rfl
theorem w_1266 : Cond.code yX9_truthOf cX9_truthOf 3 (some .int) ∈ WT := wT0 (wT5 (List.mem_of_getElem? (i := 199) rfl)) rfl
theorem w_1267 : Cond.methodLink RL 31 yX9_fact ∈ WT := wT0 (wT5 (List.mem_of_getElem? (i := 200) rfl)) rfl
theorem w_1268 : Cond.instanceMethod yX9_fact ∈ WT := wT0 (wT5 (List.mem_of_getElem? (i := 201) rfl)) rfl
theorem w_1269 : Cond.selects RX9 yX9_fact yX9_fact ∈ WT := wT0 (wT5 (List.mem_of_getElem? (i := 202) rfl)) rfl
theorem w_1270 : Cond.code yX9_fact cX9_fact 5 (some .int) ∈ WT := wT0 (wT5 (List.mem_of_getElem? (i := 203) rfl)) rfl
theorem w_1271 : Cond.constantLong RX9 102 (5) ∈ WT := wT0 (wT5 (List.mem_of_getElem? (i := 204) rfl)) rfl
theorem w_1272 : Cond.methodLink RX9 104 yX9_factOf ∈ WT := wT0 (wT5 (List.mem_of_getElem? (i := 205) rfl)) rfl
theorem w_1274 : Cond.instanceMethod yX9_factOf ∈ WT := wT0 (wT5 (List.mem_of_getElem? (i := 207) rfl)) rfl
theorem w_1275 : Cond.code yX9_factOf cX9_factOf 4 (some .int) ∈ WT := wT0 (wT5 (List.mem_of_getElem? (i := 208) rfl)) rfl
theorem w_1276 : Cond.methodLink RL 36 yX9_piece ∈ WT := wT0 (wT5 (List.mem_of_getElem? (i := 209) rfl)) rfl
theorem w_1277 : Cond.instanceMethod yX9_piece ∈ WT := wT0 (wT5 (List.mem_of_getElem? (i := 210) rfl)) rfl
theorem w_1278 : Cond.selects RX9 yX9_piece yX9_piece ∈ WT := wT0 (wT5 (List.mem_of_getElem? (i := 211) rfl)) rfl
theorem w_1279 : Cond.code yX9_piece cX9_piece 10 (some .int) ∈ WT := wT0 (wT5 (List.mem_of_getElem? (i := 212) rfl)) rfl
theorem w_1280 : Cond.constantLong RX9 108 (2) ∈ WT := wT0 (wT5 (List.mem_of_getElem? (i := 213) rfl)) rfl
theorem w_1281 : Cond.constantLong RX9 110 (9999) ∈ WT := wT0 (wT5 (List.mem_of_getElem? (i := 214) rfl)) rfl
theorem w_1282 : Cond.methodLink RL 40 yX9_page ∈ WT := wT0 (wT5 (List.mem_of_getElem? (i := 215) rfl)) rfl
theorem w_1283 : Cond.instanceMethod yX9_page ∈ WT := wT0 (wT5 (List.mem_of_getElem? (i := 216) rfl)) rfl
theorem w_1284 : Cond.selects RX9 yX9_page yX9_page ∈ WT := wT0 (wT5 (List.mem_of_getElem? (i := 217) rfl)) rfl
theorem w_1285 : Cond.code yX9_page cX9_page 4 (some .int) ∈ WT := wT0 (wT5 (List.mem_of_getElem? (i := 218) rfl)) rfl
theorem w_1286 : Cond.methodLink RX9 112 yX9_isPiece ∈ WT := wT0 (wT5 (List.mem_of_getElem? (i := 219) rfl)) rfl
theorem w_1288 : Cond.instanceMethod yX9_isPiece ∈ WT := wT0 (wT5 (List.mem_of_getElem? (i := 221) rfl)) rfl
theorem w_1289 : Cond.code yX9_isPiece cX9_isPiece 2 (some .boolean) ∈ WT := wT0 (wT5 (List.mem_of_getElem? (i := 222) rfl)) rfl
theorem w_1290 : Cond.methodLink RX9 115 yX9_hasDay ∈ WT := wT0 (wT5 (List.mem_of_getElem? (i := 223) rfl)) rfl
theorem w_1292 : Cond.instanceMethod yX9_hasDay ∈ WT := wT0 (wT5 (List.mem_of_getElem? (i := 225) rfl)) rfl
theorem w_1293 : Cond.code yX9_hasDay cX9_hasDay 4 (some .boolean) ∈ WT := wT0 (wT5 (List.mem_of_getElem? (i := 226) rfl)) rfl
theorem w_1294 : Cond.methodLink RX9 119 yX9_adds ∈ WT := wT0 (wT5 (List.mem_of_getElem? (i := 227) rfl)) rfl
theorem w_1296 : Cond.instanceMethod yX9_adds ∈ WT := wT0 (wT5 (List.mem_of_getElem? (i := 229) rfl)) rfl
theorem w_1297 : Cond.code yX9_adds cX9_adds 5 none ∈ WT := wT0 (wT5 (List.mem_of_getElem? (i := 230) rfl)) rfl
theorem w_1298 : Cond.methodLink RL 44 yX9_of ∈ WT := wT0 (wT5 (List.mem_of_getElem? (i := 231) rfl)) rfl
theorem w_1299 : Cond.instanceMethod yX9_of ∈ WT := wT0 (wT5 (List.mem_of_getElem? (i := 232) rfl)) rfl
theorem w_1300 : Cond.selects RX9 yX9_of yX9_of ∈ WT := wT0 (wT5 (List.mem_of_getElem? (i := 233) rfl)) rfl
theorem w_1301 : Cond.code yX9_of cX9_of 3 (some .int) ∈ WT := wT0 (wT5 (List.mem_of_getElem? (i := 234) rfl)) rfl
theorem w_1302 : Cond.constantLong RX9 141 (7) ∈ WT := wT0 (wT5 (List.mem_of_getElem? (i := 235) rfl)) rfl
theorem w_1303 : Cond.methodLink RX9 143 yX9_pagesOf ∈ WT := wT0 (wT5 (List.mem_of_getElem? (i := 236) rfl)) rfl
theorem w_1305 : Cond.instanceMethod yX9_pagesOf ∈ WT := wT0 (wT5 (List.mem_of_getElem? (i := 238) rfl)) rfl
theorem w_1306 : Cond.code yX9_pagesOf cX9_pagesOf 6 (some .int) ∈ WT := wT0 (wT5 (List.mem_of_getElem? (i := 239) rfl)) rfl
theorem w_1307 : Cond.methodLink RX9 123 yX9_isWrong ∈ WT := wT0 (wT6 (List.mem_of_getElem? (i := 0) rfl)) rfl
theorem w_1309 : Cond.instanceMethod yX9_isWrong ∈ WT := wT0 (wT6 (List.mem_of_getElem? (i := 2) rfl)) rfl
theorem w_1310 : Cond.code yX9_isWrong cX9_isWrong 3 (some .boolean) ∈ WT := wT0 (wT6 (List.mem_of_getElem? (i := 3) rfl)) rfl
theorem w_1311 : Cond.methodLink RX9 129 yX9_isSharedAny ∈ WT := wT0 (wT6 (List.mem_of_getElem? (i := 4) rfl)) rfl
theorem w_1313 : Cond.instanceMethod yX9_isSharedAny ∈ WT := wT0 (wT6 (List.mem_of_getElem? (i := 6) rfl)) rfl
theorem w_1314 : Cond.code yX9_isSharedAny cX9_isSharedAny 3 (some .boolean) ∈ WT := wT0 (wT6 (List.mem_of_getElem? (i := 7) rfl)) rfl
theorem w_1315 : Cond.methodLink RX9 126 yX9_isShared ∈ WT := wT0 (wT6 (List.mem_of_getElem? (i := 8) rfl)) rfl
theorem w_1317 : Cond.instanceMethod yX9_isShared ∈ WT := wT0 (wT6 (List.mem_of_getElem? (i := 10) rfl)) rfl
theorem w_1318 : Cond.code yX9_isShared cX9_isShared 3 (some .boolean) ∈ WT := wT0 (wT6 (List.mem_of_getElem? (i := 11) rfl)) rfl
theorem w_1319 : Cond.methodLink RX9 132 yX9_isNowhere ∈ WT := wT0 (wT6 (List.mem_of_getElem? (i := 12) rfl)) rfl
theorem w_1321 : Cond.instanceMethod yX9_isNowhere ∈ WT := wT0 (wT6 (List.mem_of_getElem? (i := 14) rfl)) rfl
theorem w_1322 : Cond.code yX9_isNowhere cX9_isNowhere 4 (some .boolean) ∈ WT := wT0 (wT6 (List.mem_of_getElem? (i := 15) rfl)) rfl
theorem w_1323 : Cond.methodLink RX9 138 yX9_age ∈ WT := wT0 (wT6 (List.mem_of_getElem? (i := 16) rfl)) rfl
theorem w_1325 : Cond.instanceMethod yX9_age ∈ WT := wT0 (wT6 (List.mem_of_getElem? (i := 18) rfl)) rfl
theorem w_1326 : Cond.code yX9_age cX9_age 4 (some .int) ∈ WT := wT0 (wT6 (List.mem_of_getElem? (i := 19) rfl)) rfl
theorem w_1327 : Cond.methodLink RX9 135 yX9_pieceCell ∈ WT := wT0 (wT6 (List.mem_of_getElem? (i := 20) rfl)) rfl
theorem w_1329 : Cond.instanceMethod yX9_pieceCell ∈ WT := wT0 (wT6 (List.mem_of_getElem? (i := 22) rfl)) rfl
theorem w_1330 : Cond.code yX9_pieceCell cX9_pieceCell 3 (some .int) ∈ WT := wT0 (wT6 (List.mem_of_getElem? (i := 23) rfl)) rfl
theorem w_1331 : Cond.methodLink RX9 146 yX9_young ∈ WT := wT0 (wT6 (List.mem_of_getElem? (i := 24) rfl)) rfl
theorem w_1333 : Cond.instanceMethod yX9_young ∈ WT := wT0 (wT6 (List.mem_of_getElem? (i := 26) rfl)) rfl
theorem w_1334 : Cond.code yX9_young cX9_young 4 (some .int) ∈ WT := wT0 (wT6 (List.mem_of_getElem? (i := 27) rfl)) rfl
theorem w_1335 : Cond.methodLink RL 48 yX9_shared ∈ WT := wT0 (wT6 (List.mem_of_getElem? (i := 28) rfl)) rfl
theorem w_1336 : Cond.instanceMethod yX9_shared ∈ WT := wT0 (wT6 (List.mem_of_getElem? (i := 29) rfl)) rfl
theorem w_1337 : Cond.selects RX9 yX9_shared yX9_shared ∈ WT := wT0 (wT6 (List.mem_of_getElem? (i := 30) rfl)) rfl
theorem w_1338 : Cond.code yX9_shared cX9_shared 3 (some .int) ∈ WT := wT0 (wT6 (List.mem_of_getElem? (i := 31) rfl)) rfl
theorem w_1339 : Cond.methodLink RX9 149 yX9_sharedWith ∈ WT := wT0 (wT6 (List.mem_of_getElem? (i := 32) rfl)) rfl
theorem w_1341 : Cond.instanceMethod yX9_sharedWith ∈ WT := wT0 (wT6 (List.mem_of_getElem? (i := 34) rfl)) rfl
theorem w_1342 : Cond.code yX9_sharedWith cX9_sharedWith 5 (some .int) ∈ WT := wT0 (wT6 (List.mem_of_getElem? (i := 35) rfl)) rfl
theorem w_1343 : Cond.methodLink RL 53 yX9_feed ∈ WT := wT0 (wT6 (List.mem_of_getElem? (i := 36) rfl)) rfl
theorem w_1344 : Cond.instanceMethod yX9_feed ∈ WT := wT0 (wT6 (List.mem_of_getElem? (i := 37) rfl)) rfl
theorem w_1345 : Cond.selects RX9 yX9_feed yX9_feed ∈ WT := wT0 (wT6 (List.mem_of_getElem? (i := 38) rfl)) rfl
theorem w_1346 : Cond.code yX9_feed cX9_feed 6 (some .int) ∈ WT := wT0 (wT6 (List.mem_of_getElem? (i := 39) rfl)) rfl
theorem w_1347 : Cond.methodLink RX9 156 yX9_four ∈ WT := wT0 (wT6 (List.mem_of_getElem? (i := 40) rfl)) rfl
theorem w_1349 : Cond.instanceMethod yX9_four ∈ WT := wT0 (wT6 (List.mem_of_getElem? (i := 42) rfl)) rfl
theorem w_1350 : Cond.code yX9_four cX9_four 3 none ∈ WT := wT0 (wT6 (List.mem_of_getElem? (i := 43) rfl)) rfl
theorem w_1351 : Cond.methodLink RL 58 yX9_end ∈ WT := wT0 (wT6 (List.mem_of_getElem? (i := 44) rfl)) rfl
theorem w_1352 : Cond.instanceMethod yX9_end ∈ WT := wT0 (wT6 (List.mem_of_getElem? (i := 45) rfl)) rfl
theorem w_1353 : Cond.selects RX9 yX9_end yX9_end ∈ WT := wT0 (wT6 (List.mem_of_getElem? (i := 46) rfl)) rfl
theorem w_1354 : Cond.code yX9_end cX9_end 2 (some .int) ∈ WT := wT0 (wT6 (List.mem_of_getElem? (i := 47) rfl)) rfl
theorem w_1355 : Cond.methodLink RL 63 yX9_reader ∈ WT := wT0 (wT6 (List.mem_of_getElem? (i := 48) rfl)) rfl
theorem w_1356 : Cond.instanceMethod yX9_reader ∈ WT := wT0 (wT6 (List.mem_of_getElem? (i := 49) rfl)) rfl
theorem w_1357 : Cond.selects RX9 yX9_reader yX9_reader ∈ WT := wT0 (wT6 (List.mem_of_getElem? (i := 50) rfl)) rfl
theorem w_1358 : Cond.code yX9_reader cX9_reader 2 (some .int) ∈ WT := wT0 (wT6 (List.mem_of_getElem? (i := 51) rfl)) rfl
theorem w_1359 : Cond.methodLink RX9 316 yX9_reads ∈ WT := wT0 (wT6 (List.mem_of_getElem? (i := 52) rfl)) rfl
theorem w_1361 : Cond.instanceMethod yX9_reads ∈ WT := wT0 (wT6 (List.mem_of_getElem? (i := 54) rfl)) rfl
theorem w_1362 : Cond.code yX9_reads cX9_reads 3 (some .int) ∈ WT := wT0 (wT6 (List.mem_of_getElem? (i := 55) rfl)) rfl
theorem w_1363 : Cond.methodLink RX9 310 yX9_clauseHere ∈ WT := wT0 (wT6 (List.mem_of_getElem? (i := 56) rfl)) rfl
theorem w_1365 : Cond.instanceMethod yX9_clauseHere ∈ WT := wT0 (wT6 (List.mem_of_getElem? (i := 58) rfl)) rfl
theorem w_1366 : Cond.code yX9_clauseHere cX9_clauseHere 4 (some .boolean) ∈ WT := wT0 (wT6 (List.mem_of_getElem? (i := 59) rfl)) rfl
theorem w_1367 : Cond.methodLink RX9 166 yX9_see ∈ WT := wT0 (wT6 (List.mem_of_getElem? (i := 60) rfl)) rfl
theorem w_1369 : Cond.instanceMethod yX9_see ∈ WT := wT0 (wT6 (List.mem_of_getElem? (i := 62) rfl)) rfl
theorem w_1370 : Cond.code yX9_see cX9_see 1 (some .int) ∈ WT := wT0 (wT6 (List.mem_of_getElem? (i := 63) rfl)) rfl
theorem w_1371 : Cond.constantLong RX9 280 (7955827) ∈ WT := wT0 (wT6 (List.mem_of_getElem? (i := 64) rfl)) rfl
theorem w_1372 : Cond.methodLink RX9 173 yX9_isWord ∈ WT := wT0 (wT6 (List.mem_of_getElem? (i := 65) rfl)) rfl
theorem w_1374 : Cond.instanceMethod yX9_isWord ∈ WT := wT0 (wT6 (List.mem_of_getElem? (i := 67) rfl)) rfl
theorem w_1375 : Cond.code yX9_isWord cX9_isWord 6 (some .boolean) ∈ WT := wT0 (wT6 (List.mem_of_getElem? (i := 68) rfl)) rfl
theorem w_1376 : Cond.methodLink RX9 170 yX9_isLetter ∈ WT := wT0 (wT6 (List.mem_of_getElem? (i := 69) rfl)) rfl
theorem w_1378 : Cond.instanceMethod yX9_isLetter ∈ WT := wT0 (wT6 (List.mem_of_getElem? (i := 71) rfl)) rfl
theorem w_1379 : Cond.code yX9_isLetter cX9_isLetter 2 (some .boolean) ∈ WT := wT0 (wT6 (List.mem_of_getElem? (i := 72) rfl)) rfl
theorem w_1380 : Cond.constantLong RX9 282 (499850634611) ∈ WT := wT0 (wT6 (List.mem_of_getElem? (i := 73) rfl)) rfl
theorem w_1381 : Cond.constantLong RX9 284 (427070942835) ∈ WT := wT0 (wT6 (List.mem_of_getElem? (i := 74) rfl)) rfl
theorem w_1382 : Cond.constantLong RX9 286 (1885430629) ∈ WT := wT0 (wT6 (List.mem_of_getElem? (i := 75) rfl)) rfl
theorem w_1383 : Cond.constantLong RX9 288 (495740088435) ∈ WT := wT0 (wT6 (List.mem_of_getElem? (i := 76) rfl)) rfl
theorem w_1384 : Cond.constantLong RX9 290 (1718775661) ∈ WT := wT0 (wT6 (List.mem_of_getElem? (i := 77) rfl)) rfl
theorem w_1385 : Cond.constantLong RX9 292 (28518) ∈ WT := wT0 (wT6 (List.mem_of_getElem? (i := 78) rfl)) rfl
theorem w_1386 : Cond.methodLink RX9 183 yX9_fails ∈ WT := wT0 (wT6 (List.mem_of_getElem? (i := 79) rfl)) rfl
theorem w_1388 : Cond.instanceMethod yX9_fails ∈ WT := wT0 (wT6 (List.mem_of_getElem? (i := 81) rfl)) rfl
theorem w_1389 : Cond.code yX9_fails cX9_fails 3 (some .boolean) ∈ WT := wT0 (wT6 (List.mem_of_getElem? (i := 82) rfl)) rfl
theorem w_1390 : Cond.methodLink RX9 297 yX9_yes ∈ WT := wT0 (wT6 (List.mem_of_getElem? (i := 83) rfl)) rfl
theorem w_1392 : Cond.instanceMethod yX9_yes ∈ WT := wT0 (wT6 (List.mem_of_getElem? (i := 85) rfl)) rfl
theorem w_1393 : Cond.code yX9_yes cX9_yes 2 (some .boolean) ∈ WT := wT0 (wT6 (List.mem_of_getElem? (i := 86) rfl)) rfl
theorem w_1394 : Cond.methodLink RX9 177 yX9_passWord ∈ WT := wT0 (wT6 (List.mem_of_getElem? (i := 87) rfl)) rfl
theorem w_1396 : Cond.instanceMethod yX9_passWord ∈ WT := wT0 (wT6 (List.mem_of_getElem? (i := 89) rfl)) rfl
theorem w_1397 : Cond.code yX9_passWord cX9_passWord 1 none ∈ WT := wT0 (wT6 (List.mem_of_getElem? (i := 90) rfl)) rfl
theorem w_1398 : Cond.methodLink RX9 245 yX9_sum ∈ WT := wT0 (wT6 (List.mem_of_getElem? (i := 91) rfl)) rfl
theorem w_1400 : Cond.instanceMethod yX9_sum ∈ WT := wT0 (wT6 (List.mem_of_getElem? (i := 93) rfl)) rfl
theorem w_1401 : Cond.code yX9_sum cX9_sum 2 (some .boolean) ∈ WT := wT0 (wT6 (List.mem_of_getElem? (i := 94) rfl)) rfl
theorem w_1402 : Cond.methodLink RX9 242 yX9_term ∈ WT := wT0 (wT6 (List.mem_of_getElem? (i := 95) rfl)) rfl
theorem w_1404 : Cond.instanceMethod yX9_term ∈ WT := wT0 (wT6 (List.mem_of_getElem? (i := 97) rfl)) rfl
theorem w_1405 : Cond.code yX9_term cX9_term 1 (some .boolean) ∈ WT := wT0 (wT6 (List.mem_of_getElem? (i := 98) rfl)) rfl
theorem w_1406 : Cond.methodLink RX9 238 yX9_value ∈ WT := wT0 (wT6 (List.mem_of_getElem? (i := 99) rfl)) rfl
theorem w_1408 : Cond.instanceMethod yX9_value ∈ WT := wT0 (wT6 (List.mem_of_getElem? (i := 101) rfl)) rfl
theorem w_1409 : Cond.code yX9_value cX9_value 3 (some .boolean) ∈ WT := wT0 (wT6 (List.mem_of_getElem? (i := 102) rfl)) rfl
theorem w_1410 : Cond.methodLink RX9 180 yX9_isDigit ∈ WT := wT0 (wT6 (List.mem_of_getElem? (i := 103) rfl)) rfl
theorem w_1412 : Cond.instanceMethod yX9_isDigit ∈ WT := wT0 (wT6 (List.mem_of_getElem? (i := 105) rfl)) rfl
theorem w_1413 : Cond.code yX9_isDigit cX9_isDigit 2 (some .boolean) ∈ WT := wT0 (wT6 (List.mem_of_getElem? (i := 106) rfl)) rfl
theorem w_1414 : Cond.constant RX9 228 (99999) ∈ WT := wT0 (wT6 (List.mem_of_getElem? (i := 107) rfl)) rfl
theorem w_1415 : Cond.methodLink RX9 229 yX9_number ∈ WT := wT0 (wT6 (List.mem_of_getElem? (i := 108) rfl)) rfl
theorem w_1417 : Cond.instanceMethod yX9_number ∈ WT := wT0 (wT6 (List.mem_of_getElem? (i := 110) rfl)) rfl
theorem w_1418 : Cond.code yX9_number cX9_number 5 (some .boolean) ∈ WT := wT0 (wT6 (List.mem_of_getElem? (i := 111) rfl)) rfl
theorem w_1419 : Cond.methodLink RX9 232 yX9_makes ∈ WT := wT0 (wT6 (List.mem_of_getElem? (i := 112) rfl)) rfl
theorem w_1421 : Cond.instanceMethod yX9_makes ∈ WT := wT0 (wT6 (List.mem_of_getElem? (i := 114) rfl)) rfl
theorem w_1422 : Cond.code yX9_makes cX9_makes 2 (some .boolean) ∈ WT := wT0 (wT6 (List.mem_of_getElem? (i := 115) rfl)) rfl
theorem w_1423 : Cond.methodLink RX9 224 yX9_puts ∈ WT := wT0 (wT6 (List.mem_of_getElem? (i := 116) rfl)) rfl
theorem w_1425 : Cond.instanceMethod yX9_puts ∈ WT := wT0 (wT6 (List.mem_of_getElem? (i := 118) rfl)) rfl
theorem w_1426 : Cond.code yX9_puts cX9_puts 3 none ∈ WT := wT0 (wT6 (List.mem_of_getElem? (i := 119) rfl)) rfl
theorem w_1427 : Cond.methodLink RX9 235 yX9_wordHere ∈ WT := wT0 (wT6 (List.mem_of_getElem? (i := 120) rfl)) rfl
theorem w_1429 : Cond.instanceMethod yX9_wordHere ∈ WT := wT0 (wT6 (List.mem_of_getElem? (i := 122) rfl)) rfl
theorem w_1430 : Cond.code yX9_wordHere cX9_wordHere 1 (some .int) ∈ WT := wT0 (wT6 (List.mem_of_getElem? (i := 123) rfl)) rfl
theorem w_1431 : Cond.constantLong RX9 189 (418497262196) ∈ WT := wT0 (wT6 (List.mem_of_getElem? (i := 124) rfl)) rfl
theorem w_1432 : Cond.constantLong RX9 191 (7305070) ∈ WT := wT0 (wT6 (List.mem_of_getElem? (i := 125) rfl)) rfl
theorem w_1433 : Cond.constantLong RX9 193 (1818326117) ∈ WT := wT0 (wT6 (List.mem_of_getElem? (i := 126) rfl)) rfl
theorem w_1434 : Cond.constantLong RX9 195 (513021013607) ∈ WT := wT0 (wT6 (List.mem_of_getElem? (i := 127) rfl)) rfl
theorem w_1435 : Cond.constantLong RX9 197 (126892148680036) ∈ WT := wT0 (wT6 (List.mem_of_getElem? (i := 128) rfl)) rfl
theorem w_1436 : Cond.constantLong RX9 199 (31084806081442405) ∈ WT := wT0 (wT6 (List.mem_of_getElem? (i := 129) rfl)) rfl
theorem w_1437 : Cond.constantLong RX9 201 (482670503283) ∈ WT := wT0 (wT6 (List.mem_of_getElem? (i := 130) rfl)) rfl
theorem w_1438 : Cond.constantLong RX9 203 (482955846501) ∈ WT := wT0 (wT6 (List.mem_of_getElem? (i := 131) rfl)) rfl
theorem w_1439 : Cond.constantLong RX9 205 (2003133803) ∈ WT := wT0 (wT6 (List.mem_of_getElem? (i := 132) rfl)) rfl
theorem w_1440 : Cond.constantLong RX9 207 (33336558869112179) ∈ WT := wT0 (wT6 (List.mem_of_getElem? (i := 133) rfl)) rfl
theorem w_1441 : Cond.constantLong RX9 272 (26982) ∈ WT := wT0 (wT6 (List.mem_of_getElem? (i := 134) rfl)) rfl
theorem w_1442 : Cond.methodLink RX9 274 yX9_takesWord ∈ WT := wT0 (wT6 (List.mem_of_getElem? (i := 135) rfl)) rfl
theorem w_1444 : Cond.instanceMethod yX9_takesWord ∈ WT := wT0 (wT6 (List.mem_of_getElem? (i := 137) rfl)) rfl
theorem w_1445 : Cond.code yX9_takesWord cX9_takesWord 3 (some .boolean) ∈ WT := wT0 (wT6 (List.mem_of_getElem? (i := 138) rfl)) rfl
theorem w_1446 : Cond.methodLink RX9 277 yX9_tested ∈ WT := wT0 (wT6 (List.mem_of_getElem? (i := 139) rfl)) rfl
theorem w_1448 : Cond.instanceMethod yX9_tested ∈ WT := wT0 (wT6 (List.mem_of_getElem? (i := 141) rfl)) rfl
theorem w_1449 : Cond.code yX9_tested cX9_tested 3 (some .boolean) ∈ WT := wT0 (wT6 (List.mem_of_getElem? (i := 142) rfl)) rfl
theorem w_1450 : Cond.methodLink RX9 262 yX9_fact_ ∈ WT := wT0 (wT6 (List.mem_of_getElem? (i := 143) rfl)) rfl
theorem w_1452 : Cond.instanceMethod yX9_fact_ ∈ WT := wT0 (wT6 (List.mem_of_getElem? (i := 145) rfl)) rfl
theorem w_1453 : Cond.code yX9_fact_ cX9_fact_ 3 (some .boolean) ∈ WT := wT0 (wT6 (List.mem_of_getElem? (i := 146) rfl)) rfl
theorem w_1454 : Cond.constantLong RX9 248 (7237492) ∈ WT := wT0 (wT6 (List.mem_of_getElem? (i := 147) rfl)) rfl
theorem w_1455 : Cond.methodLink RX9 250 yX9_opens ∈ WT := wT0 (wT6 (List.mem_of_getElem? (i := 148) rfl)) rfl
theorem w_1457 : Cond.instanceMethod yX9_opens ∈ WT := wT0 (wT6 (List.mem_of_getElem? (i := 150) rfl)) rfl
theorem w_1458 : Cond.code yX9_opens cX9_opens 2 (some .boolean) ∈ WT := wT0 (wT6 (List.mem_of_getElem? (i := 151) rfl)) rfl
theorem w_1459 : Cond.methodLink RX9 253 yX9_compare ∈ WT := wT0 (wT6 (List.mem_of_getElem? (i := 152) rfl)) rfl
theorem w_1461 : Cond.instanceMethod yX9_compare ∈ WT := wT0 (wT6 (List.mem_of_getElem? (i := 154) rfl)) rfl
theorem w_1462 : Cond.code yX9_compare cX9_compare 5 (some .boolean) ∈ WT := wT0 (wT6 (List.mem_of_getElem? (i := 155) rfl)) rfl
theorem w_1463 : Cond.methodLink RX9 265 yX9_closes ∈ WT := wT0 (wT6 (List.mem_of_getElem? (i := 156) rfl)) rfl
theorem w_1465 : Cond.instanceMethod yX9_closes ∈ WT := wT0 (wT6 (List.mem_of_getElem? (i := 158) rfl)) rfl
theorem w_1466 : Cond.code yX9_closes cX9_closes 1 none ∈ WT := wT0 (wT6 (List.mem_of_getElem? (i := 159) rfl)) rfl
theorem w_1467 : Cond.methodLink RX9 256 yX9_settles ∈ WT := wT0 (wT6 (List.mem_of_getElem? (i := 160) rfl)) rfl
theorem w_1469 : Cond.instanceMethod yX9_settles ∈ WT := wT0 (wT6 (List.mem_of_getElem? (i := 162) rfl)) rfl
theorem w_1470 : Cond.code yX9_settles cX9_settles 2 none ∈ WT := wT0 (wT6 (List.mem_of_getElem? (i := 163) rfl)) rfl
theorem w_1471 : Cond.methodLink RX9 221 yX9_strength ∈ WT := wT0 (wT6 (List.mem_of_getElem? (i := 164) rfl)) rfl
theorem w_1472 : Cond.static yX9_strength ∈ WT := wT0 (wT6 (List.mem_of_getElem? (i := 165) rfl)) rfl
theorem w_1473 : Cond.code yX9_strength cX9_strength 1 (some .int) ∈ WT := wT0 (wT6 (List.mem_of_getElem? (i := 166) rfl)) rfl
theorem w_1474 : Cond.methodLink RX9 259 yX9_isInside ∈ WT := wT0 (wT6 (List.mem_of_getElem? (i := 167) rfl)) rfl
theorem w_1476 : Cond.instanceMethod yX9_isInside ∈ WT := wT0 (wT6 (List.mem_of_getElem? (i := 169) rfl)) rfl
theorem w_1477 : Cond.code yX9_isInside cX9_isInside 2 (some .boolean) ∈ WT := wT0 (wT6 (List.mem_of_getElem? (i := 170) rfl)) rfl
theorem w_1478 : Cond.constantLong RX9 268 (6385252) ∈ WT := wT0 (wT6 (List.mem_of_getElem? (i := 171) rfl)) rfl
theorem w_1479 : Cond.constantLong RX9 270 (28530) ∈ WT := wT0 (wT6 (List.mem_of_getElem? (i := 172) rfl)) rfl
theorem w_1480 : Cond.methodLink RX9 300 yX9_sets ∈ WT := wT0 (wT6 (List.mem_of_getElem? (i := 173) rfl)) rfl
theorem w_1482 : Cond.instanceMethod yX9_sets ∈ WT := wT0 (wT6 (List.mem_of_getElem? (i := 175) rfl)) rfl
theorem w_1483 : Cond.code yX9_sets cX9_sets 5 (some .boolean) ∈ WT := wT0 (wT6 (List.mem_of_getElem? (i := 176) rfl)) rfl
theorem w_1484 : Cond.methodLink RX9 304 yX9_sourced ∈ WT := wT0 (wT6 (List.mem_of_getElem? (i := 177) rfl)) rfl
theorem w_1486 : Cond.instanceMethod yX9_sourced ∈ WT := wT0 (wT6 (List.mem_of_getElem? (i := 179) rfl)) rfl
theorem w_1487 : Cond.code yX9_sourced cX9_sourced 1 (some .boolean) ∈ WT := wT0 (wT6 (List.mem_of_getElem? (i := 180) rfl)) rfl
theorem w_1488 : Cond.methodLink RX9 307 yX9_stuffed ∈ WT := wT0 (wT6 (List.mem_of_getElem? (i := 181) rfl)) rfl
theorem w_1490 : Cond.instanceMethod yX9_stuffed ∈ WT := wT0 (wT6 (List.mem_of_getElem? (i := 183) rfl)) rfl
theorem w_1491 : Cond.code yX9_stuffed cX9_stuffed 1 (some .boolean) ∈ WT := wT0 (wT6 (List.mem_of_getElem? (i := 184) rfl)) rfl
theorem w_1492 : Cond.methodLink RL 67 yX9_maker ∈ WT := wT0 (wT6 (List.mem_of_getElem? (i := 185) rfl)) rfl
theorem w_1493 : Cond.instanceMethod yX9_maker ∈ WT := wT0 (wT6 (List.mem_of_getElem? (i := 186) rfl)) rfl
theorem w_1494 : Cond.selects RX9 yX9_maker yX9_maker ∈ WT := wT0 (wT6 (List.mem_of_getElem? (i := 187) rfl)) rfl
theorem w_1495 : Cond.code yX9_maker cX9_maker 2 (some .int) ∈ WT := wT0 (wT6 (List.mem_of_getElem? (i := 188) rfl)) rfl
theorem w_1496 : Cond.methodLink RL 71 yX9_chance ∈ WT := wT0 (wT6 (List.mem_of_getElem? (i := 189) rfl)) rfl
theorem w_1497 : Cond.instanceMethod yX9_chance ∈ WT := wT0 (wT6 (List.mem_of_getElem? (i := 190) rfl)) rfl
theorem w_1498 : Cond.selects RX9 yX9_chance yX9_chance ∈ WT := wT0 (wT6 (List.mem_of_getElem? (i := 191) rfl)) rfl
theorem w_1499 : Cond.code yX9_chance cX9_chance 4 (some .int) ∈ WT := wT0 (wT6 (List.mem_of_getElem? (i := 192) rfl)) rfl
theorem w_1500 : Cond.methodLink RX9 349 yX9_isReader ∈ WT := wT0 (wT6 (List.mem_of_getElem? (i := 193) rfl)) rfl
theorem w_1502 : Cond.instanceMethod yX9_isReader ∈ WT := wT0 (wT6 (List.mem_of_getElem? (i := 195) rfl)) rfl
theorem w_1503 : Cond.code yX9_isReader cX9_isReader 2 (some .boolean) ∈ WT := wT0 (wT6 (List.mem_of_getElem? (i := 196) rfl)) rfl
theorem w_1504 : Cond.methodLink RX9 352 yX9_areTwo ∈ WT := wT0 (wT6 (List.mem_of_getElem? (i := 197) rfl)) rfl
theorem w_1506 : Cond.instanceMethod yX9_areTwo ∈ WT := wT0 (wT6 (List.mem_of_getElem? (i := 199) rfl)) rfl
theorem w_1507 : Cond.code yX9_areTwo cX9_areTwo 3 (some .boolean) ∈ WT := wT0 (wT6 (List.mem_of_getElem? (i := 200) rfl)) rfl
theorem w_1508 : Cond.methodLink RX9 355 yX9_chanceOf ∈ WT := wT0 (wT6 (List.mem_of_getElem? (i := 201) rfl)) rfl
theorem w_1510 : Cond.instanceMethod yX9_chanceOf ∈ WT := wT0 (wT6 (List.mem_of_getElem? (i := 203) rfl)) rfl
theorem w_1511 : Cond.code yX9_chanceOf cX9_chanceOf 9 (some .int) ∈ WT := wT0 (wT6 (List.mem_of_getElem? (i := 204) rfl)) rfl
theorem w_1512 : Cond.methodLink RX9 337 yX9_late ∈ WT := wT0 (wT6 (List.mem_of_getElem? (i := 205) rfl)) rfl
theorem w_1514 : Cond.instanceMethod yX9_late ∈ WT := wT0 (wT6 (List.mem_of_getElem? (i := 207) rfl)) rfl
theorem w_1515 : Cond.code yX9_late cX9_late 5 (some .int) ∈ WT := wT0 (wT6 (List.mem_of_getElem? (i := 208) rfl)) rfl
theorem w_1516 : Cond.methodLink RX9 340 yX9_volumes ∈ WT := wT0 (wT6 (List.mem_of_getElem? (i := 209) rfl)) rfl
theorem w_1518 : Cond.instanceMethod yX9_volumes ∈ WT := wT0 (wT6 (List.mem_of_getElem? (i := 211) rfl)) rfl
theorem w_1519 : Cond.code yX9_volumes cX9_volumes 3 (some .int) ∈ WT := wT0 (wT6 (List.mem_of_getElem? (i := 212) rfl)) rfl
theorem w_1520 : Cond.methodLink RX9 343 yX9_reckons ∈ WT := wT0 (wT6 (List.mem_of_getElem? (i := 213) rfl)) rfl
theorem w_1522 : Cond.instanceMethod yX9_reckons ∈ WT := wT0 (wT6 (List.mem_of_getElem? (i := 215) rfl)) rfl
theorem w_1523 : Cond.code yX9_reckons cX9_reckons 11 (some .long) ∈ WT := wT0 (wT6 (List.mem_of_getElem? (i := 216) rfl)) rfl
theorem w_1524 : Cond.methodLink RX9 325 yX9_push ∈ WT := wT0 (wT6 (List.mem_of_getElem? (i := 217) rfl)) rfl
theorem w_1526 : Cond.instanceMethod yX9_push ∈ WT := wT0 (wT6 (List.mem_of_getElem? (i := 219) rfl)) rfl
theorem w_1527 : Cond.code yX9_push cX9_push 3 none ∈ WT := wT0 (wT6 (List.mem_of_getElem? (i := 220) rfl)) rfl
theorem w_1528 : Cond.methodLink RX9 329 yX9_pop ∈ WT := wT0 (wT6 (List.mem_of_getElem? (i := 221) rfl)) rfl
theorem w_1530 : Cond.instanceMethod yX9_pop ∈ WT := wT0 (wT6 (List.mem_of_getElem? (i := 223) rfl)) rfl
theorem w_1531 : Cond.code yX9_pop cX9_pop 1 (some .long) ∈ WT := wT0 (wT6 (List.mem_of_getElem? (i := 224) rfl)) rfl
theorem w_1532 : Cond.methodLink RX9 333 yX9_one ∈ WT := wT0 (wT6 (List.mem_of_getElem? (i := 225) rfl)) rfl
theorem w_1533 : Cond.static yX9_one ∈ WT := wT0 (wT6 (List.mem_of_getElem? (i := 226) rfl)) rfl
theorem w_1534 : Cond.code yX9_one cX9_one 5 (some .long) ∈ WT := wT0 (wT6 (List.mem_of_getElem? (i := 227) rfl)) rfl
theorem w_1535 : Cond.constantLong RX9 347 (1000) ∈ WT := wT0 (wT6 (List.mem_of_getElem? (i := 228) rfl)) rfl
theorem w_1536 : Cond.methodLink RL 76 yX9_tells ∈ WT := wT0 (wT6 (List.mem_of_getElem? (i := 229) rfl)) rfl
theorem w_1537 : Cond.instanceMethod yX9_tells ∈ WT := wT0 (wT6 (List.mem_of_getElem? (i := 230) rfl)) rfl
theorem w_1538 : Cond.selects RX9 yX9_tells yX9_tells ∈ WT := wT0 (wT6 (List.mem_of_getElem? (i := 231) rfl)) rfl
theorem w_1539 : Cond.code yX9_tells cX9_tells 5 (some .int) ∈ WT := wT0 (wT6 (List.mem_of_getElem? (i := 232) rfl)) rfl
theorem w_1540 : Cond.methodLink RL 80 yX9_look ∈ WT := wT0 (wT6 (List.mem_of_getElem? (i := 233) rfl)) rfl
theorem w_1541 : Cond.instanceMethod yX9_look ∈ WT := wT0 (wT6 (List.mem_of_getElem? (i := 234) rfl)) rfl
theorem w_1542 : Cond.selects RX9 yX9_look yX9_look ∈ WT := wT0 (wT6 (List.mem_of_getElem? (i := 235) rfl)) rfl
theorem w_1543 : Cond.code yX9_look cX9_look 8 (some .int) ∈ WT := wT0 (wT6 (List.mem_of_getElem? (i := 236) rfl)) rfl
theorem w_1544 : Cond.methodLink RX9 365 yX9_isClose ∈ WT := wT0 (wT6 (List.mem_of_getElem? (i := 237) rfl)) rfl
theorem w_1546 : Cond.instanceMethod yX9_isClose ∈ WT := wT0 (wT6 (List.mem_of_getElem? (i := 239) rfl)) rfl
theorem w_1547 : Cond.code yX9_isClose cX9_isClose 2 (some .boolean) ∈ WT := wT0 (wT7 (List.mem_of_getElem? (i := 0) rfl)) rfl
theorem w_1548 : Cond.methodLink RX9 368 yX9_drawn ∈ WT := wT0 (wT7 (List.mem_of_getElem? (i := 1) rfl)) rfl
theorem w_1549 : Cond.static yX9_drawn ∈ WT := wT0 (wT7 (List.mem_of_getElem? (i := 2) rfl)) rfl
theorem w_1550 : Cond.code yX9_drawn cX9_drawn 2 (some .long) ∈ WT := wT0 (wT7 (List.mem_of_getElem? (i := 3) rfl)) rfl
theorem w_1551 : Cond.constantLong RX9 359 (1103515245) ∈ WT := wT0 (wT7 (List.mem_of_getElem? (i := 4) rfl)) rfl
theorem w_1552 : Cond.constantLong RX9 361 (12345) ∈ WT := wT0 (wT7 (List.mem_of_getElem? (i := 5) rfl)) rfl
theorem w_1553 : Cond.constantLong RX9 363 (2147483648) ∈ WT := wT0 (wT7 (List.mem_of_getElem? (i := 6) rfl)) rfl
theorem w_1554 : Cond.constantLong RX9 372 (65536) ∈ WT := wT0 (wT7 (List.mem_of_getElem? (i := 7) rfl)) rfl
theorem w_1555 : Cond.methodLink RL 84 yX9_test ∈ WT := wT0 (wT7 (List.mem_of_getElem? (i := 8) rfl)) rfl
theorem w_1556 : Cond.instanceMethod yX9_test ∈ WT := wT0 (wT7 (List.mem_of_getElem? (i := 9) rfl)) rfl
theorem w_1557 : Cond.selects RX9 yX9_test yX9_test ∈ WT := wT0 (wT7 (List.mem_of_getElem? (i := 10) rfl)) rfl
theorem w_1558 : Cond.code yX9_test cX9_test 4 (some .int) ∈ WT := wT0 (wT7 (List.mem_of_getElem? (i := 11) rfl)) rfl
theorem w_1559 : Cond.methodLink RL 88 yX9_keep ∈ WT := wT0 (wT7 (List.mem_of_getElem? (i := 12) rfl)) rfl
theorem w_1560 : Cond.instanceMethod yX9_keep ∈ WT := wT0 (wT7 (List.mem_of_getElem? (i := 13) rfl)) rfl
theorem w_1561 : Cond.selects RX9 yX9_keep yX9_keep ∈ WT := wT0 (wT7 (List.mem_of_getElem? (i := 14) rfl)) rfl
theorem w_1562 : Cond.code yX9_keep cX9_keep 4 (some .int) ∈ WT := wT0 (wT7 (List.mem_of_getElem? (i := 15) rfl)) rfl
theorem w_1563 : Cond.methodLink RX9 374 yX9_isWeek ∈ WT := wT0 (wT7 (List.mem_of_getElem? (i := 16) rfl)) rfl
theorem w_1564 : Cond.static yX9_isWeek ∈ WT := wT0 (wT7 (List.mem_of_getElem? (i := 17) rfl)) rfl
theorem w_1565 : Cond.code yX9_isWeek cX9_isWeek 1 (some .boolean) ∈ WT := wT0 (wT7 (List.mem_of_getElem? (i := 18) rfl)) rfl
theorem w_1566 : Cond.methodLink RL 92 yX9_stand ∈ WT := wT0 (wT7 (List.mem_of_getElem? (i := 19) rfl)) rfl
theorem w_1567 : Cond.instanceMethod yX9_stand ∈ WT := wT0 (wT7 (List.mem_of_getElem? (i := 20) rfl)) rfl
theorem w_1568 : Cond.selects RX9 yX9_stand yX9_stand ∈ WT := wT0 (wT7 (List.mem_of_getElem? (i := 21) rfl)) rfl
theorem w_1569 : Cond.code yX9_stand cX9_stand 8 (some .int) ∈ WT := wT0 (wT7 (List.mem_of_getElem? (i := 22) rfl)) rfl
theorem w_1570 : Cond.methodLink RX9 377 yX9_firstTest ∈ WT := wT0 (wT7 (List.mem_of_getElem? (i := 23) rfl)) rfl
theorem w_1572 : Cond.instanceMethod yX9_firstTest ∈ WT := wT0 (wT7 (List.mem_of_getElem? (i := 25) rfl)) rfl
theorem w_1573 : Cond.code yX9_firstTest cX9_firstTest 6 (some .int) ∈ WT := wT0 (wT7 (List.mem_of_getElem? (i := 26) rfl)) rfl
theorem w_1574 : Cond.methodLink RL 96 yX9_cost ∈ WT := wT0 (wT7 (List.mem_of_getElem? (i := 27) rfl)) rfl
theorem w_1575 : Cond.instanceMethod yX9_cost ∈ WT := wT0 (wT7 (List.mem_of_getElem? (i := 28) rfl)) rfl
theorem w_1576 : Cond.selects RX9 yX9_cost yX9_cost ∈ WT := wT0 (wT7 (List.mem_of_getElem? (i := 29) rfl)) rfl
theorem w_1577 : Cond.code yX9_cost cX9_cost 3 (some .int) ∈ WT := wT0 (wT7 (List.mem_of_getElem? (i := 30) rfl)) rfl
theorem w_1578 : Cond.methodLink RL 100 yX9_cheapest ∈ WT := wT0 (wT7 (List.mem_of_getElem? (i := 31) rfl)) rfl
theorem w_1579 : Cond.instanceMethod yX9_cheapest ∈ WT := wT0 (wT7 (List.mem_of_getElem? (i := 32) rfl)) rfl
theorem w_1580 : Cond.selects RX9 yX9_cheapest yX9_cheapest ∈ WT := wT0 (wT7 (List.mem_of_getElem? (i := 33) rfl)) rfl
theorem w_1581 : Cond.code yX9_cheapest cX9_cheapest 5 (some .int) ∈ WT := wT0 (wT7 (List.mem_of_getElem? (i := 34) rfl)) rfl
theorem w_1582 : Cond.methodLink RL 104 yX9_likely ∈ WT := wT0 (wT7 (List.mem_of_getElem? (i := 35) rfl)) rfl
theorem w_1583 : Cond.instanceMethod yX9_likely ∈ WT := wT0 (wT7 (List.mem_of_getElem? (i := 36) rfl)) rfl
theorem w_1584 : Cond.selects RX9 yX9_likely yX9_likely ∈ WT := wT0 (wT7 (List.mem_of_getElem? (i := 37) rfl)) rfl
theorem w_1585 : Cond.code yX9_likely cX9_likely 6 (some .int) ∈ WT := wT0 (wT7 (List.mem_of_getElem? (i := 38) rfl)) rfl
theorem w_1586 : Cond.methodLink RL 108 yX9_kin ∈ WT := wT0 (wT7 (List.mem_of_getElem? (i := 39) rfl)) rfl
theorem w_1587 : Cond.instanceMethod yX9_kin ∈ WT := wT0 (wT7 (List.mem_of_getElem? (i := 40) rfl)) rfl
theorem w_1588 : Cond.selects RX9 yX9_kin yX9_kin ∈ WT := wT0 (wT7 (List.mem_of_getElem? (i := 41) rfl)) rfl
theorem w_1589 : Cond.code yX9_kin cX9_kin 5 (some .int) ∈ WT := wT0 (wT7 (List.mem_of_getElem? (i := 42) rfl)) rfl
theorem w_1590 : Cond.methodLink RL 112 yX9_could ∈ WT := wT0 (wT7 (List.mem_of_getElem? (i := 43) rfl)) rfl
theorem w_1591 : Cond.instanceMethod yX9_could ∈ WT := wT0 (wT7 (List.mem_of_getElem? (i := 44) rfl)) rfl
theorem w_1592 : Cond.selects RX9 yX9_could yX9_could ∈ WT := wT0 (wT7 (List.mem_of_getElem? (i := 45) rfl)) rfl
theorem w_1593 : Cond.code yX9_could cX9_could 7 (some .int) ∈ WT := wT0 (wT7 (List.mem_of_getElem? (i := 46) rfl)) rfl
theorem w_1594 : Cond.methodLink RX9 380 yX9_isHis ∈ WT := wT0 (wT7 (List.mem_of_getElem? (i := 47) rfl)) rfl
theorem w_1596 : Cond.instanceMethod yX9_isHis ∈ WT := wT0 (wT7 (List.mem_of_getElem? (i := 49) rfl)) rfl
theorem w_1597 : Cond.code yX9_isHis cX9_isHis 6 (some .boolean) ∈ WT := wT0 (wT7 (List.mem_of_getElem? (i := 50) rfl)) rfl
theorem w_1598 : Cond.methodLink RL 116 yX9_outrun ∈ WT := wT0 (wT7 (List.mem_of_getElem? (i := 51) rfl)) rfl
theorem w_1599 : Cond.instanceMethod yX9_outrun ∈ WT := wT0 (wT7 (List.mem_of_getElem? (i := 52) rfl)) rfl
theorem w_1600 : Cond.selects RX9 yX9_outrun yX9_outrun ∈ WT := wT0 (wT7 (List.mem_of_getElem? (i := 53) rfl)) rfl
theorem w_1601 : Cond.code yX9_outrun cX9_outrun 6 (some .int) ∈ WT := wT0 (wT7 (List.mem_of_getElem? (i := 54) rfl)) rfl
theorem w_1602 : Cond.methodLink RX9 383 yX9_isMaker ∈ WT := wT0 (wT7 (List.mem_of_getElem? (i := 55) rfl)) rfl
theorem w_1604 : Cond.instanceMethod yX9_isMaker ∈ WT := wT0 (wT7 (List.mem_of_getElem? (i := 57) rfl)) rfl
theorem w_1605 : Cond.code yX9_isMaker cX9_isMaker 2 (some .boolean) ∈ WT := wT0 (wT7 (List.mem_of_getElem? (i := 58) rfl)) rfl
theorem w_1606 : Cond.methodLink RL 120 yX9_grows ∈ WT := wT0 (wT7 (List.mem_of_getElem? (i := 59) rfl)) rfl
theorem w_1607 : Cond.instanceMethod yX9_grows ∈ WT := wT0 (wT7 (List.mem_of_getElem? (i := 60) rfl)) rfl
theorem w_1608 : Cond.selects RX9 yX9_grows yX9_grows ∈ WT := wT0 (wT7 (List.mem_of_getElem? (i := 61) rfl)) rfl
theorem w_1609 : Cond.code yX9_grows cX9_grows 6 (some .int) ∈ WT := wT0 (wT7 (List.mem_of_getElem? (i := 62) rfl)) rfl
theorem w_1610 : Cond.methodLink RL 124 yX9_make ∈ WT := wT0 (wT7 (List.mem_of_getElem? (i := 63) rfl)) rfl
theorem w_1611 : Cond.instanceMethod yX9_make ∈ WT := wT0 (wT7 (List.mem_of_getElem? (i := 64) rfl)) rfl
theorem w_1612 : Cond.selects RX9 yX9_make yX9_make ∈ WT := wT0 (wT7 (List.mem_of_getElem? (i := 65) rfl)) rfl
theorem w_1613 : Cond.code yX9_make cX9_make 7 (some .int) ∈ WT := wT0 (wT7 (List.mem_of_getElem? (i := 66) rfl)) rfl
theorem w_1614 : Cond.constantLong RX9 393 (60) ∈ WT := wT0 (wT7 (List.mem_of_getElem? (i := 67) rfl)) rfl
theorem w_1615 : Cond.methodLink RX9 395 yX9_works ∈ WT := wT0 (wT7 (List.mem_of_getElem? (i := 68) rfl)) rfl
theorem w_1617 : Cond.instanceMethod yX9_works ∈ WT := wT0 (wT7 (List.mem_of_getElem? (i := 70) rfl)) rfl
theorem w_1618 : Cond.code yX9_works cX9_works 10 (some .int) ∈ WT := wT0 (wT7 (List.mem_of_getElem? (i := 71) rfl)) rfl
theorem w_1619 : Cond.methodLink RX9 390 yX9_placeBy ∈ WT := wT0 (wT7 (List.mem_of_getElem? (i := 72) rfl)) rfl
theorem w_1621 : Cond.instanceMethod yX9_placeBy ∈ WT := wT0 (wT7 (List.mem_of_getElem? (i := 74) rfl)) rfl
theorem w_1622 : Cond.code yX9_placeBy cX9_placeBy 6 (some .int) ∈ WT := wT0 (wT7 (List.mem_of_getElem? (i := 75) rfl)) rfl
theorem w_1623 : Cond.methodLink RL 129 yX9_soonest ∈ WT := wT0 (wT7 (List.mem_of_getElem? (i := 76) rfl)) rfl
theorem w_1624 : Cond.instanceMethod yX9_soonest ∈ WT := wT0 (wT7 (List.mem_of_getElem? (i := 77) rfl)) rfl
theorem w_1625 : Cond.selects RX9 yX9_soonest yX9_soonest ∈ WT := wT0 (wT7 (List.mem_of_getElem? (i := 78) rfl)) rfl
theorem w_1626 : Cond.code yX9_soonest cX9_soonest 12 (some .long) ∈ WT := wT0 (wT7 (List.mem_of_getElem? (i := 79) rfl)) rfl
theorem w_1627 : Cond.methodLink RX9 399 yX9_bits ∈ WT := wT0 (wT7 (List.mem_of_getElem? (i := 80) rfl)) rfl
theorem w_1628 : Cond.static yX9_bits ∈ WT := wT0 (wT7 (List.mem_of_getElem? (i := 81) rfl)) rfl
theorem w_1629 : Cond.code yX9_bits cX9_bits 3 (some .int) ∈ WT := wT0 (wT7 (List.mem_of_getElem? (i := 82) rfl)) rfl
theorem w_1630 : Cond.constantLong RX9 402 (6) ∈ WT := wT0 (wT7 (List.mem_of_getElem? (i := 83) rfl)) rfl
theorem w_1631 : Cond.constantLong RX9 404 (-1) ∈ WT := wT0 (wT7 (List.mem_of_getElem? (i := 84) rfl)) rfl
theorem w_1632 : Cond.methodLink RX9 406 yX9_waitOf ∈ WT := wT0 (wT7 (List.mem_of_getElem? (i := 85) rfl)) rfl
theorem w_1634 : Cond.instanceMethod yX9_waitOf ∈ WT := wT0 (wT7 (List.mem_of_getElem? (i := 87) rfl)) rfl
theorem w_1635 : Cond.code yX9_waitOf cX9_waitOf 7 (some .long) ∈ WT := wT0 (wT7 (List.mem_of_getElem? (i := 88) rfl)) rfl
theorem w_1636 : Cond.methodLink RX9 410 yX9_turns ∈ WT := wT0 (wT7 (List.mem_of_getElem? (i := 89) rfl)) rfl
theorem w_1638 : Cond.instanceMethod yX9_turns ∈ WT := wT0 (wT7 (List.mem_of_getElem? (i := 91) rfl)) rfl
theorem w_1639 : Cond.code yX9_turns cX9_turns 7 (some .boolean) ∈ WT := wT0 (wT7 (List.mem_of_getElem? (i := 92) rfl)) rfl
theorem w_1640 : Cond.methodLink RL 133 yX9_surest ∈ WT := wT0 (wT7 (List.mem_of_getElem? (i := 93) rfl)) rfl
theorem w_1641 : Cond.instanceMethod yX9_surest ∈ WT := wT0 (wT7 (List.mem_of_getElem? (i := 94) rfl)) rfl
theorem w_1642 : Cond.selects RX9 yX9_surest yX9_surest ∈ WT := wT0 (wT7 (List.mem_of_getElem? (i := 95) rfl)) rfl
theorem w_1643 : Cond.code yX9_surest cX9_surest 15 (some .int) ∈ WT := wT0 (wT7 (List.mem_of_getElem? (i := 96) rfl)) rfl
theorem w_1644 : Cond.methodLink RL 137 yX9_person ∈ WT := wT0 (wT7 (List.mem_of_getElem? (i := 97) rfl)) rfl
theorem w_1645 : Cond.instanceMethod yX9_person ∈ WT := wT0 (wT7 (List.mem_of_getElem? (i := 98) rfl)) rfl
theorem w_1646 : Cond.selects RX9 yX9_person yX9_person ∈ WT := wT0 (wT7 (List.mem_of_getElem? (i := 99) rfl)) rfl
theorem w_1647 : Cond.code yX9_person cX9_person 6 (some .int) ∈ WT := wT0 (wT7 (List.mem_of_getElem? (i := 100) rfl)) rfl
theorem w_1648 : Cond.constantLong RX9 413 (999) ∈ WT := wT0 (wT7 (List.mem_of_getElem? (i := 101) rfl)) rfl
theorem w_1649 : Cond.methodLink RL 141 yX9_ask ∈ WT := wT0 (wT7 (List.mem_of_getElem? (i := 102) rfl)) rfl
theorem w_1650 : Cond.instanceMethod yX9_ask ∈ WT := wT0 (wT7 (List.mem_of_getElem? (i := 103) rfl)) rfl
theorem w_1651 : Cond.selects RX9 yX9_ask yX9_ask ∈ WT := wT0 (wT7 (List.mem_of_getElem? (i := 104) rfl)) rfl
theorem w_1652 : Cond.code yX9_ask cX9_ask 2 (some .boolean) ∈ WT := wT0 (wT7 (List.mem_of_getElem? (i := 105) rfl)) rfl
theorem w_1653 : Cond.methodLink RX9 415 yX9_isPerson ∈ WT := wT0 (wT7 (List.mem_of_getElem? (i := 106) rfl)) rfl
theorem w_1655 : Cond.instanceMethod yX9_isPerson ∈ WT := wT0 (wT7 (List.mem_of_getElem? (i := 108) rfl)) rfl
theorem w_1656 : Cond.code yX9_isPerson cX9_isPerson 2 (some .boolean) ∈ WT := wT0 (wT7 (List.mem_of_getElem? (i := 109) rfl)) rfl
theorem w_1657 : Cond.methodLink RL 145 yX9_unasked ∈ WT := wT0 (wT7 (List.mem_of_getElem? (i := 110) rfl)) rfl
theorem w_1658 : Cond.instanceMethod yX9_unasked ∈ WT := wT0 (wT7 (List.mem_of_getElem? (i := 111) rfl)) rfl
theorem w_1659 : Cond.selects RX9 yX9_unasked yX9_unasked ∈ WT := wT0 (wT7 (List.mem_of_getElem? (i := 112) rfl)) rfl
theorem w_1660 : Cond.code yX9_unasked cX9_unasked 6 (some .int) ∈ WT := wT0 (wT7 (List.mem_of_getElem? (i := 113) rfl)) rfl
theorem w_1661 : Cond.methodLink RX9 418 yX9_knew ∈ WT := wT0 (wT7 (List.mem_of_getElem? (i := 114) rfl)) rfl
theorem w_1663 : Cond.instanceMethod yX9_knew ∈ WT := wT0 (wT7 (List.mem_of_getElem? (i := 116) rfl)) rfl
theorem w_1664 : Cond.code yX9_knew cX9_knew 5 (some .boolean) ∈ WT := wT0 (wT7 (List.mem_of_getElem? (i := 117) rfl)) rfl
theorem w_1665 : Cond.methodLink RL 149 yX9_gain ∈ WT := wT0 (wT7 (List.mem_of_getElem? (i := 118) rfl)) rfl
theorem w_1666 : Cond.instanceMethod yX9_gain ∈ WT := wT0 (wT7 (List.mem_of_getElem? (i := 119) rfl)) rfl
theorem w_1667 : Cond.selects RX9 yX9_gain yX9_gain ∈ WT := wT0 (wT7 (List.mem_of_getElem? (i := 120) rfl)) rfl
theorem w_1668 : Cond.code yX9_gain cX9_gain 5 (some .int) ∈ WT := wT0 (wT7 (List.mem_of_getElem? (i := 121) rfl)) rfl
theorem w_1669 : Cond.methodLink RL 153 yX9_count ∈ WT := wT0 (wT7 (List.mem_of_getElem? (i := 122) rfl)) rfl
theorem w_1670 : Cond.instanceMethod yX9_count ∈ WT := wT0 (wT7 (List.mem_of_getElem? (i := 123) rfl)) rfl
theorem w_1671 : Cond.selects RX9 yX9_count yX9_count ∈ WT := wT0 (wT7 (List.mem_of_getElem? (i := 124) rfl)) rfl
theorem w_1672 : Cond.code yX9_count cX9_count 2 (some .int) ∈ WT := wT0 (wT7 (List.mem_of_getElem? (i := 125) rfl)) rfl
theorem w_1673 : Cond.methodLink RL 157 yX9_image ∈ WT := wT0 (wT7 (List.mem_of_getElem? (i := 126) rfl)) rfl
theorem w_1674 : Cond.instanceMethod yX9_image ∈ WT := wT0 (wT7 (List.mem_of_getElem? (i := 127) rfl)) rfl
theorem w_1675 : Cond.selects RX9 yX9_image yX9_image ∈ WT := wT0 (wT7 (List.mem_of_getElem? (i := 128) rfl)) rfl
theorem w_1676 : Cond.code yX9_image cX9_image 3 (some .int) ∈ WT := wT0 (wT7 (List.mem_of_getElem? (i := 129) rfl)) rfl
theorem w_1677 : Cond.constantLong RX9 421 (3) ∈ WT := wT0 (wT7 (List.mem_of_getElem? (i := 130) rfl)) rfl
theorem w_1678 : Cond.methodLink RL 161 yX9_back ∈ WT := wT0 (wT7 (List.mem_of_getElem? (i := 131) rfl)) rfl
theorem w_1679 : Cond.instanceMethod yX9_back ∈ WT := wT0 (wT7 (List.mem_of_getElem? (i := 132) rfl)) rfl
theorem w_1680 : Cond.selects RX9 yX9_back yX9_back ∈ WT := wT0 (wT7 (List.mem_of_getElem? (i := 133) rfl)) rfl
theorem w_1681 : Cond.code yX9_back cX9_back 3 (some .int) ∈ WT := wT0 (wT7 (List.mem_of_getElem? (i := 134) rfl)) rfl
theorem w_1682 : Cond.fieldLink RJ0 9 "java/lang/String" "value" "[B" ∈ WT := wT0 (wT7 (List.mem_of_getElem? (i := 135) rfl)) rfl
theorem w_1683 : Cond.fieldLink RJ0 15 "java/lang/String" "coder" "B" ∈ WT := wT0 (wT7 (List.mem_of_getElem? (i := 136) rfl)) rfl
theorem zb_m2 : (Int8.ofInt (-2)).toInt32 = (-2 : Int32) := by decide
theorem zb_6 : (Int8.ofInt (6)).toInt32 = (6 : Int32) := by decide
theorem zb_7 : (Int8.ofInt (7)).toInt32 = (7 : Int32) := by decide
theorem zb_8 : (Int8.ofInt (8)).toInt32 = (8 : Int32) := by decide
theorem zb_9 : (Int8.ofInt (9)).toInt32 = (9 : Int32) := by decide
theorem zb_10 : (Int8.ofInt (10)).toInt32 = (10 : Int32) := by decide
theorem zb_11 : (Int8.ofInt (11)).toInt32 = (11 : Int32) := by decide
theorem zb_12 : (Int8.ofInt (12)).toInt32 = (12 : Int32) := by decide
theorem zb_13 : (Int8.ofInt (13)).toInt32 = (13 : Int32) := by decide
theorem zb_14 : (Int8.ofInt (14)).toInt32 = (14 : Int32) := by decide
theorem zb_15 : (Int8.ofInt (15)).toInt32 = (15 : Int32) := by decide
theorem zb_16 : (Int8.ofInt (16)).toInt32 = (16 : Int32) := by decide
theorem zb_17 : (Int8.ofInt (17)).toInt32 = (17 : Int32) := by decide
theorem zb_18 : (Int8.ofInt (18)).toInt32 = (18 : Int32) := by decide
theorem zb_19 : (Int8.ofInt (19)).toInt32 = (19 : Int32) := by decide
theorem zb_20 : (Int8.ofInt (20)).toInt32 = (20 : Int32) := by decide
theorem zb_21 : (Int8.ofInt (21)).toInt32 = (21 : Int32) := by decide
theorem zb_22 : (Int8.ofInt (22)).toInt32 = (22 : Int32) := by decide
theorem zb_23 : (Int8.ofInt (23)).toInt32 = (23 : Int32) := by decide
theorem zb_24 : (Int8.ofInt (24)).toInt32 = (24 : Int32) := by decide
theorem zb_25 : (Int8.ofInt (25)).toInt32 = (25 : Int32) := by decide
theorem zb_26 : (Int8.ofInt (26)).toInt32 = (26 : Int32) := by decide
theorem zb_27 : (Int8.ofInt (27)).toInt32 = (27 : Int32) := by decide
theorem zb_28 : (Int8.ofInt (28)).toInt32 = (28 : Int32) := by decide
theorem zb_29 : (Int8.ofInt (29)).toInt32 = (29 : Int32) := by decide
theorem zb_30 : (Int8.ofInt (30)).toInt32 = (30 : Int32) := by decide
theorem zb_31 : (Int8.ofInt (31)).toInt32 = (31 : Int32) := by decide
theorem zb_32 : (Int8.ofInt (32)).toInt32 = (32 : Int32) := by decide
theorem zb_33 : (Int8.ofInt (33)).toInt32 = (33 : Int32) := by decide
theorem zb_34 : (Int8.ofInt (34)).toInt32 = (34 : Int32) := by decide
theorem zb_42 : (Int8.ofInt (42)).toInt32 = (42 : Int32) := by decide
theorem zb_43 : (Int8.ofInt (43)).toInt32 = (43 : Int32) := by decide
theorem zb_45 : (Int8.ofInt (45)).toInt32 = (45 : Int32) := by decide
theorem zb_48 : (Int8.ofInt (48)).toInt32 = (48 : Int32) := by decide
theorem zb_57 : (Int8.ofInt (57)).toInt32 = (57 : Int32) := by decide
theorem zb_59 : (Int8.ofInt (59)).toInt32 = (59 : Int32) := by decide
theorem zb_60 : (Int8.ofInt (60)).toInt32 = (60 : Int32) := by decide
theorem zb_61 : (Int8.ofInt (61)).toInt32 = (61 : Int32) := by decide
theorem zb_62 : (Int8.ofInt (62)).toInt32 = (62 : Int32) := by decide
theorem zb_63 : (Int8.ofInt (63)).toInt32 = (63 : Int32) := by decide
theorem zb_64 : (Int8.ofInt (64)).toInt32 = (64 : Int32) := by decide
theorem zb_90 : (Int8.ofInt (90)).toInt32 = (90 : Int32) := by decide
theorem zb_91 : (Int8.ofInt (91)).toInt32 = (91 : Int32) := by decide
theorem zb_93 : (Int8.ofInt (93)).toInt32 = (93 : Int32) := by decide
theorem zb_97 : (Int8.ofInt (97)).toInt32 = (97 : Int32) := by decide
theorem zb_99 : (Int8.ofInt (99)).toInt32 = (99 : Int32) := by decide
theorem zb_122 : (Int8.ofInt (122)).toInt32 = (122 : Int32) := by decide
theorem zi_m8 : Int32.ofInt (-8) = (-8 : Int32) := by decide
theorem zi_m1 : Int32.ofInt (-1) = (-1 : Int32) := by decide
theorem zi_0 : Int32.ofInt (0) = (0 : Int32) := by decide
theorem zi_1 : Int32.ofInt (1) = (1 : Int32) := by decide
theorem zi_2 : Int32.ofInt (2) = (2 : Int32) := by decide
theorem zi_3 : Int32.ofInt (3) = (3 : Int32) := by decide
theorem zi_4 : Int32.ofInt (4) = (4 : Int32) := by decide
theorem zi_5 : Int32.ofInt (5) = (5 : Int32) := by decide
theorem zi_9 : Int32.ofInt (9) = (9 : Int32) := by decide
theorem zs_m2000 : (Int16.ofInt (-2000)).toInt32 = (-2000 : Int32) := by decide
theorem zs_168 : (Int16.ofInt (168)).toInt32 = (168 : Int32) := by decide
theorem zs_200 : (Int16.ofInt (200)).toInt32 = (200 : Int32) := by decide
theorem zs_255 : (Int16.ofInt (255)).toInt32 = (255 : Int32) := by decide
theorem zs_300 : (Int16.ofInt (300)).toInt32 = (300 : Int32) := by decide
theorem zs_365 : (Int16.ofInt (365)).toInt32 = (365 : Int32) := by decide
theorem zs_400 : (Int16.ofInt (400)).toInt32 = (400 : Int32) := by decide
theorem zs_430 : (Int16.ofInt (430)).toInt32 = (430 : Int32) := by decide
theorem zs_500 : (Int16.ofInt (500)).toInt32 = (500 : Int32) := by decide
theorem zs_519 : (Int16.ofInt (519)).toInt32 = (519 : Int32) := by decide
theorem zs_520 : (Int16.ofInt (520)).toInt32 = (520 : Int32) := by decide
theorem zs_672 : (Int16.ofInt (672)).toInt32 = (672 : Int32) := by decide
theorem zs_999 : (Int16.ofInt (999)).toInt32 = (999 : Int32) := by decide
theorem zs_1000 : (Int16.ofInt (1000)).toInt32 = (1000 : Int32) := by decide
theorem zs_1330 : (Int16.ofInt (1330)).toInt32 = (1330 : Int32) := by decide
theorem zs_1800 : (Int16.ofInt (1800)).toInt32 = (1800 : Int32) := by decide
theorem zs_1900 : (Int16.ofInt (1900)).toInt32 = (1900 : Int32) := by decide
theorem zs_1999 : (Int16.ofInt (1999)).toInt32 = (1999 : Int32) := by decide
theorem zs_2230 : (Int16.ofInt (2230)).toInt32 = (2230 : Int32) := by decide
theorem zs_3430 : (Int16.ofInt (3430)).toInt32 = (3430 : Int32) := by decide
theorem zs_4430 : (Int16.ofInt (4430)).toInt32 = (4430 : Int32) := by decide
theorem zs_5030 : (Int16.ofInt (5030)).toInt32 = (5030 : Int32) := by decide
theorem zs_5070 : (Int16.ofInt (5070)).toInt32 = (5070 : Int32) := by decide
theorem zs_5600 : (Int16.ofInt (5600)).toInt32 = (5600 : Int32) := by decide
theorem zs_9999 : (Int16.ofInt (9999)).toInt32 = (9999 : Int32) := by decide
theorem zs_10000 : (Int16.ofInt (10000)).toInt32 = (10000 : Int32) := by decide
theorem zs_20280 : (Int16.ofInt (20280)).toInt32 = (20280 : Int32) := by decide
theorem wl0_0 : u_lay RX0 TX0 0 ∈ WT := wT0 (wT2 (List.mem_of_getElem? (i := 20) rfl)) rfl
theorem wl0_1 : u_lay RX0 TX0 1 ∈ WT := wT0 (wT2 (List.mem_of_getElem? (i := 22) rfl)) rfl
theorem wl0_2 : u_lay RX0 TX0 2 ∈ WT := wT0 (wT2 (List.mem_of_getElem? (i := 24) rfl)) rfl
theorem wl0_3 : u_lay RX0 TX0 3 ∈ WT := wT0 (wT2 (List.mem_of_getElem? (i := 26) rfl)) rfl
theorem wl0_4 : u_lay RX0 TX0 4 ∈ WT := wT0 (wT2 (List.mem_of_getElem? (i := 28) rfl)) rfl
theorem kX0 : cOf 0 RX0 TX0 5 tyX0 := by
  refine ⟨rfl, fun w hw => ?_, tyX0_ok, nmX0⟩
  obtain ⟨k, hk, rfl⟩ := List.mem_map.mp hw
  match k, List.mem_range.mp hk with
  | 0, _ => exact wl0_0
  | 1, _ => exact wl0_1
  | 2, _ => exact wl0_2
  | 3, _ => exact wl0_3
  | 4, _ => exact wl0_4
  | k + 5, h => exact absurd h (by omega)
theorem wl1_0 : u_lay RX1 TX1 0 ∈ WT := wT0 (wT1 (List.mem_of_getElem? (i := 165) rfl)) rfl
theorem wl1_1 : u_lay RX1 TX1 1 ∈ WT := wT0 (wT1 (List.mem_of_getElem? (i := 167) rfl)) rfl
theorem wl1_2 : u_lay RX1 TX1 2 ∈ WT := wT0 (wT1 (List.mem_of_getElem? (i := 169) rfl)) rfl
theorem wl1_3 : u_lay RX1 TX1 3 ∈ WT := wT0 (wT1 (List.mem_of_getElem? (i := 171) rfl)) rfl
theorem wl1_4 : u_lay RX1 TX1 4 ∈ WT := wT0 (wT1 (List.mem_of_getElem? (i := 173) rfl)) rfl
theorem wl1_5 : u_lay RX1 TX1 5 ∈ WT := wT0 (wT1 (List.mem_of_getElem? (i := 175) rfl)) rfl
theorem wl1_6 : u_lay RX1 TX1 6 ∈ WT := wT0 (wT1 (List.mem_of_getElem? (i := 177) rfl)) rfl
theorem wl1_7 : u_lay RX1 TX1 7 ∈ WT := wT0 (wT1 (List.mem_of_getElem? (i := 179) rfl)) rfl
theorem wl1_8 : u_lay RX1 TX1 8 ∈ WT := wT0 (wT1 (List.mem_of_getElem? (i := 181) rfl)) rfl
theorem wl1_9 : u_lay RX1 TX1 9 ∈ WT := wT0 (wT1 (List.mem_of_getElem? (i := 183) rfl)) rfl
theorem wl1_10 : u_lay RX1 TX1 10 ∈ WT := wT0 (wT1 (List.mem_of_getElem? (i := 185) rfl)) rfl
theorem wl1_11 : u_lay RX1 TX1 11 ∈ WT := wT0 (wT1 (List.mem_of_getElem? (i := 187) rfl)) rfl
theorem wl1_12 : u_lay RX1 TX1 12 ∈ WT := wT0 (wT1 (List.mem_of_getElem? (i := 189) rfl)) rfl
theorem kX1 : cOf 1 RX1 TX1 13 tyX1 := by
  refine ⟨rfl, fun w hw => ?_, tyX1_ok, nmX1⟩
  obtain ⟨k, hk, rfl⟩ := List.mem_map.mp hw
  match k, List.mem_range.mp hk with
  | 0, _ => exact wl1_0
  | 1, _ => exact wl1_1
  | 2, _ => exact wl1_2
  | 3, _ => exact wl1_3
  | 4, _ => exact wl1_4
  | 5, _ => exact wl1_5
  | 6, _ => exact wl1_6
  | 7, _ => exact wl1_7
  | 8, _ => exact wl1_8
  | 9, _ => exact wl1_9
  | 10, _ => exact wl1_10
  | 11, _ => exact wl1_11
  | 12, _ => exact wl1_12
  | k + 13, h => exact absurd h (by omega)
theorem wl2_0 : u_lay RX2 TX2 0 ∈ WT := wT0 (wT1 (List.mem_of_getElem? (i := 65) rfl)) rfl
theorem wl2_1 : u_lay RX2 TX2 1 ∈ WT := wT0 (wT1 (List.mem_of_getElem? (i := 67) rfl)) rfl
theorem wl2_2 : u_lay RX2 TX2 2 ∈ WT := wT0 (wT1 (List.mem_of_getElem? (i := 69) rfl)) rfl
theorem kX2 : cOf 2 RX2 TX2 3 tyX2 := by
  refine ⟨rfl, fun w hw => ?_, tyX2_ok, nmX2⟩
  obtain ⟨k, hk, rfl⟩ := List.mem_map.mp hw
  match k, List.mem_range.mp hk with
  | 0, _ => exact wl2_0
  | 1, _ => exact wl2_1
  | 2, _ => exact wl2_2
  | k + 3, h => exact absurd h (by omega)
theorem wl3_0 : u_lay RX3 TX3 0 ∈ WT := wT0 (wT1 (List.mem_of_getElem? (i := 235) rfl)) rfl
theorem wl3_1 : u_lay RX3 TX3 1 ∈ WT := wT0 (wT1 (List.mem_of_getElem? (i := 237) rfl)) rfl
theorem wl3_2 : u_lay RX3 TX3 2 ∈ WT := wT0 (wT1 (List.mem_of_getElem? (i := 239) rfl)) rfl
theorem wl3_3 : u_lay RX3 TX3 3 ∈ WT := wT0 (wT2 (List.mem_of_getElem? (i := 1) rfl)) rfl
theorem wl3_4 : u_lay RX3 TX3 4 ∈ WT := wT0 (wT2 (List.mem_of_getElem? (i := 3) rfl)) rfl
theorem wl3_5 : u_lay RX3 TX3 5 ∈ WT := wT0 (wT2 (List.mem_of_getElem? (i := 5) rfl)) rfl
theorem kX3 : cOf 3 RX3 TX3 6 tyX3 := by
  refine ⟨rfl, fun w hw => ?_, tyX3_ok, nmX3⟩
  obtain ⟨k, hk, rfl⟩ := List.mem_map.mp hw
  match k, List.mem_range.mp hk with
  | 0, _ => exact wl3_0
  | 1, _ => exact wl3_1
  | 2, _ => exact wl3_2
  | 3, _ => exact wl3_3
  | 4, _ => exact wl3_4
  | 5, _ => exact wl3_5
  | k + 6, h => exact absurd h (by omega)
theorem wl4_0 : u_lay RX4 TX4 0 ∈ WT := wT0 (wT1 (List.mem_of_getElem? (i := 208) rfl)) rfl
theorem wl4_1 : u_lay RX4 TX4 1 ∈ WT := wT0 (wT1 (List.mem_of_getElem? (i := 210) rfl)) rfl
theorem wl4_2 : u_lay RX4 TX4 2 ∈ WT := wT0 (wT1 (List.mem_of_getElem? (i := 212) rfl)) rfl
theorem wl4_3 : u_lay RX4 TX4 3 ∈ WT := wT0 (wT1 (List.mem_of_getElem? (i := 214) rfl)) rfl
theorem wl4_4 : u_lay RX4 TX4 4 ∈ WT := wT0 (wT1 (List.mem_of_getElem? (i := 216) rfl)) rfl
theorem wl4_5 : u_lay RX4 TX4 5 ∈ WT := wT0 (wT1 (List.mem_of_getElem? (i := 218) rfl)) rfl
theorem kX4 : cOf 4 RX4 TX4 6 tyX4 := by
  refine ⟨rfl, fun w hw => ?_, tyX4_ok, nmX4⟩
  obtain ⟨k, hk, rfl⟩ := List.mem_map.mp hw
  match k, List.mem_range.mp hk with
  | 0, _ => exact wl4_0
  | 1, _ => exact wl4_1
  | 2, _ => exact wl4_2
  | 3, _ => exact wl4_3
  | 4, _ => exact wl4_4
  | 5, _ => exact wl4_5
  | k + 6, h => exact absurd h (by omega)
theorem wl5_0 : u_lay RX5 TX5 0 ∈ WT := wT0 (wT1 (List.mem_of_getElem? (i := 45) rfl)) rfl
theorem wl5_1 : u_lay RX5 TX5 1 ∈ WT := wT0 (wT1 (List.mem_of_getElem? (i := 47) rfl)) rfl
theorem wl5_2 : u_lay RX5 TX5 2 ∈ WT := wT0 (wT1 (List.mem_of_getElem? (i := 49) rfl)) rfl
theorem wl5_3 : u_lay RX5 TX5 3 ∈ WT := wT0 (wT1 (List.mem_of_getElem? (i := 51) rfl)) rfl
theorem kX5 : cOf 5 RX5 TX5 4 tyX5 := by
  refine ⟨rfl, fun w hw => ?_, tyX5_ok, nmX5⟩
  obtain ⟨k, hk, rfl⟩ := List.mem_map.mp hw
  match k, List.mem_range.mp hk with
  | 0, _ => exact wl5_0
  | 1, _ => exact wl5_1
  | 2, _ => exact wl5_2
  | 3, _ => exact wl5_3
  | k + 4, h => exact absurd h (by omega)
theorem wl6_0 : u_lay RX6 TX6 0 ∈ WT := wT0 (wT1 (List.mem_of_getElem? (i := 131) rfl)) rfl
theorem wl6_1 : u_lay RX6 TX6 1 ∈ WT := wT0 (wT1 (List.mem_of_getElem? (i := 133) rfl)) rfl
theorem wl6_2 : u_lay RX6 TX6 2 ∈ WT := wT0 (wT1 (List.mem_of_getElem? (i := 135) rfl)) rfl
theorem wl6_3 : u_lay RX6 TX6 3 ∈ WT := wT0 (wT1 (List.mem_of_getElem? (i := 137) rfl)) rfl
theorem wl6_4 : u_lay RX6 TX6 4 ∈ WT := wT0 (wT1 (List.mem_of_getElem? (i := 139) rfl)) rfl
theorem wl6_5 : u_lay RX6 TX6 5 ∈ WT := wT0 (wT1 (List.mem_of_getElem? (i := 141) rfl)) rfl
theorem wl6_6 : u_lay RX6 TX6 6 ∈ WT := wT0 (wT1 (List.mem_of_getElem? (i := 143) rfl)) rfl
theorem kX6 : cOf 6 RX6 TX6 7 tyX6 := by
  refine ⟨rfl, fun w hw => ?_, tyX6_ok, nmX6⟩
  obtain ⟨k, hk, rfl⟩ := List.mem_map.mp hw
  match k, List.mem_range.mp hk with
  | 0, _ => exact wl6_0
  | 1, _ => exact wl6_1
  | 2, _ => exact wl6_2
  | 3, _ => exact wl6_3
  | 4, _ => exact wl6_4
  | 5, _ => exact wl6_5
  | 6, _ => exact wl6_6
  | k + 7, h => exact absurd h (by omega)
theorem wl7_0 : u_lay RX7 TX7 0 ∈ WT := wT0 (wT1 (List.mem_of_getElem? (i := 94) rfl)) rfl
theorem wl7_1 : u_lay RX7 TX7 1 ∈ WT := wT0 (wT1 (List.mem_of_getElem? (i := 96) rfl)) rfl
theorem wl7_2 : u_lay RX7 TX7 2 ∈ WT := wT0 (wT1 (List.mem_of_getElem? (i := 98) rfl)) rfl
theorem wl7_3 : u_lay RX7 TX7 3 ∈ WT := wT0 (wT1 (List.mem_of_getElem? (i := 100) rfl)) rfl
theorem wl7_4 : u_lay RX7 TX7 4 ∈ WT := wT0 (wT1 (List.mem_of_getElem? (i := 102) rfl)) rfl
theorem wl7_5 : u_lay RX7 TX7 5 ∈ WT := wT0 (wT1 (List.mem_of_getElem? (i := 104) rfl)) rfl
theorem wl7_6 : u_lay RX7 TX7 6 ∈ WT := wT0 (wT1 (List.mem_of_getElem? (i := 106) rfl)) rfl
theorem wl7_7 : u_lay RX7 TX7 7 ∈ WT := wT0 (wT1 (List.mem_of_getElem? (i := 108) rfl)) rfl
theorem wl7_8 : u_lay RX7 TX7 8 ∈ WT := wT0 (wT1 (List.mem_of_getElem? (i := 110) rfl)) rfl
theorem kX7 : cOf 7 RX7 TX7 9 tyX7 := by
  refine ⟨rfl, fun w hw => ?_, tyX7_ok, nmX7⟩
  obtain ⟨k, hk, rfl⟩ := List.mem_map.mp hw
  match k, List.mem_range.mp hk with
  | 0, _ => exact wl7_0
  | 1, _ => exact wl7_1
  | 2, _ => exact wl7_2
  | 3, _ => exact wl7_3
  | 4, _ => exact wl7_4
  | 5, _ => exact wl7_5
  | 6, _ => exact wl7_6
  | 7, _ => exact wl7_7
  | 8, _ => exact wl7_8
  | k + 9, h => exact absurd h (by omega)
theorem wl8_0 : u_lay RX8 TX8 0 ∈ WT := wT0 (wT2 (List.mem_of_getElem? (i := 41) rfl)) rfl
theorem wl8_1 : u_lay RX8 TX8 1 ∈ WT := wT0 (wT2 (List.mem_of_getElem? (i := 43) rfl)) rfl
theorem wl8_2 : u_lay RX8 TX8 2 ∈ WT := wT0 (wT2 (List.mem_of_getElem? (i := 45) rfl)) rfl
theorem wl8_3 : u_lay RX8 TX8 3 ∈ WT := wT0 (wT2 (List.mem_of_getElem? (i := 47) rfl)) rfl
theorem wl8_4 : u_lay RX8 TX8 4 ∈ WT := wT0 (wT2 (List.mem_of_getElem? (i := 49) rfl)) rfl
theorem wl8_5 : u_lay RX8 TX8 5 ∈ WT := wT0 (wT2 (List.mem_of_getElem? (i := 51) rfl)) rfl
theorem wl8_6 : u_lay RX8 TX8 6 ∈ WT := wT0 (wT2 (List.mem_of_getElem? (i := 53) rfl)) rfl
theorem wl8_7 : u_lay RX8 TX8 7 ∈ WT := wT0 (wT2 (List.mem_of_getElem? (i := 55) rfl)) rfl
theorem wl8_8 : u_lay RX8 TX8 8 ∈ WT := wT0 (wT2 (List.mem_of_getElem? (i := 57) rfl)) rfl
theorem wl8_9 : u_lay RX8 TX8 9 ∈ WT := wT0 (wT2 (List.mem_of_getElem? (i := 59) rfl)) rfl
theorem kX8 : cOf 8 RX8 TX8 10 tyX8 := by
  refine ⟨rfl, fun w hw => ?_, tyX8_ok, nmX8⟩
  obtain ⟨k, hk, rfl⟩ := List.mem_map.mp hw
  match k, List.mem_range.mp hk with
  | 0, _ => exact wl8_0
  | 1, _ => exact wl8_1
  | 2, _ => exact wl8_2
  | 3, _ => exact wl8_3
  | 4, _ => exact wl8_4
  | 5, _ => exact wl8_5
  | 6, _ => exact wl8_6
  | 7, _ => exact wl8_7
  | 8, _ => exact wl8_8
  | 9, _ => exact wl8_9
  | k + 10, h => exact absurd h (by omega)
theorem wl9_0 : u_lay RX9 TX9 0 ∈ WT := wT0 (wT5 (List.mem_of_getElem? (i := 100) rfl)) rfl
theorem wl9_1 : u_lay RX9 TX9 1 ∈ WT := wT0 (wT5 (List.mem_of_getElem? (i := 102) rfl)) rfl
theorem wl9_2 : u_lay RX9 TX9 2 ∈ WT := wT0 (wT5 (List.mem_of_getElem? (i := 104) rfl)) rfl
theorem wl9_3 : u_lay RX9 TX9 3 ∈ WT := wT0 (wT5 (List.mem_of_getElem? (i := 106) rfl)) rfl
theorem wl9_4 : u_lay RX9 TX9 4 ∈ WT := wT0 (wT5 (List.mem_of_getElem? (i := 108) rfl)) rfl
theorem wl9_5 : u_lay RX9 TX9 5 ∈ WT := wT0 (wT5 (List.mem_of_getElem? (i := 110) rfl)) rfl
theorem wl9_6 : u_lay RX9 TX9 6 ∈ WT := wT0 (wT5 (List.mem_of_getElem? (i := 112) rfl)) rfl
theorem wl9_7 : u_lay RX9 TX9 7 ∈ WT := wT0 (wT5 (List.mem_of_getElem? (i := 114) rfl)) rfl
theorem wl9_8 : u_lay RX9 TX9 8 ∈ WT := wT0 (wT5 (List.mem_of_getElem? (i := 116) rfl)) rfl
theorem wl9_9 : u_lay RX9 TX9 9 ∈ WT := wT0 (wT5 (List.mem_of_getElem? (i := 118) rfl)) rfl
theorem wl9_10 : u_lay RX9 TX9 10 ∈ WT := wT0 (wT5 (List.mem_of_getElem? (i := 120) rfl)) rfl
theorem wl9_11 : u_lay RX9 TX9 11 ∈ WT := wT0 (wT5 (List.mem_of_getElem? (i := 122) rfl)) rfl
theorem wl9_12 : u_lay RX9 TX9 12 ∈ WT := wT0 (wT5 (List.mem_of_getElem? (i := 124) rfl)) rfl
theorem wl9_13 : u_lay RX9 TX9 13 ∈ WT := wT0 (wT5 (List.mem_of_getElem? (i := 126) rfl)) rfl
theorem wl9_14 : u_lay RX9 TX9 14 ∈ WT := wT0 (wT5 (List.mem_of_getElem? (i := 128) rfl)) rfl
theorem wl9_15 : u_lay RX9 TX9 15 ∈ WT := wT0 (wT5 (List.mem_of_getElem? (i := 130) rfl)) rfl
theorem wl9_16 : u_lay RX9 TX9 16 ∈ WT := wT0 (wT5 (List.mem_of_getElem? (i := 132) rfl)) rfl
theorem wl9_17 : u_lay RX9 TX9 17 ∈ WT := wT0 (wT5 (List.mem_of_getElem? (i := 134) rfl)) rfl
theorem wl9_18 : u_lay RX9 TX9 18 ∈ WT := wT0 (wT5 (List.mem_of_getElem? (i := 136) rfl)) rfl
theorem wl9_19 : u_lay RX9 TX9 19 ∈ WT := wT0 (wT5 (List.mem_of_getElem? (i := 138) rfl)) rfl
theorem wl9_20 : u_lay RX9 TX9 20 ∈ WT := wT0 (wT5 (List.mem_of_getElem? (i := 140) rfl)) rfl
theorem wl9_21 : u_lay RX9 TX9 21 ∈ WT := wT0 (wT5 (List.mem_of_getElem? (i := 142) rfl)) rfl
theorem wl9_22 : u_lay RX9 TX9 22 ∈ WT := wT0 (wT5 (List.mem_of_getElem? (i := 144) rfl)) rfl
theorem wl9_23 : u_lay RX9 TX9 23 ∈ WT := wT0 (wT5 (List.mem_of_getElem? (i := 146) rfl)) rfl
theorem wl9_24 : u_lay RX9 TX9 24 ∈ WT := wT0 (wT5 (List.mem_of_getElem? (i := 148) rfl)) rfl
theorem wl9_25 : u_lay RX9 TX9 25 ∈ WT := wT0 (wT5 (List.mem_of_getElem? (i := 150) rfl)) rfl
theorem wl9_26 : u_lay RX9 TX9 26 ∈ WT := wT0 (wT5 (List.mem_of_getElem? (i := 152) rfl)) rfl
theorem wl9_27 : u_lay RX9 TX9 27 ∈ WT := wT0 (wT5 (List.mem_of_getElem? (i := 154) rfl)) rfl
theorem wl9_28 : u_lay RX9 TX9 28 ∈ WT := wT0 (wT5 (List.mem_of_getElem? (i := 156) rfl)) rfl
theorem wl9_29 : u_lay RX9 TX9 29 ∈ WT := wT0 (wT5 (List.mem_of_getElem? (i := 158) rfl)) rfl
theorem wl9_30 : u_lay RX9 TX9 30 ∈ WT := wT0 (wT5 (List.mem_of_getElem? (i := 160) rfl)) rfl
theorem wl9_31 : u_lay RX9 TX9 31 ∈ WT := wT0 (wT5 (List.mem_of_getElem? (i := 162) rfl)) rfl
theorem wl9_32 : u_lay RX9 TX9 32 ∈ WT := wT0 (wT5 (List.mem_of_getElem? (i := 164) rfl)) rfl
theorem wl9_33 : u_lay RX9 TX9 33 ∈ WT := wT0 (wT5 (List.mem_of_getElem? (i := 166) rfl)) rfl
theorem wl9_34 : u_lay RX9 TX9 34 ∈ WT := wT0 (wT5 (List.mem_of_getElem? (i := 168) rfl)) rfl
theorem wl9_35 : u_lay RX9 TX9 35 ∈ WT := wT0 (wT5 (List.mem_of_getElem? (i := 170) rfl)) rfl
theorem kX9 : cOf 9 RX9 TX9 36 tyX9 := by
  refine ⟨rfl, fun w hw => ?_, tyX9_ok, nmX9⟩
  obtain ⟨k, hk, rfl⟩ := List.mem_map.mp hw
  match k, List.mem_range.mp hk with
  | 0, _ => exact wl9_0
  | 1, _ => exact wl9_1
  | 2, _ => exact wl9_2
  | 3, _ => exact wl9_3
  | 4, _ => exact wl9_4
  | 5, _ => exact wl9_5
  | 6, _ => exact wl9_6
  | 7, _ => exact wl9_7
  | 8, _ => exact wl9_8
  | 9, _ => exact wl9_9
  | 10, _ => exact wl9_10
  | 11, _ => exact wl9_11
  | 12, _ => exact wl9_12
  | 13, _ => exact wl9_13
  | 14, _ => exact wl9_14
  | 15, _ => exact wl9_15
  | 16, _ => exact wl9_16
  | 17, _ => exact wl9_17
  | 18, _ => exact wl9_18
  | 19, _ => exact wl9_19
  | 20, _ => exact wl9_20
  | 21, _ => exact wl9_21
  | 22, _ => exact wl9_22
  | 23, _ => exact wl9_23
  | 24, _ => exact wl9_24
  | 25, _ => exact wl9_25
  | 26, _ => exact wl9_26
  | 27, _ => exact wl9_27
  | 28, _ => exact wl9_28
  | 29, _ => exact wl9_29
  | 30, _ => exact wl9_30
  | 31, _ => exact wl9_31
  | 32, _ => exact wl9_32
  | 33, _ => exact wl9_33
  | 34, _ => exact wl9_34
  | 35, _ => exact wl9_35
  | k + 36, h => exact absurd h (by omega)
