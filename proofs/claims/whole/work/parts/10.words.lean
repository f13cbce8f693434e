/-! words of the tables by their places; methods; fields -/
theorem tm_0 {w : Cond} (h : w ∈ tables_1_1) : w ∈ tables_1 := by
  show w ∈ tables_1_1 ++ (tables_1_2 ++ (tables_1_3 ++ (tables_1_4 ++ (tables_1_5 ++ tables_1_6))))
  exact List.mem_append_left _ h
theorem tm_1 {w : Cond} (h : w ∈ tables_1_2) : w ∈ tables_1 := by
  show w ∈ tables_1_1 ++ (tables_1_2 ++ (tables_1_3 ++ (tables_1_4 ++ (tables_1_5 ++ tables_1_6))))
  exact List.mem_append_right _ (List.mem_append_left _ h)
theorem tm_2 {w : Cond} (h : w ∈ tables_1_3) : w ∈ tables_1 := by
  show w ∈ tables_1_1 ++ (tables_1_2 ++ (tables_1_3 ++ (tables_1_4 ++ (tables_1_5 ++ tables_1_6))))
  exact List.mem_append_right _ (List.mem_append_right _ (List.mem_append_left _ h))
theorem tm_3 {w : Cond} (h : w ∈ tables_1_4) : w ∈ tables_1 := by
  show w ∈ tables_1_1 ++ (tables_1_2 ++ (tables_1_3 ++ (tables_1_4 ++ (tables_1_5 ++ tables_1_6))))
  exact List.mem_append_right _ (List.mem_append_right _ (List.mem_append_right _ (List.mem_append_left _ h)))
theorem tm_4 {w : Cond} (h : w ∈ tables_1_5) : w ∈ tables_1 := by
  show w ∈ tables_1_1 ++ (tables_1_2 ++ (tables_1_3 ++ (tables_1_4 ++ (tables_1_5 ++ tables_1_6))))
  exact List.mem_append_right _ (List.mem_append_right _ (List.mem_append_right _ (List.mem_append_right _ (List.mem_append_left _ h))))
theorem tm_5 {w : Cond} (h : w ∈ tables_1_6) : w ∈ tables_1 := by
  show w ∈ tables_1_1 ++ (tables_1_2 ++ (tables_1_3 ++ (tables_1_4 ++ (tables_1_5 ++ tables_1_6))))
  exact List.mem_append_right _ (List.mem_append_right _ (List.mem_append_right _ (List.mem_append_right _ (List.mem_append_right _ (h)))))
abbrev Y_X12_in : My := (yX12_in, cX12_in, 6, (some .boolean))
abbrev Y_X12_finds : My := (yX12_finds, cX12_finds, 2, (some .int))
abbrev Y_X12_saves : My := (yX12_saves, cX12_saves, 2, none)
abbrev Y_X12_putsBack : My := (yX12_putsBack, cX12_putsBack, 2, none)
abbrev Y_X12_laysAside : My := (yX12_laysAside, cX12_laysAside, 2, none)
abbrev Y_X12_takesBack : My := (yX12_takesBack, cX12_takesBack, 3, (some .int))
abbrev Y_X12_becomes : My := (yX12_becomes, cX12_becomes, 4, (some .int))
abbrev Y_X12_isCell : My := (yX12_isCell, cX12_isCell, 1, (some .boolean))
abbrev Y_X12_isHand : My := (yX12_isHand, cX12_isHand, 2, (some .boolean))
abbrev Y_X12_isKind : My := (yX12_isKind, cX12_isKind, 1, (some .boolean))
abbrev Y_X12_isWay : My := (yX12_isWay, cX12_isWay, 1, (some .boolean))
abbrev Y_X12_spot : My := (yX12_spot, cX12_spot, 2, (some .int))
abbrev Y_X12_its : My := (yX12_its, cX12_its, 3, (some .int))
abbrev Y_X12_has : My := (yX12_has, cX12_has, 3, (some .boolean))
abbrev Y_X12_ones : My := (yX12_ones, cX12_ones, 5, (some .int))
abbrev Y_X12_stepsOf : My := (yX12_stepsOf, cX12_stepsOf, 5, (some .int))
abbrev Y_X12_turned : My := (yX12_turned, cX12_turned, 4, (some .int))
abbrev Y_X12_cropOf : My := (yX12_cropOf, cX12_cropOf, 2, (some .int))
abbrev Y_X12_beside : My := (yX12_beside, cX12_beside, 4, (some .int))
abbrev Y_X12_isEdge : My := (yX12_isEdge, cX12_isEdge, 3, (some .boolean))
abbrev Y_X12_smudges : My := (yX12_smudges, cX12_smudges, 4, (some .long))
abbrev Y_X12_draws : My := (yX12_draws, cX12_draws, 12, none)
abbrev Y_X12_insideOf : My := (yX12_insideOf, cX12_insideOf, 9, (some .long))
abbrev Y_X12_writeAll : My := (yX12_writeAll, cX12_writeAll, 4, none)
abbrev Y_X12_insideMany : My := (yX12_insideMany, cX12_insideMany, 2, (some .int))
abbrev Y_X12_writes : My := (yX12_writes, cX12_writes, 2, (some .boolean))
abbrev Y_X12_ownerOf : My := (yX12_ownerOf, cX12_ownerOf, 5, (some .int))
abbrev Y_X12_ownedBy : My := (yX12_ownedBy, cX12_ownedBy, 4, (some .int))
abbrev Y_X12_smudge : My := (yX12_smudge, cX12_smudge, 3, (some .int))
abbrev Y_X12_thoseWith : My := (yX12_thoseWith, cX12_thoseWith, 5, (some .int))
abbrev Y_X12_cell : My := (yX12_cell, cX12_cell, 3, (some .int))
abbrev Y_X12_writersInside : My := (yX12_writersInside, cX12_writersInside, 4, (some .int))
abbrev Y_X12_cells : My := (yX12_cells, cX12_cells, 5, (some .long))
abbrev Y_X12_adds : My := (yX12_adds, cX12_adds, 5, (some .int))
abbrev Y_X12_hand : My := (yX12_hand, cX12_hand, 3, (some .int))
abbrev Y_X12_strokes : My := (yX12_strokes, cX12_strokes, 5, (some .int))
abbrev Y_X12_stroke : My := (yX12_stroke, cX12_stroke, 4, (some .int))
abbrev Y_X12_of : My := (yX12_of, cX12_of, 3, (some .int))
abbrev Y_X12_isStroke : My := (yX12_isStroke, cX12_isStroke, 3, (some .boolean))
abbrev Y_X12_told : My := (yX12_told, cX12_told, 4, (some .int))
abbrev Y_X12_set : My := (yX12_set, cX12_set, 5, (some .int))
abbrev Y_X12_alter : My := (yX12_alter, cX12_alter, 6, (some .int))
abbrev Y_X12_cut : My := (yX12_cut, cX12_cut, 3, (some .int))
abbrev Y_X12_turn : My := (yX12_turn, cX12_turn, 3, (some .int))
abbrev Y_X12_isUnder : My := (yX12_isUnder, cX12_isUnder, 2, (some .boolean))
abbrev Y_X12_as : My := (yX12_as, cX12_as, 3, (some .int))
abbrev Y_X12_line : My := (yX12_line, cX12_line, 2, (some .long))
abbrev Y_X12_inside : My := (yX12_inside, cX12_inside, 2, (some .long))
abbrev Y_X12_year : My := (yX12_year, cX12_year, 4, none)
abbrev Y_X12_goesOn : My := (yX12_goesOn, cX12_goesOn, 3, none)
abbrev Y_X12_together : My := (yX12_together, cX12_together, 4, (some .int))
abbrev Y_X12_years : My := (yX12_years, cX12_years, 2, (some .int))
abbrev Y_X12_thoseThatWrite : My := (yX12_thoseThatWrite, cX12_thoseThatWrite, 3, (some .int))
abbrev Y_X12_now : My := (yX12_now, cX12_now, 2, (some .int))
abbrev Y_X12_ownsNow : My := (yX12_ownsNow, cX12_ownsNow, 2, (some .int))
abbrev Y_X12_on : My := (yX12_on, cX12_on, 4, (some .int))
abbrev Y_X12_isDry : My := (yX12_isDry, cX12_isDry, 2, (some .boolean))
abbrev Y_X12_dry : My := (yX12_dry, cX12_dry, 4, (some .int))
abbrev Y_X12_richest : My := (yX12_richest, cX12_richest, 3, (some .int))
abbrev Y_X12_rich : My := (yX12_rich, cX12_rich, 2, (some .int))
abbrev Y_X12_rain : My := (yX12_rain, cX12_rain, 8, (some .int))
abbrev Y_X12_longer : My := (yX12_longer, cX12_longer, 7, (some .int))
abbrev Y_X12_begin : My := (yX12_begin, cX12_begin, 7, (some .int))
abbrev Y_X12_kind : My := (yX12_kind, cX12_kind, 7, (some .int))
abbrev Y_X12_ink : My := (yX12_ink, cX12_ink, 7, (some .int))
abbrev Y_X12_court : My := (yX12_court, cX12_court, 3, (some .int))
abbrev Y_X12_way : My := (yX12_way, cX12_way, 14, (some .int))
abbrev Y_X12_sea : My := (yX12_sea, cX12_sea, 4, (some .int))
abbrev Y_X12_feed : My := (yX12_feed, cX12_feed, 4, (some .int))
abbrev Y_X12_wipe : My := (yX12_wipe, cX12_wipe, 2, (some .int))
abbrev Y_X12_byteAt : My := (yX12_byteAt, cX12_byteAt, 2, (some .int))
abbrev Y_X12_isLetter : My := (yX12_isLetter, cX12_isLetter, 1, (some .boolean))
abbrev Y_X12_isDigit : My := (yX12_isDigit, cX12_isDigit, 1, (some .boolean))
abbrev Y_X12_token : My := (yX12_token, cX12_token, 3, none)
abbrev Y_X12_must : My := (yX12_must, cX12_must, 2, none)
abbrev Y_X12_word : My := (yX12_word, cX12_word, 4, (some .long))
abbrev Y_X12_number : My := (yX12_number, cX12_number, 6, none)
abbrev Y_X12_kindHere : My := (yX12_kindHere, cX12_kindHere, 3, (some .int))
abbrev Y_X12_wayHere : My := (yX12_wayHere, cX12_wayHere, 3, (some .int))
abbrev Y_X12_handItem : My := (yX12_handItem, cX12_handItem, 5, none)
abbrev Y_X12_item : My := (yX12_item, cX12_item, 4, none)
abbrev Y_X12_field : My := (yX12_field, cX12_field, 2, (some .int))
abbrev Y_X12_isOne : My := (yX12_isOne, cX12_isOne, 1, (some .boolean))
abbrev Y_X12_sheet : My := (yX12_sheet, cX12_sheet, 5, (some .int))
abbrev Y_X12_narrowed : My := (yX12_narrowed, cX12_narrowed, 3, (some .long))
abbrev Y_X12_wrong : My := (yX12_wrong, cX12_wrong, 2, (some .int))
abbrev Y_X12_write : My := (yX12_write, cX12_write, 8, (some .long))
abbrev Y_X12_copy : My := (yX12_copy, cX12_copy, 7, (some .int))
abbrev Y_X12_lays : My := (yX12_lays, cX12_lays, 6, (some .int))
abbrev Y_X12_book : My := (yX12_book, cX12_book, 5, (some .int))
abbrev Y_X12_isBook : My := (yX12_isBook, cX12_isBook, 4, (some .boolean))
abbrev Y_X12_read : My := (yX12_read, cX12_read, 6, (some .int))
abbrev Y_X12_image : My := (yX12_image, cX12_image, 2, (some .int))
abbrev Y_X12_undo : My := (yX12_undo, cX12_undo, 2, (some .int))
abbrev Y_X12_tear : My := (yX12_tear, cX12_tear, 2, (some .int))
abbrev Y_X12_costsAll : My := (yX12_costsAll, cX12_costsAll, 3, (some .int))
abbrev Y_X12_count : My := (yX12_count, cX12_count, 2, (some .int))
abbrev Y_X12_status : My := (yX12_status, cX12_status, 4, (some .int))
abbrev Y_J13_bitCount_95d88 : My := (yJ13_bitCount_95d88, cJ13_bitCount_95d88, 2, (some .int))
abbrev Y_X1_bit : My := (yX1_bit, cX1_bit, 1, (some .long))
abbrev Y_X1_stepFrom : My := (yX1_stepFrom, cX1_stepFrom, 3, (some .int))
abbrev Y_X1_withBeside : My := (yX1_withBeside, cX1_withBeside, 8, (some .long))
abbrev Y_X1_enclosedBy : My := (yX1_enclosedBy, cX1_enclosedBy, 9, (some .long))
abbrev Y_X1_fewestSteps : My := (yX1_fewestSteps, cX1_fewestSteps, 9, (some .int))
abbrev Y_X3_isOf : My := (yX3_isOf, cX3_isOf, 2, (some .boolean))
abbrev Y_X0_isOf : My := (yX0_isOf, cX0_isOf, 2, (some .boolean))
abbrev Y_X3_steps : My := (yX3_steps, cX3_steps, 3, (some .int))
abbrev Y_X0_steps : My := (yX0_steps, cX0_steps, 3, (some .int))
abbrev Y_X3_turns : My := (yX3_turns, cX3_turns, 2, (some .int))
abbrev Y_X3_crop : My := (yX3_crop, cX3_crop, 1, (some .int))
abbrev Y_X7_isOf : My := (yX7_isOf, cX7_isOf, 2, (some .boolean))
abbrev Y_X4_isOf : My := (yX4_isOf, cX4_isOf, 2, (some .boolean))
abbrev Y_X7_steps : My := (yX7_steps, cX7_steps, 3, (some .int))
abbrev Y_X4_steps : My := (yX4_steps, cX4_steps, 4, (some .int))
abbrev Y_X7_crop : My := (yX7_crop, cX7_crop, 1, (some .int))
abbrev Y_X4_crop : My := (yX4_crop, cX4_crop, 1, (some .int))
abbrev Y_X6_isOf : My := (yX6_isOf, cX6_isOf, 2, (some .boolean))
abbrev Y_X6_turns : My := (yX6_turns, cX6_turns, 2, (some .int))
abbrev Y_X6_crop : My := (yX6_crop, cX6_crop, 1, (some .int))
abbrev Y_X8_isOf : My := (yX8_isOf, cX8_isOf, 2, (some .boolean))
abbrev Y_X8_steps : My := (yX8_steps, cX8_steps, 3, (some .int))
abbrev Y_X8_crop : My := (yX8_crop, cX8_crop, 1, (some .int))
abbrev Y_X11_within : My := (yX11_within, cX11_within, 3, (some .boolean))
abbrev Y_X11_isCell : My := (yX11_isCell, cX11_isCell, 1, (some .boolean))
abbrev Y_X11_finding : My := (yX11_finding, cX11_finding, 3, (some .int))
abbrev Y_X11_bitOf : My := (yX11_bitOf, cX11_bitOf, 3, (some .int))
abbrev Y_X5_makeSmudged : My := (yX5_makeSmudged, cX5_makeSmudged, 3, none)
abbrev Y_X11_smudge : My := (yX11_smudge, cX11_smudge, 4, (some .int))
abbrev Y_X2_lineUnder : My := (yX2_lineUnder, cX2_lineUnder, 3, (some .long))
abbrev Y_X5_handsOnWhoseLines : My := (yX5_handsOnWhoseLines, cX5_handsOnWhoseLines, 4, (some .int))
abbrev Y_X2_insideUnder : My := (yX2_insideUnder, cX2_insideUnder, 5, (some .long))
abbrev Y_X5_handsAround : My := (yX5_handsAround, cX5_handsAround, 4, (some .int))
abbrev Y_X2_writes : My := (yX2_writes, cX2_writes, 1, (some .boolean))
abbrev Y_X5_stakeClaims : My := (yX5_stakeClaims, cX5_stakeClaims, 2, none)
abbrev Y_X5_goesBefore : My := (yX5_goesBefore, cX5_goesBefore, 5, (some .boolean))
abbrev Y_X5_shareOf : My := (yX5_shareOf, cX5_shareOf, 5, (some .long))
abbrev Y_X5_ownerOf : My := (yX5_ownerOf, cX5_ownerOf, 3, (some .int))
abbrev Y_X11_cell : My := (yX11_cell, cX11_cell, 3, (some .int))
abbrev Y_X5_disputed : My := (yX5_disputed, cX5_disputed, 6, (some .long))
abbrev Y_X5_owned : My := (yX5_owned, cX5_owned, 4, (some .long))
abbrev Y_X11_cells : My := (yX11_cells, cX11_cells, 2, (some .long))
abbrev Y_X11_isKind : My := (yX11_isKind, cX11_isKind, 1, (some .boolean))
abbrev Y_X5_isFull : My := (yX5_isFull, cX5_isFull, 1, (some .boolean))
abbrev Y_X2_startAnew : My := (yX2_startAnew, cX2_startAnew, 3, none)
abbrev Y_X5_newHand : My := (yX5_newHand, cX5_newHand, 4, (some (.object "PenAcres$Hand")))
abbrev Y_X11_hand : My := (yX11_hand, cX11_hand, 4, (some .int))
abbrev Y_X5_handOf : My := (yX5_handOf, cX5_handOf, 2, (some (.object "PenAcres$Hand")))
abbrev Y_X11_isWay : My := (yX11_isWay, cX11_isWay, 1, (some .boolean))
abbrev Y_X11_isLength : My := (yX11_isLength, cX11_isLength, 1, (some .boolean))
abbrev Y_X2_addStroke : My := (yX2_addStroke, cX2_addStroke, 3, (some .boolean))
abbrev Y_X2_trace : My := (yX2_trace, cX2_trace, 7, none)
abbrev Y_X11_stroke : My := (yX11_stroke, cX11_stroke, 5, (some .int))
abbrev Y_X2_howManyInside : My := (yX2_howManyInside, cX2_howManyInside, 3, (some .int))
abbrev Y_X5_howManyOwnedBy : My := (yX5_howManyOwnedBy, cX5_howManyOwnedBy, 2, (some .int))
abbrev Y_X11_of : My := (yX11_of, cX11_of, 4, (some .int))
abbrev Y_X2_hasStroke : My := (yX2_hasStroke, cX2_hasStroke, 2, (some .boolean))
abbrev Y_X11_told : My := (yX11_told, cX11_told, 5, (some .int))
abbrev Y_X2_moveTo : My := (yX2_moveTo, cX2_moveTo, 2, none)
abbrev Y_X11_isInk : My := (yX11_isInk, cX11_isInk, 1, (some .boolean))
abbrev Y_X11_set : My := (yX11_set, cX11_set, 6, (some .int))
abbrev Y_X11_alter : My := (yX11_alter, cX11_alter, 7, (some .int))
abbrev Y_X11_cut : My := (yX11_cut, cX11_cut, 5, (some .int))
abbrev Y_X2_become : My := (yX2_become, cX2_become, 2, none)
abbrev Y_X11_turn : My := (yX11_turn, cX11_turn, 5, (some .int))
abbrev Y_X11_as : My := (yX11_as, cX11_as, 4, (some .int))
abbrev Y_X11_line : My := (yX11_line, cX11_line, 3, (some .long))
abbrev Y_X11_inside : My := (yX11_inside, cX11_inside, 3, (some .long))
abbrev Y_X2_goYear : My := (yX2_goYear, cX2_goYear, 2, none)
abbrev Y_X5_goYear : My := (yX5_goYear, cX5_goYear, 2, none)
abbrev Y_X5_goYears : My := (yX5_goYears, cX5_goYears, 3, none)
abbrev Y_X5_cornOfAll : My := (yX5_cornOfAll, cX5_cornOfAll, 3, (some .int))
abbrev Y_X11_years : My := (yX11_years, cX11_years, 2, (some .int))
abbrev Y_X5_inkOfAll : My := (yX5_inkOfAll, cX5_inkOfAll, 3, (some .int))
abbrev Y_X5_handsThatWrite : My := (yX5_handsThatWrite, cX5_handsThatWrite, 3, (some .int))
abbrev Y_X11_now : My := (yX11_now, cX11_now, 2, (some .int))
abbrev Y_X2_takeFrom : My := (yX2_takeFrom, cX2_takeFrom, 2, none)
abbrev Y_X5_takeFrom : My := (yX5_takeFrom, cX5_takeFrom, 3, none)
abbrev Y_X11_onTrial : My := (yX11_onTrial, cX11_onTrial, 2, (some (.object "PenAcres$Hand")))
abbrev Y_X11_isYearsOn : My := (yX11_isYearsOn, cX11_isYearsOn, 1, (some .boolean))
abbrev Y_X11_on : My := (yX11_on, cX11_on, 5, (some .int))
abbrev Y_X11_dry : My := (yX11_dry, cX11_dry, 4, (some .int))
abbrev Y_X5_richest : My := (yX5_richest, cX5_richest, 4, (some .int))
abbrev Y_X11_rich : My := (yX11_rich, cX11_rich, 3, (some .int))
abbrev Y_X11_rain : My := (yX11_rain, cX11_rain, 9, (some .int))
abbrev Y_X2_howManyInsideWithLonger : My := (yX2_howManyInsideWithLonger, cX2_howManyInsideWithLonger, 5, (some .int))
abbrev Y_X11_longer : My := (yX11_longer, cX11_longer, 7, (some .int))
abbrev Y_X11_begin : My := (yX11_begin, cX11_begin, 7, (some .int))
abbrev Y_X11_kind : My := (yX11_kind, cX11_kind, 7, (some .int))
abbrev Y_X11_ink : My := (yX11_ink, cX11_ink, 7, (some .int))
abbrev Y_X11_court : My := (yX11_court, cX11_court, 5, (some .int))
abbrev Y_X11_way : My := (yX11_way, cX11_way, 6, (some .int))
abbrev Y_X11_sea : My := (yX11_sea, cX11_sea, 4, (some .int))
abbrev Y_X10_add : My := (yX10_add, cX10_add, 2, none)
abbrev Y_X11_feed : My := (yX11_feed, cX11_feed, 4, (some .int))
abbrev Y_X11_wipe : My := (yX11_wipe, cX11_wipe, 2, (some .int))
abbrev Y_X10_byteAt : My := (yX10_byteAt, cX10_byteAt, 2, (some .char))
abbrev Y_X10_isLetter : My := (yX10_isLetter, cX10_isLetter, 1, (some .boolean))
abbrev Y_X10_goOverWord : My := (yX10_goOverWord, cX10_goOverWord, 1, none)
abbrev Y_X10_isDigit : My := (yX10_isDigit, cX10_isDigit, 1, (some .boolean))
abbrev Y_X10_goOverNumber : My := (yX10_goOverNumber, cX10_goOverNumber, 1, none)
abbrev Y_X10_goOn : My := (yX10_goOn, cX10_goOn, 1, none)
abbrev Y_X10_isWord : My := (yX10_isWord, cX10_isWord, 3, (some .boolean))
abbrev Y_X10_isNumber : My := (yX10_isNumber, cX10_isNumber, 3, (some .boolean))
abbrev Y_X10_takeSmudge : My := (yX10_takeSmudge, cX10_takeSmudge, 3, (some .boolean))
abbrev Y_X10_kindNamed : My := (yX10_kindNamed, cX10_kindNamed, 3, (some (.object "PenAcres$HandKind")))
abbrev Y_X10_takeInk : My := (yX10_takeInk, cX10_takeInk, 2, (some .boolean))
abbrev Y_X10_wayNamed : My := (yX10_wayNamed, cX10_wayNamed, 1, (some .int))
abbrev Y_X10_takeStrokes : My := (yX10_takeStrokes, cX10_takeStrokes, 4, (some .boolean))
abbrev Y_X10_takeHand : My := (yX10_takeHand, cX10_takeHand, 4, (some .boolean))
abbrev Y_X10_takeItem : My := (yX10_takeItem, cX10_takeItem, 4, (some .boolean))
abbrev Y_X10_tellTo : My := (yX10_tellTo, cX10_tellTo, 4, (some .int))
abbrev Y_X5_traceHands : My := (yX5_traceHands, cX5_traceHands, 2, none)
abbrev Y_X11_field : My := (yX11_field, cX11_field, 2, (some .int))
abbrev Y_X11_sheetOf : My := (yX11_sheetOf, cX11_sheetOf, 2, (some (.object "PenAcres$Sheet")))
abbrev Y_X11_isBits : My := (yX11_isBits, cX11_isBits, 1, (some .boolean))
abbrev Y_X9_become : My := (yX9_become, cX9_become, 4, none)
abbrev Y_X11_sheet : My := (yX11_sheet, cX11_sheet, 5, (some .int))
abbrev Y_X9_isMissing : My := (yX9_isMissing, cX9_isMissing, 1, (some .boolean))
abbrev Y_X9_lowestBits : My := (yX9_lowestBits, cX9_lowestBits, 3, (some .long))
abbrev Y_X9_put : My := (yX9_put, cX9_put, 4, none)
abbrev Y_X11_write : My := (yX11_write, cX11_write, 8, (some .long))
abbrev Y_X9_hasNumbers : My := (yX9_hasNumbers, cX9_hasNumbers, 3, (some .boolean))
abbrev Y_X11_copy : My := (yX11_copy, cX11_copy, 8, (some .int))
abbrev Y_X11_lays : My := (yX11_lays, cX11_lays, 8, (some .int))
abbrev Y_X11_book : My := (yX11_book, cX11_book, 6, (some .int))
abbrev Y_X11_tells : My := (yX11_tells, cX11_tells, 7, (some .boolean))
abbrev Y_X11_read : My := (yX11_read, cX11_read, 7, (some .int))
abbrev Y_X11_image : My := (yX11_image, cX11_image, 1, (some .int))
abbrev Y_X11_undo : My := (yX11_undo, cX11_undo, 1, (some .int))
abbrev Y_X11_tear : My := (yX11_tear, cX11_tear, 2, (some .int))
abbrev Y_X5_strokesOfAll : My := (yX5_strokesOfAll, cX5_strokesOfAll, 3, (some .int))
abbrev Y_X5_costsOfAll : My := (yX5_costsOfAll, cX5_costsOfAll, 3, (some .int))
abbrev Y_X11_count : My := (yX11_count, cX11_count, 2, (some .int))
abbrev Y_X11_status : My := (yX11_status, cX11_status, 4, (some .int))
theorem wt_1 : (Cond.initialized "PenAcres") ∈ wG := wG_mem (tm_0 (List.mem_of_getElem? (i := 1) rfl)) rfl
theorem wt_2 : (Cond.initialized "PenAcres$HandKind") ∈ wG := wG_mem (tm_0 (List.mem_of_getElem? (i := 2) rfl)) rfl
theorem wt_3 : (Cond.initialized "PenAcres$MiserKind") ∈ wG := wG_mem (tm_0 (List.mem_of_getElem? (i := 3) rfl)) rfl
theorem wt_4 : (Cond.initialized "PenAcres$DukeKind") ∈ wG := wG_mem (tm_0 (List.mem_of_getElem? (i := 4) rfl)) rfl
theorem wt_5 : (Cond.initialized "PenAcres$ShakyKind") ∈ wG := wG_mem (tm_0 (List.mem_of_getElem? (i := 5) rfl)) rfl
theorem wt_6 : (Cond.initialized "PenAcres$HeirKind") ∈ wG := wG_mem (tm_0 (List.mem_of_getElem? (i := 6) rfl)) rfl
theorem wt_7 : (Cond.initialized "PenAcres$LeftKind") ∈ wG := wG_mem (tm_0 (List.mem_of_getElem? (i := 7) rfl)) rfl
theorem wt_8 : (Cond.initialized "PenAcres$Land") ∈ wG := wG_mem (tm_0 (List.mem_of_getElem? (i := 8) rfl)) rfl
theorem wt_9 : (Cond.initialized "PenAcres$Hand") ∈ wG := wG_mem (tm_0 (List.mem_of_getElem? (i := 9) rfl)) rfl
theorem wt_10 : (Cond.initialized "PenAcres$Tape") ∈ wG := wG_mem (tm_0 (List.mem_of_getElem? (i := 10) rfl)) rfl
theorem wt_11 : (Cond.initialized "PenAcres$Sheet") ∈ wG := wG_mem (tm_0 (List.mem_of_getElem? (i := 11) rfl)) rfl
theorem wt_12 : (Cond.initialized "PenAcresModel") ∈ wG := wG_mem (tm_0 (List.mem_of_getElem? (i := 12) rfl)) rfl
theorem wt_13 : (Cond.initialized "PenAcres$Grid") ∈ wG := wG_mem (tm_0 (List.mem_of_getElem? (i := 13) rfl)) rfl
theorem wt_14 : (Cond.initialized "java/lang/Math") ∈ wG := wG_mem (tm_0 (List.mem_of_getElem? (i := 14) rfl)) rfl
theorem wt_15 : (Cond.initialized "java/lang/Long") ∈ wG := wG_mem (tm_0 (List.mem_of_getElem? (i := 15) rfl)) rfl
theorem wt_16 : (Cond.initialized "java/lang/System") ∈ wG := wG_mem (tm_0 (List.mem_of_getElem? (i := 16) rfl)) rfl
theorem wt_17 : (Cond.initialized "java/lang/String") ∈ wG := wG_mem (tm_0 (List.mem_of_getElem? (i := 17) rfl)) rfl
theorem wt_18 : (Cond.initialized "java/lang/StringLatin1") ∈ wG := wG_mem (tm_0 (List.mem_of_getElem? (i := 18) rfl)) rfl
theorem wt_19 : (Cond.initialized "jdk/internal/util/Preconditions") ∈ wG := wG_mem (tm_0 (List.mem_of_getElem? (i := 19) rfl)) rfl
theorem wt_37 : (Cond.fieldLink "PenAcres" 157 "PenAcres$HandKind" "number" "I") ∈ wG := wG_mem (tm_0 (List.mem_of_getElem? (i := 37) rfl)) rfl
theorem wt_39 : (Cond.fieldLink "PenAcres$Tape" 98 "PenAcres$HandKind" "word" "Ljava/lang/String;") ∈ wG := wG_mem (tm_0 (List.mem_of_getElem? (i := 39) rfl)) rfl
theorem wt_56 : (Cond.superclass "PenAcres$MiserKind" "PenAcres$HandKind") ∈ wG := wG_mem (tm_0 (List.mem_of_getElem? (i := 56) rfl)) rfl
theorem wt_66 : (Cond.superclass "PenAcres$DukeKind" "PenAcres$HandKind") ∈ wG := wG_mem (tm_0 (List.mem_of_getElem? (i := 66) rfl)) rfl
theorem wt_76 : (Cond.superclass "PenAcres$ShakyKind" "PenAcres$HandKind") ∈ wG := wG_mem (tm_0 (List.mem_of_getElem? (i := 76) rfl)) rfl
theorem wt_86 : (Cond.superclass "PenAcres$HeirKind" "PenAcres$MiserKind") ∈ wG := wG_mem (tm_0 (List.mem_of_getElem? (i := 86) rfl)) rfl
theorem wt_96 : (Cond.superclass "PenAcres$LeftKind" "PenAcres$DukeKind") ∈ wG := wG_mem (tm_0 (List.mem_of_getElem? (i := 96) rfl)) rfl
theorem wt_110 : (Cond.fieldLink "PenAcres$Hand" 9 "PenAcres$Hand" "kind" "LPenAcres$HandKind;") ∈ wG := wG_mem (tm_0 (List.mem_of_getElem? (i := 110) rfl)) rfl
theorem wt_111 : (Cond.fieldLink "PenAcres" 153 "PenAcres$Hand" "kind" "LPenAcres$HandKind;") ∈ wG := wG_mem (tm_0 (List.mem_of_getElem? (i := 111) rfl)) rfl
theorem wt_112 : (Cond.fieldLink "PenAcres$Hand" 22 "PenAcres$Hand" "at" "I") ∈ wG := wG_mem (tm_0 (List.mem_of_getElem? (i := 112) rfl)) rfl
theorem wt_113 : (Cond.fieldLink "PenAcres" 160 "PenAcres$Hand" "at" "I") ∈ wG := wG_mem (tm_0 (List.mem_of_getElem? (i := 113) rfl)) rfl
theorem wt_114 : (Cond.fieldLink "PenAcres$Hand" 26 "PenAcres$Hand" "ink" "I") ∈ wG := wG_mem (tm_0 (List.mem_of_getElem? (i := 114) rfl)) rfl
theorem wt_115 : (Cond.fieldLink "PenAcres$Tape" 87 "PenAcres$Hand" "ink" "I") ∈ wG := wG_mem (tm_0 (List.mem_of_getElem? (i := 115) rfl)) rfl
theorem wt_116 : (Cond.fieldLink "PenAcres" 163 "PenAcres$Hand" "ink" "I") ∈ wG := wG_mem (tm_0 (List.mem_of_getElem? (i := 116) rfl)) rfl
theorem wt_117 : (Cond.fieldLink "PenAcres$Land" 76 "PenAcres$Hand" "ink" "I") ∈ wG := wG_mem (tm_0 (List.mem_of_getElem? (i := 117) rfl)) rfl
theorem wt_118 : (Cond.fieldLink "PenAcres$Hand" 29 "PenAcres$Hand" "corn" "I") ∈ wG := wG_mem (tm_0 (List.mem_of_getElem? (i := 118) rfl)) rfl
theorem wt_119 : (Cond.fieldLink "PenAcres" 166 "PenAcres$Hand" "corn" "I") ∈ wG := wG_mem (tm_0 (List.mem_of_getElem? (i := 119) rfl)) rfl
theorem wt_120 : (Cond.fieldLink "PenAcres$Land" 105 "PenAcres$Hand" "corn" "I") ∈ wG := wG_mem (tm_0 (List.mem_of_getElem? (i := 120) rfl)) rfl
theorem wt_121 : (Cond.fieldLink "PenAcres$Hand" 32 "PenAcres$Hand" "strokes" "I") ∈ wG := wG_mem (tm_0 (List.mem_of_getElem? (i := 121) rfl)) rfl
theorem wt_122 : (Cond.fieldLink "PenAcres" 150 "PenAcres$Hand" "strokes" "I") ∈ wG := wG_mem (tm_0 (List.mem_of_getElem? (i := 122) rfl)) rfl
theorem wt_123 : (Cond.fieldLink "PenAcres$Land" 108 "PenAcres$Hand" "strokes" "I") ∈ wG := wG_mem (tm_0 (List.mem_of_getElem? (i := 123) rfl)) rfl
theorem wt_124 : (Cond.fieldLink "PenAcres$Hand" 15 "PenAcres$Hand" "ways" "[I") ∈ wG := wG_mem (tm_0 (List.mem_of_getElem? (i := 124) rfl)) rfl
theorem wt_125 : (Cond.fieldLink "PenAcres" 190 "PenAcres$Hand" "ways" "[I") ∈ wG := wG_mem (tm_0 (List.mem_of_getElem? (i := 125) rfl)) rfl
theorem wt_126 : (Cond.fieldLink "PenAcres$Hand" 19 "PenAcres$Hand" "lengths" "[I") ∈ wG := wG_mem (tm_0 (List.mem_of_getElem? (i := 126) rfl)) rfl
theorem wt_127 : (Cond.fieldLink "PenAcres" 193 "PenAcres$Hand" "lengths" "[I") ∈ wG := wG_mem (tm_0 (List.mem_of_getElem? (i := 127) rfl)) rfl
theorem wt_128 : (Cond.fieldLink "PenAcres$Hand" 41 "PenAcres$Hand" "path" "J") ∈ wG := wG_mem (tm_0 (List.mem_of_getElem? (i := 128) rfl)) rfl
theorem wt_129 : (Cond.fieldLink "PenAcres$Hand" 45 "PenAcres$Hand" "cost" "I") ∈ wG := wG_mem (tm_0 (List.mem_of_getElem? (i := 129) rfl)) rfl
theorem wt_130 : (Cond.fieldLink "PenAcres" 169 "PenAcres$Hand" "cost" "I") ∈ wG := wG_mem (tm_0 (List.mem_of_getElem? (i := 130) rfl)) rfl
theorem wt_131 : (Cond.fieldLink "PenAcres$Land" 111 "PenAcres$Hand" "cost" "I") ∈ wG := wG_mem (tm_0 (List.mem_of_getElem? (i := 131) rfl)) rfl
theorem wt_132 : (Cond.fieldLink "PenAcres$Hand" 54 "PenAcres$Hand" "lineSeen" "J") ∈ wG := wG_mem (tm_0 (List.mem_of_getElem? (i := 132) rfl)) rfl
theorem wt_133 : (Cond.fieldLink "PenAcres$Hand" 57 "PenAcres$Hand" "insideSeen" "J") ∈ wG := wG_mem (tm_0 (List.mem_of_getElem? (i := 133) rfl)) rfl
theorem wt_158 : (Cond.fieldLink "PenAcres$Land" 28 "PenAcres$Land" "smudged" "J") ∈ wG := wG_mem (tm_0 (List.mem_of_getElem? (i := 158) rfl)) rfl
theorem wt_159 : (Cond.fieldLink "PenAcres" 91 "PenAcres$Land" "smudged" "J") ∈ wG := wG_mem (tm_0 (List.mem_of_getElem? (i := 159) rfl)) rfl
theorem wt_160 : (Cond.fieldLink "PenAcres$Land" 32 "PenAcres$Land" "year" "I") ∈ wG := wG_mem (tm_0 (List.mem_of_getElem? (i := 160) rfl)) rfl
theorem wt_161 : (Cond.fieldLink "PenAcres" 224 "PenAcres$Land" "year" "I") ∈ wG := wG_mem (tm_0 (List.mem_of_getElem? (i := 161) rfl)) rfl
theorem wt_162 : (Cond.fieldLink "PenAcres$Land" 36 "PenAcres$Land" "hands" "I") ∈ wG := wG_mem (tm_0 (List.mem_of_getElem? (i := 162) rfl)) rfl
theorem wt_163 : (Cond.fieldLink "PenAcres" 127 "PenAcres$Land" "hands" "I") ∈ wG := wG_mem (tm_0 (List.mem_of_getElem? (i := 163) rfl)) rfl
theorem wt_164 : (Cond.fieldLink "PenAcres$Land" 11 "PenAcres$Land" "rows" "[LPenAcres$Hand;") ∈ wG := wG_mem (tm_0 (List.mem_of_getElem? (i := 164) rfl)) rfl
theorem wt_165 : (Cond.fieldLink "PenAcres$Land" 20 "PenAcres$Land" "claims" "[J") ∈ wG := wG_mem (tm_0 (List.mem_of_getElem? (i := 165) rfl)) rfl
theorem wt_166 : (Cond.fieldLink "PenAcres$Land" 24 "PenAcres$Land" "ownedCells" "[I") ∈ wG := wG_mem (tm_0 (List.mem_of_getElem? (i := 166) rfl)) rfl
theorem wt_187 : (Cond.fieldLink "PenAcres$Tape" 15 "PenAcres$Tape" "size" "I") ∈ wG := wG_mem (tm_0 (List.mem_of_getElem? (i := 187) rfl)) rfl
theorem wt_188 : (Cond.fieldLink "PenAcres" 283 "PenAcres$Tape" "size" "I") ∈ wG := wG_mem (tm_0 (List.mem_of_getElem? (i := 188) rfl)) rfl
theorem wt_189 : (Cond.fieldLink "PenAcres$Tape" 9 "PenAcres$Tape" "bytes" "[C") ∈ wG := wG_mem (tm_0 (List.mem_of_getElem? (i := 189) rfl)) rfl
theorem wt_190 : (Cond.fieldLink "PenAcres$Tape" 32 "PenAcres$Tape" "sort" "I") ∈ wG := wG_mem (tm_0 (List.mem_of_getElem? (i := 190) rfl)) rfl
theorem wt_191 : (Cond.fieldLink "PenAcres$Tape" 29 "PenAcres$Tape" "start" "I") ∈ wG := wG_mem (tm_0 (List.mem_of_getElem? (i := 191) rfl)) rfl
theorem wt_192 : (Cond.fieldLink "PenAcres$Tape" 19 "PenAcres$Tape" "behind" "I") ∈ wG := wG_mem (tm_0 (List.mem_of_getElem? (i := 192) rfl)) rfl
theorem wt_193 : (Cond.fieldLink "PenAcres$Tape" 65 "PenAcres$Tape" "value" "I") ∈ wG := wG_mem (tm_0 (List.mem_of_getElem? (i := 193) rfl)) rfl
theorem wt_215 : (Cond.fieldLink "PenAcres$Sheet" 15 "PenAcres$Sheet" "bits" "I") ∈ wG := wG_mem (tm_0 (List.mem_of_getElem? (i := 215) rfl)) rfl
theorem wt_216 : (Cond.fieldLink "PenAcres" 320 "PenAcres$Sheet" "bits" "I") ∈ wG := wG_mem (tm_0 (List.mem_of_getElem? (i := 216) rfl)) rfl
theorem wt_217 : (Cond.fieldLink "PenAcres$Sheet" 19 "PenAcres$Sheet" "size" "I") ∈ wG := wG_mem (tm_0 (List.mem_of_getElem? (i := 217) rfl)) rfl
theorem wt_218 : (Cond.fieldLink "PenAcres" 307 "PenAcres$Sheet" "size" "I") ∈ wG := wG_mem (tm_0 (List.mem_of_getElem? (i := 218) rfl)) rfl
theorem wt_219 : (Cond.fieldLink "PenAcres$Sheet" 9 "PenAcres$Sheet" "numbers" "[J") ∈ wG := wG_mem (tm_0 (List.mem_of_getElem? (i := 219) rfl)) rfl
theorem wt_220 : (Cond.fieldLink "PenAcres" 312 "PenAcres$Sheet" "numbers" "[J") ∈ wG := wG_mem (tm_0 (List.mem_of_getElem? (i := 220) rfl)) rfl
theorem wt_228 : (Cond.fieldLink "PenAcres" 41 "PenAcres" "kinds" "[LPenAcres$HandKind;") ∈ wG := wG_mem (tm_0 (List.mem_of_getElem? (i := 228) rfl)) rfl
theorem wt_229 : (Cond.fieldLink "PenAcres" 50 "PenAcres" "land" "LPenAcres$Land;") ∈ wG := wG_mem (tm_0 (List.mem_of_getElem? (i := 229) rfl)) rfl
theorem wt_230 : (Cond.fieldLink "PenAcres" 54 "PenAcres" "ahead" "LPenAcres$Land;") ∈ wG := wG_mem (tm_0 (List.mem_of_getElem? (i := 230) rfl)) rfl
theorem wt_231 : (Cond.fieldLink "PenAcres" 57 "PenAcres" "kept" "LPenAcres$Land;") ∈ wG := wG_mem (tm_0 (List.mem_of_getElem? (i := 231) rfl)) rfl
theorem wt_232 : (Cond.fieldLink "PenAcres" 338 "PenAcres" "keeps" "Z") ∈ wG := wG_mem (tm_0 (List.mem_of_getElem? (i := 232) rfl)) rfl
theorem wt_233 : (Cond.fieldLink "PenAcres" 63 "PenAcres" "tape" "LPenAcres$Tape;") ∈ wG := wG_mem (tm_0 (List.mem_of_getElem? (i := 233) rfl)) rfl
theorem wt_234 : (Cond.fieldLink "PenAcres" 69 "PenAcres" "sheets" "[LPenAcres$Sheet;") ∈ wG := wG_mem (tm_0 (List.mem_of_getElem? (i := 234) rfl)) rfl
theorem wt_235 : (Cond.fieldLink "PenAcres" 74 "PenAcres" "answered" "[I") ∈ wG := wG_mem (tm_0 (List.mem_of_getElem? (i := 235) rfl)) rfl
theorem wt_256 : (Cond.code ⟨"PenAcres", "smudge", "(II)I"⟩ prog_1_method_2_code 4 (Option.some Jvm.ClassFile.FieldType.int)) ∈ wG := wG_mem (tm_1 (List.mem_of_getElem? (i := 16) rfl)) rfl
theorem wt_257 : (Cond.methodLink "PenAcres" 78 ⟨"PenAcres", "isCell", "(I)Z"⟩) ∈ wG := wG_mem (tm_1 (List.mem_of_getElem? (i := 17) rfl)) rfl
theorem wt_258 : (Cond.static ⟨"PenAcres", "isCell", "(I)Z"⟩) ∈ wG := wG_mem (tm_1 (List.mem_of_getElem? (i := 18) rfl)) rfl
theorem wt_259 : (Cond.code ⟨"PenAcres", "isCell", "(I)Z"⟩ prog_1_method_48_code 1 (Option.some Jvm.ClassFile.FieldType.boolean)) ∈ wG := wG_mem (tm_1 (List.mem_of_getElem? (i := 19) rfl)) rfl
theorem wt_260 : (Cond.methodLink "PenAcres" 82 ⟨"PenAcres", "within", "(III)Z"⟩) ∈ wG := wG_mem (tm_1 (List.mem_of_getElem? (i := 20) rfl)) rfl
theorem wt_261 : (Cond.static ⟨"PenAcres", "within", "(III)Z"⟩) ∈ wG := wG_mem (tm_1 (List.mem_of_getElem? (i := 21) rfl)) rfl
theorem wt_262 : (Cond.code ⟨"PenAcres", "within", "(III)Z"⟩ prog_1_method_47_code 3 (Option.some Jvm.ClassFile.FieldType.boolean)) ∈ wG := wG_mem (tm_1 (List.mem_of_getElem? (i := 22) rfl)) rfl
theorem wt_263 : (Cond.constant "PenAcres" 86 (-1000000001 : Int32)) ∈ wG := wG_mem (tm_1 (List.mem_of_getElem? (i := 23) rfl)) rfl
theorem wt_264 : (Cond.methodLink "PenAcres" 87 ⟨"PenAcres", "finding", "(I)I"⟩) ∈ wG := wG_mem (tm_1 (List.mem_of_getElem? (i := 24) rfl)) rfl
theorem wt_266 : (Cond.instanceMethod ⟨"PenAcres", "finding", "(I)I"⟩) ∈ wG := wG_mem (tm_1 (List.mem_of_getElem? (i := 26) rfl)) rfl
theorem wt_267 : (Cond.code ⟨"PenAcres", "finding", "(I)I"⟩ prog_1_method_43_code 3 (Option.some Jvm.ClassFile.FieldType.int)) ∈ wG := wG_mem (tm_1 (List.mem_of_getElem? (i := 27) rfl)) rfl
theorem wt_268 : (Cond.methodLink "PenAcres" 95 ⟨"PenAcres", "bitOf", "(JI)I"⟩) ∈ wG := wG_mem (tm_1 (List.mem_of_getElem? (i := 28) rfl)) rfl
theorem wt_269 : (Cond.static ⟨"PenAcres", "bitOf", "(JI)I"⟩) ∈ wG := wG_mem (tm_1 (List.mem_of_getElem? (i := 29) rfl)) rfl
theorem wt_270 : (Cond.code ⟨"PenAcres", "bitOf", "(JI)I"⟩ prog_1_method_55_code 3 (Option.some Jvm.ClassFile.FieldType.int)) ∈ wG := wG_mem (tm_1 (List.mem_of_getElem? (i := 30) rfl)) rfl
theorem wt_271 : (Cond.methodLink "PenAcres" 99 ⟨"PenAcres$Land", "makeSmudged", "(IZ)V"⟩) ∈ wG := wG_mem (tm_1 (List.mem_of_getElem? (i := 31) rfl)) rfl
theorem wt_272 : (Cond.instanceMethod ⟨"PenAcres$Land", "makeSmudged", "(IZ)V"⟩) ∈ wG := wG_mem (tm_1 (List.mem_of_getElem? (i := 32) rfl)) rfl
theorem wt_273 : (Cond.selects "PenAcres$Land" ⟨"PenAcres$Land", "makeSmudged", "(IZ)V"⟩ ⟨"PenAcres$Land", "makeSmudged", "(IZ)V"⟩) ∈ wG := wG_mem (tm_1 (List.mem_of_getElem? (i := 33) rfl)) rfl
theorem wt_274 : (Cond.code ⟨"PenAcres$Land", "makeSmudged", "(IZ)V"⟩ prog_7_method_7_code 3 (Option.none : Option Jvm.ClassFile.FieldType)) ∈ wG := wG_mem (tm_1 (List.mem_of_getElem? (i := 34) rfl)) rfl
theorem wt_275 : (Cond.methodLink "PenAcres$Land" 54 ⟨"PenAcres$Grid", "bit", "(I)J"⟩) ∈ wG := wG_mem (tm_1 (List.mem_of_getElem? (i := 35) rfl)) rfl
theorem wt_276 : (Cond.static ⟨"PenAcres$Grid", "bit", "(I)J"⟩) ∈ wG := wG_mem (tm_1 (List.mem_of_getElem? (i := 36) rfl)) rfl
theorem wt_277 : (Cond.code ⟨"PenAcres$Grid", "bit", "(I)J"⟩ prog_3_method_2_code 1 (Option.some Jvm.ClassFile.FieldType.long)) ∈ wG := wG_mem (tm_1 (List.mem_of_getElem? (i := 37) rfl)) rfl
theorem wt_278 : (Cond.constantLong "PenAcres$Land" 60 (-1 : Int64)) ∈ wG := wG_mem (tm_1 (List.mem_of_getElem? (i := 38) rfl)) rfl
theorem wt_282 : (Cond.code ⟨"PenAcres", "cell", "(II)I"⟩ prog_1_method_3_code 3 (Option.some Jvm.ClassFile.FieldType.int)) ∈ wG := wG_mem (tm_1 (List.mem_of_getElem? (i := 42) rfl)) rfl
theorem wt_283 : (Cond.methodLink "PenAcres" 103 ⟨"PenAcres$Land", "handsOnWhoseLines", "(I)I"⟩) ∈ wG := wG_mem (tm_1 (List.mem_of_getElem? (i := 43) rfl)) rfl
theorem wt_284 : (Cond.instanceMethod ⟨"PenAcres$Land", "handsOnWhoseLines", "(I)I"⟩) ∈ wG := wG_mem (tm_1 (List.mem_of_getElem? (i := 44) rfl)) rfl
theorem wt_285 : (Cond.selects "PenAcres$Land" ⟨"PenAcres$Land", "handsOnWhoseLines", "(I)I"⟩ ⟨"PenAcres$Land", "handsOnWhoseLines", "(I)I"⟩) ∈ wG := wG_mem (tm_1 (List.mem_of_getElem? (i := 45) rfl)) rfl
theorem wt_286 : (Cond.code ⟨"PenAcres$Land", "handsOnWhoseLines", "(I)I"⟩ prog_7_method_8_code 4 (Option.some Jvm.ClassFile.FieldType.int)) ∈ wG := wG_mem (tm_1 (List.mem_of_getElem? (i := 46) rfl)) rfl
theorem wt_287 : (Cond.methodLink "PenAcres$Land" 62 ⟨"PenAcres$Hand", "lineUnder", "(J)J"⟩) ∈ wG := wG_mem (tm_1 (List.mem_of_getElem? (i := 47) rfl)) rfl
theorem wt_288 : (Cond.instanceMethod ⟨"PenAcres$Hand", "lineUnder", "(J)J"⟩) ∈ wG := wG_mem (tm_1 (List.mem_of_getElem? (i := 48) rfl)) rfl
theorem wt_289 : (Cond.selects "PenAcres$Hand" ⟨"PenAcres$Hand", "lineUnder", "(J)J"⟩ ⟨"PenAcres$Hand", "lineUnder", "(J)J"⟩) ∈ wG := wG_mem (tm_1 (List.mem_of_getElem? (i := 49) rfl)) rfl
theorem wt_290 : (Cond.code ⟨"PenAcres$Hand", "lineUnder", "(J)J"⟩ prog_4_method_10_code 3 (Option.some Jvm.ClassFile.FieldType.long)) ∈ wG := wG_mem (tm_1 (List.mem_of_getElem? (i := 50) rfl)) rfl
theorem wt_291 : (Cond.constantLong "PenAcres$Hand" 76 (-1 : Int64)) ∈ wG := wG_mem (tm_1 (List.mem_of_getElem? (i := 51) rfl)) rfl
theorem wt_293 : (Cond.methodLink "PenAcres" 106 ⟨"PenAcres$Land", "handsAround", "(I)I"⟩) ∈ wG := wG_mem (tm_1 (List.mem_of_getElem? (i := 53) rfl)) rfl
theorem wt_294 : (Cond.instanceMethod ⟨"PenAcres$Land", "handsAround", "(I)I"⟩) ∈ wG := wG_mem (tm_1 (List.mem_of_getElem? (i := 54) rfl)) rfl
theorem wt_295 : (Cond.selects "PenAcres$Land" ⟨"PenAcres$Land", "handsAround", "(I)I"⟩ ⟨"PenAcres$Land", "handsAround", "(I)I"⟩) ∈ wG := wG_mem (tm_1 (List.mem_of_getElem? (i := 55) rfl)) rfl
theorem wt_296 : (Cond.code ⟨"PenAcres$Land", "handsAround", "(I)I"⟩ prog_7_method_9_code 4 (Option.some Jvm.ClassFile.FieldType.int)) ∈ wG := wG_mem (tm_1 (List.mem_of_getElem? (i := 56) rfl)) rfl
theorem wt_297 : (Cond.methodLink "PenAcres$Land" 70 ⟨"PenAcres$Hand", "insideUnder", "(J)J"⟩) ∈ wG := wG_mem (tm_1 (List.mem_of_getElem? (i := 57) rfl)) rfl
theorem wt_298 : (Cond.instanceMethod ⟨"PenAcres$Hand", "insideUnder", "(J)J"⟩) ∈ wG := wG_mem (tm_1 (List.mem_of_getElem? (i := 58) rfl)) rfl
theorem wt_299 : (Cond.selects "PenAcres$Hand" ⟨"PenAcres$Hand", "insideUnder", "(J)J"⟩ ⟨"PenAcres$Hand", "insideUnder", "(J)J"⟩) ∈ wG := wG_mem (tm_1 (List.mem_of_getElem? (i := 59) rfl)) rfl
theorem wt_300 : (Cond.code ⟨"PenAcres$Hand", "insideUnder", "(J)J"⟩ prog_4_method_11_code 5 (Option.some Jvm.ClassFile.FieldType.long)) ∈ wG := wG_mem (tm_1 (List.mem_of_getElem? (i := 60) rfl)) rfl
theorem wt_301 : (Cond.methodLink "PenAcres$Hand" 78 ⟨"PenAcres$Hand", "lineUnder", "(J)J"⟩) ∈ wG := wG_mem (tm_1 (List.mem_of_getElem? (i := 61) rfl)) rfl
theorem wt_302 : (Cond.methodLink "PenAcres$Hand" 82 ⟨"PenAcres$Grid", "enclosedBy", "(J)J"⟩) ∈ wG := wG_mem (tm_1 (List.mem_of_getElem? (i := 62) rfl)) rfl
theorem wt_303 : (Cond.static ⟨"PenAcres$Grid", "enclosedBy", "(J)J"⟩) ∈ wG := wG_mem (tm_1 (List.mem_of_getElem? (i := 63) rfl)) rfl
theorem wt_304 : (Cond.code ⟨"PenAcres$Grid", "enclosedBy", "(J)J"⟩ prog_3_method_5_code 9 (Option.some Jvm.ClassFile.FieldType.long)) ∈ wG := wG_mem (tm_1 (List.mem_of_getElem? (i := 64) rfl)) rfl
theorem wt_305 : (Cond.constantLong "PenAcres$Grid" 13 (281474976710655 : Int64)) ∈ wG := wG_mem (tm_1 (List.mem_of_getElem? (i := 65) rfl)) rfl
theorem wt_306 : (Cond.constantLong "PenAcres$Grid" 15 (-1 : Int64)) ∈ wG := wG_mem (tm_1 (List.mem_of_getElem? (i := 66) rfl)) rfl
theorem wt_307 : (Cond.constantLong "PenAcres$Grid" 17 (280931688612351 : Int64)) ∈ wG := wG_mem (tm_1 (List.mem_of_getElem? (i := 67) rfl)) rfl
theorem wt_308 : (Cond.methodLink "PenAcres$Grid" 19 ⟨"PenAcres$Grid", "withBeside", "(J)J"⟩) ∈ wG := wG_mem (tm_1 (List.mem_of_getElem? (i := 68) rfl)) rfl
theorem wt_309 : (Cond.static ⟨"PenAcres$Grid", "withBeside", "(J)J"⟩) ∈ wG := wG_mem (tm_1 (List.mem_of_getElem? (i := 69) rfl)) rfl
theorem wt_310 : (Cond.code ⟨"PenAcres$Grid", "withBeside", "(J)J"⟩ prog_3_method_4_code 8 (Option.some Jvm.ClassFile.FieldType.long)) ∈ wG := wG_mem (tm_1 (List.mem_of_getElem? (i := 70) rfl)) rfl
theorem wt_311 : (Cond.constantLong "PenAcres$Grid" 9 (-141289400074369 : Int64)) ∈ wG := wG_mem (tm_1 (List.mem_of_getElem? (i := 71) rfl)) rfl
theorem wt_312 : (Cond.constantLong "PenAcres$Grid" 11 (-1103823438082 : Int64)) ∈ wG := wG_mem (tm_1 (List.mem_of_getElem? (i := 72) rfl)) rfl
theorem wt_313 : (Cond.methodLink "PenAcres" 109 ⟨"PenAcres$Land", "ownerOf", "(I)I"⟩) ∈ wG := wG_mem (tm_1 (List.mem_of_getElem? (i := 73) rfl)) rfl
theorem wt_314 : (Cond.instanceMethod ⟨"PenAcres$Land", "ownerOf", "(I)I"⟩) ∈ wG := wG_mem (tm_1 (List.mem_of_getElem? (i := 74) rfl)) rfl
theorem wt_315 : (Cond.selects "PenAcres$Land" ⟨"PenAcres$Land", "ownerOf", "(I)I"⟩ ⟨"PenAcres$Land", "ownerOf", "(I)I"⟩) ∈ wG := wG_mem (tm_1 (List.mem_of_getElem? (i := 75) rfl)) rfl
theorem wt_316 : (Cond.code ⟨"PenAcres$Land", "ownerOf", "(I)I"⟩ prog_7_method_14_code 3 (Option.some Jvm.ClassFile.FieldType.int)) ∈ wG := wG_mem (tm_1 (List.mem_of_getElem? (i := 76) rfl)) rfl
theorem wt_317 : (Cond.methodLink "PenAcres$Land" 83 ⟨"PenAcres$Land", "stakeClaims", "()V"⟩) ∈ wG := wG_mem (tm_1 (List.mem_of_getElem? (i := 77) rfl)) rfl
theorem wt_319 : (Cond.instanceMethod ⟨"PenAcres$Land", "stakeClaims", "()V"⟩) ∈ wG := wG_mem (tm_1 (List.mem_of_getElem? (i := 79) rfl)) rfl
theorem wt_320 : (Cond.code ⟨"PenAcres$Land", "stakeClaims", "()V"⟩ prog_7_method_11_code 2 (Option.none : Option Jvm.ClassFile.FieldType)) ∈ wG := wG_mem (tm_1 (List.mem_of_getElem? (i := 80) rfl)) rfl
theorem wt_321 : (Cond.methodLink "PenAcres$Land" 73 ⟨"PenAcres$Hand", "writes", "()Z"⟩) ∈ wG := wG_mem (tm_1 (List.mem_of_getElem? (i := 81) rfl)) rfl
theorem wt_322 : (Cond.instanceMethod ⟨"PenAcres$Hand", "writes", "()Z"⟩) ∈ wG := wG_mem (tm_1 (List.mem_of_getElem? (i := 82) rfl)) rfl
theorem wt_323 : (Cond.selects "PenAcres$Hand" ⟨"PenAcres$Hand", "writes", "()Z"⟩ ⟨"PenAcres$Hand", "writes", "()Z"⟩) ∈ wG := wG_mem (tm_1 (List.mem_of_getElem? (i := 83) rfl)) rfl
theorem wt_324 : (Cond.code ⟨"PenAcres$Hand", "writes", "()Z"⟩ prog_4_method_9_code 1 (Option.some Jvm.ClassFile.FieldType.boolean)) ∈ wG := wG_mem (tm_1 (List.mem_of_getElem? (i := 84) rfl)) rfl
theorem wt_325 : (Cond.methodLink "PenAcres$Land" 86 ⟨"PenAcres$Land", "shareOf", "(I)J"⟩) ∈ wG := wG_mem (tm_1 (List.mem_of_getElem? (i := 85) rfl)) rfl
theorem wt_327 : (Cond.instanceMethod ⟨"PenAcres$Land", "shareOf", "(I)J"⟩) ∈ wG := wG_mem (tm_1 (List.mem_of_getElem? (i := 87) rfl)) rfl
theorem wt_328 : (Cond.code ⟨"PenAcres$Land", "shareOf", "(I)J"⟩ prog_7_method_13_code 5 (Option.some Jvm.ClassFile.FieldType.long)) ∈ wG := wG_mem (tm_1 (List.mem_of_getElem? (i := 88) rfl)) rfl
theorem wt_329 : (Cond.methodLink "PenAcres$Land" 79 ⟨"PenAcres$Land", "goesBefore", "(II)Z"⟩) ∈ wG := wG_mem (tm_1 (List.mem_of_getElem? (i := 89) rfl)) rfl
theorem wt_331 : (Cond.instanceMethod ⟨"PenAcres$Land", "goesBefore", "(II)Z"⟩) ∈ wG := wG_mem (tm_1 (List.mem_of_getElem? (i := 91) rfl)) rfl
theorem wt_332 : (Cond.code ⟨"PenAcres$Land", "goesBefore", "(II)Z"⟩ prog_7_method_12_code 5 (Option.some Jvm.ClassFile.FieldType.boolean)) ∈ wG := wG_mem (tm_1 (List.mem_of_getElem? (i := 92) rfl)) rfl
theorem wt_336 : (Cond.code ⟨"PenAcres", "cells", "(I)J"⟩ prog_1_method_4_code 2 (Option.some Jvm.ClassFile.FieldType.long)) ∈ wG := wG_mem (tm_1 (List.mem_of_getElem? (i := 96) rfl)) rfl
theorem wt_337 : (Cond.methodLink "PenAcres" 112 ⟨"PenAcres$Land", "disputed", "()J"⟩) ∈ wG := wG_mem (tm_1 (List.mem_of_getElem? (i := 97) rfl)) rfl
theorem wt_338 : (Cond.instanceMethod ⟨"PenAcres$Land", "disputed", "()J"⟩) ∈ wG := wG_mem (tm_1 (List.mem_of_getElem? (i := 98) rfl)) rfl
theorem wt_339 : (Cond.selects "PenAcres$Land" ⟨"PenAcres$Land", "disputed", "()J"⟩ ⟨"PenAcres$Land", "disputed", "()J"⟩) ∈ wG := wG_mem (tm_1 (List.mem_of_getElem? (i := 99) rfl)) rfl
theorem wt_340 : (Cond.code ⟨"PenAcres$Land", "disputed", "()J"⟩ prog_7_method_17_code 6 (Option.some Jvm.ClassFile.FieldType.long)) ∈ wG := wG_mem (tm_1 (List.mem_of_getElem? (i := 100) rfl)) rfl
theorem wt_341 : (Cond.methodLink "PenAcres" 116 ⟨"PenAcres$Land", "owned", "()J"⟩) ∈ wG := wG_mem (tm_1 (List.mem_of_getElem? (i := 101) rfl)) rfl
theorem wt_342 : (Cond.instanceMethod ⟨"PenAcres$Land", "owned", "()J"⟩) ∈ wG := wG_mem (tm_1 (List.mem_of_getElem? (i := 102) rfl)) rfl
theorem wt_343 : (Cond.selects "PenAcres$Land" ⟨"PenAcres$Land", "owned", "()J"⟩ ⟨"PenAcres$Land", "owned", "()J"⟩) ∈ wG := wG_mem (tm_1 (List.mem_of_getElem? (i := 103) rfl)) rfl
theorem wt_344 : (Cond.code ⟨"PenAcres$Land", "owned", "()J"⟩ prog_7_method_16_code 4 (Option.some Jvm.ClassFile.FieldType.long)) ∈ wG := wG_mem (tm_1 (List.mem_of_getElem? (i := 104) rfl)) rfl
theorem wt_348 : (Cond.code ⟨"PenAcres", "hand", "(II)I"⟩ prog_1_method_5_code 4 (Option.some Jvm.ClassFile.FieldType.int)) ∈ wG := wG_mem (tm_1 (List.mem_of_getElem? (i := 108) rfl)) rfl
theorem wt_349 : (Cond.methodLink "PenAcres" 119 ⟨"PenAcres", "isKind", "(I)Z"⟩) ∈ wG := wG_mem (tm_1 (List.mem_of_getElem? (i := 109) rfl)) rfl
theorem wt_350 : (Cond.static ⟨"PenAcres", "isKind", "(I)Z"⟩) ∈ wG := wG_mem (tm_1 (List.mem_of_getElem? (i := 110) rfl)) rfl
theorem wt_351 : (Cond.code ⟨"PenAcres", "isKind", "(I)Z"⟩ prog_1_method_49_code 1 (Option.some Jvm.ClassFile.FieldType.boolean)) ∈ wG := wG_mem (tm_1 (List.mem_of_getElem? (i := 111) rfl)) rfl
theorem wt_352 : (Cond.methodLink "PenAcres" 122 ⟨"PenAcres$Land", "newHand", "(LPenAcres$HandKind;I)LPenAcres$Hand;"⟩) ∈ wG := wG_mem (tm_1 (List.mem_of_getElem? (i := 112) rfl)) rfl
theorem wt_353 : (Cond.instanceMethod ⟨"PenAcres$Land", "newHand", "(LPenAcres$HandKind;I)LPenAcres$Hand;"⟩) ∈ wG := wG_mem (tm_1 (List.mem_of_getElem? (i := 113) rfl)) rfl
theorem wt_354 : (Cond.selects "PenAcres$Land" ⟨"PenAcres$Land", "newHand", "(LPenAcres$HandKind;I)LPenAcres$Hand;"⟩ ⟨"PenAcres$Land", "newHand", "(LPenAcres$HandKind;I)LPenAcres$Hand;"⟩) ∈ wG := wG_mem (tm_1 (List.mem_of_getElem? (i := 114) rfl)) rfl
theorem wt_355 : (Cond.code ⟨"PenAcres$Land", "newHand", "(LPenAcres$HandKind;I)LPenAcres$Hand;"⟩ prog_7_method_4_code 4 (Option.some (Jvm.ClassFile.FieldType.object "PenAcres$Hand"))) ∈ wG := wG_mem (tm_1 (List.mem_of_getElem? (i := 115) rfl)) rfl
theorem wt_356 : (Cond.methodLink "PenAcres$Land" 43 ⟨"PenAcres$Land", "isFull", "()Z"⟩) ∈ wG := wG_mem (tm_1 (List.mem_of_getElem? (i := 116) rfl)) rfl
theorem wt_357 : (Cond.instanceMethod ⟨"PenAcres$Land", "isFull", "()Z"⟩) ∈ wG := wG_mem (tm_1 (List.mem_of_getElem? (i := 117) rfl)) rfl
theorem wt_358 : (Cond.selects "PenAcres$Land" ⟨"PenAcres$Land", "isFull", "()Z"⟩ ⟨"PenAcres$Land", "isFull", "()Z"⟩) ∈ wG := wG_mem (tm_1 (List.mem_of_getElem? (i := 118) rfl)) rfl
theorem wt_359 : (Cond.code ⟨"PenAcres$Land", "isFull", "()Z"⟩ prog_7_method_3_code 1 (Option.some Jvm.ClassFile.FieldType.boolean)) ∈ wG := wG_mem (tm_1 (List.mem_of_getElem? (i := 119) rfl)) rfl
theorem wt_360 : (Cond.methodLink "PenAcres$Land" 47 ⟨"PenAcres$Hand", "startAnew", "(LPenAcres$HandKind;I)V"⟩) ∈ wG := wG_mem (tm_1 (List.mem_of_getElem? (i := 120) rfl)) rfl
theorem wt_361 : (Cond.instanceMethod ⟨"PenAcres$Hand", "startAnew", "(LPenAcres$HandKind;I)V"⟩) ∈ wG := wG_mem (tm_1 (List.mem_of_getElem? (i := 121) rfl)) rfl
theorem wt_362 : (Cond.selects "PenAcres$Hand" ⟨"PenAcres$Hand", "startAnew", "(LPenAcres$HandKind;I)V"⟩ ⟨"PenAcres$Hand", "startAnew", "(LPenAcres$HandKind;I)V"⟩) ∈ wG := wG_mem (tm_1 (List.mem_of_getElem? (i := 122) rfl)) rfl
theorem wt_363 : (Cond.code ⟨"PenAcres$Hand", "startAnew", "(LPenAcres$HandKind;I)V"⟩ prog_4_method_2_code 3 (Option.none : Option Jvm.ClassFile.FieldType)) ∈ wG := wG_mem (tm_1 (List.mem_of_getElem? (i := 123) rfl)) rfl
theorem wt_364 : (Cond.methodLink "PenAcres$Hand" 35 ⟨"PenAcres$Grid", "bit", "(I)J"⟩) ∈ wG := wG_mem (tm_1 (List.mem_of_getElem? (i := 124) rfl)) rfl
theorem wt_365 : (Cond.constant "PenAcres" 126 (-1000000002 : Int32)) ∈ wG := wG_mem (tm_1 (List.mem_of_getElem? (i := 125) rfl)) rfl
theorem wt_369 : (Cond.code ⟨"PenAcres", "stroke", "(III)I"⟩ prog_1_method_6_code 5 (Option.some Jvm.ClassFile.FieldType.int)) ∈ wG := wG_mem (tm_1 (List.mem_of_getElem? (i := 129) rfl)) rfl
theorem wt_370 : (Cond.methodLink "PenAcres" 131 ⟨"PenAcres$Land", "handOf", "(I)LPenAcres$Hand;"⟩) ∈ wG := wG_mem (tm_1 (List.mem_of_getElem? (i := 130) rfl)) rfl
theorem wt_371 : (Cond.instanceMethod ⟨"PenAcres$Land", "handOf", "(I)LPenAcres$Hand;"⟩) ∈ wG := wG_mem (tm_1 (List.mem_of_getElem? (i := 131) rfl)) rfl
theorem wt_372 : (Cond.selects "PenAcres$Land" ⟨"PenAcres$Land", "handOf", "(I)LPenAcres$Hand;"⟩ ⟨"PenAcres$Land", "handOf", "(I)LPenAcres$Hand;"⟩) ∈ wG := wG_mem (tm_1 (List.mem_of_getElem? (i := 132) rfl)) rfl
theorem wt_373 : (Cond.code ⟨"PenAcres$Land", "handOf", "(I)LPenAcres$Hand;"⟩ prog_7_method_5_code 2 (Option.some (Jvm.ClassFile.FieldType.object "PenAcres$Hand"))) ∈ wG := wG_mem (tm_1 (List.mem_of_getElem? (i := 133) rfl)) rfl
theorem wt_374 : (Cond.methodLink "PenAcres" 135 ⟨"PenAcres", "isWay", "(I)Z"⟩) ∈ wG := wG_mem (tm_1 (List.mem_of_getElem? (i := 134) rfl)) rfl
theorem wt_375 : (Cond.static ⟨"PenAcres", "isWay", "(I)Z"⟩) ∈ wG := wG_mem (tm_1 (List.mem_of_getElem? (i := 135) rfl)) rfl
theorem wt_376 : (Cond.code ⟨"PenAcres", "isWay", "(I)Z"⟩ prog_1_method_50_code 1 (Option.some Jvm.ClassFile.FieldType.boolean)) ∈ wG := wG_mem (tm_1 (List.mem_of_getElem? (i := 136) rfl)) rfl
theorem wt_377 : (Cond.methodLink "PenAcres" 138 ⟨"PenAcres", "isLength", "(I)Z"⟩) ∈ wG := wG_mem (tm_1 (List.mem_of_getElem? (i := 137) rfl)) rfl
theorem wt_378 : (Cond.static ⟨"PenAcres", "isLength", "(I)Z"⟩) ∈ wG := wG_mem (tm_1 (List.mem_of_getElem? (i := 138) rfl)) rfl
theorem wt_379 : (Cond.code ⟨"PenAcres", "isLength", "(I)Z"⟩ prog_1_method_51_code 1 (Option.some Jvm.ClassFile.FieldType.boolean)) ∈ wG := wG_mem (tm_1 (List.mem_of_getElem? (i := 139) rfl)) rfl
theorem wt_380 : (Cond.methodLink "PenAcres" 141 ⟨"PenAcres$Hand", "addStroke", "(II)Z"⟩) ∈ wG := wG_mem (tm_1 (List.mem_of_getElem? (i := 140) rfl)) rfl
theorem wt_381 : (Cond.instanceMethod ⟨"PenAcres$Hand", "addStroke", "(II)Z"⟩) ∈ wG := wG_mem (tm_1 (List.mem_of_getElem? (i := 141) rfl)) rfl
theorem wt_382 : (Cond.selects "PenAcres$Hand" ⟨"PenAcres$Hand", "addStroke", "(II)Z"⟩ ⟨"PenAcres$Hand", "addStroke", "(II)Z"⟩) ∈ wG := wG_mem (tm_1 (List.mem_of_getElem? (i := 142) rfl)) rfl
theorem wt_383 : (Cond.code ⟨"PenAcres$Hand", "addStroke", "(II)Z"⟩ prog_4_method_5_code 3 (Option.some Jvm.ClassFile.FieldType.boolean)) ∈ wG := wG_mem (tm_1 (List.mem_of_getElem? (i := 143) rfl)) rfl
theorem wt_384 : (Cond.methodLink "PenAcres" 147 ⟨"PenAcres$Hand", "trace", "()V"⟩) ∈ wG := wG_mem (tm_1 (List.mem_of_getElem? (i := 144) rfl)) rfl
theorem wt_385 : (Cond.instanceMethod ⟨"PenAcres$Hand", "trace", "()V"⟩) ∈ wG := wG_mem (tm_1 (List.mem_of_getElem? (i := 145) rfl)) rfl
theorem wt_386 : (Cond.selects "PenAcres$Hand" ⟨"PenAcres$Hand", "trace", "()V"⟩ ⟨"PenAcres$Hand", "trace", "()V"⟩) ∈ wG := wG_mem (tm_1 (List.mem_of_getElem? (i := 146) rfl)) rfl
theorem wt_387 : (Cond.code ⟨"PenAcres$Hand", "trace", "()V"⟩ prog_4_method_8_code 7 (Option.none : Option Jvm.ClassFile.FieldType)) ∈ wG := wG_mem (tm_1 (List.mem_of_getElem? (i := 147) rfl)) rfl
theorem wt_388 : (Cond.methodLink "PenAcres$Hand" 63 ⟨"PenAcres$HandKind", "turns", "(I)I"⟩) ∈ wG := wG_mem (tm_1 (List.mem_of_getElem? (i := 148) rfl)) rfl
theorem wt_389 : (Cond.instanceMethod ⟨"PenAcres$HandKind", "turns", "(I)I"⟩) ∈ wG := wG_mem (tm_1 (List.mem_of_getElem? (i := 149) rfl)) rfl
theorem wt_390 : (Cond.selects "PenAcres$HandKind" ⟨"PenAcres$HandKind", "turns", "(I)I"⟩ ⟨"PenAcres$HandKind", "turns", "(I)I"⟩) ∈ wG := wG_mem (tm_1 (List.mem_of_getElem? (i := 150) rfl)) rfl
theorem wt_391 : (Cond.sameMethod "PenAcres$HandKind" "PenAcres$HandKind" "turns" "(I)I") ∈ wG := wG_mem (tm_1 (List.mem_of_getElem? (i := 151) rfl)) rfl
theorem wt_392 : (Cond.selects "PenAcres$DukeKind" ⟨"PenAcres$HandKind", "turns", "(I)I"⟩ ⟨"PenAcres$HandKind", "turns", "(I)I"⟩) ∈ wG := wG_mem (tm_1 (List.mem_of_getElem? (i := 152) rfl)) rfl
theorem wt_393 : (Cond.selects "PenAcres$HeirKind" ⟨"PenAcres$HandKind", "turns", "(I)I"⟩ ⟨"PenAcres$HandKind", "turns", "(I)I"⟩) ∈ wG := wG_mem (tm_1 (List.mem_of_getElem? (i := 153) rfl)) rfl
theorem wt_394 : (Cond.selects "PenAcres$LeftKind" ⟨"PenAcres$HandKind", "turns", "(I)I"⟩ ⟨"PenAcres$LeftKind", "turns", "(I)I"⟩) ∈ wG := wG_mem (tm_1 (List.mem_of_getElem? (i := 154) rfl)) rfl
theorem wt_395 : (Cond.instanceMethod ⟨"PenAcres$LeftKind", "turns", "(I)I"⟩) ∈ wG := wG_mem (tm_1 (List.mem_of_getElem? (i := 155) rfl)) rfl
theorem wt_396 : (Cond.code ⟨"PenAcres$LeftKind", "turns", "(I)I"⟩ prog_8_method_3_code 2 (Option.some Jvm.ClassFile.FieldType.int)) ∈ wG := wG_mem (tm_1 (List.mem_of_getElem? (i := 156) rfl)) rfl
theorem wt_397 : (Cond.methodLink "PenAcres$LeftKind" 13 ⟨"PenAcres$DukeKind", "turns", "(I)I"⟩) ∈ wG := wG_mem (tm_1 (List.mem_of_getElem? (i := 157) rfl)) rfl
theorem wt_398 : (Cond.sameMethod "PenAcres$DukeKind" "PenAcres$HandKind" "turns" "(I)I") ∈ wG := wG_mem (tm_1 (List.mem_of_getElem? (i := 158) rfl)) rfl
theorem wt_400 : (Cond.selects "PenAcres$MiserKind" ⟨"PenAcres$HandKind", "turns", "(I)I"⟩ ⟨"PenAcres$HandKind", "turns", "(I)I"⟩) ∈ wG := wG_mem (tm_1 (List.mem_of_getElem? (i := 160) rfl)) rfl
theorem wt_401 : (Cond.selects "PenAcres$ShakyKind" ⟨"PenAcres$HandKind", "turns", "(I)I"⟩ ⟨"PenAcres$HandKind", "turns", "(I)I"⟩) ∈ wG := wG_mem (tm_1 (List.mem_of_getElem? (i := 161) rfl)) rfl
theorem wt_402 : (Cond.code ⟨"PenAcres$HandKind", "turns", "(I)I"⟩ prog_5_method_4_code 2 (Option.some Jvm.ClassFile.FieldType.int)) ∈ wG := wG_mem (tm_1 (List.mem_of_getElem? (i := 162) rfl)) rfl
theorem wt_403 : (Cond.methodLink "PenAcres$Hand" 69 ⟨"PenAcres$HandKind", "steps", "(II)I"⟩) ∈ wG := wG_mem (tm_1 (List.mem_of_getElem? (i := 163) rfl)) rfl
theorem wt_404 : (Cond.instanceMethod ⟨"PenAcres$HandKind", "steps", "(II)I"⟩) ∈ wG := wG_mem (tm_1 (List.mem_of_getElem? (i := 164) rfl)) rfl
theorem wt_405 : (Cond.selects "PenAcres$HandKind" ⟨"PenAcres$HandKind", "steps", "(II)I"⟩ ⟨"PenAcres$HandKind", "steps", "(II)I"⟩) ∈ wG := wG_mem (tm_1 (List.mem_of_getElem? (i := 165) rfl)) rfl
theorem wt_406 : (Cond.sameMethod "PenAcres$HandKind" "PenAcres$HandKind" "steps" "(II)I") ∈ wG := wG_mem (tm_1 (List.mem_of_getElem? (i := 166) rfl)) rfl
theorem wt_407 : (Cond.selects "PenAcres$DukeKind" ⟨"PenAcres$HandKind", "steps", "(II)I"⟩ ⟨"PenAcres$DukeKind", "steps", "(II)I"⟩) ∈ wG := wG_mem (tm_1 (List.mem_of_getElem? (i := 167) rfl)) rfl
theorem wt_408 : (Cond.instanceMethod ⟨"PenAcres$DukeKind", "steps", "(II)I"⟩) ∈ wG := wG_mem (tm_1 (List.mem_of_getElem? (i := 168) rfl)) rfl
theorem wt_409 : (Cond.code ⟨"PenAcres$DukeKind", "steps", "(II)I"⟩ prog_2_method_3_code 3 (Option.some Jvm.ClassFile.FieldType.int)) ∈ wG := wG_mem (tm_1 (List.mem_of_getElem? (i := 169) rfl)) rfl
theorem wt_410 : (Cond.methodLink "PenAcres$DukeKind" 11 ⟨"PenAcres$HandKind", "steps", "(II)I"⟩) ∈ wG := wG_mem (tm_1 (List.mem_of_getElem? (i := 170) rfl)) rfl
theorem wt_411 : (Cond.selects "PenAcres$HeirKind" ⟨"PenAcres$HandKind", "steps", "(II)I"⟩ ⟨"PenAcres$HeirKind", "steps", "(II)I"⟩) ∈ wG := wG_mem (tm_1 (List.mem_of_getElem? (i := 171) rfl)) rfl
theorem wt_412 : (Cond.instanceMethod ⟨"PenAcres$HeirKind", "steps", "(II)I"⟩) ∈ wG := wG_mem (tm_1 (List.mem_of_getElem? (i := 172) rfl)) rfl
theorem wt_413 : (Cond.code ⟨"PenAcres$HeirKind", "steps", "(II)I"⟩ prog_6_method_3_code 4 (Option.some Jvm.ClassFile.FieldType.int)) ∈ wG := wG_mem (tm_1 (List.mem_of_getElem? (i := 173) rfl)) rfl
theorem wt_414 : (Cond.methodLink "PenAcres$HeirKind" 11 ⟨"PenAcres$MiserKind", "steps", "(II)I"⟩) ∈ wG := wG_mem (tm_1 (List.mem_of_getElem? (i := 174) rfl)) rfl
theorem wt_415 : (Cond.instanceMethod ⟨"PenAcres$MiserKind", "steps", "(II)I"⟩) ∈ wG := wG_mem (tm_1 (List.mem_of_getElem? (i := 175) rfl)) rfl
theorem wt_416 : (Cond.code ⟨"PenAcres$MiserKind", "steps", "(II)I"⟩ prog_9_method_3_code 3 (Option.some Jvm.ClassFile.FieldType.int)) ∈ wG := wG_mem (tm_1 (List.mem_of_getElem? (i := 176) rfl)) rfl
theorem wt_417 : (Cond.methodLink "PenAcres$MiserKind" 11 ⟨"PenAcres$HandKind", "steps", "(II)I"⟩) ∈ wG := wG_mem (tm_1 (List.mem_of_getElem? (i := 177) rfl)) rfl
theorem wt_418 : (Cond.methodLink "PenAcres$MiserKind" 15 ⟨"java/lang/Math", "max", "(II)I"⟩) ∈ wG := wG_mem (tm_1 (List.mem_of_getElem? (i := 178) rfl)) rfl
theorem wt_419 : (Cond.static ⟨"java/lang/Math", "max", "(II)I"⟩) ∈ wG := wG_mem (tm_1 (List.mem_of_getElem? (i := 179) rfl)) rfl
theorem wt_420 : (Cond.code ⟨"java/lang/Math", "max", "(II)I"⟩ prog_16_method_65_code 2 (Option.some Jvm.ClassFile.FieldType.int)) ∈ wG := wG_mem (tm_1 (List.mem_of_getElem? (i := 180) rfl)) rfl
theorem wt_421 : (Cond.selects "PenAcres$LeftKind" ⟨"PenAcres$HandKind", "steps", "(II)I"⟩ ⟨"PenAcres$DukeKind", "steps", "(II)I"⟩) ∈ wG := wG_mem (tm_1 (List.mem_of_getElem? (i := 181) rfl)) rfl
theorem wt_422 : (Cond.selects "PenAcres$MiserKind" ⟨"PenAcres$HandKind", "steps", "(II)I"⟩ ⟨"PenAcres$MiserKind", "steps", "(II)I"⟩) ∈ wG := wG_mem (tm_1 (List.mem_of_getElem? (i := 182) rfl)) rfl
theorem wt_423 : (Cond.selects "PenAcres$ShakyKind" ⟨"PenAcres$HandKind", "steps", "(II)I"⟩ ⟨"PenAcres$ShakyKind", "steps", "(II)I"⟩) ∈ wG := wG_mem (tm_1 (List.mem_of_getElem? (i := 183) rfl)) rfl
theorem wt_424 : (Cond.instanceMethod ⟨"PenAcres$ShakyKind", "steps", "(II)I"⟩) ∈ wG := wG_mem (tm_1 (List.mem_of_getElem? (i := 184) rfl)) rfl
theorem wt_425 : (Cond.code ⟨"PenAcres$ShakyKind", "steps", "(II)I"⟩ prog_10_method_3_code 3 (Option.some Jvm.ClassFile.FieldType.int)) ∈ wG := wG_mem (tm_1 (List.mem_of_getElem? (i := 185) rfl)) rfl
theorem wt_426 : (Cond.methodLink "PenAcres$ShakyKind" 11 ⟨"PenAcres$HandKind", "steps", "(II)I"⟩) ∈ wG := wG_mem (tm_1 (List.mem_of_getElem? (i := 186) rfl)) rfl
theorem wt_427 : (Cond.methodLink "PenAcres$ShakyKind" 15 ⟨"java/lang/Math", "max", "(II)I"⟩) ∈ wG := wG_mem (tm_1 (List.mem_of_getElem? (i := 187) rfl)) rfl
theorem wt_428 : (Cond.code ⟨"PenAcres$HandKind", "steps", "(II)I"⟩ prog_5_method_3_code 3 (Option.some Jvm.ClassFile.FieldType.int)) ∈ wG := wG_mem (tm_1 (List.mem_of_getElem? (i := 188) rfl)) rfl
theorem wt_429 : (Cond.methodLink "PenAcres$Hand" 73 ⟨"PenAcres$Grid", "stepFrom", "(II)I"⟩) ∈ wG := wG_mem (tm_1 (List.mem_of_getElem? (i := 189) rfl)) rfl
theorem wt_430 : (Cond.static ⟨"PenAcres$Grid", "stepFrom", "(II)I"⟩) ∈ wG := wG_mem (tm_1 (List.mem_of_getElem? (i := 190) rfl)) rfl
theorem wt_431 : (Cond.code ⟨"PenAcres$Grid", "stepFrom", "(II)I"⟩ prog_3_method_3_code 3 (Option.some Jvm.ClassFile.FieldType.int)) ∈ wG := wG_mem (tm_1 (List.mem_of_getElem? (i := 191) rfl)) rfl
theorem wt_435 : (Cond.code ⟨"PenAcres", "of", "(II)I"⟩ prog_1_method_7_code 4 (Option.some Jvm.ClassFile.FieldType.int)) ∈ wG := wG_mem (tm_1 (List.mem_of_getElem? (i := 195) rfl)) rfl
theorem wt_436 : (Cond.methodLink "PenAcres" 172 ⟨"PenAcres$Hand", "writes", "()Z"⟩) ∈ wG := wG_mem (tm_1 (List.mem_of_getElem? (i := 196) rfl)) rfl
theorem wt_437 : (Cond.methodLink "PenAcres" 176 ⟨"PenAcres$Hand", "howManyInside", "(J)I"⟩) ∈ wG := wG_mem (tm_1 (List.mem_of_getElem? (i := 197) rfl)) rfl
theorem wt_438 : (Cond.instanceMethod ⟨"PenAcres$Hand", "howManyInside", "(J)I"⟩) ∈ wG := wG_mem (tm_1 (List.mem_of_getElem? (i := 198) rfl)) rfl
theorem wt_439 : (Cond.selects "PenAcres$Hand" ⟨"PenAcres$Hand", "howManyInside", "(J)I"⟩ ⟨"PenAcres$Hand", "howManyInside", "(J)I"⟩) ∈ wG := wG_mem (tm_1 (List.mem_of_getElem? (i := 199) rfl)) rfl
theorem wt_440 : (Cond.code ⟨"PenAcres$Hand", "howManyInside", "(J)I"⟩ prog_4_method_12_code 3 (Option.some Jvm.ClassFile.FieldType.int)) ∈ wG := wG_mem (tm_1 (List.mem_of_getElem? (i := 200) rfl)) rfl
theorem wt_441 : (Cond.methodLink "PenAcres$Hand" 85 ⟨"PenAcres$Hand", "insideUnder", "(J)J"⟩) ∈ wG := wG_mem (tm_1 (List.mem_of_getElem? (i := 201) rfl)) rfl
theorem wt_442 : (Cond.methodLink "PenAcres$Hand" 88 ⟨"java/lang/Long", "bitCount", "(J)I"⟩) ∈ wG := wG_mem (tm_1 (List.mem_of_getElem? (i := 202) rfl)) rfl
theorem wt_443 : (Cond.static ⟨"java/lang/Long", "bitCount", "(J)I"⟩) ∈ wG := wG_mem (tm_1 (List.mem_of_getElem? (i := 203) rfl)) rfl
theorem wt_444 : (Cond.code ⟨"java/lang/Long", "bitCount", "(J)I"⟩ prog_15_method_50_code 2 (Option.some Jvm.ClassFile.FieldType.int)) ∈ wG := wG_mem (tm_1 (List.mem_of_getElem? (i := 204) rfl)) rfl
theorem wt_445 : (Cond.constantLong "java/lang/Long" 314 (6148914691236517205 : Int64)) ∈ wG := wG_mem (tm_1 (List.mem_of_getElem? (i := 205) rfl)) rfl
theorem wt_446 : (Cond.constantLong "java/lang/Long" 316 (3689348814741910323 : Int64)) ∈ wG := wG_mem (tm_1 (List.mem_of_getElem? (i := 206) rfl)) rfl
theorem wt_447 : (Cond.constantLong "java/lang/Long" 318 (1085102592571150095 : Int64)) ∈ wG := wG_mem (tm_1 (List.mem_of_getElem? (i := 207) rfl)) rfl
theorem wt_448 : (Cond.methodLink "PenAcres" 180 ⟨"PenAcres$Land", "howManyOwnedBy", "(I)I"⟩) ∈ wG := wG_mem (tm_1 (List.mem_of_getElem? (i := 208) rfl)) rfl
theorem wt_449 : (Cond.instanceMethod ⟨"PenAcres$Land", "howManyOwnedBy", "(I)I"⟩) ∈ wG := wG_mem (tm_1 (List.mem_of_getElem? (i := 209) rfl)) rfl
theorem wt_450 : (Cond.selects "PenAcres$Land" ⟨"PenAcres$Land", "howManyOwnedBy", "(I)I"⟩ ⟨"PenAcres$Land", "howManyOwnedBy", "(I)I"⟩) ∈ wG := wG_mem (tm_1 (List.mem_of_getElem? (i := 210) rfl)) rfl
theorem wt_451 : (Cond.code ⟨"PenAcres$Land", "howManyOwnedBy", "(I)I"⟩ prog_7_method_15_code 2 (Option.some Jvm.ClassFile.FieldType.int)) ∈ wG := wG_mem (tm_1 (List.mem_of_getElem? (i := 211) rfl)) rfl
theorem wt_452 : (Cond.methodLink "PenAcres$Land" 89 ⟨"PenAcres$Land", "handOf", "(I)LPenAcres$Hand;"⟩) ∈ wG := wG_mem (tm_1 (List.mem_of_getElem? (i := 212) rfl)) rfl
theorem wt_453 : (Cond.methodLink "PenAcres$Land" 93 ⟨"java/lang/Long", "bitCount", "(J)I"⟩) ∈ wG := wG_mem (tm_1 (List.mem_of_getElem? (i := 213) rfl)) rfl
theorem wt_454 : (Cond.methodLink "PenAcres" 183 ⟨"PenAcres$HandKind", "crop", "()I"⟩) ∈ wG := wG_mem (tm_1 (List.mem_of_getElem? (i := 214) rfl)) rfl
theorem wt_455 : (Cond.instanceMethod ⟨"PenAcres$HandKind", "crop", "()I"⟩) ∈ wG := wG_mem (tm_1 (List.mem_of_getElem? (i := 215) rfl)) rfl
theorem wt_456 : (Cond.selects "PenAcres$HandKind" ⟨"PenAcres$HandKind", "crop", "()I"⟩ ⟨"PenAcres$HandKind", "crop", "()I"⟩) ∈ wG := wG_mem (tm_1 (List.mem_of_getElem? (i := 216) rfl)) rfl
theorem wt_457 : (Cond.sameMethod "PenAcres$HandKind" "PenAcres$HandKind" "crop" "()I") ∈ wG := wG_mem (tm_1 (List.mem_of_getElem? (i := 217) rfl)) rfl
theorem wt_458 : (Cond.selects "PenAcres$DukeKind" ⟨"PenAcres$HandKind", "crop", "()I"⟩ ⟨"PenAcres$HandKind", "crop", "()I"⟩) ∈ wG := wG_mem (tm_1 (List.mem_of_getElem? (i := 218) rfl)) rfl
theorem wt_459 : (Cond.selects "PenAcres$HeirKind" ⟨"PenAcres$HandKind", "crop", "()I"⟩ ⟨"PenAcres$HeirKind", "crop", "()I"⟩) ∈ wG := wG_mem (tm_1 (List.mem_of_getElem? (i := 219) rfl)) rfl
theorem wt_460 : (Cond.instanceMethod ⟨"PenAcres$HeirKind", "crop", "()I"⟩) ∈ wG := wG_mem (tm_1 (List.mem_of_getElem? (i := 220) rfl)) rfl
theorem wt_461 : (Cond.code ⟨"PenAcres$HeirKind", "crop", "()I"⟩ prog_6_method_4_code 1 (Option.some Jvm.ClassFile.FieldType.int)) ∈ wG := wG_mem (tm_1 (List.mem_of_getElem? (i := 221) rfl)) rfl
theorem wt_462 : (Cond.methodLink "PenAcres$HeirKind" 15 ⟨"PenAcres$MiserKind", "crop", "()I"⟩) ∈ wG := wG_mem (tm_1 (List.mem_of_getElem? (i := 222) rfl)) rfl
theorem wt_463 : (Cond.instanceMethod ⟨"PenAcres$MiserKind", "crop", "()I"⟩) ∈ wG := wG_mem (tm_1 (List.mem_of_getElem? (i := 223) rfl)) rfl
theorem wt_464 : (Cond.code ⟨"PenAcres$MiserKind", "crop", "()I"⟩ prog_9_method_4_code 1 (Option.some Jvm.ClassFile.FieldType.int)) ∈ wG := wG_mem (tm_1 (List.mem_of_getElem? (i := 224) rfl)) rfl
theorem wt_465 : (Cond.methodLink "PenAcres$MiserKind" 20 ⟨"PenAcres$HandKind", "crop", "()I"⟩) ∈ wG := wG_mem (tm_1 (List.mem_of_getElem? (i := 225) rfl)) rfl
theorem wt_466 : (Cond.selects "PenAcres$LeftKind" ⟨"PenAcres$HandKind", "crop", "()I"⟩ ⟨"PenAcres$LeftKind", "crop", "()I"⟩) ∈ wG := wG_mem (tm_1 (List.mem_of_getElem? (i := 226) rfl)) rfl
theorem wt_467 : (Cond.instanceMethod ⟨"PenAcres$LeftKind", "crop", "()I"⟩) ∈ wG := wG_mem (tm_1 (List.mem_of_getElem? (i := 227) rfl)) rfl
theorem wt_468 : (Cond.code ⟨"PenAcres$LeftKind", "crop", "()I"⟩ prog_8_method_4_code 1 (Option.some Jvm.ClassFile.FieldType.int)) ∈ wG := wG_mem (tm_1 (List.mem_of_getElem? (i := 228) rfl)) rfl
theorem wt_469 : (Cond.methodLink "PenAcres$LeftKind" 17 ⟨"PenAcres$DukeKind", "crop", "()I"⟩) ∈ wG := wG_mem (tm_1 (List.mem_of_getElem? (i := 229) rfl)) rfl
theorem wt_470 : (Cond.sameMethod "PenAcres$DukeKind" "PenAcres$HandKind" "crop" "()I") ∈ wG := wG_mem (tm_1 (List.mem_of_getElem? (i := 230) rfl)) rfl
theorem wt_472 : (Cond.selects "PenAcres$MiserKind" ⟨"PenAcres$HandKind", "crop", "()I"⟩ ⟨"PenAcres$MiserKind", "crop", "()I"⟩) ∈ wG := wG_mem (tm_1 (List.mem_of_getElem? (i := 232) rfl)) rfl
theorem wt_473 : (Cond.selects "PenAcres$ShakyKind" ⟨"PenAcres$HandKind", "crop", "()I"⟩ ⟨"PenAcres$ShakyKind", "crop", "()I"⟩) ∈ wG := wG_mem (tm_1 (List.mem_of_getElem? (i := 233) rfl)) rfl
theorem wt_474 : (Cond.instanceMethod ⟨"PenAcres$ShakyKind", "crop", "()I"⟩) ∈ wG := wG_mem (tm_1 (List.mem_of_getElem? (i := 234) rfl)) rfl
theorem wt_475 : (Cond.code ⟨"PenAcres$ShakyKind", "crop", "()I"⟩ prog_10_method_4_code 1 (Option.some Jvm.ClassFile.FieldType.int)) ∈ wG := wG_mem (tm_1 (List.mem_of_getElem? (i := 235) rfl)) rfl
theorem wt_476 : (Cond.methodLink "PenAcres$ShakyKind" 20 ⟨"PenAcres$HandKind", "crop", "()I"⟩) ∈ wG := wG_mem (tm_1 (List.mem_of_getElem? (i := 236) rfl)) rfl
theorem wt_477 : (Cond.code ⟨"PenAcres$HandKind", "crop", "()I"⟩ prog_5_method_5_code 1 (Option.some Jvm.ClassFile.FieldType.int)) ∈ wG := wG_mem (tm_1 (List.mem_of_getElem? (i := 237) rfl)) rfl
theorem wt_481 : (Cond.code ⟨"PenAcres", "told", "(III)I"⟩ prog_1_method_8_code 5 (Option.some Jvm.ClassFile.FieldType.int)) ∈ wG := wG_mem (tm_2 (List.mem_of_getElem? (i := 1) rfl)) rfl
theorem wt_482 : (Cond.methodLink "PenAcres" 187 ⟨"PenAcres$Hand", "hasStroke", "(I)Z"⟩) ∈ wG := wG_mem (tm_2 (List.mem_of_getElem? (i := 2) rfl)) rfl
theorem wt_483 : (Cond.instanceMethod ⟨"PenAcres$Hand", "hasStroke", "(I)Z"⟩) ∈ wG := wG_mem (tm_2 (List.mem_of_getElem? (i := 3) rfl)) rfl
theorem wt_484 : (Cond.selects "PenAcres$Hand" ⟨"PenAcres$Hand", "hasStroke", "(I)Z"⟩ ⟨"PenAcres$Hand", "hasStroke", "(I)Z"⟩) ∈ wG := wG_mem (tm_2 (List.mem_of_getElem? (i := 4) rfl)) rfl
theorem wt_485 : (Cond.code ⟨"PenAcres$Hand", "hasStroke", "(I)Z"⟩ prog_4_method_4_code 2 (Option.some Jvm.ClassFile.FieldType.boolean)) ∈ wG := wG_mem (tm_2 (List.mem_of_getElem? (i := 5) rfl)) rfl
theorem wt_486 : (Cond.methodLink "PenAcres" 196 ⟨"PenAcres$HandKind", "steps", "(II)I"⟩) ∈ wG := wG_mem (tm_2 (List.mem_of_getElem? (i := 6) rfl)) rfl
theorem wt_487 : (Cond.methodLink "PenAcres" 200 ⟨"PenAcres$HandKind", "turns", "(I)I"⟩) ∈ wG := wG_mem (tm_2 (List.mem_of_getElem? (i := 7) rfl)) rfl
theorem wt_491 : (Cond.code ⟨"PenAcres", "set", "(III)I"⟩ prog_1_method_9_code 6 (Option.some Jvm.ClassFile.FieldType.int)) ∈ wG := wG_mem (tm_2 (List.mem_of_getElem? (i := 11) rfl)) rfl
theorem wt_492 : (Cond.methodLink "PenAcres" 203 ⟨"PenAcres$Hand", "moveTo", "(I)V"⟩) ∈ wG := wG_mem (tm_2 (List.mem_of_getElem? (i := 12) rfl)) rfl
theorem wt_493 : (Cond.instanceMethod ⟨"PenAcres$Hand", "moveTo", "(I)V"⟩) ∈ wG := wG_mem (tm_2 (List.mem_of_getElem? (i := 13) rfl)) rfl
theorem wt_494 : (Cond.selects "PenAcres$Hand" ⟨"PenAcres$Hand", "moveTo", "(I)V"⟩ ⟨"PenAcres$Hand", "moveTo", "(I)V"⟩) ∈ wG := wG_mem (tm_2 (List.mem_of_getElem? (i := 14) rfl)) rfl
theorem wt_495 : (Cond.code ⟨"PenAcres$Hand", "moveTo", "(I)V"⟩ prog_4_method_6_code 2 (Option.none : Option Jvm.ClassFile.FieldType)) ∈ wG := wG_mem (tm_2 (List.mem_of_getElem? (i := 15) rfl)) rfl
theorem wt_496 : (Cond.methodLink "PenAcres$Hand" 60 ⟨"PenAcres$Hand", "trace", "()V"⟩) ∈ wG := wG_mem (tm_2 (List.mem_of_getElem? (i := 16) rfl)) rfl
theorem wt_497 : (Cond.methodLink "PenAcres" 207 ⟨"PenAcres", "isInk", "(I)Z"⟩) ∈ wG := wG_mem (tm_2 (List.mem_of_getElem? (i := 17) rfl)) rfl
theorem wt_498 : (Cond.static ⟨"PenAcres", "isInk", "(I)Z"⟩) ∈ wG := wG_mem (tm_2 (List.mem_of_getElem? (i := 18) rfl)) rfl
theorem wt_499 : (Cond.code ⟨"PenAcres", "isInk", "(I)Z"⟩ prog_1_method_52_code 1 (Option.some Jvm.ClassFile.FieldType.boolean)) ∈ wG := wG_mem (tm_2 (List.mem_of_getElem? (i := 19) rfl)) rfl
theorem wt_503 : (Cond.code ⟨"PenAcres", "alter", "(IIII)I"⟩ prog_1_method_10_code 7 (Option.some Jvm.ClassFile.FieldType.int)) ∈ wG := wG_mem (tm_2 (List.mem_of_getElem? (i := 23) rfl)) rfl
theorem wt_507 : (Cond.code ⟨"PenAcres", "cut", "(II)I"⟩ prog_1_method_11_code 5 (Option.some Jvm.ClassFile.FieldType.int)) ∈ wG := wG_mem (tm_2 (List.mem_of_getElem? (i := 27) rfl)) rfl
theorem wt_511 : (Cond.code ⟨"PenAcres", "turn", "(II)I"⟩ prog_1_method_12_code 5 (Option.some Jvm.ClassFile.FieldType.int)) ∈ wG := wG_mem (tm_2 (List.mem_of_getElem? (i := 31) rfl)) rfl
theorem wt_512 : (Cond.methodLink "PenAcres" 210 ⟨"PenAcres$Hand", "become", "(LPenAcres$HandKind;)V"⟩) ∈ wG := wG_mem (tm_2 (List.mem_of_getElem? (i := 32) rfl)) rfl
theorem wt_513 : (Cond.instanceMethod ⟨"PenAcres$Hand", "become", "(LPenAcres$HandKind;)V"⟩) ∈ wG := wG_mem (tm_2 (List.mem_of_getElem? (i := 33) rfl)) rfl
theorem wt_514 : (Cond.selects "PenAcres$Hand" ⟨"PenAcres$Hand", "become", "(LPenAcres$HandKind;)V"⟩ ⟨"PenAcres$Hand", "become", "(LPenAcres$HandKind;)V"⟩) ∈ wG := wG_mem (tm_2 (List.mem_of_getElem? (i := 34) rfl)) rfl
theorem wt_515 : (Cond.code ⟨"PenAcres$Hand", "become", "(LPenAcres$HandKind;)V"⟩ prog_4_method_7_code 2 (Option.none : Option Jvm.ClassFile.FieldType)) ∈ wG := wG_mem (tm_2 (List.mem_of_getElem? (i := 35) rfl)) rfl
theorem wt_519 : (Cond.code ⟨"PenAcres", "as", "(II)I"⟩ prog_1_method_13_code 4 (Option.some Jvm.ClassFile.FieldType.int)) ∈ wG := wG_mem (tm_2 (List.mem_of_getElem? (i := 39) rfl)) rfl
theorem wt_520 : (Cond.methodLink "PenAcres" 213 ⟨"PenAcres$HandKind", "isOf", "(I)Z"⟩) ∈ wG := wG_mem (tm_2 (List.mem_of_getElem? (i := 40) rfl)) rfl
theorem wt_521 : (Cond.instanceMethod ⟨"PenAcres$HandKind", "isOf", "(I)Z"⟩) ∈ wG := wG_mem (tm_2 (List.mem_of_getElem? (i := 41) rfl)) rfl
theorem wt_522 : (Cond.selects "PenAcres$HandKind" ⟨"PenAcres$HandKind", "isOf", "(I)Z"⟩ ⟨"PenAcres$HandKind", "isOf", "(I)Z"⟩) ∈ wG := wG_mem (tm_2 (List.mem_of_getElem? (i := 42) rfl)) rfl
theorem wt_523 : (Cond.sameMethod "PenAcres$HandKind" "PenAcres$HandKind" "isOf" "(I)Z") ∈ wG := wG_mem (tm_2 (List.mem_of_getElem? (i := 43) rfl)) rfl
theorem wt_524 : (Cond.selects "PenAcres$DukeKind" ⟨"PenAcres$HandKind", "isOf", "(I)Z"⟩ ⟨"PenAcres$DukeKind", "isOf", "(I)Z"⟩) ∈ wG := wG_mem (tm_2 (List.mem_of_getElem? (i := 44) rfl)) rfl
theorem wt_525 : (Cond.instanceMethod ⟨"PenAcres$DukeKind", "isOf", "(I)Z"⟩) ∈ wG := wG_mem (tm_2 (List.mem_of_getElem? (i := 45) rfl)) rfl
theorem wt_526 : (Cond.code ⟨"PenAcres$DukeKind", "isOf", "(I)Z"⟩ prog_2_method_2_code 2 (Option.some Jvm.ClassFile.FieldType.boolean)) ∈ wG := wG_mem (tm_2 (List.mem_of_getElem? (i := 46) rfl)) rfl
theorem wt_527 : (Cond.methodLink "PenAcres$DukeKind" 7 ⟨"PenAcres$HandKind", "isOf", "(I)Z"⟩) ∈ wG := wG_mem (tm_2 (List.mem_of_getElem? (i := 47) rfl)) rfl
theorem wt_528 : (Cond.selects "PenAcres$HeirKind" ⟨"PenAcres$HandKind", "isOf", "(I)Z"⟩ ⟨"PenAcres$HeirKind", "isOf", "(I)Z"⟩) ∈ wG := wG_mem (tm_2 (List.mem_of_getElem? (i := 48) rfl)) rfl
theorem wt_529 : (Cond.instanceMethod ⟨"PenAcres$HeirKind", "isOf", "(I)Z"⟩) ∈ wG := wG_mem (tm_2 (List.mem_of_getElem? (i := 49) rfl)) rfl
theorem wt_530 : (Cond.code ⟨"PenAcres$HeirKind", "isOf", "(I)Z"⟩ prog_6_method_2_code 2 (Option.some Jvm.ClassFile.FieldType.boolean)) ∈ wG := wG_mem (tm_2 (List.mem_of_getElem? (i := 50) rfl)) rfl
theorem wt_531 : (Cond.methodLink "PenAcres$HeirKind" 7 ⟨"PenAcres$MiserKind", "isOf", "(I)Z"⟩) ∈ wG := wG_mem (tm_2 (List.mem_of_getElem? (i := 51) rfl)) rfl
theorem wt_532 : (Cond.instanceMethod ⟨"PenAcres$MiserKind", "isOf", "(I)Z"⟩) ∈ wG := wG_mem (tm_2 (List.mem_of_getElem? (i := 52) rfl)) rfl
theorem wt_533 : (Cond.code ⟨"PenAcres$MiserKind", "isOf", "(I)Z"⟩ prog_9_method_2_code 2 (Option.some Jvm.ClassFile.FieldType.boolean)) ∈ wG := wG_mem (tm_2 (List.mem_of_getElem? (i := 53) rfl)) rfl
theorem wt_534 : (Cond.methodLink "PenAcres$MiserKind" 7 ⟨"PenAcres$HandKind", "isOf", "(I)Z"⟩) ∈ wG := wG_mem (tm_2 (List.mem_of_getElem? (i := 54) rfl)) rfl
theorem wt_535 : (Cond.selects "PenAcres$LeftKind" ⟨"PenAcres$HandKind", "isOf", "(I)Z"⟩ ⟨"PenAcres$LeftKind", "isOf", "(I)Z"⟩) ∈ wG := wG_mem (tm_2 (List.mem_of_getElem? (i := 55) rfl)) rfl
theorem wt_536 : (Cond.instanceMethod ⟨"PenAcres$LeftKind", "isOf", "(I)Z"⟩) ∈ wG := wG_mem (tm_2 (List.mem_of_getElem? (i := 56) rfl)) rfl
theorem wt_537 : (Cond.code ⟨"PenAcres$LeftKind", "isOf", "(I)Z"⟩ prog_8_method_2_code 2 (Option.some Jvm.ClassFile.FieldType.boolean)) ∈ wG := wG_mem (tm_2 (List.mem_of_getElem? (i := 57) rfl)) rfl
theorem wt_538 : (Cond.methodLink "PenAcres$LeftKind" 9 ⟨"PenAcres$DukeKind", "isOf", "(I)Z"⟩) ∈ wG := wG_mem (tm_2 (List.mem_of_getElem? (i := 58) rfl)) rfl
theorem wt_539 : (Cond.selects "PenAcres$MiserKind" ⟨"PenAcres$HandKind", "isOf", "(I)Z"⟩ ⟨"PenAcres$MiserKind", "isOf", "(I)Z"⟩) ∈ wG := wG_mem (tm_2 (List.mem_of_getElem? (i := 59) rfl)) rfl
theorem wt_540 : (Cond.selects "PenAcres$ShakyKind" ⟨"PenAcres$HandKind", "isOf", "(I)Z"⟩ ⟨"PenAcres$ShakyKind", "isOf", "(I)Z"⟩) ∈ wG := wG_mem (tm_2 (List.mem_of_getElem? (i := 60) rfl)) rfl
theorem wt_541 : (Cond.instanceMethod ⟨"PenAcres$ShakyKind", "isOf", "(I)Z"⟩) ∈ wG := wG_mem (tm_2 (List.mem_of_getElem? (i := 61) rfl)) rfl
theorem wt_542 : (Cond.code ⟨"PenAcres$ShakyKind", "isOf", "(I)Z"⟩ prog_10_method_2_code 2 (Option.some Jvm.ClassFile.FieldType.boolean)) ∈ wG := wG_mem (tm_2 (List.mem_of_getElem? (i := 62) rfl)) rfl
theorem wt_543 : (Cond.methodLink "PenAcres$ShakyKind" 7 ⟨"PenAcres$HandKind", "isOf", "(I)Z"⟩) ∈ wG := wG_mem (tm_2 (List.mem_of_getElem? (i := 63) rfl)) rfl
theorem wt_544 : (Cond.code ⟨"PenAcres$HandKind", "isOf", "(I)Z"⟩ prog_5_method_2_code 2 (Option.some Jvm.ClassFile.FieldType.boolean)) ∈ wG := wG_mem (tm_2 (List.mem_of_getElem? (i := 64) rfl)) rfl
theorem wt_545 : (Cond.constant "PenAcres" 216 (-1000000003 : Int32)) ∈ wG := wG_mem (tm_2 (List.mem_of_getElem? (i := 65) rfl)) rfl
theorem wt_549 : (Cond.code ⟨"PenAcres", "line", "(I)J"⟩ prog_1_method_14_code 3 (Option.some Jvm.ClassFile.FieldType.long)) ∈ wG := wG_mem (tm_2 (List.mem_of_getElem? (i := 69) rfl)) rfl
theorem wt_550 : (Cond.methodLink "PenAcres" 217 ⟨"PenAcres$Hand", "lineUnder", "(J)J"⟩) ∈ wG := wG_mem (tm_2 (List.mem_of_getElem? (i := 70) rfl)) rfl
theorem wt_554 : (Cond.code ⟨"PenAcres", "inside", "(I)J"⟩ prog_1_method_15_code 3 (Option.some Jvm.ClassFile.FieldType.long)) ∈ wG := wG_mem (tm_2 (List.mem_of_getElem? (i := 74) rfl)) rfl
theorem wt_555 : (Cond.methodLink "PenAcres" 221 ⟨"PenAcres$Hand", "insideUnder", "(J)J"⟩) ∈ wG := wG_mem (tm_2 (List.mem_of_getElem? (i := 75) rfl)) rfl
theorem wt_559 : (Cond.code ⟨"PenAcres", "years", "(I)I"⟩ prog_1_method_16_code 2 (Option.some Jvm.ClassFile.FieldType.int)) ∈ wG := wG_mem (tm_2 (List.mem_of_getElem? (i := 79) rfl)) rfl
theorem wt_560 : (Cond.constant "PenAcres" 227 (-1000000005 : Int32)) ∈ wG := wG_mem (tm_2 (List.mem_of_getElem? (i := 80) rfl)) rfl
theorem wt_561 : (Cond.methodLink "PenAcres" 228 ⟨"PenAcres$Land", "goYears", "(I)V"⟩) ∈ wG := wG_mem (tm_2 (List.mem_of_getElem? (i := 81) rfl)) rfl
theorem wt_562 : (Cond.instanceMethod ⟨"PenAcres$Land", "goYears", "(I)V"⟩) ∈ wG := wG_mem (tm_2 (List.mem_of_getElem? (i := 82) rfl)) rfl
theorem wt_563 : (Cond.selects "PenAcres$Land" ⟨"PenAcres$Land", "goYears", "(I)V"⟩ ⟨"PenAcres$Land", "goYears", "(I)V"⟩) ∈ wG := wG_mem (tm_2 (List.mem_of_getElem? (i := 83) rfl)) rfl
theorem wt_564 : (Cond.code ⟨"PenAcres$Land", "goYears", "(I)V"⟩ prog_7_method_19_code 3 (Option.none : Option Jvm.ClassFile.FieldType)) ∈ wG := wG_mem (tm_2 (List.mem_of_getElem? (i := 84) rfl)) rfl
theorem wt_565 : (Cond.methodLink "PenAcres$Land" 103 ⟨"PenAcres$Land", "goYear", "()V"⟩) ∈ wG := wG_mem (tm_2 (List.mem_of_getElem? (i := 85) rfl)) rfl
theorem wt_566 : (Cond.instanceMethod ⟨"PenAcres$Land", "goYear", "()V"⟩) ∈ wG := wG_mem (tm_2 (List.mem_of_getElem? (i := 86) rfl)) rfl
theorem wt_567 : (Cond.selects "PenAcres$Land" ⟨"PenAcres$Land", "goYear", "()V"⟩ ⟨"PenAcres$Land", "goYear", "()V"⟩) ∈ wG := wG_mem (tm_2 (List.mem_of_getElem? (i := 87) rfl)) rfl
theorem wt_568 : (Cond.code ⟨"PenAcres$Land", "goYear", "()V"⟩ prog_7_method_18_code 2 (Option.none : Option Jvm.ClassFile.FieldType)) ∈ wG := wG_mem (tm_2 (List.mem_of_getElem? (i := 88) rfl)) rfl
theorem wt_569 : (Cond.methodLink "PenAcres$Land" 99 ⟨"PenAcres$Hand", "goYear", "(I)V"⟩) ∈ wG := wG_mem (tm_2 (List.mem_of_getElem? (i := 89) rfl)) rfl
theorem wt_570 : (Cond.instanceMethod ⟨"PenAcres$Hand", "goYear", "(I)V"⟩) ∈ wG := wG_mem (tm_2 (List.mem_of_getElem? (i := 90) rfl)) rfl
theorem wt_571 : (Cond.selects "PenAcres$Hand" ⟨"PenAcres$Hand", "goYear", "(I)V"⟩ ⟨"PenAcres$Hand", "goYear", "(I)V"⟩) ∈ wG := wG_mem (tm_2 (List.mem_of_getElem? (i := 91) rfl)) rfl
theorem wt_572 : (Cond.code ⟨"PenAcres$Hand", "goYear", "(I)V"⟩ prog_4_method_14_code 2 (Option.none : Option Jvm.ClassFile.FieldType)) ∈ wG := wG_mem (tm_2 (List.mem_of_getElem? (i := 92) rfl)) rfl
theorem wt_573 : (Cond.methodLink "PenAcres$Hand" 101 ⟨"PenAcres$Hand", "writes", "()Z"⟩) ∈ wG := wG_mem (tm_2 (List.mem_of_getElem? (i := 93) rfl)) rfl
theorem wt_574 : (Cond.methodLink "PenAcres$Hand" 105 ⟨"java/lang/Math", "min", "(II)I"⟩) ∈ wG := wG_mem (tm_2 (List.mem_of_getElem? (i := 94) rfl)) rfl
theorem wt_575 : (Cond.static ⟨"java/lang/Math", "min", "(II)I"⟩) ∈ wG := wG_mem (tm_2 (List.mem_of_getElem? (i := 95) rfl)) rfl
theorem wt_576 : (Cond.code ⟨"java/lang/Math", "min", "(II)I"⟩ prog_16_method_69_code 2 (Option.some Jvm.ClassFile.FieldType.int)) ∈ wG := wG_mem (tm_2 (List.mem_of_getElem? (i := 96) rfl)) rfl
theorem wt_577 : (Cond.constant "PenAcres$Hand" 110 (99999 : Int32)) ∈ wG := wG_mem (tm_2 (List.mem_of_getElem? (i := 97) rfl)) rfl
theorem wt_578 : (Cond.methodLink "PenAcres$Hand" 111 ⟨"PenAcres$HandKind", "crop", "()I"⟩) ∈ wG := wG_mem (tm_2 (List.mem_of_getElem? (i := 98) rfl)) rfl
theorem wt_579 : (Cond.methodLink "PenAcres" 231 ⟨"PenAcres$Land", "cornOfAll", "()I"⟩) ∈ wG := wG_mem (tm_2 (List.mem_of_getElem? (i := 99) rfl)) rfl
theorem wt_580 : (Cond.instanceMethod ⟨"PenAcres$Land", "cornOfAll", "()I"⟩) ∈ wG := wG_mem (tm_2 (List.mem_of_getElem? (i := 100) rfl)) rfl
theorem wt_581 : (Cond.selects "PenAcres$Land" ⟨"PenAcres$Land", "cornOfAll", "()I"⟩ ⟨"PenAcres$Land", "cornOfAll", "()I"⟩) ∈ wG := wG_mem (tm_2 (List.mem_of_getElem? (i := 101) rfl)) rfl
theorem wt_582 : (Cond.code ⟨"PenAcres$Land", "cornOfAll", "()I"⟩ prog_7_method_21_code 3 (Option.some Jvm.ClassFile.FieldType.int)) ∈ wG := wG_mem (tm_2 (List.mem_of_getElem? (i := 102) rfl)) rfl
theorem wt_586 : (Cond.code ⟨"PenAcres", "now", "(I)I"⟩ prog_1_method_17_code 2 (Option.some Jvm.ClassFile.FieldType.int)) ∈ wG := wG_mem (tm_2 (List.mem_of_getElem? (i := 106) rfl)) rfl
theorem wt_587 : (Cond.methodLink "PenAcres" 234 ⟨"PenAcres$Land", "inkOfAll", "()I"⟩) ∈ wG := wG_mem (tm_2 (List.mem_of_getElem? (i := 107) rfl)) rfl
theorem wt_588 : (Cond.instanceMethod ⟨"PenAcres$Land", "inkOfAll", "()I"⟩) ∈ wG := wG_mem (tm_2 (List.mem_of_getElem? (i := 108) rfl)) rfl
theorem wt_589 : (Cond.selects "PenAcres$Land" ⟨"PenAcres$Land", "inkOfAll", "()I"⟩ ⟨"PenAcres$Land", "inkOfAll", "()I"⟩) ∈ wG := wG_mem (tm_2 (List.mem_of_getElem? (i := 109) rfl)) rfl
theorem wt_590 : (Cond.code ⟨"PenAcres$Land", "inkOfAll", "()I"⟩ prog_7_method_22_code 3 (Option.some Jvm.ClassFile.FieldType.int)) ∈ wG := wG_mem (tm_2 (List.mem_of_getElem? (i := 110) rfl)) rfl
theorem wt_591 : (Cond.methodLink "PenAcres" 237 ⟨"PenAcres$Land", "handsThatWrite", "()I"⟩) ∈ wG := wG_mem (tm_2 (List.mem_of_getElem? (i := 111) rfl)) rfl
theorem wt_592 : (Cond.instanceMethod ⟨"PenAcres$Land", "handsThatWrite", "()I"⟩) ∈ wG := wG_mem (tm_2 (List.mem_of_getElem? (i := 112) rfl)) rfl
theorem wt_593 : (Cond.selects "PenAcres$Land" ⟨"PenAcres$Land", "handsThatWrite", "()I"⟩ ⟨"PenAcres$Land", "handsThatWrite", "()I"⟩) ∈ wG := wG_mem (tm_2 (List.mem_of_getElem? (i := 113) rfl)) rfl
theorem wt_594 : (Cond.code ⟨"PenAcres$Land", "handsThatWrite", "()I"⟩ prog_7_method_10_code 3 (Option.some Jvm.ClassFile.FieldType.int)) ∈ wG := wG_mem (tm_2 (List.mem_of_getElem? (i := 114) rfl)) rfl
theorem wt_595 : (Cond.methodLink "PenAcres" 240 ⟨"java/lang/Long", "bitCount", "(J)I"⟩) ∈ wG := wG_mem (tm_2 (List.mem_of_getElem? (i := 115) rfl)) rfl
theorem wt_599 : (Cond.code ⟨"PenAcres", "on", "(III)I"⟩ prog_1_method_18_code 5 (Option.some Jvm.ClassFile.FieldType.int)) ∈ wG := wG_mem (tm_2 (List.mem_of_getElem? (i := 119) rfl)) rfl
theorem wt_600 : (Cond.methodLink "PenAcres" 245 ⟨"PenAcres", "onTrial", "(I)LPenAcres$Hand;"⟩) ∈ wG := wG_mem (tm_2 (List.mem_of_getElem? (i := 120) rfl)) rfl
theorem wt_602 : (Cond.instanceMethod ⟨"PenAcres", "onTrial", "(I)LPenAcres$Hand;"⟩) ∈ wG := wG_mem (tm_2 (List.mem_of_getElem? (i := 122) rfl)) rfl
theorem wt_603 : (Cond.code ⟨"PenAcres", "onTrial", "(I)LPenAcres$Hand;"⟩ prog_1_method_44_code 2 (Option.some (Jvm.ClassFile.FieldType.object "PenAcres$Hand"))) ∈ wG := wG_mem (tm_2 (List.mem_of_getElem? (i := 123) rfl)) rfl
theorem wt_604 : (Cond.methodLink "PenAcres" 255 ⟨"PenAcres$Land", "takeFrom", "(LPenAcres$Land;)V"⟩) ∈ wG := wG_mem (tm_2 (List.mem_of_getElem? (i := 124) rfl)) rfl
theorem wt_605 : (Cond.instanceMethod ⟨"PenAcres$Land", "takeFrom", "(LPenAcres$Land;)V"⟩) ∈ wG := wG_mem (tm_2 (List.mem_of_getElem? (i := 125) rfl)) rfl
theorem wt_606 : (Cond.selects "PenAcres$Land" ⟨"PenAcres$Land", "takeFrom", "(LPenAcres$Land;)V"⟩ ⟨"PenAcres$Land", "takeFrom", "(LPenAcres$Land;)V"⟩) ∈ wG := wG_mem (tm_2 (List.mem_of_getElem? (i := 126) rfl)) rfl
theorem wt_607 : (Cond.code ⟨"PenAcres$Land", "takeFrom", "(LPenAcres$Land;)V"⟩ prog_7_method_2_code 3 (Option.none : Option Jvm.ClassFile.FieldType)) ∈ wG := wG_mem (tm_2 (List.mem_of_getElem? (i := 127) rfl)) rfl
theorem wt_608 : (Cond.methodLink "PenAcres$Land" 39 ⟨"PenAcres$Hand", "takeFrom", "(LPenAcres$Hand;)V"⟩) ∈ wG := wG_mem (tm_2 (List.mem_of_getElem? (i := 128) rfl)) rfl
theorem wt_609 : (Cond.instanceMethod ⟨"PenAcres$Hand", "takeFrom", "(LPenAcres$Hand;)V"⟩) ∈ wG := wG_mem (tm_2 (List.mem_of_getElem? (i := 129) rfl)) rfl
theorem wt_610 : (Cond.selects "PenAcres$Hand" ⟨"PenAcres$Hand", "takeFrom", "(LPenAcres$Hand;)V"⟩ ⟨"PenAcres$Hand", "takeFrom", "(LPenAcres$Hand;)V"⟩) ∈ wG := wG_mem (tm_2 (List.mem_of_getElem? (i := 130) rfl)) rfl
theorem wt_611 : (Cond.code ⟨"PenAcres$Hand", "takeFrom", "(LPenAcres$Hand;)V"⟩ prog_4_method_3_code 2 (Option.none : Option Jvm.ClassFile.FieldType)) ∈ wG := wG_mem (tm_2 (List.mem_of_getElem? (i := 131) rfl)) rfl
theorem wt_612 : (Cond.methodLink "PenAcres$Hand" 48 ⟨"java/lang/System", "arraycopy", "(Ljava/lang/Object;ILjava/lang/Object;II)V"⟩) ∈ wG := wG_mem (tm_2 (List.mem_of_getElem? (i := 132) rfl)) rfl
theorem wt_613 : (Cond.static ⟨"java/lang/System", "arraycopy", "(Ljava/lang/Object;ILjava/lang/Object;II)V"⟩) ∈ wG := wG_mem (tm_2 (List.mem_of_getElem? (i := 133) rfl)) rfl
theorem wt_614 : (Cond.native ⟨"java/lang/System", "arraycopy", "(Ljava/lang/Object;ILjava/lang/Object;II)V"⟩) ∈ wG := wG_mem (tm_2 (List.mem_of_getElem? (i := 134) rfl)) rfl
theorem wt_615 : (Cond.methodLink "PenAcres" 248 ⟨"PenAcres", "isYearsOn", "(I)Z"⟩) ∈ wG := wG_mem (tm_2 (List.mem_of_getElem? (i := 135) rfl)) rfl
theorem wt_616 : (Cond.static ⟨"PenAcres", "isYearsOn", "(I)Z"⟩) ∈ wG := wG_mem (tm_2 (List.mem_of_getElem? (i := 136) rfl)) rfl
theorem wt_617 : (Cond.code ⟨"PenAcres", "isYearsOn", "(I)Z"⟩ prog_1_method_53_code 1 (Option.some Jvm.ClassFile.FieldType.boolean)) ∈ wG := wG_mem (tm_2 (List.mem_of_getElem? (i := 137) rfl)) rfl
theorem wt_621 : (Cond.code ⟨"PenAcres", "dry", "(I)I"⟩ prog_1_method_19_code 4 (Option.some Jvm.ClassFile.FieldType.int)) ∈ wG := wG_mem (tm_2 (List.mem_of_getElem? (i := 141) rfl)) rfl
theorem wt_622 : (Cond.methodLink "PenAcres" 251 ⟨"PenAcres$Land", "goYear", "()V"⟩) ∈ wG := wG_mem (tm_2 (List.mem_of_getElem? (i := 142) rfl)) rfl
theorem wt_623 : (Cond.constant "PenAcres" 254 (-1000000004 : Int32)) ∈ wG := wG_mem (tm_2 (List.mem_of_getElem? (i := 143) rfl)) rfl
theorem wt_627 : (Cond.code ⟨"PenAcres", "rich", "(I)I"⟩ prog_1_method_20_code 3 (Option.some Jvm.ClassFile.FieldType.int)) ∈ wG := wG_mem (tm_2 (List.mem_of_getElem? (i := 147) rfl)) rfl
theorem wt_628 : (Cond.methodLink "PenAcres" 259 ⟨"PenAcres$Land", "richest", "()I"⟩) ∈ wG := wG_mem (tm_2 (List.mem_of_getElem? (i := 148) rfl)) rfl
theorem wt_629 : (Cond.instanceMethod ⟨"PenAcres$Land", "richest", "()I"⟩) ∈ wG := wG_mem (tm_2 (List.mem_of_getElem? (i := 149) rfl)) rfl
theorem wt_630 : (Cond.selects "PenAcres$Land" ⟨"PenAcres$Land", "richest", "()I"⟩ ⟨"PenAcres$Land", "richest", "()I"⟩) ∈ wG := wG_mem (tm_2 (List.mem_of_getElem? (i := 150) rfl)) rfl
theorem wt_631 : (Cond.code ⟨"PenAcres$Land", "richest", "()I"⟩ prog_7_method_20_code 4 (Option.some Jvm.ClassFile.FieldType.int)) ∈ wG := wG_mem (tm_2 (List.mem_of_getElem? (i := 151) rfl)) rfl
theorem wt_635 : (Cond.code ⟨"PenAcres", "rain", "(I)I"⟩ prog_1_method_21_code 9 (Option.some Jvm.ClassFile.FieldType.int)) ∈ wG := wG_mem (tm_2 (List.mem_of_getElem? (i := 155) rfl)) rfl
theorem wt_636 : (Cond.methodLink "PenAcres" 262 ⟨"PenAcres$Grid", "bit", "(I)J"⟩) ∈ wG := wG_mem (tm_2 (List.mem_of_getElem? (i := 156) rfl)) rfl
theorem wt_637 : (Cond.constantLong "PenAcres" 268 (-1 : Int64)) ∈ wG := wG_mem (tm_2 (List.mem_of_getElem? (i := 157) rfl)) rfl
theorem wt_638 : (Cond.methodLink "PenAcres" 270 ⟨"PenAcres$Grid", "enclosedBy", "(J)J"⟩) ∈ wG := wG_mem (tm_2 (List.mem_of_getElem? (i := 158) rfl)) rfl
theorem wt_642 : (Cond.code ⟨"PenAcres", "longer", "(I)I"⟩ prog_1_method_22_code 7 (Option.some Jvm.ClassFile.FieldType.int)) ∈ wG := wG_mem (tm_2 (List.mem_of_getElem? (i := 162) rfl)) rfl
theorem wt_643 : (Cond.methodLink "PenAcres" 273 ⟨"PenAcres$Hand", "howManyInsideWithLonger", "(IJ)I"⟩) ∈ wG := wG_mem (tm_2 (List.mem_of_getElem? (i := 163) rfl)) rfl
theorem wt_644 : (Cond.instanceMethod ⟨"PenAcres$Hand", "howManyInsideWithLonger", "(IJ)I"⟩) ∈ wG := wG_mem (tm_2 (List.mem_of_getElem? (i := 164) rfl)) rfl
theorem wt_645 : (Cond.selects "PenAcres$Hand" ⟨"PenAcres$Hand", "howManyInsideWithLonger", "(IJ)I"⟩ ⟨"PenAcres$Hand", "howManyInsideWithLonger", "(IJ)I"⟩) ∈ wG := wG_mem (tm_2 (List.mem_of_getElem? (i := 165) rfl)) rfl
theorem wt_646 : (Cond.code ⟨"PenAcres$Hand", "howManyInsideWithLonger", "(IJ)I"⟩ prog_4_method_13_code 5 (Option.some Jvm.ClassFile.FieldType.int)) ∈ wG := wG_mem (tm_2 (List.mem_of_getElem? (i := 166) rfl)) rfl
theorem wt_647 : (Cond.methodLink "PenAcres$Hand" 94 ⟨"PenAcres$Hand", "hasStroke", "(I)Z"⟩) ∈ wG := wG_mem (tm_2 (List.mem_of_getElem? (i := 167) rfl)) rfl
theorem wt_648 : (Cond.methodLink "PenAcres$Hand" 98 ⟨"PenAcres$Hand", "howManyInside", "(J)I"⟩) ∈ wG := wG_mem (tm_2 (List.mem_of_getElem? (i := 168) rfl)) rfl
theorem wt_652 : (Cond.code ⟨"PenAcres", "begin", "(I)I"⟩ prog_1_method_23_code 7 (Option.some Jvm.ClassFile.FieldType.int)) ∈ wG := wG_mem (tm_2 (List.mem_of_getElem? (i := 172) rfl)) rfl
theorem wt_656 : (Cond.code ⟨"PenAcres", "kind", "(I)I"⟩ prog_1_method_24_code 7 (Option.some Jvm.ClassFile.FieldType.int)) ∈ wG := wG_mem (tm_2 (List.mem_of_getElem? (i := 176) rfl)) rfl
theorem wt_660 : (Cond.code ⟨"PenAcres", "ink", "(I)I"⟩ prog_1_method_25_code 7 (Option.some Jvm.ClassFile.FieldType.int)) ∈ wG := wG_mem (tm_2 (List.mem_of_getElem? (i := 180) rfl)) rfl
theorem wt_664 : (Cond.code ⟨"PenAcres", "court", "(II)I"⟩ prog_1_method_26_code 5 (Option.some Jvm.ClassFile.FieldType.int)) ∈ wG := wG_mem (tm_2 (List.mem_of_getElem? (i := 184) rfl)) rfl
theorem wt_668 : (Cond.code ⟨"PenAcres", "way", "(III)I"⟩ prog_1_method_27_code 6 (Option.some Jvm.ClassFile.FieldType.int)) ∈ wG := wG_mem (tm_2 (List.mem_of_getElem? (i := 188) rfl)) rfl
theorem wt_669 : (Cond.methodLink "PenAcres" 277 ⟨"PenAcres$Grid", "fewestSteps", "(JII)I"⟩) ∈ wG := wG_mem (tm_2 (List.mem_of_getElem? (i := 189) rfl)) rfl
theorem wt_670 : (Cond.static ⟨"PenAcres$Grid", "fewestSteps", "(JII)I"⟩) ∈ wG := wG_mem (tm_2 (List.mem_of_getElem? (i := 190) rfl)) rfl
theorem wt_671 : (Cond.code ⟨"PenAcres$Grid", "fewestSteps", "(JII)I"⟩ prog_3_method_6_code 9 (Option.some Jvm.ClassFile.FieldType.int)) ∈ wG := wG_mem (tm_2 (List.mem_of_getElem? (i := 191) rfl)) rfl
theorem wt_672 : (Cond.methodLink "PenAcres$Grid" 25 ⟨"PenAcres$Grid", "bit", "(I)J"⟩) ∈ wG := wG_mem (tm_2 (List.mem_of_getElem? (i := 192) rfl)) rfl
theorem wt_676 : (Cond.code ⟨"PenAcres", "sea", "()I"⟩ prog_1_method_28_code 4 (Option.some Jvm.ClassFile.FieldType.int)) ∈ wG := wG_mem (tm_2 (List.mem_of_getElem? (i := 196) rfl)) rfl
theorem wt_677 : (Cond.constantLong "PenAcres" 281 (255 : Int64)) ∈ wG := wG_mem (tm_2 (List.mem_of_getElem? (i := 197) rfl)) rfl
theorem wt_681 : (Cond.code ⟨"PenAcres", "feed", "(II)I"⟩ prog_1_method_29_code 4 (Option.some Jvm.ClassFile.FieldType.int)) ∈ wG := wG_mem (tm_2 (List.mem_of_getElem? (i := 201) rfl)) rfl
theorem wt_682 : (Cond.methodLink "PenAcres" 286 ⟨"PenAcres$Tape", "add", "(I)V"⟩) ∈ wG := wG_mem (tm_2 (List.mem_of_getElem? (i := 202) rfl)) rfl
theorem wt_683 : (Cond.instanceMethod ⟨"PenAcres$Tape", "add", "(I)V"⟩) ∈ wG := wG_mem (tm_2 (List.mem_of_getElem? (i := 203) rfl)) rfl
theorem wt_684 : (Cond.selects "PenAcres$Tape" ⟨"PenAcres$Tape", "add", "(I)V"⟩ ⟨"PenAcres$Tape", "add", "(I)V"⟩) ∈ wG := wG_mem (tm_2 (List.mem_of_getElem? (i := 204) rfl)) rfl
theorem wt_685 : (Cond.code ⟨"PenAcres$Tape", "add", "(I)V"⟩ prog_12_method_2_code 2 (Option.none : Option Jvm.ClassFile.FieldType)) ∈ wG := wG_mem (tm_2 (List.mem_of_getElem? (i := 205) rfl)) rfl
theorem wt_689 : (Cond.code ⟨"PenAcres", "wipe", "()I"⟩ prog_1_method_30_code 2 (Option.some Jvm.ClassFile.FieldType.int)) ∈ wG := wG_mem (tm_2 (List.mem_of_getElem? (i := 209) rfl)) rfl
theorem wt_693 : (Cond.code ⟨"PenAcres", "field", "()I"⟩ prog_1_method_31_code 2 (Option.some Jvm.ClassFile.FieldType.int)) ∈ wG := wG_mem (tm_2 (List.mem_of_getElem? (i := 213) rfl)) rfl
theorem wt_694 : (Cond.methodLink "PenAcres" 289 ⟨"PenAcres$Tape", "tellTo", "(LPenAcres$Land;[LPenAcres$HandKind;)I"⟩) ∈ wG := wG_mem (tm_2 (List.mem_of_getElem? (i := 214) rfl)) rfl
theorem wt_695 : (Cond.instanceMethod ⟨"PenAcres$Tape", "tellTo", "(LPenAcres$Land;[LPenAcres$HandKind;)I"⟩) ∈ wG := wG_mem (tm_2 (List.mem_of_getElem? (i := 215) rfl)) rfl
theorem wt_696 : (Cond.selects "PenAcres$Tape" ⟨"PenAcres$Tape", "tellTo", "(LPenAcres$Land;[LPenAcres$HandKind;)I"⟩ ⟨"PenAcres$Tape", "tellTo", "(LPenAcres$Land;[LPenAcres$HandKind;)I"⟩) ∈ wG := wG_mem (tm_2 (List.mem_of_getElem? (i := 216) rfl)) rfl
theorem wt_697 : (Cond.code ⟨"PenAcres$Tape", "tellTo", "(LPenAcres$Land;[LPenAcres$HandKind;)I"⟩ prog_12_method_3_code 4 (Option.some Jvm.ClassFile.FieldType.int)) ∈ wG := wG_mem (tm_2 (List.mem_of_getElem? (i := 217) rfl)) rfl
theorem wt_698 : (Cond.methodLink "PenAcres$Tape" 22 ⟨"PenAcres$Tape", "goOn", "()V"⟩) ∈ wG := wG_mem (tm_2 (List.mem_of_getElem? (i := 218) rfl)) rfl
theorem wt_700 : (Cond.instanceMethod ⟨"PenAcres$Tape", "goOn", "()V"⟩) ∈ wG := wG_mem (tm_2 (List.mem_of_getElem? (i := 220) rfl)) rfl
theorem wt_701 : (Cond.code ⟨"PenAcres$Tape", "goOn", "()V"⟩ prog_12_method_13_code 1 (Option.none : Option Jvm.ClassFile.FieldType)) ∈ wG := wG_mem (tm_2 (List.mem_of_getElem? (i := 221) rfl)) rfl
theorem wt_702 : (Cond.methodLink "PenAcres$Tape" 117 ⟨"PenAcres$Tape", "byteAt", "(I)C"⟩) ∈ wG := wG_mem (tm_2 (List.mem_of_getElem? (i := 222) rfl)) rfl
theorem wt_704 : (Cond.instanceMethod ⟨"PenAcres$Tape", "byteAt", "(I)C"⟩) ∈ wG := wG_mem (tm_2 (List.mem_of_getElem? (i := 224) rfl)) rfl
theorem wt_705 : (Cond.code ⟨"PenAcres$Tape", "byteAt", "(I)C"⟩ prog_12_method_16_code 2 (Option.some Jvm.ClassFile.FieldType.char)) ∈ wG := wG_mem (tm_2 (List.mem_of_getElem? (i := 225) rfl)) rfl
theorem wt_706 : (Cond.methodLink "PenAcres$Tape" 124 ⟨"PenAcres$Tape", "isLetter", "(C)Z"⟩) ∈ wG := wG_mem (tm_2 (List.mem_of_getElem? (i := 226) rfl)) rfl
theorem wt_707 : (Cond.static ⟨"PenAcres$Tape", "isLetter", "(C)Z"⟩) ∈ wG := wG_mem (tm_2 (List.mem_of_getElem? (i := 227) rfl)) rfl
theorem wt_708 : (Cond.code ⟨"PenAcres$Tape", "isLetter", "(C)Z"⟩ prog_12_method_17_code 1 (Option.some Jvm.ClassFile.FieldType.boolean)) ∈ wG := wG_mem (tm_2 (List.mem_of_getElem? (i := 228) rfl)) rfl
theorem wt_709 : (Cond.methodLink "PenAcres$Tape" 128 ⟨"PenAcres$Tape", "goOverWord", "()V"⟩) ∈ wG := wG_mem (tm_2 (List.mem_of_getElem? (i := 229) rfl)) rfl
theorem wt_711 : (Cond.instanceMethod ⟨"PenAcres$Tape", "goOverWord", "()V"⟩) ∈ wG := wG_mem (tm_2 (List.mem_of_getElem? (i := 231) rfl)) rfl
theorem wt_712 : (Cond.code ⟨"PenAcres$Tape", "goOverWord", "()V"⟩ prog_12_method_14_code 1 (Option.none : Option Jvm.ClassFile.FieldType)) ∈ wG := wG_mem (tm_2 (List.mem_of_getElem? (i := 232) rfl)) rfl
theorem wt_713 : (Cond.methodLink "PenAcres$Tape" 131 ⟨"PenAcres$Tape", "isDigit", "(C)Z"⟩) ∈ wG := wG_mem (tm_2 (List.mem_of_getElem? (i := 233) rfl)) rfl
theorem wt_714 : (Cond.static ⟨"PenAcres$Tape", "isDigit", "(C)Z"⟩) ∈ wG := wG_mem (tm_2 (List.mem_of_getElem? (i := 234) rfl)) rfl
theorem wt_715 : (Cond.code ⟨"PenAcres$Tape", "isDigit", "(C)Z"⟩ prog_12_method_18_code 1 (Option.some Jvm.ClassFile.FieldType.boolean)) ∈ wG := wG_mem (tm_2 (List.mem_of_getElem? (i := 235) rfl)) rfl
theorem wt_716 : (Cond.methodLink "PenAcres$Tape" 134 ⟨"PenAcres$Tape", "goOverNumber", "()V"⟩) ∈ wG := wG_mem (tm_2 (List.mem_of_getElem? (i := 236) rfl)) rfl
theorem wt_718 : (Cond.instanceMethod ⟨"PenAcres$Tape", "goOverNumber", "()V"⟩) ∈ wG := wG_mem (tm_2 (List.mem_of_getElem? (i := 238) rfl)) rfl
theorem wt_719 : (Cond.code ⟨"PenAcres$Tape", "goOverNumber", "()V"⟩ prog_12_method_15_code 1 (Option.none : Option Jvm.ClassFile.FieldType)) ∈ wG := wG_mem (tm_2 (List.mem_of_getElem? (i := 239) rfl)) rfl
theorem wt_720 : (Cond.methodLink "PenAcres$Tape" 137 ⟨"java/lang/Math", "min", "(II)I"⟩) ∈ wG := wG_mem (tm_3 (List.mem_of_getElem? (i := 0) rfl)) rfl
theorem wt_721 : (Cond.methodLink "PenAcres$Tape" 25 ⟨"PenAcres$Tape", "takeItem", "(LPenAcres$Land;[LPenAcres$HandKind;)Z"⟩) ∈ wG := wG_mem (tm_3 (List.mem_of_getElem? (i := 1) rfl)) rfl
theorem wt_723 : (Cond.instanceMethod ⟨"PenAcres$Tape", "takeItem", "(LPenAcres$Land;[LPenAcres$HandKind;)Z"⟩) ∈ wG := wG_mem (tm_3 (List.mem_of_getElem? (i := 3) rfl)) rfl
theorem wt_724 : (Cond.code ⟨"PenAcres$Tape", "takeItem", "(LPenAcres$Land;[LPenAcres$HandKind;)Z"⟩ prog_12_method_4_code 4 (Option.some Jvm.ClassFile.FieldType.boolean)) ∈ wG := wG_mem (tm_3 (List.mem_of_getElem? (i := 4) rfl)) rfl
theorem wt_726 : (Cond.methodLink "PenAcres$Tape" 37 ⟨"PenAcres$Tape", "isWord", "(Ljava/lang/String;)Z"⟩) ∈ wG := wG_mem (tm_3 (List.mem_of_getElem? (i := 6) rfl)) rfl
theorem wt_728 : (Cond.instanceMethod ⟨"PenAcres$Tape", "isWord", "(Ljava/lang/String;)Z"⟩) ∈ wG := wG_mem (tm_3 (List.mem_of_getElem? (i := 8) rfl)) rfl
theorem wt_729 : (Cond.code ⟨"PenAcres$Tape", "isWord", "(Ljava/lang/String;)Z"⟩ prog_12_method_11_code 3 (Option.some Jvm.ClassFile.FieldType.boolean)) ∈ wG := wG_mem (tm_3 (List.mem_of_getElem? (i := 9) rfl)) rfl
theorem wt_730 : (Cond.methodLink "PenAcres$Tape" 112 ⟨"java/lang/String", "length", "()I"⟩) ∈ wG := wG_mem (tm_3 (List.mem_of_getElem? (i := 10) rfl)) rfl
theorem wt_731 : (Cond.instanceMethod ⟨"java/lang/String", "length", "()I"⟩) ∈ wG := wG_mem (tm_3 (List.mem_of_getElem? (i := 11) rfl)) rfl
theorem wt_732 : (Cond.selects "java/lang/String" ⟨"java/lang/String", "length", "()I"⟩ ⟨"java/lang/String", "length", "()I"⟩) ∈ wG := wG_mem (tm_3 (List.mem_of_getElem? (i := 12) rfl)) rfl
theorem wt_733 : (Cond.code ⟨"java/lang/String", "length", "()I"⟩ prog_17_method_54_code 1 (Option.some Jvm.ClassFile.FieldType.int)) ∈ wG := wG_mem (tm_3 (List.mem_of_getElem? (i := 13) rfl)) rfl
theorem wt_734 : (Cond.methodLink "java/lang/String" 335 ⟨"java/lang/String", "coder", "()B"⟩) ∈ wG := wG_mem (tm_3 (List.mem_of_getElem? (i := 14) rfl)) rfl
theorem wt_735 : (Cond.instanceMethod ⟨"java/lang/String", "coder", "()B"⟩) ∈ wG := wG_mem (tm_3 (List.mem_of_getElem? (i := 15) rfl)) rfl
theorem wt_736 : (Cond.selects "java/lang/String" ⟨"java/lang/String", "coder", "()B"⟩ ⟨"java/lang/String", "coder", "()B"⟩) ∈ wG := wG_mem (tm_3 (List.mem_of_getElem? (i := 16) rfl)) rfl
theorem wt_737 : (Cond.code ⟨"java/lang/String", "coder", "()B"⟩ prog_17_method_152_code 1 (Option.some Jvm.ClassFile.FieldType.byte)) ∈ wG := wG_mem (tm_3 (List.mem_of_getElem? (i := 17) rfl)) rfl
theorem wt_738 : (Cond.fieldLink "java/lang/String" 38 "java/lang/String" "COMPACT_STRINGS" "Z") ∈ wG := wG_mem (tm_3 (List.mem_of_getElem? (i := 18) rfl)) rfl
theorem wt_740 : (Cond.methodLink "PenAcres$Tape" 121 ⟨"java/lang/String", "charAt", "(I)C"⟩) ∈ wG := wG_mem (tm_3 (List.mem_of_getElem? (i := 20) rfl)) rfl
theorem wt_741 : (Cond.instanceMethod ⟨"java/lang/String", "charAt", "(I)C"⟩) ∈ wG := wG_mem (tm_3 (List.mem_of_getElem? (i := 21) rfl)) rfl
theorem wt_742 : (Cond.selects "java/lang/String" ⟨"java/lang/String", "charAt", "(I)C"⟩ ⟨"java/lang/String", "charAt", "(I)C"⟩) ∈ wG := wG_mem (tm_3 (List.mem_of_getElem? (i := 22) rfl)) rfl
theorem wt_743 : (Cond.code ⟨"java/lang/String", "charAt", "(I)C"⟩ prog_17_method_56_code 2 (Option.some Jvm.ClassFile.FieldType.char)) ∈ wG := wG_mem (tm_3 (List.mem_of_getElem? (i := 23) rfl)) rfl
theorem wt_744 : (Cond.methodLink "java/lang/String" 492 ⟨"java/lang/String", "isLatin1", "()Z"⟩) ∈ wG := wG_mem (tm_3 (List.mem_of_getElem? (i := 24) rfl)) rfl
theorem wt_745 : (Cond.instanceMethod ⟨"java/lang/String", "isLatin1", "()Z"⟩) ∈ wG := wG_mem (tm_3 (List.mem_of_getElem? (i := 25) rfl)) rfl
theorem wt_746 : (Cond.selects "java/lang/String" ⟨"java/lang/String", "isLatin1", "()Z"⟩ ⟨"java/lang/String", "isLatin1", "()Z"⟩) ∈ wG := wG_mem (tm_3 (List.mem_of_getElem? (i := 26) rfl)) rfl
theorem wt_747 : (Cond.code ⟨"java/lang/String", "isLatin1", "()Z"⟩ prog_17_method_154_code 1 (Option.some Jvm.ClassFile.FieldType.boolean)) ∈ wG := wG_mem (tm_3 (List.mem_of_getElem? (i := 27) rfl)) rfl
theorem wt_748 : (Cond.methodLink "java/lang/String" 495 ⟨"java/lang/StringLatin1", "charAt", "([BI)C"⟩) ∈ wG := wG_mem (tm_3 (List.mem_of_getElem? (i := 28) rfl)) rfl
theorem wt_749 : (Cond.static ⟨"java/lang/StringLatin1", "charAt", "([BI)C"⟩) ∈ wG := wG_mem (tm_3 (List.mem_of_getElem? (i := 29) rfl)) rfl
theorem wt_750 : (Cond.code ⟨"java/lang/StringLatin1", "charAt", "([BI)C"⟩ prog_18_method_2_code 2 (Option.some Jvm.ClassFile.FieldType.char)) ∈ wG := wG_mem (tm_3 (List.mem_of_getElem? (i := 30) rfl)) rfl
theorem wt_751 : (Cond.methodLink "java/lang/StringLatin1" 9 ⟨"java/lang/String", "checkIndex", "(II)V"⟩) ∈ wG := wG_mem (tm_3 (List.mem_of_getElem? (i := 31) rfl)) rfl
theorem wt_752 : (Cond.static ⟨"java/lang/String", "checkIndex", "(II)V"⟩) ∈ wG := wG_mem (tm_3 (List.mem_of_getElem? (i := 32) rfl)) rfl
theorem wt_753 : (Cond.code ⟨"java/lang/String", "checkIndex", "(II)V"⟩ prog_17_method_155_code 2 (Option.none : Option Jvm.ClassFile.FieldType)) ∈ wG := wG_mem (tm_3 (List.mem_of_getElem? (i := 33) rfl)) rfl
theorem wt_754 : (Cond.fieldLink "java/lang/String" 1053 "jdk/internal/util/Preconditions" "SIOOBE_FORMATTER" "Ljava/util/function/BiFunction;") ∈ wG := wG_mem (tm_3 (List.mem_of_getElem? (i := 34) rfl)) rfl
theorem wt_756 : (Cond.methodLink "java/lang/String" 1059 ⟨"jdk/internal/util/Preconditions", "checkIndex", "(IILjava/util/function/BiFunction;)I"⟩) ∈ wG := wG_mem (tm_3 (List.mem_of_getElem? (i := 36) rfl)) rfl
theorem wt_757 : (Cond.static ⟨"jdk/internal/util/Preconditions", "checkIndex", "(IILjava/util/function/BiFunction;)I"⟩) ∈ wG := wG_mem (tm_3 (List.mem_of_getElem? (i := 37) rfl)) rfl
theorem wt_758 : (Cond.code ⟨"jdk/internal/util/Preconditions", "checkIndex", "(IILjava/util/function/BiFunction;)I"⟩ prog_21_method_11_code 3 (Option.some Jvm.ClassFile.FieldType.int)) ∈ wG := wG_mem (tm_3 (List.mem_of_getElem? (i := 38) rfl)) rfl
theorem wt_778 : (Cond.methodLink "PenAcres$Tape" 41 ⟨"PenAcres$Tape", "takeSmudge", "(LPenAcres$Land;Z)Z"⟩) ∈ wG := wG_mem (tm_3 (List.mem_of_getElem? (i := 58) rfl)) rfl
theorem wt_780 : (Cond.instanceMethod ⟨"PenAcres$Tape", "takeSmudge", "(LPenAcres$Land;Z)Z"⟩) ∈ wG := wG_mem (tm_3 (List.mem_of_getElem? (i := 60) rfl)) rfl
theorem wt_781 : (Cond.code ⟨"PenAcres$Tape", "takeSmudge", "(LPenAcres$Land;Z)Z"⟩ prog_12_method_5_code 3 (Option.some Jvm.ClassFile.FieldType.boolean)) ∈ wG := wG_mem (tm_3 (List.mem_of_getElem? (i := 61) rfl)) rfl
theorem wt_782 : (Cond.methodLink "PenAcres$Tape" 61 ⟨"PenAcres$Tape", "isNumber", "(II)Z"⟩) ∈ wG := wG_mem (tm_3 (List.mem_of_getElem? (i := 62) rfl)) rfl
theorem wt_784 : (Cond.instanceMethod ⟨"PenAcres$Tape", "isNumber", "(II)Z"⟩) ∈ wG := wG_mem (tm_3 (List.mem_of_getElem? (i := 64) rfl)) rfl
theorem wt_785 : (Cond.code ⟨"PenAcres$Tape", "isNumber", "(II)Z"⟩ prog_12_method_12_code 3 (Option.some Jvm.ClassFile.FieldType.boolean)) ∈ wG := wG_mem (tm_3 (List.mem_of_getElem? (i := 65) rfl)) rfl
theorem wt_786 : (Cond.methodLink "PenAcres$Tape" 68 ⟨"PenAcres$Land", "makeSmudged", "(IZ)V"⟩) ∈ wG := wG_mem (tm_3 (List.mem_of_getElem? (i := 66) rfl)) rfl
theorem wt_788 : (Cond.methodLink "PenAcres$Tape" 47 ⟨"PenAcres$Tape", "kindNamed", "([LPenAcres$HandKind;)LPenAcres$HandKind;"⟩) ∈ wG := wG_mem (tm_3 (List.mem_of_getElem? (i := 68) rfl)) rfl
theorem wt_790 : (Cond.instanceMethod ⟨"PenAcres$Tape", "kindNamed", "([LPenAcres$HandKind;)LPenAcres$HandKind;"⟩) ∈ wG := wG_mem (tm_3 (List.mem_of_getElem? (i := 70) rfl)) rfl
theorem wt_791 : (Cond.code ⟨"PenAcres$Tape", "kindNamed", "([LPenAcres$HandKind;)LPenAcres$HandKind;"⟩ prog_12_method_9_code 3 (Option.some (Jvm.ClassFile.FieldType.object "PenAcres$HandKind"))) ∈ wG := wG_mem (tm_3 (List.mem_of_getElem? (i := 71) rfl)) rfl
theorem wt_792 : (Cond.methodLink "PenAcres$Tape" 51 ⟨"PenAcres$Land", "isFull", "()Z"⟩) ∈ wG := wG_mem (tm_3 (List.mem_of_getElem? (i := 72) rfl)) rfl
theorem wt_793 : (Cond.methodLink "PenAcres$Tape" 57 ⟨"PenAcres$Tape", "takeHand", "(LPenAcres$Land;LPenAcres$HandKind;)Z"⟩) ∈ wG := wG_mem (tm_3 (List.mem_of_getElem? (i := 73) rfl)) rfl
theorem wt_795 : (Cond.instanceMethod ⟨"PenAcres$Tape", "takeHand", "(LPenAcres$Land;LPenAcres$HandKind;)Z"⟩) ∈ wG := wG_mem (tm_3 (List.mem_of_getElem? (i := 75) rfl)) rfl
theorem wt_796 : (Cond.code ⟨"PenAcres$Tape", "takeHand", "(LPenAcres$Land;LPenAcres$HandKind;)Z"⟩ prog_12_method_6_code 4 (Option.some Jvm.ClassFile.FieldType.boolean)) ∈ wG := wG_mem (tm_3 (List.mem_of_getElem? (i := 76) rfl)) rfl
theorem wt_798 : (Cond.methodLink "PenAcres$Tape" 74 ⟨"PenAcres$Land", "newHand", "(LPenAcres$HandKind;I)LPenAcres$Hand;"⟩) ∈ wG := wG_mem (tm_3 (List.mem_of_getElem? (i := 78) rfl)) rfl
theorem wt_799 : (Cond.methodLink "PenAcres$Tape" 78 ⟨"PenAcres$Tape", "takeInk", "(LPenAcres$Hand;)Z"⟩) ∈ wG := wG_mem (tm_3 (List.mem_of_getElem? (i := 79) rfl)) rfl
theorem wt_801 : (Cond.instanceMethod ⟨"PenAcres$Tape", "takeInk", "(LPenAcres$Hand;)Z"⟩) ∈ wG := wG_mem (tm_3 (List.mem_of_getElem? (i := 81) rfl)) rfl
theorem wt_802 : (Cond.code ⟨"PenAcres$Tape", "takeInk", "(LPenAcres$Hand;)Z"⟩ prog_12_method_7_code 2 (Option.some Jvm.ClassFile.FieldType.boolean)) ∈ wG := wG_mem (tm_3 (List.mem_of_getElem? (i := 82) rfl)) rfl
theorem wt_804 : (Cond.methodLink "PenAcres$Tape" 82 ⟨"PenAcres$Tape", "takeStrokes", "(LPenAcres$Hand;)Z"⟩) ∈ wG := wG_mem (tm_3 (List.mem_of_getElem? (i := 84) rfl)) rfl
theorem wt_806 : (Cond.instanceMethod ⟨"PenAcres$Tape", "takeStrokes", "(LPenAcres$Hand;)Z"⟩) ∈ wG := wG_mem (tm_3 (List.mem_of_getElem? (i := 86) rfl)) rfl
theorem wt_807 : (Cond.code ⟨"PenAcres$Tape", "takeStrokes", "(LPenAcres$Hand;)Z"⟩ prog_12_method_8_code 4 (Option.some Jvm.ClassFile.FieldType.boolean)) ∈ wG := wG_mem (tm_3 (List.mem_of_getElem? (i := 87) rfl)) rfl
theorem wt_808 : (Cond.methodLink "PenAcres$Tape" 91 ⟨"PenAcres$Tape", "wayNamed", "()I"⟩) ∈ wG := wG_mem (tm_3 (List.mem_of_getElem? (i := 88) rfl)) rfl
theorem wt_810 : (Cond.instanceMethod ⟨"PenAcres$Tape", "wayNamed", "()I"⟩) ∈ wG := wG_mem (tm_3 (List.mem_of_getElem? (i := 90) rfl)) rfl
theorem wt_811 : (Cond.code ⟨"PenAcres$Tape", "wayNamed", "()I"⟩ prog_12_method_10_code 1 (Option.some Jvm.ClassFile.FieldType.int)) ∈ wG := wG_mem (tm_3 (List.mem_of_getElem? (i := 91) rfl)) rfl
theorem wt_816 : (Cond.methodLink "PenAcres$Tape" 95 ⟨"PenAcres$Hand", "addStroke", "(II)Z"⟩) ∈ wG := wG_mem (tm_3 (List.mem_of_getElem? (i := 96) rfl)) rfl
theorem wt_817 : (Cond.methodLink "PenAcres" 293 ⟨"PenAcres$Land", "traceHands", "()V"⟩) ∈ wG := wG_mem (tm_3 (List.mem_of_getElem? (i := 97) rfl)) rfl
theorem wt_818 : (Cond.instanceMethod ⟨"PenAcres$Land", "traceHands", "()V"⟩) ∈ wG := wG_mem (tm_3 (List.mem_of_getElem? (i := 98) rfl)) rfl
theorem wt_819 : (Cond.selects "PenAcres$Land" ⟨"PenAcres$Land", "traceHands", "()V"⟩ ⟨"PenAcres$Land", "traceHands", "()V"⟩) ∈ wG := wG_mem (tm_3 (List.mem_of_getElem? (i := 99) rfl)) rfl
theorem wt_820 : (Cond.code ⟨"PenAcres$Land", "traceHands", "()V"⟩ prog_7_method_6_code 2 (Option.none : Option Jvm.ClassFile.FieldType)) ∈ wG := wG_mem (tm_3 (List.mem_of_getElem? (i := 100) rfl)) rfl
theorem wt_821 : (Cond.methodLink "PenAcres$Land" 51 ⟨"PenAcres$Hand", "trace", "()V"⟩) ∈ wG := wG_mem (tm_3 (List.mem_of_getElem? (i := 101) rfl)) rfl
theorem wt_825 : (Cond.code ⟨"PenAcres", "sheet", "(III)I"⟩ prog_1_method_32_code 5 (Option.some Jvm.ClassFile.FieldType.int)) ∈ wG := wG_mem (tm_3 (List.mem_of_getElem? (i := 105) rfl)) rfl
theorem wt_826 : (Cond.methodLink "PenAcres" 296 ⟨"PenAcres", "sheetOf", "(I)LPenAcres$Sheet;"⟩) ∈ wG := wG_mem (tm_3 (List.mem_of_getElem? (i := 106) rfl)) rfl
theorem wt_828 : (Cond.instanceMethod ⟨"PenAcres", "sheetOf", "(I)LPenAcres$Sheet;"⟩) ∈ wG := wG_mem (tm_3 (List.mem_of_getElem? (i := 108) rfl)) rfl
theorem wt_829 : (Cond.code ⟨"PenAcres", "sheetOf", "(I)LPenAcres$Sheet;"⟩ prog_1_method_46_code 2 (Option.some (Jvm.ClassFile.FieldType.object "PenAcres$Sheet"))) ∈ wG := wG_mem (tm_3 (List.mem_of_getElem? (i := 109) rfl)) rfl
theorem wt_830 : (Cond.methodLink "PenAcres" 300 ⟨"PenAcres", "isBits", "(I)Z"⟩) ∈ wG := wG_mem (tm_3 (List.mem_of_getElem? (i := 110) rfl)) rfl
theorem wt_831 : (Cond.static ⟨"PenAcres", "isBits", "(I)Z"⟩) ∈ wG := wG_mem (tm_3 (List.mem_of_getElem? (i := 111) rfl)) rfl
theorem wt_832 : (Cond.code ⟨"PenAcres", "isBits", "(I)Z"⟩ prog_1_method_54_code 1 (Option.some Jvm.ClassFile.FieldType.boolean)) ∈ wG := wG_mem (tm_3 (List.mem_of_getElem? (i := 112) rfl)) rfl
theorem wt_833 : (Cond.constant "PenAcres" 303 (-1000000007 : Int32)) ∈ wG := wG_mem (tm_3 (List.mem_of_getElem? (i := 113) rfl)) rfl
theorem wt_834 : (Cond.methodLink "PenAcres" 304 ⟨"PenAcres$Sheet", "become", "(II)V"⟩) ∈ wG := wG_mem (tm_3 (List.mem_of_getElem? (i := 114) rfl)) rfl
theorem wt_835 : (Cond.instanceMethod ⟨"PenAcres$Sheet", "become", "(II)V"⟩) ∈ wG := wG_mem (tm_3 (List.mem_of_getElem? (i := 115) rfl)) rfl
theorem wt_836 : (Cond.selects "PenAcres$Sheet" ⟨"PenAcres$Sheet", "become", "(II)V"⟩ ⟨"PenAcres$Sheet", "become", "(II)V"⟩) ∈ wG := wG_mem (tm_3 (List.mem_of_getElem? (i := 116) rfl)) rfl
theorem wt_837 : (Cond.code ⟨"PenAcres$Sheet", "become", "(II)V"⟩ prog_11_method_3_code 4 (Option.none : Option Jvm.ClassFile.FieldType)) ∈ wG := wG_mem (tm_3 (List.mem_of_getElem? (i := 117) rfl)) rfl
theorem wt_841 : (Cond.code ⟨"PenAcres", "write", "(IIJ)J"⟩ prog_1_method_33_code 8 (Option.some Jvm.ClassFile.FieldType.long)) ∈ wG := wG_mem (tm_3 (List.mem_of_getElem? (i := 121) rfl)) rfl
theorem wt_842 : (Cond.methodLink "PenAcres" 308 ⟨"PenAcres$Sheet", "isMissing", "()Z"⟩) ∈ wG := wG_mem (tm_3 (List.mem_of_getElem? (i := 122) rfl)) rfl
theorem wt_843 : (Cond.instanceMethod ⟨"PenAcres$Sheet", "isMissing", "()Z"⟩) ∈ wG := wG_mem (tm_3 (List.mem_of_getElem? (i := 123) rfl)) rfl
theorem wt_844 : (Cond.selects "PenAcres$Sheet" ⟨"PenAcres$Sheet", "isMissing", "()Z"⟩ ⟨"PenAcres$Sheet", "isMissing", "()Z"⟩) ∈ wG := wG_mem (tm_3 (List.mem_of_getElem? (i := 124) rfl)) rfl
theorem wt_845 : (Cond.code ⟨"PenAcres$Sheet", "isMissing", "()Z"⟩ prog_11_method_2_code 1 (Option.some Jvm.ClassFile.FieldType.boolean)) ∈ wG := wG_mem (tm_3 (List.mem_of_getElem? (i := 125) rfl)) rfl
theorem wt_846 : (Cond.constant "PenAcres" 311 (-1000000006 : Int32)) ∈ wG := wG_mem (tm_3 (List.mem_of_getElem? (i := 126) rfl)) rfl
theorem wt_847 : (Cond.methodLink "PenAcres" 316 ⟨"PenAcres$Sheet", "put", "(IJ)V"⟩) ∈ wG := wG_mem (tm_3 (List.mem_of_getElem? (i := 127) rfl)) rfl
theorem wt_848 : (Cond.instanceMethod ⟨"PenAcres$Sheet", "put", "(IJ)V"⟩) ∈ wG := wG_mem (tm_3 (List.mem_of_getElem? (i := 128) rfl)) rfl
theorem wt_849 : (Cond.selects "PenAcres$Sheet" ⟨"PenAcres$Sheet", "put", "(IJ)V"⟩ ⟨"PenAcres$Sheet", "put", "(IJ)V"⟩) ∈ wG := wG_mem (tm_3 (List.mem_of_getElem? (i := 129) rfl)) rfl
theorem wt_850 : (Cond.code ⟨"PenAcres$Sheet", "put", "(IJ)V"⟩ prog_11_method_4_code 4 (Option.none : Option Jvm.ClassFile.FieldType)) ∈ wG := wG_mem (tm_3 (List.mem_of_getElem? (i := 130) rfl)) rfl
theorem wt_851 : (Cond.methodLink "PenAcres$Sheet" 22 ⟨"PenAcres$Sheet", "lowestBits", "(J)J"⟩) ∈ wG := wG_mem (tm_3 (List.mem_of_getElem? (i := 131) rfl)) rfl
theorem wt_853 : (Cond.instanceMethod ⟨"PenAcres$Sheet", "lowestBits", "(J)J"⟩) ∈ wG := wG_mem (tm_3 (List.mem_of_getElem? (i := 133) rfl)) rfl
theorem wt_854 : (Cond.code ⟨"PenAcres$Sheet", "lowestBits", "(J)J"⟩ prog_11_method_5_code 3 (Option.some Jvm.ClassFile.FieldType.long)) ∈ wG := wG_mem (tm_3 (List.mem_of_getElem? (i := 134) rfl)) rfl
theorem wt_858 : (Cond.code ⟨"PenAcres", "copy", "(IIIII)I"⟩ prog_1_method_34_code 8 (Option.some Jvm.ClassFile.FieldType.int)) ∈ wG := wG_mem (tm_3 (List.mem_of_getElem? (i := 138) rfl)) rfl
theorem wt_859 : (Cond.methodLink "PenAcres" 323 ⟨"PenAcres$Sheet", "hasNumbers", "(II)Z"⟩) ∈ wG := wG_mem (tm_3 (List.mem_of_getElem? (i := 139) rfl)) rfl
theorem wt_860 : (Cond.instanceMethod ⟨"PenAcres$Sheet", "hasNumbers", "(II)Z"⟩) ∈ wG := wG_mem (tm_3 (List.mem_of_getElem? (i := 140) rfl)) rfl
theorem wt_861 : (Cond.selects "PenAcres$Sheet" ⟨"PenAcres$Sheet", "hasNumbers", "(II)Z"⟩ ⟨"PenAcres$Sheet", "hasNumbers", "(II)Z"⟩) ∈ wG := wG_mem (tm_3 (List.mem_of_getElem? (i := 141) rfl)) rfl
theorem wt_862 : (Cond.code ⟨"PenAcres$Sheet", "hasNumbers", "(II)Z"⟩ prog_11_method_6_code 3 (Option.some Jvm.ClassFile.FieldType.boolean)) ∈ wG := wG_mem (tm_3 (List.mem_of_getElem? (i := 142) rfl)) rfl
theorem wt_863 : (Cond.methodLink "PenAcres" 326 ⟨"java/lang/System", "arraycopy", "(Ljava/lang/Object;ILjava/lang/Object;II)V"⟩) ∈ wG := wG_mem (tm_3 (List.mem_of_getElem? (i := 143) rfl)) rfl
theorem wt_867 : (Cond.code ⟨"PenAcres", "lays", "(I)I"⟩ prog_1_method_35_code 8 (Option.some Jvm.ClassFile.FieldType.int)) ∈ wG := wG_mem (tm_3 (List.mem_of_getElem? (i := 147) rfl)) rfl
theorem wt_868 : (Cond.constantLong "PenAcres" 332 (999 : Int64)) ∈ wG := wG_mem (tm_3 (List.mem_of_getElem? (i := 148) rfl)) rfl
theorem wt_872 : (Cond.code ⟨"PenAcres", "book", "(II)I"⟩ prog_1_method_36_code 6 (Option.some Jvm.ClassFile.FieldType.int)) ∈ wG := wG_mem (tm_3 (List.mem_of_getElem? (i := 152) rfl)) rfl
theorem wt_876 : (Cond.code ⟨"PenAcres", "read", "(II)I"⟩ prog_1_method_37_code 7 (Option.some Jvm.ClassFile.FieldType.int)) ∈ wG := wG_mem (tm_3 (List.mem_of_getElem? (i := 156) rfl)) rfl
theorem wt_877 : (Cond.methodLink "PenAcres" 334 ⟨"PenAcres", "tells", "(LPenAcres$Sheet;ILPenAcres$HandKind;I)Z"⟩) ∈ wG := wG_mem (tm_3 (List.mem_of_getElem? (i := 157) rfl)) rfl
theorem wt_879 : (Cond.instanceMethod ⟨"PenAcres", "tells", "(LPenAcres$Sheet;ILPenAcres$HandKind;I)Z"⟩) ∈ wG := wG_mem (tm_3 (List.mem_of_getElem? (i := 159) rfl)) rfl
theorem wt_880 : (Cond.code ⟨"PenAcres", "tells", "(LPenAcres$Sheet;ILPenAcres$HandKind;I)Z"⟩ prog_1_method_45_code 7 (Option.some Jvm.ClassFile.FieldType.boolean)) ∈ wG := wG_mem (tm_3 (List.mem_of_getElem? (i := 160) rfl)) rfl
theorem wt_884 : (Cond.code ⟨"PenAcres", "image", "()I"⟩ prog_1_method_38_code 1 (Option.some Jvm.ClassFile.FieldType.int)) ∈ wG := wG_mem (tm_3 (List.mem_of_getElem? (i := 164) rfl)) rfl
theorem wt_888 : (Cond.code ⟨"PenAcres", "undo", "()I"⟩ prog_1_method_39_code 1 (Option.some Jvm.ClassFile.FieldType.int)) ∈ wG := wG_mem (tm_3 (List.mem_of_getElem? (i := 168) rfl)) rfl
theorem wt_892 : (Cond.code ⟨"PenAcres", "tear", "()I"⟩ prog_1_method_40_code 2 (Option.some Jvm.ClassFile.FieldType.int)) ∈ wG := wG_mem (tm_3 (List.mem_of_getElem? (i := 172) rfl)) rfl
theorem wt_896 : (Cond.code ⟨"PenAcres", "count", "(I)I"⟩ prog_1_method_41_code 2 (Option.some Jvm.ClassFile.FieldType.int)) ∈ wG := wG_mem (tm_3 (List.mem_of_getElem? (i := 176) rfl)) rfl
theorem wt_897 : (Cond.methodLink "PenAcres" 342 ⟨"PenAcres$Land", "strokesOfAll", "()I"⟩) ∈ wG := wG_mem (tm_3 (List.mem_of_getElem? (i := 177) rfl)) rfl
theorem wt_898 : (Cond.instanceMethod ⟨"PenAcres$Land", "strokesOfAll", "()I"⟩) ∈ wG := wG_mem (tm_3 (List.mem_of_getElem? (i := 178) rfl)) rfl
theorem wt_899 : (Cond.selects "PenAcres$Land" ⟨"PenAcres$Land", "strokesOfAll", "()I"⟩ ⟨"PenAcres$Land", "strokesOfAll", "()I"⟩) ∈ wG := wG_mem (tm_3 (List.mem_of_getElem? (i := 179) rfl)) rfl
theorem wt_900 : (Cond.code ⟨"PenAcres$Land", "strokesOfAll", "()I"⟩ prog_7_method_23_code 3 (Option.some Jvm.ClassFile.FieldType.int)) ∈ wG := wG_mem (tm_3 (List.mem_of_getElem? (i := 180) rfl)) rfl
theorem wt_901 : (Cond.methodLink "PenAcres" 345 ⟨"PenAcres$Land", "costsOfAll", "()I"⟩) ∈ wG := wG_mem (tm_3 (List.mem_of_getElem? (i := 181) rfl)) rfl
theorem wt_902 : (Cond.instanceMethod ⟨"PenAcres$Land", "costsOfAll", "()I"⟩) ∈ wG := wG_mem (tm_3 (List.mem_of_getElem? (i := 182) rfl)) rfl
theorem wt_903 : (Cond.selects "PenAcres$Land" ⟨"PenAcres$Land", "costsOfAll", "()I"⟩ ⟨"PenAcres$Land", "costsOfAll", "()I"⟩) ∈ wG := wG_mem (tm_3 (List.mem_of_getElem? (i := 183) rfl)) rfl
theorem wt_904 : (Cond.code ⟨"PenAcres$Land", "costsOfAll", "()I"⟩ prog_7_method_24_code 3 (Option.some Jvm.ClassFile.FieldType.int)) ∈ wG := wG_mem (tm_3 (List.mem_of_getElem? (i := 184) rfl)) rfl
theorem wt_908 : (Cond.code ⟨"PenAcres", "status", "(I)I"⟩ prog_1_method_42_code 4 (Option.some Jvm.ClassFile.FieldType.int)) ∈ wG := wG_mem (tm_3 (List.mem_of_getElem? (i := 188) rfl)) rfl
theorem wt_915 : (Cond.fieldLink "PenAcresModel" 7 "PenAcresModel" "s" "[I") ∈ wG := wG_mem (tm_3 (List.mem_of_getElem? (i := 195) rfl)) rfl
theorem wt_916 : (Cond.fieldLink "PenAcresModel" 13 "PenAcresModel" "keptS" "[I") ∈ wG := wG_mem (tm_3 (List.mem_of_getElem? (i := 196) rfl)) rfl
theorem wt_917 : (Cond.fieldLink "PenAcresModel" 16 "PenAcresModel" "other" "[I") ∈ wG := wG_mem (tm_3 (List.mem_of_getElem? (i := 197) rfl)) rfl
theorem wt_918 : (Cond.fieldLink "PenAcresModel" 19 "PenAcresModel" "aside" "[I") ∈ wG := wG_mem (tm_3 (List.mem_of_getElem? (i := 198) rfl)) rfl
theorem wt_919 : (Cond.fieldLink "PenAcresModel" 22 "PenAcresModel" "statuses" "[I") ∈ wG := wG_mem (tm_3 (List.mem_of_getElem? (i := 199) rfl)) rfl
theorem wt_920 : (Cond.fieldLink "PenAcresModel" 325 "PenAcresModel" "isKept" "Z") ∈ wG := wG_mem (tm_3 (List.mem_of_getElem? (i := 200) rfl)) rfl
theorem wt_921 : (Cond.fieldLink "PenAcresModel" 25 "PenAcresModel" "lines" "[J") ∈ wG := wG_mem (tm_3 (List.mem_of_getElem? (i := 201) rfl)) rfl
theorem wt_922 : (Cond.fieldLink "PenAcresModel" 29 "PenAcresModel" "insides" "[J") ∈ wG := wG_mem (tm_3 (List.mem_of_getElem? (i := 202) rfl)) rfl
theorem wt_923 : (Cond.fieldLink "PenAcresModel" 32 "PenAcresModel" "costs" "[I") ∈ wG := wG_mem (tm_3 (List.mem_of_getElem? (i := 203) rfl)) rfl
theorem wt_924 : (Cond.fieldLink "PenAcresModel" 35 "PenAcresModel" "owned" "[I") ∈ wG := wG_mem (tm_3 (List.mem_of_getElem? (i := 204) rfl)) rfl
theorem wt_925 : (Cond.fieldLink "PenAcresModel" 38 "PenAcresModel" "tape" "[I") ∈ wG := wG_mem (tm_3 (List.mem_of_getElem? (i := 205) rfl)) rfl
theorem wt_926 : (Cond.fieldLink "PenAcresModel" 212 "PenAcresModel" "taped" "I") ∈ wG := wG_mem (tm_3 (List.mem_of_getElem? (i := 206) rfl)) rfl
theorem wt_927 : (Cond.fieldLink "PenAcresModel" 227 "PenAcresModel" "from" "I") ∈ wG := wG_mem (tm_3 (List.mem_of_getElem? (i := 207) rfl)) rfl
theorem wt_928 : (Cond.fieldLink "PenAcresModel" 224 "PenAcresModel" "to" "I") ∈ wG := wG_mem (tm_3 (List.mem_of_getElem? (i := 208) rfl)) rfl
theorem wt_929 : (Cond.fieldLink "PenAcresModel" 250 "PenAcresModel" "value" "I") ∈ wG := wG_mem (tm_3 (List.mem_of_getElem? (i := 209) rfl)) rfl
theorem wt_930 : (Cond.fieldLink "PenAcresModel" 239 "PenAcresModel" "isWrong" "Z") ∈ wG := wG_mem (tm_3 (List.mem_of_getElem? (i := 210) rfl)) rfl
theorem wt_931 : (Cond.fieldLink "PenAcresModel" 41 "PenAcresModel" "bitsOf" "[I") ∈ wG := wG_mem (tm_3 (List.mem_of_getElem? (i := 211) rfl)) rfl
theorem wt_932 : (Cond.fieldLink "PenAcresModel" 44 "PenAcresModel" "sizeOf" "[I") ∈ wG := wG_mem (tm_3 (List.mem_of_getElem? (i := 212) rfl)) rfl
theorem wt_933 : (Cond.fieldLink "PenAcresModel" 47 "PenAcresModel" "numbers" "[J") ∈ wG := wG_mem (tm_3 (List.mem_of_getElem? (i := 213) rfl)) rfl
theorem wt_934 : (Cond.fieldLink "PenAcresModel" 50 "PenAcresModel" "moved" "[J") ∈ wG := wG_mem (tm_3 (List.mem_of_getElem? (i := 214) rfl)) rfl
theorem wt_979 : (Cond.code ⟨"PenAcresModel", "smudge", "(II)I"⟩ prog_14_method_30_code 3 (Option.some Jvm.ClassFile.FieldType.int)) ∈ wG := wG_mem (tm_4 (List.mem_of_getElem? (i := 19) rfl)) rfl
theorem wt_980 : (Cond.methodLink "PenAcresModel" 115 ⟨"PenAcresModel", "isCell", "(I)Z"⟩) ∈ wG := wG_mem (tm_4 (List.mem_of_getElem? (i := 20) rfl)) rfl
theorem wt_981 : (Cond.static ⟨"PenAcresModel", "isCell", "(I)Z"⟩) ∈ wG := wG_mem (tm_4 (List.mem_of_getElem? (i := 21) rfl)) rfl
theorem wt_982 : (Cond.code ⟨"PenAcresModel", "isCell", "(I)Z"⟩ prog_14_method_9_code 1 (Option.some Jvm.ClassFile.FieldType.boolean)) ∈ wG := wG_mem (tm_4 (List.mem_of_getElem? (i := 22) rfl)) rfl
theorem wt_983 : (Cond.constantLong "PenAcresModel" 54 (47 : Int64)) ∈ wG := wG_mem (tm_4 (List.mem_of_getElem? (i := 23) rfl)) rfl
theorem wt_984 : (Cond.methodLink "PenAcresModel" 56 ⟨"PenAcresModel", "in", "(JJJ)Z"⟩) ∈ wG := wG_mem (tm_4 (List.mem_of_getElem? (i := 24) rfl)) rfl
theorem wt_985 : (Cond.static ⟨"PenAcresModel", "in", "(JJJ)Z"⟩) ∈ wG := wG_mem (tm_4 (List.mem_of_getElem? (i := 25) rfl)) rfl
theorem wt_986 : (Cond.code ⟨"PenAcresModel", "in", "(JJJ)Z"⟩ prog_14_method_2_code 6 (Option.some Jvm.ClassFile.FieldType.boolean)) ∈ wG := wG_mem (tm_4 (List.mem_of_getElem? (i := 26) rfl)) rfl
theorem wt_987 : (Cond.methodLink "PenAcresModel" 118 ⟨"PenAcresModel", "becomes", "(II)I"⟩) ∈ wG := wG_mem (tm_4 (List.mem_of_getElem? (i := 27) rfl)) rfl
theorem wt_989 : (Cond.instanceMethod ⟨"PenAcresModel", "becomes", "(II)I"⟩) ∈ wG := wG_mem (tm_4 (List.mem_of_getElem? (i := 29) rfl)) rfl
theorem wt_990 : (Cond.code ⟨"PenAcresModel", "becomes", "(II)I"⟩ prog_14_method_8_code 4 (Option.some Jvm.ClassFile.FieldType.int)) ∈ wG := wG_mem (tm_4 (List.mem_of_getElem? (i := 30) rfl)) rfl
theorem wt_991 : (Cond.constant "PenAcresModel" 53 (-1000000001 : Int32)) ∈ wG := wG_mem (tm_4 (List.mem_of_getElem? (i := 31) rfl)) rfl
theorem wt_992 : (Cond.methodLink "PenAcresModel" 121 ⟨"PenAcresModel", "finds", "(I)I"⟩) ∈ wG := wG_mem (tm_4 (List.mem_of_getElem? (i := 32) rfl)) rfl
theorem wt_994 : (Cond.instanceMethod ⟨"PenAcresModel", "finds", "(I)I"⟩) ∈ wG := wG_mem (tm_4 (List.mem_of_getElem? (i := 34) rfl)) rfl
theorem wt_995 : (Cond.code ⟨"PenAcresModel", "finds", "(I)I"⟩ prog_14_method_3_code 2 (Option.some Jvm.ClassFile.FieldType.int)) ∈ wG := wG_mem (tm_4 (List.mem_of_getElem? (i := 35) rfl)) rfl
theorem wt_999 : (Cond.code ⟨"PenAcresModel", "cell", "(II)I"⟩ prog_14_method_32_code 3 (Option.some Jvm.ClassFile.FieldType.int)) ∈ wG := wG_mem (tm_4 (List.mem_of_getElem? (i := 39) rfl)) rfl
theorem wt_1000 : (Cond.constantLong "PenAcresModel" 62 (3 : Int64)) ∈ wG := wG_mem (tm_4 (List.mem_of_getElem? (i := 40) rfl)) rfl
theorem wt_1001 : (Cond.methodLink "PenAcresModel" 124 ⟨"PenAcresModel", "writeAll", "()V"⟩) ∈ wG := wG_mem (tm_4 (List.mem_of_getElem? (i := 41) rfl)) rfl
theorem wt_1003 : (Cond.instanceMethod ⟨"PenAcresModel", "writeAll", "()V"⟩) ∈ wG := wG_mem (tm_4 (List.mem_of_getElem? (i := 43) rfl)) rfl
theorem wt_1004 : (Cond.code ⟨"PenAcresModel", "writeAll", "()V"⟩ prog_14_method_25_code 4 (Option.none : Option Jvm.ClassFile.FieldType)) ∈ wG := wG_mem (tm_4 (List.mem_of_getElem? (i := 44) rfl)) rfl
theorem wt_1005 : (Cond.methodLink "PenAcresModel" 92 ⟨"PenAcresModel", "smudges", "()J"⟩) ∈ wG := wG_mem (tm_4 (List.mem_of_getElem? (i := 45) rfl)) rfl
theorem wt_1007 : (Cond.instanceMethod ⟨"PenAcresModel", "smudges", "()J"⟩) ∈ wG := wG_mem (tm_4 (List.mem_of_getElem? (i := 47) rfl)) rfl
theorem wt_1008 : (Cond.code ⟨"PenAcresModel", "smudges", "()J"⟩ prog_14_method_22_code 4 (Option.some Jvm.ClassFile.FieldType.long)) ∈ wG := wG_mem (tm_4 (List.mem_of_getElem? (i := 48) rfl)) rfl
theorem wt_1009 : (Cond.methodLink "PenAcresModel" 96 ⟨"PenAcresModel", "draws", "(IJ)V"⟩) ∈ wG := wG_mem (tm_4 (List.mem_of_getElem? (i := 49) rfl)) rfl
theorem wt_1011 : (Cond.instanceMethod ⟨"PenAcresModel", "draws", "(IJ)V"⟩) ∈ wG := wG_mem (tm_4 (List.mem_of_getElem? (i := 51) rfl)) rfl
theorem wt_1012 : (Cond.code ⟨"PenAcresModel", "draws", "(IJ)V"⟩ prog_14_method_23_code 12 (Option.none : Option Jvm.ClassFile.FieldType)) ∈ wG := wG_mem (tm_4 (List.mem_of_getElem? (i := 52) rfl)) rfl
theorem wt_1013 : (Cond.methodLink "PenAcresModel" 68 ⟨"PenAcresModel", "its", "(II)I"⟩) ∈ wG := wG_mem (tm_4 (List.mem_of_getElem? (i := 53) rfl)) rfl
theorem wt_1015 : (Cond.instanceMethod ⟨"PenAcresModel", "its", "(II)I"⟩) ∈ wG := wG_mem (tm_4 (List.mem_of_getElem? (i := 55) rfl)) rfl
theorem wt_1016 : (Cond.code ⟨"PenAcresModel", "its", "(II)I"⟩ prog_14_method_14_code 3 (Option.some Jvm.ClassFile.FieldType.int)) ∈ wG := wG_mem (tm_4 (List.mem_of_getElem? (i := 56) rfl)) rfl
theorem wt_1017 : (Cond.methodLink "PenAcresModel" 64 ⟨"PenAcresModel", "spot", "(II)I"⟩) ∈ wG := wG_mem (tm_4 (List.mem_of_getElem? (i := 57) rfl)) rfl
theorem wt_1018 : (Cond.static ⟨"PenAcresModel", "spot", "(II)I"⟩) ∈ wG := wG_mem (tm_4 (List.mem_of_getElem? (i := 58) rfl)) rfl
theorem wt_1019 : (Cond.code ⟨"PenAcresModel", "spot", "(II)I"⟩ prog_14_method_13_code 2 (Option.some Jvm.ClassFile.FieldType.int)) ∈ wG := wG_mem (tm_4 (List.mem_of_getElem? (i := 59) rfl)) rfl
theorem wt_1020 : (Cond.methodLink "PenAcresModel" 71 ⟨"PenAcresModel", "turned", "(II)I"⟩) ∈ wG := wG_mem (tm_4 (List.mem_of_getElem? (i := 60) rfl)) rfl
theorem wt_1022 : (Cond.instanceMethod ⟨"PenAcresModel", "turned", "(II)I"⟩) ∈ wG := wG_mem (tm_4 (List.mem_of_getElem? (i := 62) rfl)) rfl
theorem wt_1023 : (Cond.code ⟨"PenAcresModel", "turned", "(II)I"⟩ prog_14_method_18_code 4 (Option.some Jvm.ClassFile.FieldType.int)) ∈ wG := wG_mem (tm_4 (List.mem_of_getElem? (i := 63) rfl)) rfl
theorem wt_1024 : (Cond.methodLink "PenAcresModel" 74 ⟨"PenAcresModel", "stepsOf", "(II)I"⟩) ∈ wG := wG_mem (tm_4 (List.mem_of_getElem? (i := 64) rfl)) rfl
theorem wt_1026 : (Cond.instanceMethod ⟨"PenAcresModel", "stepsOf", "(II)I"⟩) ∈ wG := wG_mem (tm_4 (List.mem_of_getElem? (i := 66) rfl)) rfl
theorem wt_1027 : (Cond.code ⟨"PenAcresModel", "stepsOf", "(II)I"⟩ prog_14_method_17_code 5 (Option.some Jvm.ClassFile.FieldType.int)) ∈ wG := wG_mem (tm_4 (List.mem_of_getElem? (i := 67) rfl)) rfl
theorem wt_1028 : (Cond.methodLink "PenAcresModel" 77 ⟨"PenAcresModel", "beside", "(II)I"⟩) ∈ wG := wG_mem (tm_4 (List.mem_of_getElem? (i := 68) rfl)) rfl
theorem wt_1029 : (Cond.static ⟨"PenAcresModel", "beside", "(II)I"⟩) ∈ wG := wG_mem (tm_4 (List.mem_of_getElem? (i := 69) rfl)) rfl
theorem wt_1030 : (Cond.code ⟨"PenAcresModel", "beside", "(II)I"⟩ prog_14_method_20_code 4 (Option.some Jvm.ClassFile.FieldType.int)) ∈ wG := wG_mem (tm_4 (List.mem_of_getElem? (i := 70) rfl)) rfl
theorem wt_1031 : (Cond.constantLong "PenAcresModel" 80 (-1 : Int64)) ∈ wG := wG_mem (tm_4 (List.mem_of_getElem? (i := 71) rfl)) rfl
theorem wt_1032 : (Cond.methodLink "PenAcresModel" 100 ⟨"PenAcresModel", "insideOf", "(J)J"⟩) ∈ wG := wG_mem (tm_4 (List.mem_of_getElem? (i := 72) rfl)) rfl
theorem wt_1033 : (Cond.static ⟨"PenAcresModel", "insideOf", "(J)J"⟩) ∈ wG := wG_mem (tm_4 (List.mem_of_getElem? (i := 73) rfl)) rfl
theorem wt_1034 : (Cond.code ⟨"PenAcresModel", "insideOf", "(J)J"⟩ prog_14_method_24_code 9 (Option.some Jvm.ClassFile.FieldType.long)) ∈ wG := wG_mem (tm_4 (List.mem_of_getElem? (i := 74) rfl)) rfl
theorem wt_1035 : (Cond.methodLink "PenAcresModel" 82 ⟨"PenAcresModel", "isEdge", "(I)Z"⟩) ∈ wG := wG_mem (tm_4 (List.mem_of_getElem? (i := 75) rfl)) rfl
theorem wt_1036 : (Cond.static ⟨"PenAcresModel", "isEdge", "(I)Z"⟩) ∈ wG := wG_mem (tm_4 (List.mem_of_getElem? (i := 76) rfl)) rfl
theorem wt_1037 : (Cond.code ⟨"PenAcresModel", "isEdge", "(I)Z"⟩ prog_14_method_21_code 3 (Option.some Jvm.ClassFile.FieldType.boolean)) ∈ wG := wG_mem (tm_4 (List.mem_of_getElem? (i := 77) rfl)) rfl
theorem wt_1038 : (Cond.methodLink "PenAcresModel" 86 ⟨"PenAcresModel", "has", "(JI)Z"⟩) ∈ wG := wG_mem (tm_4 (List.mem_of_getElem? (i := 78) rfl)) rfl
theorem wt_1039 : (Cond.static ⟨"PenAcresModel", "has", "(JI)Z"⟩) ∈ wG := wG_mem (tm_4 (List.mem_of_getElem? (i := 79) rfl)) rfl
theorem wt_1040 : (Cond.code ⟨"PenAcresModel", "has", "(JI)Z"⟩ prog_14_method_15_code 3 (Option.some Jvm.ClassFile.FieldType.boolean)) ∈ wG := wG_mem (tm_4 (List.mem_of_getElem? (i := 80) rfl)) rfl
theorem wt_1041 : (Cond.constantLong "PenAcresModel" 90 (281474976710655 : Int64)) ∈ wG := wG_mem (tm_4 (List.mem_of_getElem? (i := 81) rfl)) rfl
theorem wt_1042 : (Cond.methodLink "PenAcresModel" 111 ⟨"PenAcresModel", "ownerOf", "(I)I"⟩) ∈ wG := wG_mem (tm_4 (List.mem_of_getElem? (i := 82) rfl)) rfl
theorem wt_1044 : (Cond.instanceMethod ⟨"PenAcresModel", "ownerOf", "(I)I"⟩) ∈ wG := wG_mem (tm_4 (List.mem_of_getElem? (i := 84) rfl)) rfl
theorem wt_1045 : (Cond.code ⟨"PenAcresModel", "ownerOf", "(I)I"⟩ prog_14_method_28_code 5 (Option.some Jvm.ClassFile.FieldType.int)) ∈ wG := wG_mem (tm_4 (List.mem_of_getElem? (i := 85) rfl)) rfl
theorem wt_1046 : (Cond.methodLink "PenAcresModel" 108 ⟨"PenAcresModel", "writes", "(I)Z"⟩) ∈ wG := wG_mem (tm_4 (List.mem_of_getElem? (i := 86) rfl)) rfl
theorem wt_1048 : (Cond.instanceMethod ⟨"PenAcresModel", "writes", "(I)Z"⟩) ∈ wG := wG_mem (tm_4 (List.mem_of_getElem? (i := 88) rfl)) rfl
theorem wt_1049 : (Cond.code ⟨"PenAcresModel", "writes", "(I)Z"⟩ prog_14_method_27_code 2 (Option.some Jvm.ClassFile.FieldType.boolean)) ∈ wG := wG_mem (tm_4 (List.mem_of_getElem? (i := 89) rfl)) rfl
theorem wt_1050 : (Cond.methodLink "PenAcresModel" 127 ⟨"PenAcresModel", "thoseWith", "(IZ)I"⟩) ∈ wG := wG_mem (tm_4 (List.mem_of_getElem? (i := 90) rfl)) rfl
theorem wt_1052 : (Cond.instanceMethod ⟨"PenAcresModel", "thoseWith", "(IZ)I"⟩) ∈ wG := wG_mem (tm_4 (List.mem_of_getElem? (i := 92) rfl)) rfl
theorem wt_1053 : (Cond.code ⟨"PenAcresModel", "thoseWith", "(IZ)I"⟩ prog_14_method_31_code 5 (Option.some Jvm.ClassFile.FieldType.int)) ∈ wG := wG_mem (tm_4 (List.mem_of_getElem? (i := 93) rfl)) rfl
theorem wt_1057 : (Cond.code ⟨"PenAcresModel", "cells", "(I)J"⟩ prog_14_method_34_code 5 (Option.some Jvm.ClassFile.FieldType.long)) ∈ wG := wG_mem (tm_4 (List.mem_of_getElem? (i := 97) rfl)) rfl
theorem wt_1058 : (Cond.constantLong "PenAcresModel" 131 (2 : Int64)) ∈ wG := wG_mem (tm_4 (List.mem_of_getElem? (i := 98) rfl)) rfl
theorem wt_1059 : (Cond.methodLink "PenAcresModel" 133 ⟨"PenAcresModel", "writersInside", "(I)I"⟩) ∈ wG := wG_mem (tm_4 (List.mem_of_getElem? (i := 99) rfl)) rfl
theorem wt_1061 : (Cond.instanceMethod ⟨"PenAcresModel", "writersInside", "(I)I"⟩) ∈ wG := wG_mem (tm_4 (List.mem_of_getElem? (i := 101) rfl)) rfl
theorem wt_1062 : (Cond.code ⟨"PenAcresModel", "writersInside", "(I)I"⟩ prog_14_method_33_code 4 (Option.some Jvm.ClassFile.FieldType.int)) ∈ wG := wG_mem (tm_4 (List.mem_of_getElem? (i := 102) rfl)) rfl
theorem wt_1066 : (Cond.code ⟨"PenAcresModel", "hand", "(II)I"⟩ prog_14_method_36_code 3 (Option.some Jvm.ClassFile.FieldType.int)) ∈ wG := wG_mem (tm_4 (List.mem_of_getElem? (i := 106) rfl)) rfl
theorem wt_1067 : (Cond.methodLink "PenAcresModel" 136 ⟨"PenAcresModel", "isKind", "(I)Z"⟩) ∈ wG := wG_mem (tm_4 (List.mem_of_getElem? (i := 107) rfl)) rfl
theorem wt_1068 : (Cond.static ⟨"PenAcresModel", "isKind", "(I)Z"⟩) ∈ wG := wG_mem (tm_4 (List.mem_of_getElem? (i := 108) rfl)) rfl
theorem wt_1069 : (Cond.code ⟨"PenAcresModel", "isKind", "(I)Z"⟩ prog_14_method_11_code 1 (Option.some Jvm.ClassFile.FieldType.boolean)) ∈ wG := wG_mem (tm_4 (List.mem_of_getElem? (i := 109) rfl)) rfl
theorem wt_1070 : (Cond.constantLong "PenAcresModel" 60 (5 : Int64)) ∈ wG := wG_mem (tm_4 (List.mem_of_getElem? (i := 110) rfl)) rfl
theorem wt_1071 : (Cond.constant "PenAcresModel" 139 (-1000000002 : Int32)) ∈ wG := wG_mem (tm_4 (List.mem_of_getElem? (i := 111) rfl)) rfl
theorem wt_1072 : (Cond.methodLink "PenAcresModel" 140 ⟨"PenAcresModel", "adds", "(II)I"⟩) ∈ wG := wG_mem (tm_4 (List.mem_of_getElem? (i := 112) rfl)) rfl
theorem wt_1074 : (Cond.instanceMethod ⟨"PenAcresModel", "adds", "(II)I"⟩) ∈ wG := wG_mem (tm_4 (List.mem_of_getElem? (i := 114) rfl)) rfl
theorem wt_1075 : (Cond.code ⟨"PenAcresModel", "adds", "(II)I"⟩ prog_14_method_35_code 5 (Option.some Jvm.ClassFile.FieldType.int)) ∈ wG := wG_mem (tm_4 (List.mem_of_getElem? (i := 115) rfl)) rfl
theorem wt_1079 : (Cond.code ⟨"PenAcresModel", "stroke", "(III)I"⟩ prog_14_method_38_code 4 (Option.some Jvm.ClassFile.FieldType.int)) ∈ wG := wG_mem (tm_4 (List.mem_of_getElem? (i := 119) rfl)) rfl
theorem wt_1080 : (Cond.methodLink "PenAcresModel" 143 ⟨"PenAcresModel", "isHand", "(I)Z"⟩) ∈ wG := wG_mem (tm_4 (List.mem_of_getElem? (i := 120) rfl)) rfl
theorem wt_1082 : (Cond.instanceMethod ⟨"PenAcresModel", "isHand", "(I)Z"⟩) ∈ wG := wG_mem (tm_4 (List.mem_of_getElem? (i := 122) rfl)) rfl
theorem wt_1083 : (Cond.code ⟨"PenAcresModel", "isHand", "(I)Z"⟩ prog_14_method_10_code 2 (Option.some Jvm.ClassFile.FieldType.boolean)) ∈ wG := wG_mem (tm_4 (List.mem_of_getElem? (i := 123) rfl)) rfl
theorem wt_1084 : (Cond.methodLink "PenAcresModel" 146 ⟨"PenAcresModel", "isWay", "(I)Z"⟩) ∈ wG := wG_mem (tm_4 (List.mem_of_getElem? (i := 124) rfl)) rfl
theorem wt_1085 : (Cond.static ⟨"PenAcresModel", "isWay", "(I)Z"⟩) ∈ wG := wG_mem (tm_4 (List.mem_of_getElem? (i := 125) rfl)) rfl
theorem wt_1086 : (Cond.code ⟨"PenAcresModel", "isWay", "(I)Z"⟩ prog_14_method_12_code 1 (Option.some Jvm.ClassFile.FieldType.boolean)) ∈ wG := wG_mem (tm_4 (List.mem_of_getElem? (i := 126) rfl)) rfl
theorem wt_1087 : (Cond.constantLong "PenAcresModel" 149 (7 : Int64)) ∈ wG := wG_mem (tm_4 (List.mem_of_getElem? (i := 127) rfl)) rfl
theorem wt_1088 : (Cond.methodLink "PenAcresModel" 151 ⟨"PenAcresModel", "strokes", "(III)I"⟩) ∈ wG := wG_mem (tm_4 (List.mem_of_getElem? (i := 128) rfl)) rfl
theorem wt_1090 : (Cond.instanceMethod ⟨"PenAcresModel", "strokes", "(III)I"⟩) ∈ wG := wG_mem (tm_4 (List.mem_of_getElem? (i := 130) rfl)) rfl
theorem wt_1091 : (Cond.code ⟨"PenAcresModel", "strokes", "(III)I"⟩ prog_14_method_37_code 5 (Option.some Jvm.ClassFile.FieldType.int)) ∈ wG := wG_mem (tm_4 (List.mem_of_getElem? (i := 131) rfl)) rfl
theorem wt_1095 : (Cond.code ⟨"PenAcresModel", "of", "(II)I"⟩ prog_14_method_39_code 3 (Option.some Jvm.ClassFile.FieldType.int)) ∈ wG := wG_mem (tm_4 (List.mem_of_getElem? (i := 135) rfl)) rfl
theorem wt_1096 : (Cond.constantLong "PenAcresModel" 155 (9 : Int64)) ∈ wG := wG_mem (tm_4 (List.mem_of_getElem? (i := 136) rfl)) rfl
theorem wt_1097 : (Cond.methodLink "PenAcresModel" 104 ⟨"PenAcresModel", "ones", "(J)I"⟩) ∈ wG := wG_mem (tm_4 (List.mem_of_getElem? (i := 137) rfl)) rfl
theorem wt_1098 : (Cond.static ⟨"PenAcresModel", "ones", "(J)I"⟩) ∈ wG := wG_mem (tm_4 (List.mem_of_getElem? (i := 138) rfl)) rfl
theorem wt_1099 : (Cond.code ⟨"PenAcresModel", "ones", "(J)I"⟩ prog_14_method_16_code 5 (Option.some Jvm.ClassFile.FieldType.int)) ∈ wG := wG_mem (tm_4 (List.mem_of_getElem? (i := 139) rfl)) rfl
theorem wt_1100 : (Cond.methodLink "PenAcresModel" 157 ⟨"PenAcresModel", "ownedBy", "(I)I"⟩) ∈ wG := wG_mem (tm_4 (List.mem_of_getElem? (i := 140) rfl)) rfl
theorem wt_1102 : (Cond.instanceMethod ⟨"PenAcresModel", "ownedBy", "(I)I"⟩) ∈ wG := wG_mem (tm_4 (List.mem_of_getElem? (i := 142) rfl)) rfl
theorem wt_1103 : (Cond.code ⟨"PenAcresModel", "ownedBy", "(I)I"⟩ prog_14_method_29_code 4 (Option.some Jvm.ClassFile.FieldType.int)) ∈ wG := wG_mem (tm_4 (List.mem_of_getElem? (i := 143) rfl)) rfl
theorem wt_1104 : (Cond.methodLink "PenAcresModel" 160 ⟨"PenAcresModel", "cropOf", "(I)I"⟩) ∈ wG := wG_mem (tm_4 (List.mem_of_getElem? (i := 144) rfl)) rfl
theorem wt_1106 : (Cond.instanceMethod ⟨"PenAcresModel", "cropOf", "(I)I"⟩) ∈ wG := wG_mem (tm_4 (List.mem_of_getElem? (i := 146) rfl)) rfl
theorem wt_1107 : (Cond.code ⟨"PenAcresModel", "cropOf", "(I)I"⟩ prog_14_method_19_code 2 (Option.some Jvm.ClassFile.FieldType.int)) ∈ wG := wG_mem (tm_4 (List.mem_of_getElem? (i := 147) rfl)) rfl
theorem wt_1111 : (Cond.code ⟨"PenAcresModel", "told", "(III)I"⟩ prog_14_method_41_code 4 (Option.some Jvm.ClassFile.FieldType.int)) ∈ wG := wG_mem (tm_4 (List.mem_of_getElem? (i := 151) rfl)) rfl
theorem wt_1112 : (Cond.methodLink "PenAcresModel" 163 ⟨"PenAcresModel", "isStroke", "(II)Z"⟩) ∈ wG := wG_mem (tm_4 (List.mem_of_getElem? (i := 152) rfl)) rfl
theorem wt_1114 : (Cond.instanceMethod ⟨"PenAcresModel", "isStroke", "(II)Z"⟩) ∈ wG := wG_mem (tm_4 (List.mem_of_getElem? (i := 154) rfl)) rfl
theorem wt_1115 : (Cond.code ⟨"PenAcresModel", "isStroke", "(II)Z"⟩ prog_14_method_40_code 3 (Option.some Jvm.ClassFile.FieldType.boolean)) ∈ wG := wG_mem (tm_4 (List.mem_of_getElem? (i := 155) rfl)) rfl
theorem wt_1119 : (Cond.code ⟨"PenAcresModel", "set", "(III)I"⟩ prog_14_method_42_code 5 (Option.some Jvm.ClassFile.FieldType.int)) ∈ wG := wG_mem (tm_4 (List.mem_of_getElem? (i := 159) rfl)) rfl
theorem wt_1120 : (Cond.constantLong "PenAcresModel" 167 (999 : Int64)) ∈ wG := wG_mem (tm_4 (List.mem_of_getElem? (i := 160) rfl)) rfl
theorem wt_1124 : (Cond.code ⟨"PenAcresModel", "alter", "(IIII)I"⟩ prog_14_method_43_code 6 (Option.some Jvm.ClassFile.FieldType.int)) ∈ wG := wG_mem (tm_4 (List.mem_of_getElem? (i := 164) rfl)) rfl
theorem wt_1128 : (Cond.code ⟨"PenAcresModel", "cut", "(II)I"⟩ prog_14_method_44_code 3 (Option.some Jvm.ClassFile.FieldType.int)) ∈ wG := wG_mem (tm_4 (List.mem_of_getElem? (i := 168) rfl)) rfl
theorem wt_1132 : (Cond.code ⟨"PenAcresModel", "turn", "(II)I"⟩ prog_14_method_45_code 3 (Option.some Jvm.ClassFile.FieldType.int)) ∈ wG := wG_mem (tm_4 (List.mem_of_getElem? (i := 172) rfl)) rfl
theorem wt_1136 : (Cond.code ⟨"PenAcresModel", "as", "(II)I"⟩ prog_14_method_47_code 3 (Option.some Jvm.ClassFile.FieldType.int)) ∈ wG := wG_mem (tm_4 (List.mem_of_getElem? (i := 176) rfl)) rfl
theorem wt_1137 : (Cond.methodLink "PenAcresModel" 169 ⟨"PenAcresModel", "isUnder", "(II)Z"⟩) ∈ wG := wG_mem (tm_4 (List.mem_of_getElem? (i := 177) rfl)) rfl
theorem wt_1138 : (Cond.static ⟨"PenAcresModel", "isUnder", "(II)Z"⟩) ∈ wG := wG_mem (tm_4 (List.mem_of_getElem? (i := 178) rfl)) rfl
theorem wt_1139 : (Cond.code ⟨"PenAcresModel", "isUnder", "(II)Z"⟩ prog_14_method_46_code 2 (Option.some Jvm.ClassFile.FieldType.boolean)) ∈ wG := wG_mem (tm_4 (List.mem_of_getElem? (i := 179) rfl)) rfl
theorem wt_1140 : (Cond.constant "PenAcresModel" 172 (-1000000003 : Int32)) ∈ wG := wG_mem (tm_4 (List.mem_of_getElem? (i := 180) rfl)) rfl
theorem wt_1144 : (Cond.code ⟨"PenAcresModel", "line", "(I)J"⟩ prog_14_method_48_code 2 (Option.some Jvm.ClassFile.FieldType.long)) ∈ wG := wG_mem (tm_4 (List.mem_of_getElem? (i := 184) rfl)) rfl
theorem wt_1148 : (Cond.code ⟨"PenAcresModel", "inside", "(I)J"⟩ prog_14_method_49_code 2 (Option.some Jvm.ClassFile.FieldType.long)) ∈ wG := wG_mem (tm_4 (List.mem_of_getElem? (i := 188) rfl)) rfl
theorem wt_1152 : (Cond.code ⟨"PenAcresModel", "years", "(I)I"⟩ prog_14_method_53_code 2 (Option.some Jvm.ClassFile.FieldType.int)) ∈ wG := wG_mem (tm_4 (List.mem_of_getElem? (i := 192) rfl)) rfl
theorem wt_1153 : (Cond.constantLong "PenAcresModel" 177 (60 : Int64)) ∈ wG := wG_mem (tm_4 (List.mem_of_getElem? (i := 193) rfl)) rfl
theorem wt_1154 : (Cond.constant "PenAcresModel" 179 (-1000000005 : Int32)) ∈ wG := wG_mem (tm_4 (List.mem_of_getElem? (i := 194) rfl)) rfl
theorem wt_1155 : (Cond.methodLink "PenAcresModel" 180 ⟨"PenAcresModel", "goesOn", "(I)V"⟩) ∈ wG := wG_mem (tm_4 (List.mem_of_getElem? (i := 195) rfl)) rfl
theorem wt_1157 : (Cond.instanceMethod ⟨"PenAcresModel", "goesOn", "(I)V"⟩) ∈ wG := wG_mem (tm_4 (List.mem_of_getElem? (i := 197) rfl)) rfl
theorem wt_1158 : (Cond.code ⟨"PenAcresModel", "goesOn", "(I)V"⟩ prog_14_method_51_code 3 (Option.none : Option Jvm.ClassFile.FieldType)) ∈ wG := wG_mem (tm_4 (List.mem_of_getElem? (i := 198) rfl)) rfl
theorem wt_1159 : (Cond.methodLink "PenAcresModel" 174 ⟨"PenAcresModel", "year", "()V"⟩) ∈ wG := wG_mem (tm_4 (List.mem_of_getElem? (i := 199) rfl)) rfl
theorem wt_1161 : (Cond.instanceMethod ⟨"PenAcresModel", "year", "()V"⟩) ∈ wG := wG_mem (tm_4 (List.mem_of_getElem? (i := 201) rfl)) rfl
theorem wt_1162 : (Cond.code ⟨"PenAcresModel", "year", "()V"⟩ prog_14_method_50_code 4 (Option.none : Option Jvm.ClassFile.FieldType)) ∈ wG := wG_mem (tm_4 (List.mem_of_getElem? (i := 202) rfl)) rfl
theorem wt_1163 : (Cond.constant "PenAcresModel" 173 (99999 : Int32)) ∈ wG := wG_mem (tm_4 (List.mem_of_getElem? (i := 203) rfl)) rfl
theorem wt_1164 : (Cond.methodLink "PenAcresModel" 184 ⟨"PenAcresModel", "together", "(I)I"⟩) ∈ wG := wG_mem (tm_4 (List.mem_of_getElem? (i := 204) rfl)) rfl
theorem wt_1166 : (Cond.instanceMethod ⟨"PenAcresModel", "together", "(I)I"⟩) ∈ wG := wG_mem (tm_4 (List.mem_of_getElem? (i := 206) rfl)) rfl
theorem wt_1167 : (Cond.code ⟨"PenAcresModel", "together", "(I)I"⟩ prog_14_method_52_code 4 (Option.some Jvm.ClassFile.FieldType.int)) ∈ wG := wG_mem (tm_4 (List.mem_of_getElem? (i := 207) rfl)) rfl
theorem wt_1171 : (Cond.code ⟨"PenAcresModel", "now", "(I)I"⟩ prog_14_method_55_code 2 (Option.some Jvm.ClassFile.FieldType.int)) ∈ wG := wG_mem (tm_4 (List.mem_of_getElem? (i := 211) rfl)) rfl
theorem wt_1172 : (Cond.methodLink "PenAcresModel" 187 ⟨"PenAcresModel", "thoseThatWrite", "()I"⟩) ∈ wG := wG_mem (tm_4 (List.mem_of_getElem? (i := 212) rfl)) rfl
theorem wt_1174 : (Cond.instanceMethod ⟨"PenAcresModel", "thoseThatWrite", "()I"⟩) ∈ wG := wG_mem (tm_4 (List.mem_of_getElem? (i := 214) rfl)) rfl
theorem wt_1175 : (Cond.code ⟨"PenAcresModel", "thoseThatWrite", "()I"⟩ prog_14_method_54_code 3 (Option.some Jvm.ClassFile.FieldType.int)) ∈ wG := wG_mem (tm_4 (List.mem_of_getElem? (i := 215) rfl)) rfl
theorem wt_1179 : (Cond.code ⟨"PenAcresModel", "on", "(III)I"⟩ prog_14_method_57_code 4 (Option.some Jvm.ClassFile.FieldType.int)) ∈ wG := wG_mem (tm_4 (List.mem_of_getElem? (i := 219) rfl)) rfl
theorem wt_1180 : (Cond.methodLink "PenAcresModel" 191 ⟨"PenAcresModel", "laysAside", "()V"⟩) ∈ wG := wG_mem (tm_4 (List.mem_of_getElem? (i := 220) rfl)) rfl
theorem wt_1182 : (Cond.instanceMethod ⟨"PenAcresModel", "laysAside", "()V"⟩) ∈ wG := wG_mem (tm_4 (List.mem_of_getElem? (i := 222) rfl)) rfl
theorem wt_1183 : (Cond.code ⟨"PenAcresModel", "laysAside", "()V"⟩ prog_14_method_6_code 2 (Option.none : Option Jvm.ClassFile.FieldType)) ∈ wG := wG_mem (tm_4 (List.mem_of_getElem? (i := 223) rfl)) rfl
theorem wt_1184 : (Cond.methodLink "PenAcresModel" 194 ⟨"PenAcresModel", "ownsNow", "(I)I"⟩) ∈ wG := wG_mem (tm_4 (List.mem_of_getElem? (i := 224) rfl)) rfl
theorem wt_1186 : (Cond.instanceMethod ⟨"PenAcresModel", "ownsNow", "(I)I"⟩) ∈ wG := wG_mem (tm_4 (List.mem_of_getElem? (i := 226) rfl)) rfl
theorem wt_1187 : (Cond.code ⟨"PenAcresModel", "ownsNow", "(I)I"⟩ prog_14_method_56_code 2 (Option.some Jvm.ClassFile.FieldType.int)) ∈ wG := wG_mem (tm_4 (List.mem_of_getElem? (i := 227) rfl)) rfl
theorem wt_1188 : (Cond.methodLink "PenAcresModel" 197 ⟨"PenAcresModel", "takesBack", "(I)I"⟩) ∈ wG := wG_mem (tm_4 (List.mem_of_getElem? (i := 228) rfl)) rfl
theorem wt_1190 : (Cond.instanceMethod ⟨"PenAcresModel", "takesBack", "(I)I"⟩) ∈ wG := wG_mem (tm_4 (List.mem_of_getElem? (i := 230) rfl)) rfl
theorem wt_1191 : (Cond.code ⟨"PenAcresModel", "takesBack", "(I)I"⟩ prog_14_method_7_code 3 (Option.some Jvm.ClassFile.FieldType.int)) ∈ wG := wG_mem (tm_4 (List.mem_of_getElem? (i := 231) rfl)) rfl
theorem wt_1195 : (Cond.code ⟨"PenAcresModel", "dry", "(I)I"⟩ prog_14_method_59_code 4 (Option.some Jvm.ClassFile.FieldType.int)) ∈ wG := wG_mem (tm_4 (List.mem_of_getElem? (i := 235) rfl)) rfl
theorem wt_1196 : (Cond.methodLink "PenAcresModel" 200 ⟨"PenAcresModel", "isDry", "(I)Z"⟩) ∈ wG := wG_mem (tm_4 (List.mem_of_getElem? (i := 236) rfl)) rfl
theorem wt_1198 : (Cond.instanceMethod ⟨"PenAcresModel", "isDry", "(I)Z"⟩) ∈ wG := wG_mem (tm_4 (List.mem_of_getElem? (i := 238) rfl)) rfl
theorem wt_1199 : (Cond.code ⟨"PenAcresModel", "isDry", "(I)Z"⟩ prog_14_method_58_code 2 (Option.some Jvm.ClassFile.FieldType.boolean)) ∈ wG := wG_mem (tm_4 (List.mem_of_getElem? (i := 239) rfl)) rfl
theorem wt_1200 : (Cond.constant "PenAcresModel" 203 (-1000000004 : Int32)) ∈ wG := wG_mem (tm_5 (List.mem_of_getElem? (i := 0) rfl)) rfl
theorem wt_1204 : (Cond.code ⟨"PenAcresModel", "rich", "(I)I"⟩ prog_14_method_61_code 2 (Option.some Jvm.ClassFile.FieldType.int)) ∈ wG := wG_mem (tm_5 (List.mem_of_getElem? (i := 4) rfl)) rfl
theorem wt_1205 : (Cond.methodLink "PenAcresModel" 204 ⟨"PenAcresModel", "richest", "()I"⟩) ∈ wG := wG_mem (tm_5 (List.mem_of_getElem? (i := 5) rfl)) rfl
theorem wt_1207 : (Cond.instanceMethod ⟨"PenAcresModel", "richest", "()I"⟩) ∈ wG := wG_mem (tm_5 (List.mem_of_getElem? (i := 7) rfl)) rfl
theorem wt_1208 : (Cond.code ⟨"PenAcresModel", "richest", "()I"⟩ prog_14_method_60_code 3 (Option.some Jvm.ClassFile.FieldType.int)) ∈ wG := wG_mem (tm_5 (List.mem_of_getElem? (i := 8) rfl)) rfl
theorem wt_1212 : (Cond.code ⟨"PenAcresModel", "rain", "(I)I"⟩ prog_14_method_62_code 8 (Option.some Jvm.ClassFile.FieldType.int)) ∈ wG := wG_mem (tm_5 (List.mem_of_getElem? (i := 12) rfl)) rfl
theorem wt_1213 : (Cond.methodLink "PenAcresModel" 207 ⟨"PenAcresModel", "insideMany", "(I)I"⟩) ∈ wG := wG_mem (tm_5 (List.mem_of_getElem? (i := 13) rfl)) rfl
theorem wt_1215 : (Cond.instanceMethod ⟨"PenAcresModel", "insideMany", "(I)I"⟩) ∈ wG := wG_mem (tm_5 (List.mem_of_getElem? (i := 15) rfl)) rfl
theorem wt_1216 : (Cond.code ⟨"PenAcresModel", "insideMany", "(I)I"⟩ prog_14_method_26_code 2 (Option.some Jvm.ClassFile.FieldType.int)) ∈ wG := wG_mem (tm_5 (List.mem_of_getElem? (i := 16) rfl)) rfl
theorem wt_1220 : (Cond.code ⟨"PenAcresModel", "longer", "(I)I"⟩ prog_14_method_63_code 7 (Option.some Jvm.ClassFile.FieldType.int)) ∈ wG := wG_mem (tm_5 (List.mem_of_getElem? (i := 20) rfl)) rfl
theorem wt_1224 : (Cond.code ⟨"PenAcresModel", "begin", "(I)I"⟩ prog_14_method_64_code 7 (Option.some Jvm.ClassFile.FieldType.int)) ∈ wG := wG_mem (tm_5 (List.mem_of_getElem? (i := 24) rfl)) rfl
theorem wt_1228 : (Cond.code ⟨"PenAcresModel", "kind", "(I)I"⟩ prog_14_method_65_code 7 (Option.some Jvm.ClassFile.FieldType.int)) ∈ wG := wG_mem (tm_5 (List.mem_of_getElem? (i := 28) rfl)) rfl
theorem wt_1232 : (Cond.code ⟨"PenAcresModel", "ink", "(I)I"⟩ prog_14_method_66_code 7 (Option.some Jvm.ClassFile.FieldType.int)) ∈ wG := wG_mem (tm_5 (List.mem_of_getElem? (i := 32) rfl)) rfl
theorem wt_1236 : (Cond.code ⟨"PenAcresModel", "court", "(II)I"⟩ prog_14_method_67_code 3 (Option.some Jvm.ClassFile.FieldType.int)) ∈ wG := wG_mem (tm_5 (List.mem_of_getElem? (i := 36) rfl)) rfl
theorem wt_1240 : (Cond.code ⟨"PenAcresModel", "way", "(III)I"⟩ prog_14_method_68_code 14 (Option.some Jvm.ClassFile.FieldType.int)) ∈ wG := wG_mem (tm_5 (List.mem_of_getElem? (i := 40) rfl)) rfl
theorem wt_1244 : (Cond.code ⟨"PenAcresModel", "sea", "()I"⟩ prog_14_method_69_code 4 (Option.some Jvm.ClassFile.FieldType.int)) ∈ wG := wG_mem (tm_5 (List.mem_of_getElem? (i := 44) rfl)) rfl
theorem wt_1248 : (Cond.code ⟨"PenAcresModel", "feed", "(II)I"⟩ prog_14_method_70_code 4 (Option.some Jvm.ClassFile.FieldType.int)) ∈ wG := wG_mem (tm_5 (List.mem_of_getElem? (i := 48) rfl)) rfl
theorem wt_1249 : (Cond.constantLong "PenAcresModel" 210 (4 : Int64)) ∈ wG := wG_mem (tm_5 (List.mem_of_getElem? (i := 49) rfl)) rfl
theorem wt_1253 : (Cond.code ⟨"PenAcresModel", "wipe", "()I"⟩ prog_14_method_71_code 2 (Option.some Jvm.ClassFile.FieldType.int)) ∈ wG := wG_mem (tm_5 (List.mem_of_getElem? (i := 53) rfl)) rfl
theorem wt_1257 : (Cond.code ⟨"PenAcresModel", "field", "()I"⟩ prog_14_method_83_code 2 (Option.some Jvm.ClassFile.FieldType.int)) ∈ wG := wG_mem (tm_5 (List.mem_of_getElem? (i := 57) rfl)) rfl
theorem wt_1258 : (Cond.methodLink "PenAcresModel" 301 ⟨"PenAcresModel", "saves", "()V"⟩) ∈ wG := wG_mem (tm_5 (List.mem_of_getElem? (i := 58) rfl)) rfl
theorem wt_1260 : (Cond.instanceMethod ⟨"PenAcresModel", "saves", "()V"⟩) ∈ wG := wG_mem (tm_5 (List.mem_of_getElem? (i := 60) rfl)) rfl
theorem wt_1261 : (Cond.code ⟨"PenAcresModel", "saves", "()V"⟩ prog_14_method_4_code 2 (Option.none : Option Jvm.ClassFile.FieldType)) ∈ wG := wG_mem (tm_5 (List.mem_of_getElem? (i := 61) rfl)) rfl
theorem wt_1262 : (Cond.methodLink "PenAcresModel" 243 ⟨"PenAcresModel", "token", "()V"⟩) ∈ wG := wG_mem (tm_5 (List.mem_of_getElem? (i := 62) rfl)) rfl
theorem wt_1264 : (Cond.instanceMethod ⟨"PenAcresModel", "token", "()V"⟩) ∈ wG := wG_mem (tm_5 (List.mem_of_getElem? (i := 64) rfl)) rfl
theorem wt_1265 : (Cond.code ⟨"PenAcresModel", "token", "()V"⟩ prog_14_method_75_code 3 (Option.none : Option Jvm.ClassFile.FieldType)) ∈ wG := wG_mem (tm_5 (List.mem_of_getElem? (i := 65) rfl)) rfl
theorem wt_1266 : (Cond.methodLink "PenAcresModel" 230 ⟨"PenAcresModel", "byteAt", "(I)I"⟩) ∈ wG := wG_mem (tm_5 (List.mem_of_getElem? (i := 66) rfl)) rfl
theorem wt_1268 : (Cond.instanceMethod ⟨"PenAcresModel", "byteAt", "(I)I"⟩) ∈ wG := wG_mem (tm_5 (List.mem_of_getElem? (i := 68) rfl)) rfl
theorem wt_1269 : (Cond.code ⟨"PenAcresModel", "byteAt", "(I)I"⟩ prog_14_method_72_code 2 (Option.some Jvm.ClassFile.FieldType.int)) ∈ wG := wG_mem (tm_5 (List.mem_of_getElem? (i := 69) rfl)) rfl
theorem wt_1270 : (Cond.methodLink "PenAcresModel" 233 ⟨"PenAcresModel", "isLetter", "(I)Z"⟩) ∈ wG := wG_mem (tm_5 (List.mem_of_getElem? (i := 70) rfl)) rfl
theorem wt_1271 : (Cond.static ⟨"PenAcresModel", "isLetter", "(I)Z"⟩) ∈ wG := wG_mem (tm_5 (List.mem_of_getElem? (i := 71) rfl)) rfl
theorem wt_1272 : (Cond.code ⟨"PenAcresModel", "isLetter", "(I)Z"⟩ prog_14_method_73_code 1 (Option.some Jvm.ClassFile.FieldType.boolean)) ∈ wG := wG_mem (tm_5 (List.mem_of_getElem? (i := 72) rfl)) rfl
theorem wt_1273 : (Cond.constantLong "PenAcresModel" 216 (97 : Int64)) ∈ wG := wG_mem (tm_5 (List.mem_of_getElem? (i := 73) rfl)) rfl
theorem wt_1274 : (Cond.constantLong "PenAcresModel" 218 (122 : Int64)) ∈ wG := wG_mem (tm_5 (List.mem_of_getElem? (i := 74) rfl)) rfl
theorem wt_1275 : (Cond.methodLink "PenAcresModel" 236 ⟨"PenAcresModel", "isDigit", "(I)Z"⟩) ∈ wG := wG_mem (tm_5 (List.mem_of_getElem? (i := 75) rfl)) rfl
theorem wt_1276 : (Cond.static ⟨"PenAcresModel", "isDigit", "(I)Z"⟩) ∈ wG := wG_mem (tm_5 (List.mem_of_getElem? (i := 76) rfl)) rfl
theorem wt_1277 : (Cond.code ⟨"PenAcresModel", "isDigit", "(I)Z"⟩ prog_14_method_74_code 1 (Option.some Jvm.ClassFile.FieldType.boolean)) ∈ wG := wG_mem (tm_5 (List.mem_of_getElem? (i := 77) rfl)) rfl
theorem wt_1278 : (Cond.constantLong "PenAcresModel" 220 (48 : Int64)) ∈ wG := wG_mem (tm_5 (List.mem_of_getElem? (i := 78) rfl)) rfl
theorem wt_1279 : (Cond.constantLong "PenAcresModel" 222 (57 : Int64)) ∈ wG := wG_mem (tm_5 (List.mem_of_getElem? (i := 79) rfl)) rfl
theorem wt_1280 : (Cond.methodLink "PenAcresModel" 304 ⟨"PenAcresModel", "item", "()V"⟩) ∈ wG := wG_mem (tm_5 (List.mem_of_getElem? (i := 80) rfl)) rfl
theorem wt_1282 : (Cond.instanceMethod ⟨"PenAcresModel", "item", "()V"⟩) ∈ wG := wG_mem (tm_5 (List.mem_of_getElem? (i := 82) rfl)) rfl
theorem wt_1283 : (Cond.code ⟨"PenAcresModel", "item", "()V"⟩ prog_14_method_82_code 4 (Option.none : Option Jvm.ClassFile.FieldType)) ∈ wG := wG_mem (tm_5 (List.mem_of_getElem? (i := 83) rfl)) rfl
theorem wt_1284 : (Cond.methodLink "PenAcresModel" 291 ⟨"PenAcresModel", "kindHere", "()I"⟩) ∈ wG := wG_mem (tm_5 (List.mem_of_getElem? (i := 84) rfl)) rfl
theorem wt_1286 : (Cond.instanceMethod ⟨"PenAcresModel", "kindHere", "()I"⟩) ∈ wG := wG_mem (tm_5 (List.mem_of_getElem? (i := 86) rfl)) rfl
theorem wt_1287 : (Cond.code ⟨"PenAcresModel", "kindHere", "()I"⟩ prog_14_method_79_code 3 (Option.some Jvm.ClassFile.FieldType.int)) ∈ wG := wG_mem (tm_5 (List.mem_of_getElem? (i := 87) rfl)) rfl
theorem wt_1288 : (Cond.methodLink "PenAcresModel" 257 ⟨"PenAcresModel", "word", "()J"⟩) ∈ wG := wG_mem (tm_5 (List.mem_of_getElem? (i := 88) rfl)) rfl
theorem wt_1290 : (Cond.instanceMethod ⟨"PenAcresModel", "word", "()J"⟩) ∈ wG := wG_mem (tm_5 (List.mem_of_getElem? (i := 90) rfl)) rfl
theorem wt_1291 : (Cond.code ⟨"PenAcresModel", "word", "()J"⟩ prog_14_method_77_code 4 (Option.some Jvm.ClassFile.FieldType.long)) ∈ wG := wG_mem (tm_5 (List.mem_of_getElem? (i := 91) rfl)) rfl
theorem wt_1292 : (Cond.constantLong "PenAcresModel" 246 (36028797018963967 : Int64)) ∈ wG := wG_mem (tm_5 (List.mem_of_getElem? (i := 92) rfl)) rfl
theorem wt_1293 : (Cond.constantLong "PenAcresModel" 248 (32 : Int64)) ∈ wG := wG_mem (tm_5 (List.mem_of_getElem? (i := 93) rfl)) rfl
theorem wt_1294 : (Cond.constantLong "PenAcresModel" 260 (263620 : Int64)) ∈ wG := wG_mem (tm_5 (List.mem_of_getElem? (i := 94) rfl)) rfl
theorem wt_1295 : (Cond.constantLong "PenAcresModel" 262 (13946034 : Int64)) ∈ wG := wG_mem (tm_5 (List.mem_of_getElem? (i := 95) rfl)) rfl
theorem wt_1296 : (Cond.constantLong "PenAcresModel" 264 (152933 : Int64)) ∈ wG := wG_mem (tm_5 (List.mem_of_getElem? (i := 96) rfl)) rfl
theorem wt_1297 : (Cond.constantLong "PenAcresModel" 266 (20186489 : Int64)) ∈ wG := wG_mem (tm_5 (List.mem_of_getElem? (i := 97) rfl)) rfl
theorem wt_1298 : (Cond.constantLong "PenAcresModel" 268 (267570 : Int64)) ∈ wG := wG_mem (tm_5 (List.mem_of_getElem? (i := 98) rfl)) rfl
theorem wt_1299 : (Cond.constantLong "PenAcresModel" 270 (398548 : Int64)) ∈ wG := wG_mem (tm_5 (List.mem_of_getElem? (i := 99) rfl)) rfl
theorem wt_1300 : (Cond.methodLink "PenAcresModel" 294 ⟨"PenAcresModel", "handItem", "(I)V"⟩) ∈ wG := wG_mem (tm_5 (List.mem_of_getElem? (i := 100) rfl)) rfl
theorem wt_1302 : (Cond.instanceMethod ⟨"PenAcresModel", "handItem", "(I)V"⟩) ∈ wG := wG_mem (tm_5 (List.mem_of_getElem? (i := 102) rfl)) rfl
theorem wt_1303 : (Cond.code ⟨"PenAcresModel", "handItem", "(I)V"⟩ prog_14_method_81_code 5 (Option.none : Option Jvm.ClassFile.FieldType)) ∈ wG := wG_mem (tm_5 (List.mem_of_getElem? (i := 103) rfl)) rfl
theorem wt_1304 : (Cond.methodLink "PenAcresModel" 253 ⟨"PenAcresModel", "must", "(Z)V"⟩) ∈ wG := wG_mem (tm_5 (List.mem_of_getElem? (i := 104) rfl)) rfl
theorem wt_1306 : (Cond.instanceMethod ⟨"PenAcresModel", "must", "(Z)V"⟩) ∈ wG := wG_mem (tm_5 (List.mem_of_getElem? (i := 106) rfl)) rfl
theorem wt_1307 : (Cond.code ⟨"PenAcresModel", "must", "(Z)V"⟩ prog_14_method_76_code 2 (Option.none : Option Jvm.ClassFile.FieldType)) ∈ wG := wG_mem (tm_5 (List.mem_of_getElem? (i := 107) rfl)) rfl
theorem wt_1308 : (Cond.constantLong "PenAcresModel" 280 (52 : Int64)) ∈ wG := wG_mem (tm_5 (List.mem_of_getElem? (i := 108) rfl)) rfl
theorem wt_1309 : (Cond.methodLink "PenAcresModel" 282 ⟨"PenAcresModel", "number", "(II)V"⟩) ∈ wG := wG_mem (tm_5 (List.mem_of_getElem? (i := 109) rfl)) rfl
theorem wt_1311 : (Cond.instanceMethod ⟨"PenAcresModel", "number", "(II)V"⟩) ∈ wG := wG_mem (tm_5 (List.mem_of_getElem? (i := 111) rfl)) rfl
theorem wt_1312 : (Cond.code ⟨"PenAcresModel", "number", "(II)V"⟩ prog_14_method_78_code 6 (Option.none : Option Jvm.ClassFile.FieldType)) ∈ wG := wG_mem (tm_5 (List.mem_of_getElem? (i := 112) rfl)) rfl
theorem wt_1313 : (Cond.constantLong "PenAcresModel" 286 (9675 : Int64)) ∈ wG := wG_mem (tm_5 (List.mem_of_getElem? (i := 113) rfl)) rfl
theorem wt_1314 : (Cond.methodLink "PenAcresModel" 288 ⟨"PenAcresModel", "wayHere", "()I"⟩) ∈ wG := wG_mem (tm_5 (List.mem_of_getElem? (i := 114) rfl)) rfl
theorem wt_1316 : (Cond.instanceMethod ⟨"PenAcresModel", "wayHere", "()I"⟩) ∈ wG := wG_mem (tm_5 (List.mem_of_getElem? (i := 116) rfl)) rfl
theorem wt_1317 : (Cond.code ⟨"PenAcresModel", "wayHere", "()I"⟩ prog_14_method_80_code 3 (Option.some Jvm.ClassFile.FieldType.int)) ∈ wG := wG_mem (tm_5 (List.mem_of_getElem? (i := 117) rfl)) rfl
theorem wt_1318 : (Cond.constantLong "PenAcresModel" 272 (688 : Int64)) ∈ wG := wG_mem (tm_5 (List.mem_of_getElem? (i := 118) rfl)) rfl
theorem wt_1319 : (Cond.constantLong "PenAcresModel" 274 (19176724 : Int64)) ∈ wG := wG_mem (tm_5 (List.mem_of_getElem? (i := 119) rfl)) rfl
theorem wt_1320 : (Cond.constantLong "PenAcresModel" 276 (147182 : Int64)) ∈ wG := wG_mem (tm_5 (List.mem_of_getElem? (i := 120) rfl)) rfl
theorem wt_1321 : (Cond.constantLong "PenAcresModel" 278 (66667 : Int64)) ∈ wG := wG_mem (tm_5 (List.mem_of_getElem? (i := 121) rfl)) rfl
theorem wt_1322 : (Cond.constantLong "PenAcresModel" 297 (651858149 : Int64)) ∈ wG := wG_mem (tm_5 (List.mem_of_getElem? (i := 122) rfl)) rfl
theorem wt_1323 : (Cond.constantLong "PenAcresModel" 299 (4697 : Int64)) ∈ wG := wG_mem (tm_5 (List.mem_of_getElem? (i := 123) rfl)) rfl
theorem wt_1324 : (Cond.methodLink "PenAcresModel" 307 ⟨"PenAcresModel", "putsBack", "()V"⟩) ∈ wG := wG_mem (tm_5 (List.mem_of_getElem? (i := 124) rfl)) rfl
theorem wt_1326 : (Cond.instanceMethod ⟨"PenAcresModel", "putsBack", "()V"⟩) ∈ wG := wG_mem (tm_5 (List.mem_of_getElem? (i := 126) rfl)) rfl
theorem wt_1327 : (Cond.code ⟨"PenAcresModel", "putsBack", "()V"⟩ prog_14_method_5_code 2 (Option.none : Option Jvm.ClassFile.FieldType)) ∈ wG := wG_mem (tm_5 (List.mem_of_getElem? (i := 127) rfl)) rfl
theorem wt_1331 : (Cond.code ⟨"PenAcresModel", "sheet", "(III)I"⟩ prog_14_method_85_code 5 (Option.some Jvm.ClassFile.FieldType.int)) ∈ wG := wG_mem (tm_5 (List.mem_of_getElem? (i := 131) rfl)) rfl
theorem wt_1332 : (Cond.methodLink "PenAcresModel" 310 ⟨"PenAcresModel", "isOne", "(I)Z"⟩) ∈ wG := wG_mem (tm_5 (List.mem_of_getElem? (i := 132) rfl)) rfl
theorem wt_1333 : (Cond.static ⟨"PenAcresModel", "isOne", "(I)Z"⟩) ∈ wG := wG_mem (tm_5 (List.mem_of_getElem? (i := 133) rfl)) rfl
theorem wt_1334 : (Cond.code ⟨"PenAcresModel", "isOne", "(I)Z"⟩ prog_14_method_84_code 1 (Option.some Jvm.ClassFile.FieldType.boolean)) ∈ wG := wG_mem (tm_5 (List.mem_of_getElem? (i := 134) rfl)) rfl
theorem wt_1335 : (Cond.constant "PenAcresModel" 313 (-1000000007 : Int32)) ∈ wG := wG_mem (tm_5 (List.mem_of_getElem? (i := 135) rfl)) rfl
theorem wt_1339 : (Cond.code ⟨"PenAcresModel", "write", "(IIJ)J"⟩ prog_14_method_88_code 8 (Option.some Jvm.ClassFile.FieldType.long)) ∈ wG := wG_mem (tm_5 (List.mem_of_getElem? (i := 139) rfl)) rfl
theorem wt_1340 : (Cond.methodLink "PenAcresModel" 315 ⟨"PenAcresModel", "wrong", "(I)I"⟩) ∈ wG := wG_mem (tm_5 (List.mem_of_getElem? (i := 140) rfl)) rfl
theorem wt_1342 : (Cond.instanceMethod ⟨"PenAcresModel", "wrong", "(I)I"⟩) ∈ wG := wG_mem (tm_5 (List.mem_of_getElem? (i := 142) rfl)) rfl
theorem wt_1343 : (Cond.code ⟨"PenAcresModel", "wrong", "(I)I"⟩ prog_14_method_87_code 2 (Option.some Jvm.ClassFile.FieldType.int)) ∈ wG := wG_mem (tm_5 (List.mem_of_getElem? (i := 143) rfl)) rfl
theorem wt_1344 : (Cond.constant "PenAcresModel" 314 (-1000000006 : Int32)) ∈ wG := wG_mem (tm_5 (List.mem_of_getElem? (i := 144) rfl)) rfl
theorem wt_1345 : (Cond.methodLink "PenAcresModel" 318 ⟨"PenAcresModel", "narrowed", "(IJ)J"⟩) ∈ wG := wG_mem (tm_5 (List.mem_of_getElem? (i := 145) rfl)) rfl
theorem wt_1346 : (Cond.static ⟨"PenAcresModel", "narrowed", "(IJ)J"⟩) ∈ wG := wG_mem (tm_5 (List.mem_of_getElem? (i := 146) rfl)) rfl
theorem wt_1347 : (Cond.code ⟨"PenAcresModel", "narrowed", "(IJ)J"⟩ prog_14_method_86_code 3 (Option.some Jvm.ClassFile.FieldType.long)) ∈ wG := wG_mem (tm_5 (List.mem_of_getElem? (i := 147) rfl)) rfl
theorem wt_1351 : (Cond.code ⟨"PenAcresModel", "copy", "(IIIII)I"⟩ prog_14_method_89_code 7 (Option.some Jvm.ClassFile.FieldType.int)) ∈ wG := wG_mem (tm_5 (List.mem_of_getElem? (i := 151) rfl)) rfl
theorem wt_1355 : (Cond.code ⟨"PenAcresModel", "lays", "(I)I"⟩ prog_14_method_90_code 6 (Option.some Jvm.ClassFile.FieldType.int)) ∈ wG := wG_mem (tm_5 (List.mem_of_getElem? (i := 155) rfl)) rfl
theorem wt_1359 : (Cond.code ⟨"PenAcresModel", "book", "(II)I"⟩ prog_14_method_91_code 5 (Option.some Jvm.ClassFile.FieldType.int)) ∈ wG := wG_mem (tm_5 (List.mem_of_getElem? (i := 159) rfl)) rfl
theorem wt_1363 : (Cond.code ⟨"PenAcresModel", "read", "(II)I"⟩ prog_14_method_93_code 6 (Option.some Jvm.ClassFile.FieldType.int)) ∈ wG := wG_mem (tm_5 (List.mem_of_getElem? (i := 163) rfl)) rfl
theorem wt_1364 : (Cond.methodLink "PenAcresModel" 322 ⟨"PenAcresModel", "isBook", "(II)Z"⟩) ∈ wG := wG_mem (tm_5 (List.mem_of_getElem? (i := 164) rfl)) rfl
theorem wt_1366 : (Cond.instanceMethod ⟨"PenAcresModel", "isBook", "(II)Z"⟩) ∈ wG := wG_mem (tm_5 (List.mem_of_getElem? (i := 166) rfl)) rfl
theorem wt_1367 : (Cond.code ⟨"PenAcresModel", "isBook", "(II)Z"⟩ prog_14_method_92_code 4 (Option.some Jvm.ClassFile.FieldType.boolean)) ∈ wG := wG_mem (tm_5 (List.mem_of_getElem? (i := 167) rfl)) rfl
theorem wt_1371 : (Cond.code ⟨"PenAcresModel", "image", "()I"⟩ prog_14_method_94_code 2 (Option.some Jvm.ClassFile.FieldType.int)) ∈ wG := wG_mem (tm_5 (List.mem_of_getElem? (i := 171) rfl)) rfl
theorem wt_1375 : (Cond.code ⟨"PenAcresModel", "undo", "()I"⟩ prog_14_method_95_code 2 (Option.some Jvm.ClassFile.FieldType.int)) ∈ wG := wG_mem (tm_5 (List.mem_of_getElem? (i := 175) rfl)) rfl
theorem wt_1379 : (Cond.code ⟨"PenAcresModel", "tear", "()I"⟩ prog_14_method_96_code 2 (Option.some Jvm.ClassFile.FieldType.int)) ∈ wG := wG_mem (tm_5 (List.mem_of_getElem? (i := 179) rfl)) rfl
theorem wt_1383 : (Cond.code ⟨"PenAcresModel", "count", "(I)I"⟩ prog_14_method_98_code 2 (Option.some Jvm.ClassFile.FieldType.int)) ∈ wG := wG_mem (tm_5 (List.mem_of_getElem? (i := 183) rfl)) rfl
theorem wt_1384 : (Cond.methodLink "PenAcresModel" 328 ⟨"PenAcresModel", "costsAll", "()I"⟩) ∈ wG := wG_mem (tm_5 (List.mem_of_getElem? (i := 184) rfl)) rfl
theorem wt_1386 : (Cond.instanceMethod ⟨"PenAcresModel", "costsAll", "()I"⟩) ∈ wG := wG_mem (tm_5 (List.mem_of_getElem? (i := 186) rfl)) rfl
theorem wt_1387 : (Cond.code ⟨"PenAcresModel", "costsAll", "()I"⟩ prog_14_method_97_code 3 (Option.some Jvm.ClassFile.FieldType.int)) ∈ wG := wG_mem (tm_5 (List.mem_of_getElem? (i := 187) rfl)) rfl
theorem wt_1391 : (Cond.code ⟨"PenAcresModel", "status", "(I)I"⟩ prog_14_method_99_code 4 (Option.some Jvm.ClassFile.FieldType.int)) ∈ wG := wG_mem (tm_5 (List.mem_of_getElem? (i := 191) rfl)) rfl
theorem wt_1392 : (Cond.constantLong "PenAcresModel" 331 (6 : Int64)) ∈ wG := wG_mem (tm_5 (List.mem_of_getElem? (i := 192) rfl)) rfl
theorem wt_1394 : (Cond.sameMethod "PenAcres$MiserKind" "PenAcres$MiserKind" "steps" "(II)I") ∈ wG := wG_mem (tm_5 (List.mem_of_getElem? (i := 194) rfl)) rfl
theorem wt_1395 : (Cond.sameMethod "PenAcres$MiserKind" "PenAcres$MiserKind" "crop" "()I") ∈ wG := wG_mem (tm_5 (List.mem_of_getElem? (i := 195) rfl)) rfl
theorem wt_1396 : (Cond.sameMethod "PenAcres$MiserKind" "PenAcres$MiserKind" "isOf" "(I)Z") ∈ wG := wG_mem (tm_5 (List.mem_of_getElem? (i := 196) rfl)) rfl
theorem wt_1397 : (Cond.sameMethod "PenAcres$DukeKind" "PenAcres$DukeKind" "isOf" "(I)Z") ∈ wG := wG_mem (tm_5 (List.mem_of_getElem? (i := 197) rfl)) rfl
theorem wt_1403 : (Cond.fieldLink "java/lang/String" 9 "java/lang/String" "value" "[B") ∈ wG := wG_mem (tm_5 (List.mem_of_getElem? (i := 203) rfl)) rfl
theorem wt_1404 : (Cond.fieldLink "java/lang/String" 15 "java/lang/String" "coder" "B") ∈ wG := wG_mem (tm_5 (List.mem_of_getElem? (i := 204) rfl)) rfl
theorem ws_0 : (Cond.selects "PenAcres" ⟨"PenAcres", "finding", "(I)I"⟩ ⟨"PenAcres", "finding", "(I)I"⟩) ∈ wG := wG_sel (List.mem_of_getElem? (i := 0) rfl) rfl
theorem ws_1 : (Cond.selects "PenAcres$Land" ⟨"PenAcres$Land", "stakeClaims", "()V"⟩ ⟨"PenAcres$Land", "stakeClaims", "()V"⟩) ∈ wG := wG_sel (List.mem_of_getElem? (i := 1) rfl) rfl
theorem ws_2 : (Cond.selects "PenAcres$Land" ⟨"PenAcres$Land", "shareOf", "(I)J"⟩ ⟨"PenAcres$Land", "shareOf", "(I)J"⟩) ∈ wG := wG_sel (List.mem_of_getElem? (i := 2) rfl) rfl
theorem ws_3 : (Cond.selects "PenAcres$Land" ⟨"PenAcres$Land", "goesBefore", "(II)Z"⟩ ⟨"PenAcres$Land", "goesBefore", "(II)Z"⟩) ∈ wG := wG_sel (List.mem_of_getElem? (i := 3) rfl) rfl
theorem ws_4 : (Cond.selects "PenAcres" ⟨"PenAcres", "onTrial", "(I)LPenAcres$Hand;"⟩ ⟨"PenAcres", "onTrial", "(I)LPenAcres$Hand;"⟩) ∈ wG := wG_sel (List.mem_of_getElem? (i := 4) rfl) rfl
theorem ws_5 : (Cond.selects "PenAcres$Tape" ⟨"PenAcres$Tape", "goOn", "()V"⟩ ⟨"PenAcres$Tape", "goOn", "()V"⟩) ∈ wG := wG_sel (List.mem_of_getElem? (i := 5) rfl) rfl
theorem ws_6 : (Cond.selects "PenAcres$Tape" ⟨"PenAcres$Tape", "byteAt", "(I)C"⟩ ⟨"PenAcres$Tape", "byteAt", "(I)C"⟩) ∈ wG := wG_sel (List.mem_of_getElem? (i := 6) rfl) rfl
theorem ws_7 : (Cond.selects "PenAcres$Tape" ⟨"PenAcres$Tape", "goOverWord", "()V"⟩ ⟨"PenAcres$Tape", "goOverWord", "()V"⟩) ∈ wG := wG_sel (List.mem_of_getElem? (i := 7) rfl) rfl
theorem ws_8 : (Cond.selects "PenAcres$Tape" ⟨"PenAcres$Tape", "goOverNumber", "()V"⟩ ⟨"PenAcres$Tape", "goOverNumber", "()V"⟩) ∈ wG := wG_sel (List.mem_of_getElem? (i := 8) rfl) rfl
theorem ws_9 : (Cond.selects "PenAcres$Tape" ⟨"PenAcres$Tape", "takeItem", "(LPenAcres$Land;[LPenAcres$HandKind;)Z"⟩ ⟨"PenAcres$Tape", "takeItem", "(LPenAcres$Land;[LPenAcres$HandKind;)Z"⟩) ∈ wG := wG_sel (List.mem_of_getElem? (i := 9) rfl) rfl
theorem ws_10 : (Cond.selects "PenAcres$Tape" ⟨"PenAcres$Tape", "isWord", "(Ljava/lang/String;)Z"⟩ ⟨"PenAcres$Tape", "isWord", "(Ljava/lang/String;)Z"⟩) ∈ wG := wG_sel (List.mem_of_getElem? (i := 10) rfl) rfl
theorem ws_11 : (Cond.selects "PenAcres$Tape" ⟨"PenAcres$Tape", "takeSmudge", "(LPenAcres$Land;Z)Z"⟩ ⟨"PenAcres$Tape", "takeSmudge", "(LPenAcres$Land;Z)Z"⟩) ∈ wG := wG_sel (List.mem_of_getElem? (i := 11) rfl) rfl
theorem ws_12 : (Cond.selects "PenAcres$Tape" ⟨"PenAcres$Tape", "isNumber", "(II)Z"⟩ ⟨"PenAcres$Tape", "isNumber", "(II)Z"⟩) ∈ wG := wG_sel (List.mem_of_getElem? (i := 12) rfl) rfl
theorem ws_13 : (Cond.selects "PenAcres$Tape" ⟨"PenAcres$Tape", "kindNamed", "([LPenAcres$HandKind;)LPenAcres$HandKind;"⟩ ⟨"PenAcres$Tape", "kindNamed", "([LPenAcres$HandKind;)LPenAcres$HandKind;"⟩) ∈ wG := wG_sel (List.mem_of_getElem? (i := 13) rfl) rfl
theorem ws_14 : (Cond.selects "PenAcres$Tape" ⟨"PenAcres$Tape", "takeHand", "(LPenAcres$Land;LPenAcres$HandKind;)Z"⟩ ⟨"PenAcres$Tape", "takeHand", "(LPenAcres$Land;LPenAcres$HandKind;)Z"⟩) ∈ wG := wG_sel (List.mem_of_getElem? (i := 14) rfl) rfl
theorem ws_15 : (Cond.selects "PenAcres$Tape" ⟨"PenAcres$Tape", "takeInk", "(LPenAcres$Hand;)Z"⟩ ⟨"PenAcres$Tape", "takeInk", "(LPenAcres$Hand;)Z"⟩) ∈ wG := wG_sel (List.mem_of_getElem? (i := 15) rfl) rfl
theorem ws_16 : (Cond.selects "PenAcres$Tape" ⟨"PenAcres$Tape", "takeStrokes", "(LPenAcres$Hand;)Z"⟩ ⟨"PenAcres$Tape", "takeStrokes", "(LPenAcres$Hand;)Z"⟩) ∈ wG := wG_sel (List.mem_of_getElem? (i := 16) rfl) rfl
theorem ws_17 : (Cond.selects "PenAcres$Tape" ⟨"PenAcres$Tape", "wayNamed", "()I"⟩ ⟨"PenAcres$Tape", "wayNamed", "()I"⟩) ∈ wG := wG_sel (List.mem_of_getElem? (i := 17) rfl) rfl
theorem ws_18 : (Cond.selects "PenAcres" ⟨"PenAcres", "sheetOf", "(I)LPenAcres$Sheet;"⟩ ⟨"PenAcres", "sheetOf", "(I)LPenAcres$Sheet;"⟩) ∈ wG := wG_sel (List.mem_of_getElem? (i := 18) rfl) rfl
theorem ws_19 : (Cond.selects "PenAcres$Sheet" ⟨"PenAcres$Sheet", "lowestBits", "(J)J"⟩ ⟨"PenAcres$Sheet", "lowestBits", "(J)J"⟩) ∈ wG := wG_sel (List.mem_of_getElem? (i := 19) rfl) rfl
theorem ws_20 : (Cond.selects "PenAcres" ⟨"PenAcres", "tells", "(LPenAcres$Sheet;ILPenAcres$HandKind;I)Z"⟩ ⟨"PenAcres", "tells", "(LPenAcres$Sheet;ILPenAcres$HandKind;I)Z"⟩) ∈ wG := wG_sel (List.mem_of_getElem? (i := 20) rfl) rfl
theorem ws_21 : (Cond.selects "PenAcresModel" ⟨"PenAcresModel", "becomes", "(II)I"⟩ ⟨"PenAcresModel", "becomes", "(II)I"⟩) ∈ wG := wG_sel (List.mem_of_getElem? (i := 21) rfl) rfl
theorem ws_22 : (Cond.selects "PenAcresModel" ⟨"PenAcresModel", "finds", "(I)I"⟩ ⟨"PenAcresModel", "finds", "(I)I"⟩) ∈ wG := wG_sel (List.mem_of_getElem? (i := 22) rfl) rfl
theorem ws_23 : (Cond.selects "PenAcresModel" ⟨"PenAcresModel", "writeAll", "()V"⟩ ⟨"PenAcresModel", "writeAll", "()V"⟩) ∈ wG := wG_sel (List.mem_of_getElem? (i := 23) rfl) rfl
theorem ws_24 : (Cond.selects "PenAcresModel" ⟨"PenAcresModel", "smudges", "()J"⟩ ⟨"PenAcresModel", "smudges", "()J"⟩) ∈ wG := wG_sel (List.mem_of_getElem? (i := 24) rfl) rfl
theorem ws_25 : (Cond.selects "PenAcresModel" ⟨"PenAcresModel", "draws", "(IJ)V"⟩ ⟨"PenAcresModel", "draws", "(IJ)V"⟩) ∈ wG := wG_sel (List.mem_of_getElem? (i := 25) rfl) rfl
theorem ws_26 : (Cond.selects "PenAcresModel" ⟨"PenAcresModel", "its", "(II)I"⟩ ⟨"PenAcresModel", "its", "(II)I"⟩) ∈ wG := wG_sel (List.mem_of_getElem? (i := 26) rfl) rfl
theorem ws_27 : (Cond.selects "PenAcresModel" ⟨"PenAcresModel", "turned", "(II)I"⟩ ⟨"PenAcresModel", "turned", "(II)I"⟩) ∈ wG := wG_sel (List.mem_of_getElem? (i := 27) rfl) rfl
theorem ws_28 : (Cond.selects "PenAcresModel" ⟨"PenAcresModel", "stepsOf", "(II)I"⟩ ⟨"PenAcresModel", "stepsOf", "(II)I"⟩) ∈ wG := wG_sel (List.mem_of_getElem? (i := 28) rfl) rfl
theorem ws_29 : (Cond.selects "PenAcresModel" ⟨"PenAcresModel", "ownerOf", "(I)I"⟩ ⟨"PenAcresModel", "ownerOf", "(I)I"⟩) ∈ wG := wG_sel (List.mem_of_getElem? (i := 29) rfl) rfl
theorem ws_30 : (Cond.selects "PenAcresModel" ⟨"PenAcresModel", "writes", "(I)Z"⟩ ⟨"PenAcresModel", "writes", "(I)Z"⟩) ∈ wG := wG_sel (List.mem_of_getElem? (i := 30) rfl) rfl
theorem ws_31 : (Cond.selects "PenAcresModel" ⟨"PenAcresModel", "thoseWith", "(IZ)I"⟩ ⟨"PenAcresModel", "thoseWith", "(IZ)I"⟩) ∈ wG := wG_sel (List.mem_of_getElem? (i := 31) rfl) rfl
theorem ws_32 : (Cond.selects "PenAcresModel" ⟨"PenAcresModel", "writersInside", "(I)I"⟩ ⟨"PenAcresModel", "writersInside", "(I)I"⟩) ∈ wG := wG_sel (List.mem_of_getElem? (i := 32) rfl) rfl
theorem ws_33 : (Cond.selects "PenAcresModel" ⟨"PenAcresModel", "adds", "(II)I"⟩ ⟨"PenAcresModel", "adds", "(II)I"⟩) ∈ wG := wG_sel (List.mem_of_getElem? (i := 33) rfl) rfl
theorem ws_34 : (Cond.selects "PenAcresModel" ⟨"PenAcresModel", "isHand", "(I)Z"⟩ ⟨"PenAcresModel", "isHand", "(I)Z"⟩) ∈ wG := wG_sel (List.mem_of_getElem? (i := 34) rfl) rfl
theorem ws_35 : (Cond.selects "PenAcresModel" ⟨"PenAcresModel", "strokes", "(III)I"⟩ ⟨"PenAcresModel", "strokes", "(III)I"⟩) ∈ wG := wG_sel (List.mem_of_getElem? (i := 35) rfl) rfl
theorem ws_36 : (Cond.selects "PenAcresModel" ⟨"PenAcresModel", "ownedBy", "(I)I"⟩ ⟨"PenAcresModel", "ownedBy", "(I)I"⟩) ∈ wG := wG_sel (List.mem_of_getElem? (i := 36) rfl) rfl
theorem ws_37 : (Cond.selects "PenAcresModel" ⟨"PenAcresModel", "cropOf", "(I)I"⟩ ⟨"PenAcresModel", "cropOf", "(I)I"⟩) ∈ wG := wG_sel (List.mem_of_getElem? (i := 37) rfl) rfl
theorem ws_38 : (Cond.selects "PenAcresModel" ⟨"PenAcresModel", "isStroke", "(II)Z"⟩ ⟨"PenAcresModel", "isStroke", "(II)Z"⟩) ∈ wG := wG_sel (List.mem_of_getElem? (i := 38) rfl) rfl
theorem ws_39 : (Cond.selects "PenAcresModel" ⟨"PenAcresModel", "goesOn", "(I)V"⟩ ⟨"PenAcresModel", "goesOn", "(I)V"⟩) ∈ wG := wG_sel (List.mem_of_getElem? (i := 39) rfl) rfl
theorem ws_40 : (Cond.selects "PenAcresModel" ⟨"PenAcresModel", "year", "()V"⟩ ⟨"PenAcresModel", "year", "()V"⟩) ∈ wG := wG_sel (List.mem_of_getElem? (i := 40) rfl) rfl
theorem ws_41 : (Cond.selects "PenAcresModel" ⟨"PenAcresModel", "together", "(I)I"⟩ ⟨"PenAcresModel", "together", "(I)I"⟩) ∈ wG := wG_sel (List.mem_of_getElem? (i := 41) rfl) rfl
theorem ws_42 : (Cond.selects "PenAcresModel" ⟨"PenAcresModel", "thoseThatWrite", "()I"⟩ ⟨"PenAcresModel", "thoseThatWrite", "()I"⟩) ∈ wG := wG_sel (List.mem_of_getElem? (i := 42) rfl) rfl
theorem ws_43 : (Cond.selects "PenAcresModel" ⟨"PenAcresModel", "laysAside", "()V"⟩ ⟨"PenAcresModel", "laysAside", "()V"⟩) ∈ wG := wG_sel (List.mem_of_getElem? (i := 43) rfl) rfl
theorem ws_44 : (Cond.selects "PenAcresModel" ⟨"PenAcresModel", "ownsNow", "(I)I"⟩ ⟨"PenAcresModel", "ownsNow", "(I)I"⟩) ∈ wG := wG_sel (List.mem_of_getElem? (i := 44) rfl) rfl
theorem ws_45 : (Cond.selects "PenAcresModel" ⟨"PenAcresModel", "takesBack", "(I)I"⟩ ⟨"PenAcresModel", "takesBack", "(I)I"⟩) ∈ wG := wG_sel (List.mem_of_getElem? (i := 45) rfl) rfl
theorem ws_46 : (Cond.selects "PenAcresModel" ⟨"PenAcresModel", "isDry", "(I)Z"⟩ ⟨"PenAcresModel", "isDry", "(I)Z"⟩) ∈ wG := wG_sel (List.mem_of_getElem? (i := 46) rfl) rfl
theorem ws_47 : (Cond.selects "PenAcresModel" ⟨"PenAcresModel", "richest", "()I"⟩ ⟨"PenAcresModel", "richest", "()I"⟩) ∈ wG := wG_sel (List.mem_of_getElem? (i := 47) rfl) rfl
theorem ws_48 : (Cond.selects "PenAcresModel" ⟨"PenAcresModel", "insideMany", "(I)I"⟩ ⟨"PenAcresModel", "insideMany", "(I)I"⟩) ∈ wG := wG_sel (List.mem_of_getElem? (i := 48) rfl) rfl
theorem ws_49 : (Cond.selects "PenAcresModel" ⟨"PenAcresModel", "saves", "()V"⟩ ⟨"PenAcresModel", "saves", "()V"⟩) ∈ wG := wG_sel (List.mem_of_getElem? (i := 49) rfl) rfl
theorem ws_50 : (Cond.selects "PenAcresModel" ⟨"PenAcresModel", "token", "()V"⟩ ⟨"PenAcresModel", "token", "()V"⟩) ∈ wG := wG_sel (List.mem_of_getElem? (i := 50) rfl) rfl
theorem ws_51 : (Cond.selects "PenAcresModel" ⟨"PenAcresModel", "byteAt", "(I)I"⟩ ⟨"PenAcresModel", "byteAt", "(I)I"⟩) ∈ wG := wG_sel (List.mem_of_getElem? (i := 51) rfl) rfl
theorem ws_52 : (Cond.selects "PenAcresModel" ⟨"PenAcresModel", "item", "()V"⟩ ⟨"PenAcresModel", "item", "()V"⟩) ∈ wG := wG_sel (List.mem_of_getElem? (i := 52) rfl) rfl
theorem ws_53 : (Cond.selects "PenAcresModel" ⟨"PenAcresModel", "kindHere", "()I"⟩ ⟨"PenAcresModel", "kindHere", "()I"⟩) ∈ wG := wG_sel (List.mem_of_getElem? (i := 53) rfl) rfl
theorem ws_54 : (Cond.selects "PenAcresModel" ⟨"PenAcresModel", "word", "()J"⟩ ⟨"PenAcresModel", "word", "()J"⟩) ∈ wG := wG_sel (List.mem_of_getElem? (i := 54) rfl) rfl
theorem ws_55 : (Cond.selects "PenAcresModel" ⟨"PenAcresModel", "handItem", "(I)V"⟩ ⟨"PenAcresModel", "handItem", "(I)V"⟩) ∈ wG := wG_sel (List.mem_of_getElem? (i := 55) rfl) rfl
theorem ws_56 : (Cond.selects "PenAcresModel" ⟨"PenAcresModel", "must", "(Z)V"⟩ ⟨"PenAcresModel", "must", "(Z)V"⟩) ∈ wG := wG_sel (List.mem_of_getElem? (i := 56) rfl) rfl
theorem ws_57 : (Cond.selects "PenAcresModel" ⟨"PenAcresModel", "number", "(II)V"⟩ ⟨"PenAcresModel", "number", "(II)V"⟩) ∈ wG := wG_sel (List.mem_of_getElem? (i := 57) rfl) rfl
theorem ws_58 : (Cond.selects "PenAcresModel" ⟨"PenAcresModel", "wayHere", "()I"⟩ ⟨"PenAcresModel", "wayHere", "()I"⟩) ∈ wG := wG_sel (List.mem_of_getElem? (i := 58) rfl) rfl
theorem ws_59 : (Cond.selects "PenAcresModel" ⟨"PenAcresModel", "putsBack", "()V"⟩ ⟨"PenAcresModel", "putsBack", "()V"⟩) ∈ wG := wG_sel (List.mem_of_getElem? (i := 59) rfl) rfl
theorem ws_60 : (Cond.selects "PenAcresModel" ⟨"PenAcresModel", "wrong", "(I)I"⟩ ⟨"PenAcresModel", "wrong", "(I)I"⟩) ∈ wG := wG_sel (List.mem_of_getElem? (i := 60) rfl) rfl
theorem ws_61 : (Cond.selects "PenAcresModel" ⟨"PenAcresModel", "isBook", "(II)Z"⟩ ⟨"PenAcresModel", "isBook", "(II)Z"⟩) ∈ wG := wG_sel (List.mem_of_getElem? (i := 61) rfl) rfl
theorem ws_62 : (Cond.selects "PenAcresModel" ⟨"PenAcresModel", "costsAll", "()I"⟩ ⟨"PenAcresModel", "costsAll", "()I"⟩) ∈ wG := wG_sel (List.mem_of_getElem? (i := 62) rfl) rfl
theorem ok_X12_in : okY Y_X12_in 3 := ⟨wt_986, wt_12, by decide, ⟨by decide, by decide⟩, by decide +kernel⟩
theorem ok_X12_finds : okY Y_X12_finds 1 := ⟨wt_995, wt_12, by decide, ⟨by decide, by decide⟩, by decide +kernel⟩
theorem ok_X12_saves : okY Y_X12_saves 0 := ⟨wt_1261, wt_12, by decide, ⟨by decide, by decide⟩, by decide +kernel⟩
theorem ok_X12_putsBack : okY Y_X12_putsBack 0 := ⟨wt_1327, wt_12, by decide, ⟨by decide, by decide⟩, by decide +kernel⟩
theorem ok_X12_laysAside : okY Y_X12_laysAside 0 := ⟨wt_1183, wt_12, by decide, ⟨by decide, by decide⟩, by decide +kernel⟩
theorem ok_X12_takesBack : okY Y_X12_takesBack 1 := ⟨wt_1191, wt_12, by decide, ⟨by decide, by decide⟩, by decide +kernel⟩
theorem ok_X12_becomes : okY Y_X12_becomes 2 := ⟨wt_990, wt_12, by decide, ⟨by decide, by decide⟩, by decide +kernel⟩
theorem ok_X12_isCell : okY Y_X12_isCell 1 := ⟨wt_982, wt_12, by decide, ⟨by decide, by decide⟩, by decide +kernel⟩
theorem ok_X12_isHand : okY Y_X12_isHand 1 := ⟨wt_1083, wt_12, by decide, ⟨by decide, by decide⟩, by decide +kernel⟩
theorem ok_X12_isKind : okY Y_X12_isKind 1 := ⟨wt_1069, wt_12, by decide, ⟨by decide, by decide⟩, by decide +kernel⟩
theorem ok_X12_isWay : okY Y_X12_isWay 1 := ⟨wt_1086, wt_12, by decide, ⟨by decide, by decide⟩, by decide +kernel⟩
theorem ok_X12_spot : okY Y_X12_spot 2 := ⟨wt_1019, wt_12, by decide, ⟨by decide, by decide⟩, by decide +kernel⟩
theorem ok_X12_its : okY Y_X12_its 2 := ⟨wt_1016, wt_12, by decide, ⟨by decide, by decide⟩, by decide +kernel⟩
theorem ok_X12_has : okY Y_X12_has 2 := ⟨wt_1040, wt_12, by decide, ⟨by decide, by decide⟩, by decide +kernel⟩
theorem ok_X12_ones : okY Y_X12_ones 1 := ⟨wt_1099, wt_12, by decide, ⟨by decide, by decide⟩, by decide +kernel⟩
theorem ok_X12_stepsOf : okY Y_X12_stepsOf 2 := ⟨wt_1027, wt_12, by decide, ⟨by decide, by decide⟩, by decide +kernel⟩
theorem ok_X12_turned : okY Y_X12_turned 2 := ⟨wt_1023, wt_12, by decide, ⟨by decide, by decide⟩, by decide +kernel⟩
theorem ok_X12_cropOf : okY Y_X12_cropOf 1 := ⟨wt_1107, wt_12, by decide, ⟨by decide, by decide⟩, by decide +kernel⟩
theorem ok_X12_beside : okY Y_X12_beside 2 := ⟨wt_1030, wt_12, by decide, ⟨by decide, by decide⟩, by decide +kernel⟩
theorem ok_X12_isEdge : okY Y_X12_isEdge 1 := ⟨wt_1037, wt_12, by decide, ⟨by decide, by decide⟩, by decide +kernel⟩
theorem ok_X12_smudges : okY Y_X12_smudges 0 := ⟨wt_1008, wt_12, by decide, ⟨by decide, by decide⟩, by decide +kernel⟩
theorem ok_X12_draws : okY Y_X12_draws 2 := ⟨wt_1012, wt_12, by decide, ⟨by decide, by decide⟩, by decide +kernel⟩
theorem ok_X12_insideOf : okY Y_X12_insideOf 1 := ⟨wt_1034, wt_12, by decide, ⟨by decide, by decide⟩, by decide +kernel⟩
theorem ok_X12_writeAll : okY Y_X12_writeAll 0 := ⟨wt_1004, wt_12, by decide, ⟨by decide, by decide⟩, by decide +kernel⟩
theorem ok_X12_insideMany : okY Y_X12_insideMany 1 := ⟨wt_1216, wt_12, by decide, ⟨by decide, by decide⟩, by decide +kernel⟩
theorem ok_X12_writes : okY Y_X12_writes 1 := ⟨wt_1049, wt_12, by decide, ⟨by decide, by decide⟩, by decide +kernel⟩
theorem ok_X12_ownerOf : okY Y_X12_ownerOf 1 := ⟨wt_1045, wt_12, by decide, ⟨by decide, by decide⟩, by decide +kernel⟩
theorem ok_X12_ownedBy : okY Y_X12_ownedBy 1 := ⟨wt_1103, wt_12, by decide, ⟨by decide, by decide⟩, by decide +kernel⟩
theorem ok_X12_smudge : okY Y_X12_smudge 2 := ⟨wt_979, wt_12, by decide, ⟨by decide, by decide⟩, by decide +kernel⟩
theorem ok_X12_thoseWith : okY Y_X12_thoseWith 2 := ⟨wt_1053, wt_12, by decide, ⟨by decide, by decide⟩, by decide +kernel⟩
theorem ok_X12_cell : okY Y_X12_cell 2 := ⟨wt_999, wt_12, by decide, ⟨by decide, by decide⟩, by decide +kernel⟩
theorem ok_X12_writersInside : okY Y_X12_writersInside 1 := ⟨wt_1062, wt_12, by decide, ⟨by decide, by decide⟩, by decide +kernel⟩
theorem ok_X12_cells : okY Y_X12_cells 1 := ⟨wt_1057, wt_12, by decide, ⟨by decide, by decide⟩, by decide +kernel⟩
theorem ok_X12_adds : okY Y_X12_adds 2 := ⟨wt_1075, wt_12, by decide, ⟨by decide, by decide⟩, by decide +kernel⟩
theorem ok_X12_hand : okY Y_X12_hand 2 := ⟨wt_1066, wt_12, by decide, ⟨by decide, by decide⟩, by decide +kernel⟩
theorem ok_X12_strokes : okY Y_X12_strokes 3 := ⟨wt_1091, wt_12, by decide, ⟨by decide, by decide⟩, by decide +kernel⟩
theorem ok_X12_stroke : okY Y_X12_stroke 3 := ⟨wt_1079, wt_12, by decide, ⟨by decide, by decide⟩, by decide +kernel⟩
theorem ok_X12_of : okY Y_X12_of 2 := ⟨wt_1095, wt_12, by decide, ⟨by decide, by decide⟩, by decide +kernel⟩
theorem ok_X12_isStroke : okY Y_X12_isStroke 2 := ⟨wt_1115, wt_12, by decide, ⟨by decide, by decide⟩, by decide +kernel⟩
theorem ok_X12_told : okY Y_X12_told 3 := ⟨wt_1111, wt_12, by decide, ⟨by decide, by decide⟩, by decide +kernel⟩
theorem ok_X12_set : okY Y_X12_set 3 := ⟨wt_1119, wt_12, by decide, ⟨by decide, by decide⟩, by decide +kernel⟩
theorem ok_X12_alter : okY Y_X12_alter 4 := ⟨wt_1124, wt_12, by decide, ⟨by decide, by decide⟩, by decide +kernel⟩
theorem ok_X12_cut : okY Y_X12_cut 2 := ⟨wt_1128, wt_12, by decide, ⟨by decide, by decide⟩, by decide +kernel⟩
theorem ok_X12_turn : okY Y_X12_turn 2 := ⟨wt_1132, wt_12, by decide, ⟨by decide, by decide⟩, by decide +kernel⟩
theorem ok_X12_isUnder : okY Y_X12_isUnder 2 := ⟨wt_1139, wt_12, by decide, ⟨by decide, by decide⟩, by decide +kernel⟩
theorem ok_X12_as : okY Y_X12_as 2 := ⟨wt_1136, wt_12, by decide, ⟨by decide, by decide⟩, by decide +kernel⟩
theorem ok_X12_line : okY Y_X12_line 1 := ⟨wt_1144, wt_12, by decide, ⟨by decide, by decide⟩, by decide +kernel⟩
theorem ok_X12_inside : okY Y_X12_inside 1 := ⟨wt_1148, wt_12, by decide, ⟨by decide, by decide⟩, by decide +kernel⟩
theorem ok_X12_year : okY Y_X12_year 0 := ⟨wt_1162, wt_12, by decide, ⟨by decide, by decide⟩, by decide +kernel⟩
theorem ok_X12_goesOn : okY Y_X12_goesOn 1 := ⟨wt_1158, wt_12, by decide, ⟨by decide, by decide⟩, by decide +kernel⟩
theorem ok_X12_together : okY Y_X12_together 1 := ⟨wt_1167, wt_12, by decide, ⟨by decide, by decide⟩, by decide +kernel⟩
theorem ok_X12_years : okY Y_X12_years 1 := ⟨wt_1152, wt_12, by decide, ⟨by decide, by decide⟩, by decide +kernel⟩
theorem ok_X12_thoseThatWrite : okY Y_X12_thoseThatWrite 0 := ⟨wt_1175, wt_12, by decide, ⟨by decide, by decide⟩, by decide +kernel⟩
theorem ok_X12_now : okY Y_X12_now 1 := ⟨wt_1171, wt_12, by decide, ⟨by decide, by decide⟩, by decide +kernel⟩
theorem ok_X12_ownsNow : okY Y_X12_ownsNow 1 := ⟨wt_1187, wt_12, by decide, ⟨by decide, by decide⟩, by decide +kernel⟩
theorem ok_X12_on : okY Y_X12_on 3 := ⟨wt_1179, wt_12, by decide, ⟨by decide, by decide⟩, by decide +kernel⟩
theorem ok_X12_isDry : okY Y_X12_isDry 1 := ⟨wt_1199, wt_12, by decide, ⟨by decide, by decide⟩, by decide +kernel⟩
theorem ok_X12_dry : okY Y_X12_dry 1 := ⟨wt_1195, wt_12, by decide, ⟨by decide, by decide⟩, by decide +kernel⟩
theorem ok_X12_richest : okY Y_X12_richest 0 := ⟨wt_1208, wt_12, by decide, ⟨by decide, by decide⟩, by decide +kernel⟩
theorem ok_X12_rich : okY Y_X12_rich 1 := ⟨wt_1204, wt_12, by decide, ⟨by decide, by decide⟩, by decide +kernel⟩
theorem ok_X12_rain : okY Y_X12_rain 1 := ⟨wt_1212, wt_12, by decide, ⟨by decide, by decide⟩, by decide +kernel⟩
theorem ok_X12_longer : okY Y_X12_longer 1 := ⟨wt_1220, wt_12, by decide, ⟨by decide, by decide⟩, by decide +kernel⟩
theorem ok_X12_begin : okY Y_X12_begin 1 := ⟨wt_1224, wt_12, by decide, ⟨by decide, by decide⟩, by decide +kernel⟩
theorem ok_X12_kind : okY Y_X12_kind 1 := ⟨wt_1228, wt_12, by decide, ⟨by decide, by decide⟩, by decide +kernel⟩
theorem ok_X12_ink : okY Y_X12_ink 1 := ⟨wt_1232, wt_12, by decide, ⟨by decide, by decide⟩, by decide +kernel⟩
theorem ok_X12_court : okY Y_X12_court 2 := ⟨wt_1236, wt_12, by decide, ⟨by decide, by decide⟩, by decide +kernel⟩
theorem ok_X12_way : okY Y_X12_way 3 := ⟨wt_1240, wt_12, by decide, ⟨by decide, by decide⟩, by decide +kernel⟩
theorem ok_X12_sea : okY Y_X12_sea 0 := ⟨wt_1244, wt_12, by decide, ⟨by decide, by decide⟩, by decide +kernel⟩
theorem ok_X12_feed : okY Y_X12_feed 2 := ⟨wt_1248, wt_12, by decide, ⟨by decide, by decide⟩, by decide +kernel⟩
theorem ok_X12_wipe : okY Y_X12_wipe 0 := ⟨wt_1253, wt_12, by decide, ⟨by decide, by decide⟩, by decide +kernel⟩
theorem ok_X12_byteAt : okY Y_X12_byteAt 1 := ⟨wt_1269, wt_12, by decide, ⟨by decide, by decide⟩, by decide +kernel⟩
theorem ok_X12_isLetter : okY Y_X12_isLetter 1 := ⟨wt_1272, wt_12, by decide, ⟨by decide, by decide⟩, by decide +kernel⟩
theorem ok_X12_isDigit : okY Y_X12_isDigit 1 := ⟨wt_1277, wt_12, by decide, ⟨by decide, by decide⟩, by decide +kernel⟩
theorem ok_X12_token : okY Y_X12_token 0 := ⟨wt_1265, wt_12, by decide, ⟨by decide, by decide⟩, by decide +kernel⟩
theorem ok_X12_must : okY Y_X12_must 1 := ⟨wt_1307, wt_12, by decide, ⟨by decide, by decide⟩, by decide +kernel⟩
theorem ok_X12_word : okY Y_X12_word 0 := ⟨wt_1291, wt_12, by decide, ⟨by decide, by decide⟩, by decide +kernel⟩
theorem ok_X12_number : okY Y_X12_number 2 := ⟨wt_1312, wt_12, by decide, ⟨by decide, by decide⟩, by decide +kernel⟩
theorem ok_X12_kindHere : okY Y_X12_kindHere 0 := ⟨wt_1287, wt_12, by decide, ⟨by decide, by decide⟩, by decide +kernel⟩
theorem ok_X12_wayHere : okY Y_X12_wayHere 0 := ⟨wt_1317, wt_12, by decide, ⟨by decide, by decide⟩, by decide +kernel⟩
theorem ok_X12_handItem : okY Y_X12_handItem 1 := ⟨wt_1303, wt_12, by decide, ⟨by decide, by decide⟩, by decide +kernel⟩
theorem ok_X12_item : okY Y_X12_item 0 := ⟨wt_1283, wt_12, by decide, ⟨by decide, by decide⟩, by decide +kernel⟩
theorem ok_X12_field : okY Y_X12_field 0 := ⟨wt_1257, wt_12, by decide, ⟨by decide, by decide⟩, by decide +kernel⟩
theorem ok_X12_isOne : okY Y_X12_isOne 1 := ⟨wt_1334, wt_12, by decide, ⟨by decide, by decide⟩, by decide +kernel⟩
theorem ok_X12_sheet : okY Y_X12_sheet 3 := ⟨wt_1331, wt_12, by decide, ⟨by decide, by decide⟩, by decide +kernel⟩
theorem ok_X12_narrowed : okY Y_X12_narrowed 2 := ⟨wt_1347, wt_12, by decide, ⟨by decide, by decide⟩, by decide +kernel⟩
theorem ok_X12_wrong : okY Y_X12_wrong 1 := ⟨wt_1343, wt_12, by decide, ⟨by decide, by decide⟩, by decide +kernel⟩
theorem ok_X12_write : okY Y_X12_write 3 := ⟨wt_1339, wt_12, by decide, ⟨by decide, by decide⟩, by decide +kernel⟩
theorem ok_X12_copy : okY Y_X12_copy 5 := ⟨wt_1351, wt_12, by decide, ⟨by decide, by decide⟩, by decide +kernel⟩
theorem ok_X12_lays : okY Y_X12_lays 1 := ⟨wt_1355, wt_12, by decide, ⟨by decide, by decide⟩, by decide +kernel⟩
theorem ok_X12_book : okY Y_X12_book 2 := ⟨wt_1359, wt_12, by decide, ⟨by decide, by decide⟩, by decide +kernel⟩
theorem ok_X12_isBook : okY Y_X12_isBook 2 := ⟨wt_1367, wt_12, by decide, ⟨by decide, by decide⟩, by decide +kernel⟩
theorem ok_X12_read : okY Y_X12_read 2 := ⟨wt_1363, wt_12, by decide, ⟨by decide, by decide⟩, by decide +kernel⟩
theorem ok_X12_image : okY Y_X12_image 0 := ⟨wt_1371, wt_12, by decide, ⟨by decide, by decide⟩, by decide +kernel⟩
theorem ok_X12_undo : okY Y_X12_undo 0 := ⟨wt_1375, wt_12, by decide, ⟨by decide, by decide⟩, by decide +kernel⟩
theorem ok_X12_tear : okY Y_X12_tear 0 := ⟨wt_1379, wt_12, by decide, ⟨by decide, by decide⟩, by decide +kernel⟩
theorem ok_X12_costsAll : okY Y_X12_costsAll 0 := ⟨wt_1387, wt_12, by decide, ⟨by decide, by decide⟩, by decide +kernel⟩
theorem ok_X12_count : okY Y_X12_count 1 := ⟨wt_1383, wt_12, by decide, ⟨by decide, by decide⟩, by decide +kernel⟩
theorem ok_X12_status : okY Y_X12_status 1 := ⟨wt_1391, wt_12, by decide, ⟨by decide, by decide⟩, by decide +kernel⟩
theorem ok_J13_bitCount_95d88 : okY Y_J13_bitCount_95d88 1 := ⟨wt_444, wt_15, by decide, ⟨by decide, by decide⟩, by decide +kernel⟩
theorem ok_X1_bit : okY Y_X1_bit 1 := ⟨wt_277, wt_13, by decide, ⟨by decide, by decide⟩, by decide +kernel⟩
theorem ok_X1_stepFrom : okY Y_X1_stepFrom 2 := ⟨wt_431, wt_13, by decide, ⟨by decide, by decide⟩, by decide +kernel⟩
theorem ok_X1_withBeside : okY Y_X1_withBeside 1 := ⟨wt_310, wt_13, by decide, ⟨by decide, by decide⟩, by decide +kernel⟩
theorem ok_X1_enclosedBy : okY Y_X1_enclosedBy 1 := ⟨wt_304, wt_13, by decide, ⟨by decide, by decide⟩, by decide +kernel⟩
theorem ok_X1_fewestSteps : okY Y_X1_fewestSteps 3 := ⟨wt_671, wt_13, by decide, ⟨by decide, by decide⟩, by decide +kernel⟩
theorem ok_X3_isOf : okY Y_X3_isOf 1 := ⟨wt_544, wt_2, by decide, ⟨by decide, by decide⟩, by decide +kernel⟩
theorem ok_X0_isOf : okY Y_X0_isOf 1 := ⟨wt_526, wt_4, by decide, ⟨by decide, by decide⟩, by decide +kernel⟩
theorem ok_X3_steps : okY Y_X3_steps 2 := ⟨wt_428, wt_2, by decide, ⟨by decide, by decide⟩, by decide +kernel⟩
theorem ok_X0_steps : okY Y_X0_steps 2 := ⟨wt_409, wt_4, by decide, ⟨by decide, by decide⟩, by decide +kernel⟩
theorem ok_X3_turns : okY Y_X3_turns 1 := ⟨wt_402, wt_2, by decide, ⟨by decide, by decide⟩, by decide +kernel⟩
theorem ok_X3_crop : okY Y_X3_crop 0 := ⟨wt_477, wt_2, by decide, ⟨by decide, by decide⟩, by decide +kernel⟩
theorem ok_X7_isOf : okY Y_X7_isOf 1 := ⟨wt_533, wt_3, by decide, ⟨by decide, by decide⟩, by decide +kernel⟩
theorem ok_X4_isOf : okY Y_X4_isOf 1 := ⟨wt_530, wt_6, by decide, ⟨by decide, by decide⟩, by decide +kernel⟩
theorem ok_X7_steps : okY Y_X7_steps 2 := ⟨wt_416, wt_3, by decide, ⟨by decide, by decide⟩, by decide +kernel⟩
theorem ok_X4_steps : okY Y_X4_steps 2 := ⟨wt_413, wt_6, by decide, ⟨by decide, by decide⟩, by decide +kernel⟩
theorem ok_X7_crop : okY Y_X7_crop 0 := ⟨wt_464, wt_3, by decide, ⟨by decide, by decide⟩, by decide +kernel⟩
theorem ok_X4_crop : okY Y_X4_crop 0 := ⟨wt_461, wt_6, by decide, ⟨by decide, by decide⟩, by decide +kernel⟩
theorem ok_X6_isOf : okY Y_X6_isOf 1 := ⟨wt_537, wt_7, by decide, ⟨by decide, by decide⟩, by decide +kernel⟩
theorem ok_X6_turns : okY Y_X6_turns 1 := ⟨wt_396, wt_7, by decide, ⟨by decide, by decide⟩, by decide +kernel⟩
theorem ok_X6_crop : okY Y_X6_crop 0 := ⟨wt_468, wt_7, by decide, ⟨by decide, by decide⟩, by decide +kernel⟩
theorem ok_X8_isOf : okY Y_X8_isOf 1 := ⟨wt_542, wt_5, by decide, ⟨by decide, by decide⟩, by decide +kernel⟩
theorem ok_X8_steps : okY Y_X8_steps 2 := ⟨wt_425, wt_5, by decide, ⟨by decide, by decide⟩, by decide +kernel⟩
theorem ok_X8_crop : okY Y_X8_crop 0 := ⟨wt_475, wt_5, by decide, ⟨by decide, by decide⟩, by decide +kernel⟩
theorem ok_X11_within : okY Y_X11_within 3 := ⟨wt_262, wt_1, by decide, ⟨by decide, by decide⟩, by decide +kernel⟩
theorem ok_X11_isCell : okY Y_X11_isCell 1 := ⟨wt_259, wt_1, by decide, ⟨by decide, by decide⟩, by decide +kernel⟩
theorem ok_X11_finding : okY Y_X11_finding 1 := ⟨wt_267, wt_1, by decide, ⟨by decide, by decide⟩, by decide +kernel⟩
theorem ok_X11_bitOf : okY Y_X11_bitOf 2 := ⟨wt_270, wt_1, by decide, ⟨by decide, by decide⟩, by decide +kernel⟩
theorem ok_X5_makeSmudged : okY Y_X5_makeSmudged 2 := ⟨wt_274, wt_8, by decide, ⟨by decide, by decide⟩, by decide +kernel⟩
theorem ok_X11_smudge : okY Y_X11_smudge 2 := ⟨wt_256, wt_1, by decide, ⟨by decide, by decide⟩, by decide +kernel⟩
theorem ok_X2_lineUnder : okY Y_X2_lineUnder 1 := ⟨wt_290, wt_9, by decide, ⟨by decide, by decide⟩, by decide +kernel⟩
theorem ok_X5_handsOnWhoseLines : okY Y_X5_handsOnWhoseLines 1 := ⟨wt_286, wt_8, by decide, ⟨by decide, by decide⟩, by decide +kernel⟩
theorem ok_X2_insideUnder : okY Y_X2_insideUnder 1 := ⟨wt_300, wt_9, by decide, ⟨by decide, by decide⟩, by decide +kernel⟩
theorem ok_X5_handsAround : okY Y_X5_handsAround 1 := ⟨wt_296, wt_8, by decide, ⟨by decide, by decide⟩, by decide +kernel⟩
theorem ok_X2_writes : okY Y_X2_writes 0 := ⟨wt_324, wt_9, by decide, ⟨by decide, by decide⟩, by decide +kernel⟩
theorem ok_X5_stakeClaims : okY Y_X5_stakeClaims 0 := ⟨wt_320, wt_8, by decide, ⟨by decide, by decide⟩, by decide +kernel⟩
theorem ok_X5_goesBefore : okY Y_X5_goesBefore 2 := ⟨wt_332, wt_8, by decide, ⟨by decide, by decide⟩, by decide +kernel⟩
theorem ok_X5_shareOf : okY Y_X5_shareOf 1 := ⟨wt_328, wt_8, by decide, ⟨by decide, by decide⟩, by decide +kernel⟩
theorem ok_X5_ownerOf : okY Y_X5_ownerOf 1 := ⟨wt_316, wt_8, by decide, ⟨by decide, by decide⟩, by decide +kernel⟩
theorem ok_X11_cell : okY Y_X11_cell 2 := ⟨wt_282, wt_1, by decide, ⟨by decide, by decide⟩, by decide +kernel⟩
theorem ok_X5_disputed : okY Y_X5_disputed 0 := ⟨wt_340, wt_8, by decide, ⟨by decide, by decide⟩, by decide +kernel⟩
theorem ok_X5_owned : okY Y_X5_owned 0 := ⟨wt_344, wt_8, by decide, ⟨by decide, by decide⟩, by decide +kernel⟩
theorem ok_X11_cells : okY Y_X11_cells 1 := ⟨wt_336, wt_1, by decide, ⟨by decide, by decide⟩, by decide +kernel⟩
theorem ok_X11_isKind : okY Y_X11_isKind 1 := ⟨wt_351, wt_1, by decide, ⟨by decide, by decide⟩, by decide +kernel⟩
theorem ok_X5_isFull : okY Y_X5_isFull 0 := ⟨wt_359, wt_8, by decide, ⟨by decide, by decide⟩, by decide +kernel⟩
theorem ok_X2_startAnew : okY Y_X2_startAnew 2 := ⟨wt_363, wt_9, by decide, ⟨by decide, by decide⟩, by decide +kernel⟩
theorem ok_X5_newHand : okY Y_X5_newHand 2 := ⟨wt_355, wt_8, by decide, ⟨by decide, by decide⟩, by decide +kernel⟩
theorem ok_X11_hand : okY Y_X11_hand 2 := ⟨wt_348, wt_1, by decide, ⟨by decide, by decide⟩, by decide +kernel⟩
theorem ok_X5_handOf : okY Y_X5_handOf 1 := ⟨wt_373, wt_8, by decide, ⟨by decide, by decide⟩, by decide +kernel⟩
theorem ok_X11_isWay : okY Y_X11_isWay 1 := ⟨wt_376, wt_1, by decide, ⟨by decide, by decide⟩, by decide +kernel⟩
theorem ok_X11_isLength : okY Y_X11_isLength 1 := ⟨wt_379, wt_1, by decide, ⟨by decide, by decide⟩, by decide +kernel⟩
theorem ok_X2_addStroke : okY Y_X2_addStroke 2 := ⟨wt_383, wt_9, by decide, ⟨by decide, by decide⟩, by decide +kernel⟩
theorem ok_X2_trace : okY Y_X2_trace 0 := ⟨wt_387, wt_9, by decide, ⟨by decide, by decide⟩, by decide +kernel⟩
theorem ok_X11_stroke : okY Y_X11_stroke 3 := ⟨wt_369, wt_1, by decide, ⟨by decide, by decide⟩, by decide +kernel⟩
theorem ok_X2_howManyInside : okY Y_X2_howManyInside 1 := ⟨wt_440, wt_9, by decide, ⟨by decide, by decide⟩, by decide +kernel⟩
theorem ok_X5_howManyOwnedBy : okY Y_X5_howManyOwnedBy 1 := ⟨wt_451, wt_8, by decide, ⟨by decide, by decide⟩, by decide +kernel⟩
theorem ok_X11_of : okY Y_X11_of 2 := ⟨wt_435, wt_1, by decide, ⟨by decide, by decide⟩, by decide +kernel⟩
theorem ok_X2_hasStroke : okY Y_X2_hasStroke 1 := ⟨wt_485, wt_9, by decide, ⟨by decide, by decide⟩, by decide +kernel⟩
theorem ok_X11_told : okY Y_X11_told 3 := ⟨wt_481, wt_1, by decide, ⟨by decide, by decide⟩, by decide +kernel⟩
theorem ok_X2_moveTo : okY Y_X2_moveTo 1 := ⟨wt_495, wt_9, by decide, ⟨by decide, by decide⟩, by decide +kernel⟩
theorem ok_X11_isInk : okY Y_X11_isInk 1 := ⟨wt_499, wt_1, by decide, ⟨by decide, by decide⟩, by decide +kernel⟩
theorem ok_X11_set : okY Y_X11_set 3 := ⟨wt_491, wt_1, by decide, ⟨by decide, by decide⟩, by decide +kernel⟩
theorem ok_X11_alter : okY Y_X11_alter 4 := ⟨wt_503, wt_1, by decide, ⟨by decide, by decide⟩, by decide +kernel⟩
theorem ok_X11_cut : okY Y_X11_cut 2 := ⟨wt_507, wt_1, by decide, ⟨by decide, by decide⟩, by decide +kernel⟩
theorem ok_X2_become : okY Y_X2_become 1 := ⟨wt_515, wt_9, by decide, ⟨by decide, by decide⟩, by decide +kernel⟩
theorem ok_X11_turn : okY Y_X11_turn 2 := ⟨wt_511, wt_1, by decide, ⟨by decide, by decide⟩, by decide +kernel⟩
theorem ok_X11_as : okY Y_X11_as 2 := ⟨wt_519, wt_1, by decide, ⟨by decide, by decide⟩, by decide +kernel⟩
theorem ok_X11_line : okY Y_X11_line 1 := ⟨wt_549, wt_1, by decide, ⟨by decide, by decide⟩, by decide +kernel⟩
theorem ok_X11_inside : okY Y_X11_inside 1 := ⟨wt_554, wt_1, by decide, ⟨by decide, by decide⟩, by decide +kernel⟩
theorem ok_X2_goYear : okY Y_X2_goYear 1 := ⟨wt_572, wt_9, by decide, ⟨by decide, by decide⟩, by decide +kernel⟩
theorem ok_X5_goYear : okY Y_X5_goYear 0 := ⟨wt_568, wt_8, by decide, ⟨by decide, by decide⟩, by decide +kernel⟩
theorem ok_X5_goYears : okY Y_X5_goYears 1 := ⟨wt_564, wt_8, by decide, ⟨by decide, by decide⟩, by decide +kernel⟩
theorem ok_X5_cornOfAll : okY Y_X5_cornOfAll 0 := ⟨wt_582, wt_8, by decide, ⟨by decide, by decide⟩, by decide +kernel⟩
theorem ok_X11_years : okY Y_X11_years 1 := ⟨wt_559, wt_1, by decide, ⟨by decide, by decide⟩, by decide +kernel⟩
theorem ok_X5_inkOfAll : okY Y_X5_inkOfAll 0 := ⟨wt_590, wt_8, by decide, ⟨by decide, by decide⟩, by decide +kernel⟩
theorem ok_X5_handsThatWrite : okY Y_X5_handsThatWrite 0 := ⟨wt_594, wt_8, by decide, ⟨by decide, by decide⟩, by decide +kernel⟩
theorem ok_X11_now : okY Y_X11_now 1 := ⟨wt_586, wt_1, by decide, ⟨by decide, by decide⟩, by decide +kernel⟩
theorem ok_X2_takeFrom : okY Y_X2_takeFrom 1 := ⟨wt_611, wt_9, by decide, ⟨by decide, by decide⟩, by decide +kernel⟩
theorem ok_X5_takeFrom : okY Y_X5_takeFrom 1 := ⟨wt_607, wt_8, by decide, ⟨by decide, by decide⟩, by decide +kernel⟩
theorem ok_X11_onTrial : okY Y_X11_onTrial 1 := ⟨wt_603, wt_1, by decide, ⟨by decide, by decide⟩, by decide +kernel⟩
theorem ok_X11_isYearsOn : okY Y_X11_isYearsOn 1 := ⟨wt_617, wt_1, by decide, ⟨by decide, by decide⟩, by decide +kernel⟩
theorem ok_X11_on : okY Y_X11_on 3 := ⟨wt_599, wt_1, by decide, ⟨by decide, by decide⟩, by decide +kernel⟩
theorem ok_X11_dry : okY Y_X11_dry 1 := ⟨wt_621, wt_1, by decide, ⟨by decide, by decide⟩, by decide +kernel⟩
theorem ok_X5_richest : okY Y_X5_richest 0 := ⟨wt_631, wt_8, by decide, ⟨by decide, by decide⟩, by decide +kernel⟩
theorem ok_X11_rich : okY Y_X11_rich 1 := ⟨wt_627, wt_1, by decide, ⟨by decide, by decide⟩, by decide +kernel⟩
theorem ok_X11_rain : okY Y_X11_rain 1 := ⟨wt_635, wt_1, by decide, ⟨by decide, by decide⟩, by decide +kernel⟩
theorem ok_X2_howManyInsideWithLonger : okY Y_X2_howManyInsideWithLonger 2 := ⟨wt_646, wt_9, by decide, ⟨by decide, by decide⟩, by decide +kernel⟩
theorem ok_X11_longer : okY Y_X11_longer 1 := ⟨wt_642, wt_1, by decide, ⟨by decide, by decide⟩, by decide +kernel⟩
theorem ok_X11_begin : okY Y_X11_begin 1 := ⟨wt_652, wt_1, by decide, ⟨by decide, by decide⟩, by decide +kernel⟩
theorem ok_X11_kind : okY Y_X11_kind 1 := ⟨wt_656, wt_1, by decide, ⟨by decide, by decide⟩, by decide +kernel⟩
theorem ok_X11_ink : okY Y_X11_ink 1 := ⟨wt_660, wt_1, by decide, ⟨by decide, by decide⟩, by decide +kernel⟩
theorem ok_X11_court : okY Y_X11_court 2 := ⟨wt_664, wt_1, by decide, ⟨by decide, by decide⟩, by decide +kernel⟩
theorem ok_X11_way : okY Y_X11_way 3 := ⟨wt_668, wt_1, by decide, ⟨by decide, by decide⟩, by decide +kernel⟩
theorem ok_X11_sea : okY Y_X11_sea 0 := ⟨wt_676, wt_1, by decide, ⟨by decide, by decide⟩, by decide +kernel⟩
theorem ok_X10_add : okY Y_X10_add 1 := ⟨wt_685, wt_10, by decide, ⟨by decide, by decide⟩, by decide +kernel⟩
theorem ok_X11_feed : okY Y_X11_feed 2 := ⟨wt_681, wt_1, by decide, ⟨by decide, by decide⟩, by decide +kernel⟩
theorem ok_X11_wipe : okY Y_X11_wipe 0 := ⟨wt_689, wt_1, by decide, ⟨by decide, by decide⟩, by decide +kernel⟩
theorem ok_X10_byteAt : okY Y_X10_byteAt 1 := ⟨wt_705, wt_10, by decide, ⟨by decide, by decide⟩, by decide +kernel⟩
theorem ok_X10_isLetter : okY Y_X10_isLetter 1 := ⟨wt_708, wt_10, by decide, ⟨by decide, by decide⟩, by decide +kernel⟩
theorem ok_X10_goOverWord : okY Y_X10_goOverWord 0 := ⟨wt_712, wt_10, by decide, ⟨by decide, by decide⟩, by decide +kernel⟩
theorem ok_X10_isDigit : okY Y_X10_isDigit 1 := ⟨wt_715, wt_10, by decide, ⟨by decide, by decide⟩, by decide +kernel⟩
theorem ok_X10_goOverNumber : okY Y_X10_goOverNumber 0 := ⟨wt_719, wt_10, by decide, ⟨by decide, by decide⟩, by decide +kernel⟩
theorem ok_X10_goOn : okY Y_X10_goOn 0 := ⟨wt_701, wt_10, by decide, ⟨by decide, by decide⟩, by decide +kernel⟩
theorem ok_X10_isWord : okY Y_X10_isWord 1 := ⟨wt_729, wt_10, by decide, ⟨by decide, by decide⟩, by decide +kernel⟩
theorem ok_X10_isNumber : okY Y_X10_isNumber 2 := ⟨wt_785, wt_10, by decide, ⟨by decide, by decide⟩, by decide +kernel⟩
theorem ok_X10_takeSmudge : okY Y_X10_takeSmudge 2 := ⟨wt_781, wt_10, by decide, ⟨by decide, by decide⟩, by decide +kernel⟩
theorem ok_X10_kindNamed : okY Y_X10_kindNamed 1 := ⟨wt_791, wt_10, by decide, ⟨by decide, by decide⟩, by decide +kernel⟩
theorem ok_X10_takeInk : okY Y_X10_takeInk 1 := ⟨wt_802, wt_10, by decide, ⟨by decide, by decide⟩, by decide +kernel⟩
theorem ok_X10_wayNamed : okY Y_X10_wayNamed 0 := ⟨wt_811, wt_10, by decide, ⟨by decide, by decide⟩, by decide +kernel⟩
theorem ok_X10_takeStrokes : okY Y_X10_takeStrokes 1 := ⟨wt_807, wt_10, by decide, ⟨by decide, by decide⟩, by decide +kernel⟩
theorem ok_X10_takeHand : okY Y_X10_takeHand 2 := ⟨wt_796, wt_10, by decide, ⟨by decide, by decide⟩, by decide +kernel⟩
theorem ok_X10_takeItem : okY Y_X10_takeItem 2 := ⟨wt_724, wt_10, by decide, ⟨by decide, by decide⟩, by decide +kernel⟩
theorem ok_X10_tellTo : okY Y_X10_tellTo 2 := ⟨wt_697, wt_10, by decide, ⟨by decide, by decide⟩, by decide +kernel⟩
theorem ok_X5_traceHands : okY Y_X5_traceHands 0 := ⟨wt_820, wt_8, by decide, ⟨by decide, by decide⟩, by decide +kernel⟩
theorem ok_X11_field : okY Y_X11_field 0 := ⟨wt_693, wt_1, by decide, ⟨by decide, by decide⟩, by decide +kernel⟩
theorem ok_X11_sheetOf : okY Y_X11_sheetOf 1 := ⟨wt_829, wt_1, by decide, ⟨by decide, by decide⟩, by decide +kernel⟩
theorem ok_X11_isBits : okY Y_X11_isBits 1 := ⟨wt_832, wt_1, by decide, ⟨by decide, by decide⟩, by decide +kernel⟩
theorem ok_X9_become : okY Y_X9_become 2 := ⟨wt_837, wt_11, by decide, ⟨by decide, by decide⟩, by decide +kernel⟩
theorem ok_X11_sheet : okY Y_X11_sheet 3 := ⟨wt_825, wt_1, by decide, ⟨by decide, by decide⟩, by decide +kernel⟩
theorem ok_X9_isMissing : okY Y_X9_isMissing 0 := ⟨wt_845, wt_11, by decide, ⟨by decide, by decide⟩, by decide +kernel⟩
theorem ok_X9_lowestBits : okY Y_X9_lowestBits 1 := ⟨wt_854, wt_11, by decide, ⟨by decide, by decide⟩, by decide +kernel⟩
theorem ok_X9_put : okY Y_X9_put 2 := ⟨wt_850, wt_11, by decide, ⟨by decide, by decide⟩, by decide +kernel⟩
theorem ok_X11_write : okY Y_X11_write 3 := ⟨wt_841, wt_1, by decide, ⟨by decide, by decide⟩, by decide +kernel⟩
theorem ok_X9_hasNumbers : okY Y_X9_hasNumbers 2 := ⟨wt_862, wt_11, by decide, ⟨by decide, by decide⟩, by decide +kernel⟩
theorem ok_X11_copy : okY Y_X11_copy 5 := ⟨wt_858, wt_1, by decide, ⟨by decide, by decide⟩, by decide +kernel⟩
theorem ok_X11_lays : okY Y_X11_lays 1 := ⟨wt_867, wt_1, by decide, ⟨by decide, by decide⟩, by decide +kernel⟩
theorem ok_X11_book : okY Y_X11_book 2 := ⟨wt_872, wt_1, by decide, ⟨by decide, by decide⟩, by decide +kernel⟩
theorem ok_X11_tells : okY Y_X11_tells 4 := ⟨wt_880, wt_1, by decide, ⟨by decide, by decide⟩, by decide +kernel⟩
theorem ok_X11_read : okY Y_X11_read 2 := ⟨wt_876, wt_1, by decide, ⟨by decide, by decide⟩, by decide +kernel⟩
theorem ok_X11_image : okY Y_X11_image 0 := ⟨wt_884, wt_1, by decide, ⟨by decide, by decide⟩, by decide +kernel⟩
theorem ok_X11_undo : okY Y_X11_undo 0 := ⟨wt_888, wt_1, by decide, ⟨by decide, by decide⟩, by decide +kernel⟩
theorem ok_X11_tear : okY Y_X11_tear 0 := ⟨wt_892, wt_1, by decide, ⟨by decide, by decide⟩, by decide +kernel⟩
theorem ok_X5_strokesOfAll : okY Y_X5_strokesOfAll 0 := ⟨wt_900, wt_8, by decide, ⟨by decide, by decide⟩, by decide +kernel⟩
theorem ok_X5_costsOfAll : okY Y_X5_costsOfAll 0 := ⟨wt_904, wt_8, by decide, ⟨by decide, by decide⟩, by decide +kernel⟩
theorem ok_X11_count : okY Y_X11_count 1 := ⟨wt_896, wt_1, by decide, ⟨by decide, by decide⟩, by decide +kernel⟩
theorem ok_X11_status : okY Y_X11_status 1 := ⟨wt_908, wt_1, by decide, ⟨by decide, by decide⟩, by decide +kernel⟩
theorem uw_0 : ∀ w ∈ u_ws RX11 TX11 8, w ∈ wG := by
  intro w hw
  refine List.mem_filter.mpr ⟨List.mem_append_right _ ?_, ?_⟩
  · revert w; decide +kernel
  · revert w; decide +kernel
theorem uw_1 : ∀ w ∈ u_ws RX3 TX3 2, w ∈ wG := by
  intro w hw
  refine List.mem_filter.mpr ⟨List.mem_append_right _ ?_, ?_⟩
  · revert w; decide +kernel
  · revert w; decide +kernel
theorem uw_2 : ∀ w ∈ u_ws RX7 TX7 2, w ∈ wG := by
  intro w hw
  refine List.mem_filter.mpr ⟨List.mem_append_right _ ?_, ?_⟩
  · revert w; decide +kernel
  · revert w; decide +kernel
theorem uw_3 : ∀ w ∈ u_ws RX0 TX0 2, w ∈ wG := by
  intro w hw
  refine List.mem_filter.mpr ⟨List.mem_append_right _ ?_, ?_⟩
  · revert w; decide +kernel
  · revert w; decide +kernel
theorem uw_4 : ∀ w ∈ u_ws RX8 TX8 2, w ∈ wG := by
  intro w hw
  refine List.mem_filter.mpr ⟨List.mem_append_right _ ?_, ?_⟩
  · revert w; decide +kernel
  · revert w; decide +kernel
theorem uw_5 : ∀ w ∈ u_ws RX4 TX4 2, w ∈ wG := by
  intro w hw
  refine List.mem_filter.mpr ⟨List.mem_append_right _ ?_, ?_⟩
  · revert w; decide +kernel
  · revert w; decide +kernel
theorem uw_6 : ∀ w ∈ u_ws RX6 TX6 2, w ∈ wG := by
  intro w hw
  refine List.mem_filter.mpr ⟨List.mem_append_right _ ?_, ?_⟩
  · revert w; decide +kernel
  · revert w; decide +kernel
theorem uw_7 : ∀ w ∈ u_ws RX2 TX2 11, w ∈ wG := by
  intro w hw
  refine List.mem_filter.mpr ⟨List.mem_append_right _ ?_, ?_⟩
  · revert w; decide +kernel
  · revert w; decide +kernel
theorem uw_8 : ∀ w ∈ u_ws RX5 TX5 6, w ∈ wG := by
  intro w hw
  refine List.mem_filter.mpr ⟨List.mem_append_right _ ?_, ?_⟩
  · revert w; decide +kernel
  · revert w; decide +kernel
theorem uw_9 : ∀ w ∈ u_ws RX10 TX10 6, w ∈ wG := by
  intro w hw
  refine List.mem_filter.mpr ⟨List.mem_append_right _ ?_, ?_⟩
  · revert w; decide +kernel
  · revert w; decide +kernel
theorem uw_10 : ∀ w ∈ u_ws RX9 TX9 3, w ∈ wG := by
  intro w hw
  refine List.mem_filter.mpr ⟨List.mem_append_right _ ?_, ?_⟩
  · revert w; decide +kernel
  · revert w; decide +kernel
theorem uw_11 : ∀ w ∈ u_ws RX12 TX12 20, w ∈ wG := by
  intro w hw
  refine List.mem_filter.mpr ⟨List.mem_append_right _ ?_, ?_⟩
  · revert w; decide +kernel
  · revert w; decide +kernel
theorem okf_M_22_11 : okF "PenAcresModel" 22 11 4 := ⟨RX12, TX12, 20, rfl, by decide, uw_11, wt_919⟩
theorem okf_M_16_11 : okF "PenAcresModel" 16 11 2 := ⟨RX12, TX12, 20, rfl, by decide, uw_11, wt_917⟩
theorem okf_M_7_11 : okF "PenAcresModel" 7 11 0 := ⟨RX12, TX12, 20, rfl, by decide, uw_11, wt_915⟩
theorem okf_M_19_11 : okF "PenAcresModel" 19 11 3 := ⟨RX12, TX12, 20, rfl, by decide, uw_11, wt_918⟩
theorem okf_M_25_11 : okF "PenAcresModel" 25 11 6 := ⟨RX12, TX12, 20, rfl, by decide, uw_11, wt_921⟩
theorem okf_M_32_11 : okF "PenAcresModel" 32 11 8 := ⟨RX12, TX12, 20, rfl, by decide, uw_11, wt_923⟩
theorem okf_M_29_11 : okF "PenAcresModel" 29 11 7 := ⟨RX12, TX12, 20, rfl, by decide, uw_11, wt_922⟩
theorem okf_M_35_11 : okF "PenAcresModel" 35 11 9 := ⟨RX12, TX12, 20, rfl, by decide, uw_11, wt_924⟩
theorem okf_M_212_11 : okF "PenAcresModel" 212 11 11 := ⟨RX12, TX12, 20, rfl, by decide, uw_11, wt_926⟩
theorem okf_M_38_11 : okF "PenAcresModel" 38 11 10 := ⟨RX12, TX12, 20, rfl, by decide, uw_11, wt_925⟩
theorem okf_M_224_11 : okF "PenAcresModel" 224 11 13 := ⟨RX12, TX12, 20, rfl, by decide, uw_11, wt_928⟩
theorem okf_M_227_11 : okF "PenAcresModel" 227 11 12 := ⟨RX12, TX12, 20, rfl, by decide, uw_11, wt_927⟩
theorem okf_M_239_11 : okF "PenAcresModel" 239 11 15 := ⟨RX12, TX12, 20, rfl, by decide, uw_11, wt_930⟩
theorem okf_M_250_11 : okF "PenAcresModel" 250 11 14 := ⟨RX12, TX12, 20, rfl, by decide, uw_11, wt_929⟩
theorem okf_M_41_11 : okF "PenAcresModel" 41 11 16 := ⟨RX12, TX12, 20, rfl, by decide, uw_11, wt_931⟩
theorem okf_M_44_11 : okF "PenAcresModel" 44 11 17 := ⟨RX12, TX12, 20, rfl, by decide, uw_11, wt_932⟩
theorem okf_M_47_11 : okF "PenAcresModel" 47 11 18 := ⟨RX12, TX12, 20, rfl, by decide, uw_11, wt_933⟩
theorem okf_M_50_11 : okF "PenAcresModel" 50 11 19 := ⟨RX12, TX12, 20, rfl, by decide, uw_11, wt_934⟩
theorem okf_M_13_11 : okF "PenAcresModel" 13 11 1 := ⟨RX12, TX12, 20, rfl, by decide, uw_11, wt_916⟩
theorem okf_M_325_11 : okF "PenAcresModel" 325 11 5 := ⟨RX12, TX12, 20, rfl, by decide, uw_11, wt_920⟩
theorem okf_P_74_0 : okF "PenAcres" 74 0 7 := ⟨RX11, TX11, 8, rfl, by decide, uw_0, wt_235⟩
theorem okf_L_28_8 : okF "PenAcres$Land" 28 8 0 := ⟨RX5, TX5, 6, rfl, by decide, uw_8, wt_158⟩
theorem okf_P_50_0 : okF "PenAcres" 50 0 1 := ⟨RX11, TX11, 8, rfl, by decide, uw_0, wt_229⟩
theorem okf_P_91_8 : okF "PenAcres" 91 8 0 := ⟨RX5, TX5, 6, rfl, by decide, uw_8, wt_159⟩
theorem okf_H_41_7 : okF "PenAcres$Hand" 41 7 7 := ⟨RX2, TX2, 11, rfl, by decide, uw_7, wt_128⟩
theorem okf_L_36_8 : okF "PenAcres$Land" 36 8 2 := ⟨RX5, TX5, 6, rfl, by decide, uw_8, wt_162⟩
theorem okf_L_11_8 : okF "PenAcres$Land" 11 8 3 := ⟨RX5, TX5, 6, rfl, by decide, uw_8, wt_164⟩
theorem okf_H_54_7 : okF "PenAcres$Hand" 54 7 9 := ⟨RX2, TX2, 11, rfl, by decide, uw_7, wt_132⟩
theorem okf_H_57_7 : okF "PenAcres$Hand" 57 7 10 := ⟨RX2, TX2, 11, rfl, by decide, uw_7, wt_133⟩
theorem okf_H_26_7 : okF "PenAcres$Hand" 26 7 2 := ⟨RX2, TX2, 11, rfl, by decide, uw_7, wt_114⟩
theorem okf_H_45_7 : okF "PenAcres$Hand" 45 7 8 := ⟨RX2, TX2, 11, rfl, by decide, uw_7, wt_129⟩
theorem okf_L_20_8 : okF "PenAcres$Land" 20 8 4 := ⟨RX5, TX5, 6, rfl, by decide, uw_8, wt_165⟩
theorem okf_L_76_7 : okF "PenAcres$Land" 76 7 2 := ⟨RX2, TX2, 11, rfl, by decide, uw_7, wt_117⟩
theorem okf_P_41_0 : okF "PenAcres" 41 0 0 := ⟨RX11, TX11, 8, rfl, by decide, uw_0, wt_228⟩
theorem okf_P_127_8 : okF "PenAcres" 127 8 2 := ⟨RX5, TX5, 6, rfl, by decide, uw_8, wt_163⟩
theorem okf_H_32_7 : okF "PenAcres$Hand" 32 7 4 := ⟨RX2, TX2, 11, rfl, by decide, uw_7, wt_121⟩
theorem okf_H_15_7 : okF "PenAcres$Hand" 15 7 5 := ⟨RX2, TX2, 11, rfl, by decide, uw_7, wt_124⟩
theorem okf_H_19_7 : okF "PenAcres$Hand" 19 7 6 := ⟨RX2, TX2, 11, rfl, by decide, uw_7, wt_126⟩
theorem okf_H_22_7 : okF "PenAcres$Hand" 22 7 1 := ⟨RX2, TX2, 11, rfl, by decide, uw_7, wt_112⟩
theorem okf_H_9_7 : okF "PenAcres$Hand" 9 7 0 := ⟨RX2, TX2, 11, rfl, by decide, uw_7, wt_110⟩
theorem okf_P_150_7 : okF "PenAcres" 150 7 4 := ⟨RX2, TX2, 11, rfl, by decide, uw_7, wt_122⟩
theorem okf_P_153_7 : okF "PenAcres" 153 7 0 := ⟨RX2, TX2, 11, rfl, by decide, uw_7, wt_111⟩
theorem okf_P_157_1 : okF "PenAcres" 157 1 0 := ⟨RX3, TX3, 2, rfl, by decide, uw_1, wt_37⟩
theorem okf_P_157_2 : okF "PenAcres" 157 2 0 := ⟨RX7, TX7, 2, rfl, by decide, uw_2, wt_37⟩
theorem okf_P_157_3 : okF "PenAcres" 157 3 0 := ⟨RX0, TX0, 2, rfl, by decide, uw_3, wt_37⟩
theorem okf_P_157_4 : okF "PenAcres" 157 4 0 := ⟨RX8, TX8, 2, rfl, by decide, uw_4, wt_37⟩
theorem okf_P_157_5 : okF "PenAcres" 157 5 0 := ⟨RX4, TX4, 2, rfl, by decide, uw_5, wt_37⟩
theorem okf_P_157_6 : okF "PenAcres" 157 6 0 := ⟨RX6, TX6, 2, rfl, by decide, uw_6, wt_37⟩
theorem okf_P_160_7 : okF "PenAcres" 160 7 1 := ⟨RX2, TX2, 11, rfl, by decide, uw_7, wt_113⟩
theorem okf_P_163_7 : okF "PenAcres" 163 7 2 := ⟨RX2, TX2, 11, rfl, by decide, uw_7, wt_116⟩
theorem okf_P_166_7 : okF "PenAcres" 166 7 3 := ⟨RX2, TX2, 11, rfl, by decide, uw_7, wt_119⟩
theorem okf_P_169_7 : okF "PenAcres" 169 7 8 := ⟨RX2, TX2, 11, rfl, by decide, uw_7, wt_130⟩
theorem okf_P_190_7 : okF "PenAcres" 190 7 5 := ⟨RX2, TX2, 11, rfl, by decide, uw_7, wt_125⟩
theorem okf_P_193_7 : okF "PenAcres" 193 7 6 := ⟨RX2, TX2, 11, rfl, by decide, uw_7, wt_127⟩
theorem okf_H_29_7 : okF "PenAcres$Hand" 29 7 3 := ⟨RX2, TX2, 11, rfl, by decide, uw_7, wt_118⟩
theorem okf_L_24_8 : okF "PenAcres$Land" 24 8 5 := ⟨RX5, TX5, 6, rfl, by decide, uw_8, wt_166⟩
theorem okf_L_32_8 : okF "PenAcres$Land" 32 8 1 := ⟨RX5, TX5, 6, rfl, by decide, uw_8, wt_160⟩
theorem okf_L_105_7 : okF "PenAcres$Land" 105 7 3 := ⟨RX2, TX2, 11, rfl, by decide, uw_7, wt_120⟩
theorem okf_P_224_8 : okF "PenAcres" 224 8 1 := ⟨RX5, TX5, 6, rfl, by decide, uw_8, wt_161⟩
theorem okf_P_54_0 : okF "PenAcres" 54 0 2 := ⟨RX11, TX11, 8, rfl, by decide, uw_0, wt_230⟩
theorem okf_T_15_9 : okF "PenAcres$Tape" 15 9 0 := ⟨RX10, TX10, 6, rfl, by decide, uw_9, wt_187⟩
theorem okf_T_9_9 : okF "PenAcres$Tape" 9 9 1 := ⟨RX10, TX10, 6, rfl, by decide, uw_9, wt_189⟩
theorem okf_P_63_0 : okF "PenAcres" 63 0 5 := ⟨RX11, TX11, 8, rfl, by decide, uw_0, wt_233⟩
theorem okf_P_283_9 : okF "PenAcres" 283 9 0 := ⟨RX10, TX10, 6, rfl, by decide, uw_9, wt_188⟩
theorem okf_T_19_9 : okF "PenAcres$Tape" 19 9 4 := ⟨RX10, TX10, 6, rfl, by decide, uw_9, wt_192⟩
theorem okf_T_65_9 : okF "PenAcres$Tape" 65 9 5 := ⟨RX10, TX10, 6, rfl, by decide, uw_9, wt_193⟩
theorem okf_T_29_9 : okF "PenAcres$Tape" 29 9 3 := ⟨RX10, TX10, 6, rfl, by decide, uw_9, wt_191⟩
theorem okf_T_32_9 : okF "PenAcres$Tape" 32 9 2 := ⟨RX10, TX10, 6, rfl, by decide, uw_9, wt_190⟩
theorem okf_T_98_1 : okF "PenAcres$Tape" 98 1 1 := ⟨RX3, TX3, 2, rfl, by decide, uw_1, wt_39⟩
theorem okf_T_98_2 : okF "PenAcres$Tape" 98 2 1 := ⟨RX7, TX7, 2, rfl, by decide, uw_2, wt_39⟩
theorem okf_T_98_3 : okF "PenAcres$Tape" 98 3 1 := ⟨RX0, TX0, 2, rfl, by decide, uw_3, wt_39⟩
theorem okf_T_98_4 : okF "PenAcres$Tape" 98 4 1 := ⟨RX8, TX8, 2, rfl, by decide, uw_4, wt_39⟩
theorem okf_T_98_5 : okF "PenAcres$Tape" 98 5 1 := ⟨RX4, TX4, 2, rfl, by decide, uw_5, wt_39⟩
theorem okf_T_98_6 : okF "PenAcres$Tape" 98 6 1 := ⟨RX6, TX6, 2, rfl, by decide, uw_6, wt_39⟩
theorem okf_P_69_0 : okF "PenAcres" 69 0 6 := ⟨RX11, TX11, 8, rfl, by decide, uw_0, wt_234⟩
theorem okf_S_9_10 : okF "PenAcres$Sheet" 9 10 2 := ⟨RX9, TX9, 3, rfl, by decide, uw_10, wt_219⟩
theorem okf_P_307_10 : okF "PenAcres" 307 10 1 := ⟨RX9, TX9, 3, rfl, by decide, uw_10, wt_218⟩
theorem okf_S_15_10 : okF "PenAcres$Sheet" 15 10 0 := ⟨RX9, TX9, 3, rfl, by decide, uw_10, wt_215⟩
theorem okf_S_19_10 : okF "PenAcres$Sheet" 19 10 1 := ⟨RX9, TX9, 3, rfl, by decide, uw_10, wt_217⟩
theorem okf_P_312_10 : okF "PenAcres" 312 10 2 := ⟨RX9, TX9, 3, rfl, by decide, uw_10, wt_220⟩
theorem okf_P_320_10 : okF "PenAcres" 320 10 0 := ⟨RX9, TX9, 3, rfl, by decide, uw_10, wt_216⟩
theorem okf_P_57_0 : okF "PenAcres" 57 0 3 := ⟨RX11, TX11, 8, rfl, by decide, uw_0, wt_231⟩
theorem okf_P_338_0 : okF "PenAcres" 338 0 4 := ⟨RX11, TX11, 8, rfl, by decide, uw_0, wt_232⟩
theorem okf_L_108_7 : okF "PenAcres$Land" 108 7 4 := ⟨RX2, TX2, 11, rfl, by decide, uw_7, wt_123⟩
theorem okf_L_111_7 : okF "PenAcres$Land" 111 7 8 := ⟨RX2, TX2, 11, rfl, by decide, uw_7, wt_131⟩
theorem okfK_P_157 : ∀ ci, 1 ≤ ci → ci ≤ 6 → okF "PenAcres" 157 ci 0 := by
  intro ci h1 h2
  rcases (show ci = 1 ∨ ci = 2 ∨ ci = 3 ∨ ci = 4 ∨ ci = 5 ∨ ci = 6 by omega) with rfl | rfl | rfl | rfl | rfl | rfl
  · exact okf_P_157_1
  · exact okf_P_157_2
  · exact okf_P_157_3
  · exact okf_P_157_4
  · exact okf_P_157_5
  · exact okf_P_157_6
theorem okfK_T_98 : ∀ ci, 1 ≤ ci → ci ≤ 6 → okF "PenAcres$Tape" 98 ci 1 := by
  intro ci h1 h2
  rcases (show ci = 1 ∨ ci = 2 ∨ ci = 3 ∨ ci = 4 ∨ ci = 5 ∨ ci = 6 by omega) with rfl | rfl | rfl | rfl | rfl | rfl
  · exact okf_T_98_1
  · exact okf_T_98_2
  · exact okf_T_98_3
  · exact okf_T_98_4
  · exact okf_T_98_5
  · exact okf_T_98_6
theorem okp_M_212_11 : okP "PenAcresModel" 212 11 11 .int false := ⟨RX12, TX12, 20, tyX12, rfl, by decide, uw_11, wt_926, tyX12_ok, nmX12, rfl, by decide +kernel, fun h => by cases h⟩
theorem okp_M_227_11 : okP "PenAcresModel" 227 11 12 .int false := ⟨RX12, TX12, 20, tyX12, rfl, by decide, uw_11, wt_927, tyX12_ok, nmX12, rfl, by decide +kernel, fun h => by cases h⟩
theorem okp_M_224_11 : okP "PenAcresModel" 224 11 13 .int false := ⟨RX12, TX12, 20, tyX12, rfl, by decide, uw_11, wt_928, tyX12_ok, nmX12, rfl, by decide +kernel, fun h => by cases h⟩
theorem okp_M_239_11 : okP "PenAcresModel" 239 11 15 .boolean false := ⟨RX12, TX12, 20, tyX12, rfl, by decide, uw_11, wt_930, tyX12_ok, nmX12, rfl, by decide +kernel, fun h => by cases h⟩
theorem okp_M_250_11 : okP "PenAcresModel" 250 11 14 .int false := ⟨RX12, TX12, 20, tyX12, rfl, by decide, uw_11, wt_929, tyX12_ok, nmX12, rfl, by decide +kernel, fun h => by cases h⟩
theorem okp_M_325_11 : okP "PenAcresModel" 325 11 5 .boolean false := ⟨RX12, TX12, 20, tyX12, rfl, by decide, uw_11, wt_920, tyX12_ok, nmX12, rfl, by decide +kernel, fun h => by cases h⟩
theorem okp_L_28_8 : okP "PenAcres$Land" 28 8 0 .long false := ⟨RX5, TX5, 6, tyX5, rfl, by decide, uw_8, wt_158, tyX5_ok, nmX5, rfl, by decide +kernel, fun h => by cases h⟩
theorem okp_H_54_7 : okP "PenAcres$Hand" 54 7 9 .long false := ⟨RX2, TX2, 11, tyX2, rfl, by decide, uw_7, wt_132, tyX2_ok, nmX2, rfl, by decide +kernel, fun h => by cases h⟩
theorem okp_H_57_7 : okP "PenAcres$Hand" 57 7 10 .long false := ⟨RX2, TX2, 11, tyX2, rfl, by decide, uw_7, wt_133, tyX2_ok, nmX2, rfl, by decide +kernel, fun h => by cases h⟩
theorem okp_H_9_7 : okP "PenAcres$Hand" 9 7 0 (.object "PenAcres$HandKind") false := ⟨RX2, TX2, 11, tyX2, rfl, by decide, uw_7, wt_110, tyX2_ok, nmX2, rfl, by decide +kernel, fun h => by cases h⟩
theorem okp_H_22_7 : okP "PenAcres$Hand" 22 7 1 .int false := ⟨RX2, TX2, 11, tyX2, rfl, by decide, uw_7, wt_112, tyX2_ok, nmX2, rfl, by decide +kernel, fun h => by cases h⟩
theorem okp_H_26_7 : okP "PenAcres$Hand" 26 7 2 .int false := ⟨RX2, TX2, 11, tyX2, rfl, by decide, uw_7, wt_114, tyX2_ok, nmX2, rfl, by decide +kernel, fun h => by cases h⟩
theorem okp_H_29_7 : okP "PenAcres$Hand" 29 7 3 .int false := ⟨RX2, TX2, 11, tyX2, rfl, by decide, uw_7, wt_118, tyX2_ok, nmX2, rfl, by decide +kernel, fun h => by cases h⟩
theorem okp_H_32_7 : okP "PenAcres$Hand" 32 7 4 .int false := ⟨RX2, TX2, 11, tyX2, rfl, by decide, uw_7, wt_121, tyX2_ok, nmX2, rfl, by decide +kernel, fun h => by cases h⟩
theorem okp_H_41_7 : okP "PenAcres$Hand" 41 7 7 .long false := ⟨RX2, TX2, 11, tyX2, rfl, by decide, uw_7, wt_128, tyX2_ok, nmX2, rfl, by decide +kernel, fun h => by cases h⟩
theorem okp_H_45_7 : okP "PenAcres$Hand" 45 7 8 .int false := ⟨RX2, TX2, 11, tyX2, rfl, by decide, uw_7, wt_129, tyX2_ok, nmX2, rfl, by decide +kernel, fun h => by cases h⟩
theorem okp_L_36_8 : okP "PenAcres$Land" 36 8 2 .int false := ⟨RX5, TX5, 6, tyX5, rfl, by decide, uw_8, wt_162, tyX5_ok, nmX5, rfl, by decide +kernel, fun h => by cases h⟩
theorem okp_P_163_7 : okP "PenAcres" 163 7 2 .int false := ⟨RX2, TX2, 11, tyX2, rfl, by decide, uw_7, wt_116, tyX2_ok, nmX2, rfl, by decide +kernel, fun h => by cases h⟩
theorem okp_P_150_7 : okP "PenAcres" 150 7 4 .int false := ⟨RX2, TX2, 11, tyX2, rfl, by decide, uw_7, wt_122, tyX2_ok, nmX2, rfl, by decide +kernel, fun h => by cases h⟩
theorem okp_L_32_8 : okP "PenAcres$Land" 32 8 1 .int false := ⟨RX5, TX5, 6, tyX5, rfl, by decide, uw_8, wt_160, tyX5_ok, nmX5, rfl, by decide +kernel, fun h => by cases h⟩
theorem okp_T_15_9 : okP "PenAcres$Tape" 15 9 0 .int false := ⟨RX10, TX10, 6, tyX10, rfl, by decide, uw_9, wt_187, tyX10_ok, nmX10, rfl, by decide +kernel, fun h => by cases h⟩
theorem okp_P_283_9 : okP "PenAcres" 283 9 0 .int false := ⟨RX10, TX10, 6, tyX10, rfl, by decide, uw_9, wt_188, tyX10_ok, nmX10, rfl, by decide +kernel, fun h => by cases h⟩
theorem okp_T_32_9 : okP "PenAcres$Tape" 32 9 2 .int false := ⟨RX10, TX10, 6, tyX10, rfl, by decide, uw_9, wt_190, tyX10_ok, nmX10, rfl, by decide +kernel, fun h => by cases h⟩
theorem okp_T_19_9 : okP "PenAcres$Tape" 19 9 4 .int false := ⟨RX10, TX10, 6, tyX10, rfl, by decide, uw_9, wt_192, tyX10_ok, nmX10, rfl, by decide +kernel, fun h => by cases h⟩
theorem okp_T_65_9 : okP "PenAcres$Tape" 65 9 5 .int false := ⟨RX10, TX10, 6, tyX10, rfl, by decide, uw_9, wt_193, tyX10_ok, nmX10, rfl, by decide +kernel, fun h => by cases h⟩
theorem okp_T_29_9 : okP "PenAcres$Tape" 29 9 3 .int false := ⟨RX10, TX10, 6, tyX10, rfl, by decide, uw_9, wt_191, tyX10_ok, nmX10, rfl, by decide +kernel, fun h => by cases h⟩
theorem okp_T_87_7 : okP "PenAcres$Tape" 87 7 2 .int false := ⟨RX2, TX2, 11, tyX2, rfl, by decide, uw_7, wt_115, tyX2_ok, nmX2, rfl, by decide +kernel, fun h => by cases h⟩
theorem okp_S_15_10 : okP "PenAcres$Sheet" 15 10 0 .int false := ⟨RX9, TX9, 3, tyX9, rfl, by decide, uw_10, wt_215, tyX9_ok, nmX9, rfl, by decide +kernel, fun h => by cases h⟩
theorem okp_S_19_10 : okP "PenAcres$Sheet" 19 10 1 .int false := ⟨RX9, TX9, 3, tyX9, rfl, by decide, uw_10, wt_217, tyX9_ok, nmX9, rfl, by decide +kernel, fun h => by cases h⟩
theorem okp_P_153_7 : okP "PenAcres" 153 7 0 (.object "PenAcres$HandKind") false := ⟨RX2, TX2, 11, tyX2, rfl, by decide, uw_7, wt_111, tyX2_ok, nmX2, rfl, by decide +kernel, fun h => by cases h⟩
theorem okp_P_338_0 : okP "PenAcres" 338 0 4 .boolean false := ⟨RX11, TX11, 8, tyX11, rfl, by decide, uw_0, wt_232, tyX11_ok, nmX11, rfl, by decide +kernel, fun h => by cases h⟩
theorem so_0 : (sh 0).1 = 0 := rfl
theorem so_8 : (sh 8).1 = 8 := rfl
theorem so_30 : (sh 30).1 = 8 := rfl
theorem so_52 : (sh 52).1 = 8 := rfl
theorem so_74 : (sh 74).1 = 9 := rfl
theorem so_86 : (sh 86).1 = 11 := rfl
theorem sa_2 : sh 2 = (24, 6) := rfl
theorem sa_75 : sh 75 = (22, 120) := rfl
theorem sa_76 : sh 76 = (25, 4) := rfl
theorem sa_85 : sh 85 = (20, 7) := rfl
theorem sa_87 : sh 87 = (20, 176) := rfl
theorem sa_88 : sh 88 = (20, 176) := rfl
theorem sa_89 : sh 89 = (20, 176) := rfl
theorem sa_90 : sh 90 = (20, 176) := rfl
theorem sa_91 : sh 91 = (20, 7) := rfl
theorem sa_92 : sh 92 = (21, 6) := rfl
theorem sa_93 : sh 93 = (21, 6) := rfl
theorem sa_94 : sh 94 = (20, 6) := rfl
theorem sa_95 : sh 95 = (20, 6) := rfl
theorem sa_96 : sh 96 = (20, 120) := rfl
theorem sa_97 : sh 97 = (20, 4) := rfl
theorem sa_98 : sh 98 = (20, 4) := rfl
theorem sa_99 : sh 99 = (21, 160) := rfl
theorem sa_100 : sh 100 = (21, 40) := rfl
