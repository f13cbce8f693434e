/-! words of the tables by their places; methods; fields -/
abbrev Y_X12_in : My := (yX12_in, cX12_in, 6, (some .boolean))
abbrev Y_X12_finds : My := (yX12_finds, cX12_finds, 2, (some .int))
abbrev Y_X12_saves : My := (yX12_saves, cX12_saves, 2, none)
abbrev Y_X12_putsBack : My := (yX12_putsBack, cX12_putsBack, 2, none)
abbrev Y_X12_laysAside : My := (yX12_laysAside, cX12_laysAside, 2, none)
abbrev Y_X12_takesBack : My := (yX12_takesBack, cX12_takesBack, 3, (some .int))
abbrev Y_X12_becomes : My := (yX12_becomes, cX12_becomes, 4, (some .int))
abbrev Y_X12_isCell : My := (yX12_isCell, cX12_isCell, 1, (some .boolean))
abbrev Y_X12_isHand : My := (yX12_isHand, cX12_isHand, 2, (some .boolean))
abbrev Y_X12_isKind : My := (yX12_isKind, cX12_isKind, 1, (some .boolean))
abbrev Y_X12_isWay : My := (yX12_isWay, cX12_isWay, 1, (some .boolean))
abbrev Y_X12_spot : My := (yX12_spot, cX12_spot, 2, (some .int))
abbrev Y_X12_its : My := (yX12_its, cX12_its, 3, (some .int))
abbrev Y_X12_has : My := (yX12_has, cX12_has, 3, (some .boolean))
abbrev Y_X12_ones : My := (yX12_ones, cX12_ones, 5, (some .int))
abbrev Y_X12_stepsOf : My := (yX12_stepsOf, cX12_stepsOf, 5, (some .int))
abbrev Y_X12_turned : My := (yX12_turned, cX12_turned, 4, (some .int))
abbrev Y_X12_cropOf : My := (yX12_cropOf, cX12_cropOf, 2, (some .int))
abbrev Y_X12_beside : My := (yX12_beside, cX12_beside, 4, (some .int))
abbrev Y_X12_isEdge : My := (yX12_isEdge, cX12_isEdge, 3, (some .boolean))
abbrev Y_X12_smudges : My := (yX12_smudges, cX12_smudges, 4, (some .long))
abbrev Y_X12_draws : My := (yX12_draws, cX12_draws, 12, none)
abbrev Y_X12_insideOf : My := (yX12_insideOf, cX12_insideOf, 9, (some .long))
abbrev Y_X12_writeAll : My := (yX12_writeAll, cX12_writeAll, 4, none)
abbrev Y_X12_insideMany : My := (yX12_insideMany, cX12_insideMany, 2, (some .int))
abbrev Y_X12_writes : My := (yX12_writes, cX12_writes, 2, (some .boolean))
abbrev Y_X12_ownerOf : My := (yX12_ownerOf, cX12_ownerOf, 5, (some .int))
abbrev Y_X12_ownedBy : My := (yX12_ownedBy, cX12_ownedBy, 4, (some .int))
abbrev Y_X12_smudge : My := (yX12_smudge, cX12_smudge, 3, (some .int))
abbrev Y_X12_thoseWith : My := (yX12_thoseWith, cX12_thoseWith, 5, (some .int))
abbrev Y_X12_cell : My := (yX12_cell, cX12_cell, 3, (some .int))
abbrev Y_X12_writersInside : My := (yX12_writersInside, cX12_writersInside, 4, (some .int))
abbrev Y_X12_cells : My := (yX12_cells, cX12_cells, 5, (some .long))
abbrev Y_X12_adds : My := (yX12_adds, cX12_adds, 5, (some .int))
abbrev Y_X12_hand : My := (yX12_hand, cX12_hand, 3, (some .int))
abbrev Y_X12_strokes : My := (yX12_strokes, cX12_strokes, 5, (some .int))
abbrev Y_X12_stroke : My := (yX12_stroke, cX12_stroke, 4, (some .int))
abbrev Y_X12_of : My := (yX12_of, cX12_of, 3, (some .int))
abbrev Y_X12_isStroke : My := (yX12_isStroke, cX12_isStroke, 3, (some .boolean))
abbrev Y_X12_told : My := (yX12_told, cX12_told, 4, (some .int))
abbrev Y_X12_set : My := (yX12_set, cX12_set, 5, (some .int))
abbrev Y_X12_alter : My := (yX12_alter, cX12_alter, 6, (some .int))
abbrev Y_X12_cut : My := (yX12_cut, cX12_cut, 3, (some .int))
abbrev Y_X12_turn : My := (yX12_turn, cX12_turn, 3, (some .int))
abbrev Y_X12_isUnder : My := (yX12_isUnder, cX12_isUnder, 2, (some .boolean))
abbrev Y_X12_as : My := (yX12_as, cX12_as, 3, (some .int))
abbrev Y_X12_line : My := (yX12_line, cX12_line, 2, (some .long))
abbrev Y_X12_inside : My := (yX12_inside, cX12_inside, 2, (some .long))
abbrev Y_X12_year : My := (yX12_year, cX12_year, 4, none)
abbrev Y_X12_goesOn : My := (yX12_goesOn, cX12_goesOn, 3, none)
abbrev Y_X12_together : My := (yX12_together, cX12_together, 4, (some .int))
abbrev Y_X12_years : My := (yX12_years, cX12_years, 2, (some .int))
abbrev Y_X12_thoseThatWrite : My := (yX12_thoseThatWrite, cX12_thoseThatWrite, 3, (some .int))
abbrev Y_X12_now : My := (yX12_now, cX12_now, 2, (some .int))
abbrev Y_X12_ownsNow : My := (yX12_ownsNow, cX12_ownsNow, 2, (some .int))
abbrev Y_X12_on : My := (yX12_on, cX12_on, 4, (some .int))
abbrev Y_X12_isDry : My := (yX12_isDry, cX12_isDry, 2, (some .boolean))
abbrev Y_X12_dry : My := (yX12_dry, cX12_dry, 4, (some .int))
abbrev Y_X12_richest : My := (yX12_richest, cX12_richest, 3, (some .int))
abbrev Y_X12_rich : My := (yX12_rich, cX12_rich, 2, (some .int))
abbrev Y_X12_rain : My := (yX12_rain, cX12_rain, 8, (some .int))
abbrev Y_X12_longer : My := (yX12_longer, cX12_longer, 7, (some .int))
abbrev Y_X12_begin : My := (yX12_begin, cX12_begin, 7, (some .int))
abbrev Y_X12_kind : My := (yX12_kind, cX12_kind, 7, (some .int))
abbrev Y_X12_ink : My := (yX12_ink, cX12_ink, 7, (some .int))
abbrev Y_X12_court : My := (yX12_court, cX12_court, 3, (some .int))
abbrev Y_X12_way : My := (yX12_way, cX12_way, 14, (some .int))
abbrev Y_X12_sea : My := (yX12_sea, cX12_sea, 4, (some .int))
abbrev Y_X12_feed : My := (yX12_feed, cX12_feed, 4, (some .int))
abbrev Y_X12_wipe : My := (yX12_wipe, cX12_wipe, 2, (some .int))
abbrev Y_X12_byteAt : My := (yX12_byteAt, cX12_byteAt, 2, (some .int))
abbrev Y_X12_isLetter : My := (yX12_isLetter, cX12_isLetter, 1, (some .boolean))
abbrev Y_X12_isDigit : My := (yX12_isDigit, cX12_isDigit, 1, (some .boolean))
abbrev Y_X12_token : My := (yX12_token, cX12_token, 3, none)
abbrev Y_X12_must : My := (yX12_must, cX12_must, 2, none)
abbrev Y_X12_word : My := (yX12_word, cX12_word, 4, (some .long))
abbrev Y_X12_number : My := (yX12_number, cX12_number, 6, none)
abbrev Y_X12_kindHere : My := (yX12_kindHere, cX12_kindHere, 3, (some .int))
abbrev Y_X12_wayHere : My := (yX12_wayHere, cX12_wayHere, 3, (some .int))
abbrev Y_X12_handItem : My := (yX12_handItem, cX12_handItem, 5, none)
abbrev Y_X12_item : My := (yX12_item, cX12_item, 4, none)
abbrev Y_X12_field : My := (yX12_field, cX12_field, 2, (some .int))
abbrev Y_X12_isOne : My := (yX12_isOne, cX12_isOne, 1, (some .boolean))
abbrev Y_X12_sheet : My := (yX12_sheet, cX12_sheet, 5, (some .int))
abbrev Y_X12_narrowed : My := (yX12_narrowed, cX12_narrowed, 3, (some .long))
abbrev Y_X12_wrong : My := (yX12_wrong, cX12_wrong, 2, (some .int))
abbrev Y_X12_write : My := (yX12_write, cX12_write, 8, (some .long))
abbrev Y_X12_copy : My := (yX12_copy, cX12_copy, 7, (some .int))
abbrev Y_X12_lays : My := (yX12_lays, cX12_lays, 6, (some .int))
abbrev Y_X12_book : My := (yX12_book, cX12_book, 5, (some .int))
abbrev Y_X12_isBook : My := (yX12_isBook, cX12_isBook, 4, (some .boolean))
abbrev Y_X12_read : My := (yX12_read, cX12_read, 6, (some .int))
abbrev Y_X12_image : My := (yX12_image, cX12_image, 2, (some .int))
abbrev Y_X12_undo : My := (yX12_undo, cX12_undo, 2, (some .int))
abbrev Y_X12_tear : My := (yX12_tear, cX12_tear, 2, (some .int))
abbrev Y_X12_costsAll : My := (yX12_costsAll, cX12_costsAll, 3, (some .int))
abbrev Y_X12_count : My := (yX12_count, cX12_count, 2, (some .int))
abbrev Y_X12_status : My := (yX12_status, cX12_status, 4, (some .int))
theorem wt_12 : (Cond.initialized "PenAcresModel") ∈ wG := wG_mem (List.mem_of_getElem? (i := 12) (by decide +kernel)) rfl
theorem wt_910 : (Cond.fieldLink "PenAcresModel" 7 "PenAcresModel" "s" "[I") ∈ wG := wG_mem (List.mem_of_getElem? (i := 910) (by decide +kernel)) rfl
theorem wt_911 : (Cond.fieldLink "PenAcresModel" 13 "PenAcresModel" "keptS" "[I") ∈ wG := wG_mem (List.mem_of_getElem? (i := 911) (by decide +kernel)) rfl
theorem wt_912 : (Cond.fieldLink "PenAcresModel" 16 "PenAcresModel" "other" "[I") ∈ wG := wG_mem (List.mem_of_getElem? (i := 912) (by decide +kernel)) rfl
theorem wt_913 : (Cond.fieldLink "PenAcresModel" 19 "PenAcresModel" "aside" "[I") ∈ wG := wG_mem (List.mem_of_getElem? (i := 913) (by decide +kernel)) rfl
theorem wt_914 : (Cond.fieldLink "PenAcresModel" 22 "PenAcresModel" "statuses" "[I") ∈ wG := wG_mem (List.mem_of_getElem? (i := 914) (by decide +kernel)) rfl
theorem wt_915 : (Cond.fieldLink "PenAcresModel" 325 "PenAcresModel" "isKept" "Z") ∈ wG := wG_mem (List.mem_of_getElem? (i := 915) (by decide +kernel)) rfl
theorem wt_916 : (Cond.fieldLink "PenAcresModel" 25 "PenAcresModel" "lines" "[J") ∈ wG := wG_mem (List.mem_of_getElem? (i := 916) (by decide +kernel)) rfl
theorem wt_917 : (Cond.fieldLink "PenAcresModel" 29 "PenAcresModel" "insides" "[J") ∈ wG := wG_mem (List.mem_of_getElem? (i := 917) (by decide +kernel)) rfl
theorem wt_918 : (Cond.fieldLink "PenAcresModel" 32 "PenAcresModel" "costs" "[I") ∈ wG := wG_mem (List.mem_of_getElem? (i := 918) (by decide +kernel)) rfl
theorem wt_919 : (Cond.fieldLink "PenAcresModel" 35 "PenAcresModel" "owned" "[I") ∈ wG := wG_mem (List.mem_of_getElem? (i := 919) (by decide +kernel)) rfl
theorem wt_920 : (Cond.fieldLink "PenAcresModel" 38 "PenAcresModel" "tape" "[I") ∈ wG := wG_mem (List.mem_of_getElem? (i := 920) (by decide +kernel)) rfl
theorem wt_921 : (Cond.fieldLink "PenAcresModel" 212 "PenAcresModel" "taped" "I") ∈ wG := wG_mem (List.mem_of_getElem? (i := 921) (by decide +kernel)) rfl
theorem wt_922 : (Cond.fieldLink "PenAcresModel" 227 "PenAcresModel" "from" "I") ∈ wG := wG_mem (List.mem_of_getElem? (i := 922) (by decide +kernel)) rfl
theorem wt_923 : (Cond.fieldLink "PenAcresModel" 224 "PenAcresModel" "to" "I") ∈ wG := wG_mem (List.mem_of_getElem? (i := 923) (by decide +kernel)) rfl
theorem wt_924 : (Cond.fieldLink "PenAcresModel" 250 "PenAcresModel" "value" "I") ∈ wG := wG_mem (List.mem_of_getElem? (i := 924) (by decide +kernel)) rfl
theorem wt_925 : (Cond.fieldLink "PenAcresModel" 239 "PenAcresModel" "isWrong" "Z") ∈ wG := wG_mem (List.mem_of_getElem? (i := 925) (by decide +kernel)) rfl
theorem wt_926 : (Cond.fieldLink "PenAcresModel" 41 "PenAcresModel" "bitsOf" "[I") ∈ wG := wG_mem (List.mem_of_getElem? (i := 926) (by decide +kernel)) rfl
theorem wt_927 : (Cond.fieldLink "PenAcresModel" 44 "PenAcresModel" "sizeOf" "[I") ∈ wG := wG_mem (List.mem_of_getElem? (i := 927) (by decide +kernel)) rfl
theorem wt_928 : (Cond.fieldLink "PenAcresModel" 47 "PenAcresModel" "numbers" "[J") ∈ wG := wG_mem (List.mem_of_getElem? (i := 928) (by decide +kernel)) rfl
theorem wt_929 : (Cond.fieldLink "PenAcresModel" 50 "PenAcresModel" "moved" "[J") ∈ wG := wG_mem (List.mem_of_getElem? (i := 929) (by decide +kernel)) rfl
theorem wt_974 : (Cond.code ⟨"PenAcresModel", "smudge", "(II)I"⟩ prog_14_method_30_code 3 (Option.some Jvm.ClassFile.FieldType.int)) ∈ wG := wG_mem (List.mem_of_getElem? (i := 974) (by decide +kernel)) rfl
theorem wt_975 : (Cond.methodLink "PenAcresModel" 115 ⟨"PenAcresModel", "isCell", "(I)Z"⟩) ∈ wG := wG_mem (List.mem_of_getElem? (i := 975) (by decide +kernel)) rfl
theorem wt_976 : (Cond.static ⟨"PenAcresModel", "isCell", "(I)Z"⟩) ∈ wG := wG_mem (List.mem_of_getElem? (i := 976) (by decide +kernel)) rfl
theorem wt_977 : (Cond.code ⟨"PenAcresModel", "isCell", "(I)Z"⟩ prog_14_method_9_code 1 (Option.some Jvm.ClassFile.FieldType.boolean)) ∈ wG := wG_mem (List.mem_of_getElem? (i := 977) (by decide +kernel)) rfl
theorem wt_978 : (Cond.constantLong "PenAcresModel" 54 (47 : Int64)) ∈ wG := wG_mem (List.mem_of_getElem? (i := 978) (by decide +kernel)) rfl
theorem wt_979 : (Cond.methodLink "PenAcresModel" 56 ⟨"PenAcresModel", "in", "(JJJ)Z"⟩) ∈ wG := wG_mem (List.mem_of_getElem? (i := 979) (by decide +kernel)) rfl
theorem wt_980 : (Cond.static ⟨"PenAcresModel", "in", "(JJJ)Z"⟩) ∈ wG := wG_mem (List.mem_of_getElem? (i := 980) (by decide +kernel)) rfl
theorem wt_981 : (Cond.code ⟨"PenAcresModel", "in", "(JJJ)Z"⟩ prog_14_method_2_code 6 (Option.some Jvm.ClassFile.FieldType.boolean)) ∈ wG := wG_mem (List.mem_of_getElem? (i := 981) (by decide +kernel)) rfl
theorem wt_982 : (Cond.methodLink "PenAcresModel" 118 ⟨"PenAcresModel", "becomes", "(II)I"⟩) ∈ wG := wG_mem (List.mem_of_getElem? (i := 982) (by decide +kernel)) rfl
theorem wt_984 : (Cond.instanceMethod ⟨"PenAcresModel", "becomes", "(II)I"⟩) ∈ wG := wG_mem (List.mem_of_getElem? (i := 984) (by decide +kernel)) rfl
theorem wt_985 : (Cond.code ⟨"PenAcresModel", "becomes", "(II)I"⟩ prog_14_method_8_code 4 (Option.some Jvm.ClassFile.FieldType.int)) ∈ wG := wG_mem (List.mem_of_getElem? (i := 985) (by decide +kernel)) rfl
theorem wt_986 : (Cond.constant "PenAcresModel" 53 (-1000000001 : Int32)) ∈ wG := wG_mem (List.mem_of_getElem? (i := 986) (by decide +kernel)) rfl
theorem wt_987 : (Cond.methodLink "PenAcresModel" 121 ⟨"PenAcresModel", "finds", "(I)I"⟩) ∈ wG := wG_mem (List.mem_of_getElem? (i := 987) (by decide +kernel)) rfl
theorem wt_989 : (Cond.instanceMethod ⟨"PenAcresModel", "finds", "(I)I"⟩) ∈ wG := wG_mem (List.mem_of_getElem? (i := 989) (by decide +kernel)) rfl
theorem wt_990 : (Cond.code ⟨"PenAcresModel", "finds", "(I)I"⟩ prog_14_method_3_code 2 (Option.some Jvm.ClassFile.FieldType.int)) ∈ wG := wG_mem (List.mem_of_getElem? (i := 990) (by decide +kernel)) rfl
theorem wt_994 : (Cond.code ⟨"PenAcresModel", "cell", "(II)I"⟩ prog_14_method_32_code 3 (Option.some Jvm.ClassFile.FieldType.int)) ∈ wG := wG_mem (List.mem_of_getElem? (i := 994) (by decide +kernel)) rfl
theorem wt_995 : (Cond.constantLong "PenAcresModel" 62 (3 : Int64)) ∈ wG := wG_mem (List.mem_of_getElem? (i := 995) (by decide +kernel)) rfl
theorem wt_996 : (Cond.methodLink "PenAcresModel" 124 ⟨"PenAcresModel", "writeAll", "()V"⟩) ∈ wG := wG_mem (List.mem_of_getElem? (i := 996) (by decide +kernel)) rfl
theorem wt_998 : (Cond.instanceMethod ⟨"PenAcresModel", "writeAll", "()V"⟩) ∈ wG := wG_mem (List.mem_of_getElem? (i := 998) (by decide +kernel)) rfl
theorem wt_999 : (Cond.code ⟨"PenAcresModel", "writeAll", "()V"⟩ prog_14_method_25_code 4 (Option.none : Option Jvm.ClassFile.FieldType)) ∈ wG := wG_mem (List.mem_of_getElem? (i := 999) (by decide +kernel)) rfl
theorem wt_1000 : (Cond.methodLink "PenAcresModel" 92 ⟨"PenAcresModel", "smudges", "()J"⟩) ∈ wG := wG_mem (List.mem_of_getElem? (i := 1000) (by decide +kernel)) rfl
theorem wt_1002 : (Cond.instanceMethod ⟨"PenAcresModel", "smudges", "()J"⟩) ∈ wG := wG_mem (List.mem_of_getElem? (i := 1002) (by decide +kernel)) rfl
theorem wt_1003 : (Cond.code ⟨"PenAcresModel", "smudges", "()J"⟩ prog_14_method_22_code 4 (Option.some Jvm.ClassFile.FieldType.long)) ∈ wG := wG_mem (List.mem_of_getElem? (i := 1003) (by decide +kernel)) rfl
theorem wt_1004 : (Cond.methodLink "PenAcresModel" 96 ⟨"PenAcresModel", "draws", "(IJ)V"⟩) ∈ wG := wG_mem (List.mem_of_getElem? (i := 1004) (by decide +kernel)) rfl
theorem wt_1006 : (Cond.instanceMethod ⟨"PenAcresModel", "draws", "(IJ)V"⟩) ∈ wG := wG_mem (List.mem_of_getElem? (i := 1006) (by decide +kernel)) rfl
theorem wt_1007 : (Cond.code ⟨"PenAcresModel", "draws", "(IJ)V"⟩ prog_14_method_23_code 12 (Option.none : Option Jvm.ClassFile.FieldType)) ∈ wG := wG_mem (List.mem_of_getElem? (i := 1007) (by decide +kernel)) rfl
theorem wt_1008 : (Cond.methodLink "PenAcresModel" 68 ⟨"PenAcresModel", "its", "(II)I"⟩) ∈ wG := wG_mem (List.mem_of_getElem? (i := 1008) (by decide +kernel)) rfl
theorem wt_1010 : (Cond.instanceMethod ⟨"PenAcresModel", "its", "(II)I"⟩) ∈ wG := wG_mem (List.mem_of_getElem? (i := 1010) (by decide +kernel)) rfl
theorem wt_1011 : (Cond.code ⟨"PenAcresModel", "its", "(II)I"⟩ prog_14_method_14_code 3 (Option.some Jvm.ClassFile.FieldType.int)) ∈ wG := wG_mem (List.mem_of_getElem? (i := 1011) (by decide +kernel)) rfl
theorem wt_1012 : (Cond.methodLink "PenAcresModel" 64 ⟨"PenAcresModel", "spot", "(II)I"⟩) ∈ wG := wG_mem (List.mem_of_getElem? (i := 1012) (by decide +kernel)) rfl
theorem wt_1013 : (Cond.static ⟨"PenAcresModel", "spot", "(II)I"⟩) ∈ wG := wG_mem (List.mem_of_getElem? (i := 1013) (by decide +kernel)) rfl
theorem wt_1014 : (Cond.code ⟨"PenAcresModel", "spot", "(II)I"⟩ prog_14_method_13_code 2 (Option.some Jvm.ClassFile.FieldType.int)) ∈ wG := wG_mem (List.mem_of_getElem? (i := 1014) (by decide +kernel)) rfl
theorem wt_1015 : (Cond.methodLink "PenAcresModel" 71 ⟨"PenAcresModel", "turned", "(II)I"⟩) ∈ wG := wG_mem (List.mem_of_getElem? (i := 1015) (by decide +kernel)) rfl
theorem wt_1017 : (Cond.instanceMethod ⟨"PenAcresModel", "turned", "(II)I"⟩) ∈ wG := wG_mem (List.mem_of_getElem? (i := 1017) (by decide +kernel)) rfl
theorem wt_1018 : (Cond.code ⟨"PenAcresModel", "turned", "(II)I"⟩ prog_14_method_18_code 4 (Option.some Jvm.ClassFile.FieldType.int)) ∈ wG := wG_mem (List.mem_of_getElem? (i := 1018) (by decide +kernel)) rfl
theorem wt_1019 : (Cond.methodLink "PenAcresModel" 74 ⟨"PenAcresModel", "stepsOf", "(II)I"⟩) ∈ wG := wG_mem (List.mem_of_getElem? (i := 1019) (by decide +kernel)) rfl
theorem wt_1021 : (Cond.instanceMethod ⟨"PenAcresModel", "stepsOf", "(II)I"⟩) ∈ wG := wG_mem (List.mem_of_getElem? (i := 1021) (by decide +kernel)) rfl
theorem wt_1022 : (Cond.code ⟨"PenAcresModel", "stepsOf", "(II)I"⟩ prog_14_method_17_code 5 (Option.some Jvm.ClassFile.FieldType.int)) ∈ wG := wG_mem (List.mem_of_getElem? (i := 1022) (by decide +kernel)) rfl
theorem wt_1023 : (Cond.methodLink "PenAcresModel" 77 ⟨"PenAcresModel", "beside", "(II)I"⟩) ∈ wG := wG_mem (List.mem_of_getElem? (i := 1023) (by decide +kernel)) rfl
theorem wt_1024 : (Cond.static ⟨"PenAcresModel", "beside", "(II)I"⟩) ∈ wG := wG_mem (List.mem_of_getElem? (i := 1024) (by decide +kernel)) rfl
theorem wt_1025 : (Cond.code ⟨"PenAcresModel", "beside", "(II)I"⟩ prog_14_method_20_code 4 (Option.some Jvm.ClassFile.FieldType.int)) ∈ wG := wG_mem (List.mem_of_getElem? (i := 1025) (by decide +kernel)) rfl
theorem wt_1026 : (Cond.constantLong "PenAcresModel" 80 (-1 : Int64)) ∈ wG := wG_mem (List.mem_of_getElem? (i := 1026) (by decide +kernel)) rfl
theorem wt_1027 : (Cond.methodLink "PenAcresModel" 100 ⟨"PenAcresModel", "insideOf", "(J)J"⟩) ∈ wG := wG_mem (List.mem_of_getElem? (i := 1027) (by decide +kernel)) rfl
theorem wt_1028 : (Cond.static ⟨"PenAcresModel", "insideOf", "(J)J"⟩) ∈ wG := wG_mem (List.mem_of_getElem? (i := 1028) (by decide +kernel)) rfl
theorem wt_1029 : (Cond.code ⟨"PenAcresModel", "insideOf", "(J)J"⟩ prog_14_method_24_code 9 (Option.some Jvm.ClassFile.FieldType.long)) ∈ wG := wG_mem (List.mem_of_getElem? (i := 1029) (by decide +kernel)) rfl
theorem wt_1030 : (Cond.methodLink "PenAcresModel" 82 ⟨"PenAcresModel", "isEdge", "(I)Z"⟩) ∈ wG := wG_mem (List.mem_of_getElem? (i := 1030) (by decide +kernel)) rfl
theorem wt_1031 : (Cond.static ⟨"PenAcresModel", "isEdge", "(I)Z"⟩) ∈ wG := wG_mem (List.mem_of_getElem? (i := 1031) (by decide +kernel)) rfl
theorem wt_1032 : (Cond.code ⟨"PenAcresModel", "isEdge", "(I)Z"⟩ prog_14_method_21_code 3 (Option.some Jvm.ClassFile.FieldType.boolean)) ∈ wG := wG_mem (List.mem_of_getElem? (i := 1032) (by decide +kernel)) rfl
theorem wt_1033 : (Cond.methodLink "PenAcresModel" 86 ⟨"PenAcresModel", "has", "(JI)Z"⟩) ∈ wG := wG_mem (List.mem_of_getElem? (i := 1033) (by decide +kernel)) rfl
theorem wt_1034 : (Cond.static ⟨"PenAcresModel", "has", "(JI)Z"⟩) ∈ wG := wG_mem (List.mem_of_getElem? (i := 1034) (by decide +kernel)) rfl
theorem wt_1035 : (Cond.code ⟨"PenAcresModel", "has", "(JI)Z"⟩ prog_14_method_15_code 3 (Option.some Jvm.ClassFile.FieldType.boolean)) ∈ wG := wG_mem (List.mem_of_getElem? (i := 1035) (by decide +kernel)) rfl
theorem wt_1036 : (Cond.constantLong "PenAcresModel" 90 (281474976710655 : Int64)) ∈ wG := wG_mem (List.mem_of_getElem? (i := 1036) (by decide +kernel)) rfl
theorem wt_1037 : (Cond.methodLink "PenAcresModel" 111 ⟨"PenAcresModel", "ownerOf", "(I)I"⟩) ∈ wG := wG_mem (List.mem_of_getElem? (i := 1037) (by decide +kernel)) rfl
theorem wt_1039 : (Cond.instanceMethod ⟨"PenAcresModel", "ownerOf", "(I)I"⟩) ∈ wG := wG_mem (List.mem_of_getElem? (i := 1039) (by decide +kernel)) rfl
theorem wt_1040 : (Cond.code ⟨"PenAcresModel", "ownerOf", "(I)I"⟩ prog_14_method_28_code 5 (Option.some Jvm.ClassFile.FieldType.int)) ∈ wG := wG_mem (List.mem_of_getElem? (i := 1040) (by decide +kernel)) rfl
theorem wt_1041 : (Cond.methodLink "PenAcresModel" 108 ⟨"PenAcresModel", "writes", "(I)Z"⟩) ∈ wG := wG_mem (List.mem_of_getElem? (i := 1041) (by decide +kernel)) rfl
theorem wt_1043 : (Cond.instanceMethod ⟨"PenAcresModel", "writes", "(I)Z"⟩) ∈ wG := wG_mem (List.mem_of_getElem? (i := 1043) (by decide +kernel)) rfl
theorem wt_1044 : (Cond.code ⟨"PenAcresModel", "writes", "(I)Z"⟩ prog_14_method_27_code 2 (Option.some Jvm.ClassFile.FieldType.boolean)) ∈ wG := wG_mem (List.mem_of_getElem? (i := 1044) (by decide +kernel)) rfl
theorem wt_1045 : (Cond.methodLink "PenAcresModel" 127 ⟨"PenAcresModel", "thoseWith", "(IZ)I"⟩) ∈ wG := wG_mem (List.mem_of_getElem? (i := 1045) (by decide +kernel)) rfl
theorem wt_1047 : (Cond.instanceMethod ⟨"PenAcresModel", "thoseWith", "(IZ)I"⟩) ∈ wG := wG_mem (List.mem_of_getElem? (i := 1047) (by decide +kernel)) rfl
theorem wt_1048 : (Cond.code ⟨"PenAcresModel", "thoseWith", "(IZ)I"⟩ prog_14_method_31_code 5 (Option.some Jvm.ClassFile.FieldType.int)) ∈ wG := wG_mem (List.mem_of_getElem? (i := 1048) (by decide +kernel)) rfl
theorem wt_1052 : (Cond.code ⟨"PenAcresModel", "cells", "(I)J"⟩ prog_14_method_34_code 5 (Option.some Jvm.ClassFile.FieldType.long)) ∈ wG := wG_mem (List.mem_of_getElem? (i := 1052) (by decide +kernel)) rfl
theorem wt_1053 : (Cond.constantLong "PenAcresModel" 131 (2 : Int64)) ∈ wG := wG_mem (List.mem_of_getElem? (i := 1053) (by decide +kernel)) rfl
theorem wt_1054 : (Cond.methodLink "PenAcresModel" 133 ⟨"PenAcresModel", "writersInside", "(I)I"⟩) ∈ wG := wG_mem (List.mem_of_getElem? (i := 1054) (by decide +kernel)) rfl
theorem wt_1056 : (Cond.instanceMethod ⟨"PenAcresModel", "writersInside", "(I)I"⟩) ∈ wG := wG_mem (List.mem_of_getElem? (i := 1056) (by decide +kernel)) rfl
theorem wt_1057 : (Cond.code ⟨"PenAcresModel", "writersInside", "(I)I"⟩ prog_14_method_33_code 4 (Option.some Jvm.ClassFile.FieldType.int)) ∈ wG := wG_mem (List.mem_of_getElem? (i := 1057) (by decide +kernel)) rfl
theorem wt_1061 : (Cond.code ⟨"PenAcresModel", "hand", "(II)I"⟩ prog_14_method_36_code 3 (Option.some Jvm.ClassFile.FieldType.int)) ∈ wG := wG_mem (List.mem_of_getElem? (i := 1061) (by decide +kernel)) rfl
theorem wt_1062 : (Cond.methodLink "PenAcresModel" 136 ⟨"PenAcresModel", "isKind", "(I)Z"⟩) ∈ wG := wG_mem (List.mem_of_getElem? (i := 1062) (by decide +kernel)) rfl
theorem wt_1063 : (Cond.static ⟨"PenAcresModel", "isKind", "(I)Z"⟩) ∈ wG := wG_mem (List.mem_of_getElem? (i := 1063) (by decide +kernel)) rfl
theorem wt_1064 : (Cond.code ⟨"PenAcresModel", "isKind", "(I)Z"⟩ prog_14_method_11_code 1 (Option.some Jvm.ClassFile.FieldType.boolean)) ∈ wG := wG_mem (List.mem_of_getElem? (i := 1064) (by decide +kernel)) rfl
theorem wt_1065 : (Cond.constantLong "PenAcresModel" 60 (5 : Int64)) ∈ wG := wG_mem (List.mem_of_getElem? (i := 1065) (by decide +kernel)) rfl
theorem wt_1066 : (Cond.constant "PenAcresModel" 139 (-1000000002 : Int32)) ∈ wG := wG_mem (List.mem_of_getElem? (i := 1066) (by decide +kernel)) rfl
theorem wt_1067 : (Cond.methodLink "PenAcresModel" 140 ⟨"PenAcresModel", "adds", "(II)I"⟩) ∈ wG := wG_mem (List.mem_of_getElem? (i := 1067) (by decide +kernel)) rfl
theorem wt_1069 : (Cond.instanceMethod ⟨"PenAcresModel", "adds", "(II)I"⟩) ∈ wG := wG_mem (List.mem_of_getElem? (i := 1069) (by decide +kernel)) rfl
theorem wt_1070 : (Cond.code ⟨"PenAcresModel", "adds", "(II)I"⟩ prog_14_method_35_code 5 (Option.some Jvm.ClassFile.FieldType.int)) ∈ wG := wG_mem (List.mem_of_getElem? (i := 1070) (by decide +kernel)) rfl
theorem wt_1074 : (Cond.code ⟨"PenAcresModel", "stroke", "(III)I"⟩ prog_14_method_38_code 4 (Option.some Jvm.ClassFile.FieldType.int)) ∈ wG := wG_mem (List.mem_of_getElem? (i := 1074) (by decide +kernel)) rfl
theorem wt_1075 : (Cond.methodLink "PenAcresModel" 143 ⟨"PenAcresModel", "isHand", "(I)Z"⟩) ∈ wG := wG_mem (List.mem_of_getElem? (i := 1075) (by decide +kernel)) rfl
theorem wt_1077 : (Cond.instanceMethod ⟨"PenAcresModel", "isHand", "(I)Z"⟩) ∈ wG := wG_mem (List.mem_of_getElem? (i := 1077) (by decide +kernel)) rfl
theorem wt_1078 : (Cond.code ⟨"PenAcresModel", "isHand", "(I)Z"⟩ prog_14_method_10_code 2 (Option.some Jvm.ClassFile.FieldType.boolean)) ∈ wG := wG_mem (List.mem_of_getElem? (i := 1078) (by decide +kernel)) rfl
theorem wt_1079 : (Cond.methodLink "PenAcresModel" 146 ⟨"PenAcresModel", "isWay", "(I)Z"⟩) ∈ wG := wG_mem (List.mem_of_getElem? (i := 1079) (by decide +kernel)) rfl
theorem wt_1080 : (Cond.static ⟨"PenAcresModel", "isWay", "(I)Z"⟩) ∈ wG := wG_mem (List.mem_of_getElem? (i := 1080) (by decide +kernel)) rfl
theorem wt_1081 : (Cond.code ⟨"PenAcresModel", "isWay", "(I)Z"⟩ prog_14_method_12_code 1 (Option.some Jvm.ClassFile.FieldType.boolean)) ∈ wG := wG_mem (List.mem_of_getElem? (i := 1081) (by decide +kernel)) rfl
theorem wt_1082 : (Cond.constantLong "PenAcresModel" 149 (7 : Int64)) ∈ wG := wG_mem (List.mem_of_getElem? (i := 1082) (by decide +kernel)) rfl
theorem wt_1083 : (Cond.methodLink "PenAcresModel" 151 ⟨"PenAcresModel", "strokes", "(III)I"⟩) ∈ wG := wG_mem (List.mem_of_getElem? (i := 1083) (by decide +kernel)) rfl
theorem wt_1085 : (Cond.instanceMethod ⟨"PenAcresModel", "strokes", "(III)I"⟩) ∈ wG := wG_mem (List.mem_of_getElem? (i := 1085) (by decide +kernel)) rfl
theorem wt_1086 : (Cond.code ⟨"PenAcresModel", "strokes", "(III)I"⟩ prog_14_method_37_code 5 (Option.some Jvm.ClassFile.FieldType.int)) ∈ wG := wG_mem (List.mem_of_getElem? (i := 1086) (by decide +kernel)) rfl
theorem wt_1090 : (Cond.code ⟨"PenAcresModel", "of", "(II)I"⟩ prog_14_method_39_code 3 (Option.some Jvm.ClassFile.FieldType.int)) ∈ wG := wG_mem (List.mem_of_getElem? (i := 1090) (by decide +kernel)) rfl
theorem wt_1091 : (Cond.constantLong "PenAcresModel" 155 (9 : Int64)) ∈ wG := wG_mem (List.mem_of_getElem? (i := 1091) (by decide +kernel)) rfl
theorem wt_1092 : (Cond.methodLink "PenAcresModel" 104 ⟨"PenAcresModel", "ones", "(J)I"⟩) ∈ wG := wG_mem (List.mem_of_getElem? (i := 1092) (by decide +kernel)) rfl
theorem wt_1093 : (Cond.static ⟨"PenAcresModel", "ones", "(J)I"⟩) ∈ wG := wG_mem (List.mem_of_getElem? (i := 1093) (by decide +kernel)) rfl
theorem wt_1094 : (Cond.code ⟨"PenAcresModel", "ones", "(J)I"⟩ prog_14_method_16_code 5 (Option.some Jvm.ClassFile.FieldType.int)) ∈ wG := wG_mem (List.mem_of_getElem? (i := 1094) (by decide +kernel)) rfl
theorem wt_1095 : (Cond.methodLink "PenAcresModel" 157 ⟨"PenAcresModel", "ownedBy", "(I)I"⟩) ∈ wG := wG_mem (List.mem_of_getElem? (i := 1095) (by decide +kernel)) rfl
theorem wt_1097 : (Cond.instanceMethod ⟨"PenAcresModel", "ownedBy", "(I)I"⟩) ∈ wG := wG_mem (List.mem_of_getElem? (i := 1097) (by decide +kernel)) rfl
theorem wt_1098 : (Cond.code ⟨"PenAcresModel", "ownedBy", "(I)I"⟩ prog_14_method_29_code 4 (Option.some Jvm.ClassFile.FieldType.int)) ∈ wG := wG_mem (List.mem_of_getElem? (i := 1098) (by decide +kernel)) rfl
theorem wt_1099 : (Cond.methodLink "PenAcresModel" 160 ⟨"PenAcresModel", "cropOf", "(I)I"⟩) ∈ wG := wG_mem (List.mem_of_getElem? (i := 1099) (by decide +kernel)) rfl
theorem wt_1101 : (Cond.instanceMethod ⟨"PenAcresModel", "cropOf", "(I)I"⟩) ∈ wG := wG_mem (List.mem_of_getElem? (i := 1101) (by decide +kernel)) rfl
theorem wt_1102 : (Cond.code ⟨"PenAcresModel", "cropOf", "(I)I"⟩ prog_14_method_19_code 2 (Option.some Jvm.ClassFile.FieldType.int)) ∈ wG := wG_mem (List.mem_of_getElem? (i := 1102) (by decide +kernel)) rfl
theorem wt_1106 : (Cond.code ⟨"PenAcresModel", "told", "(III)I"⟩ prog_14_method_41_code 4 (Option.some Jvm.ClassFile.FieldType.int)) ∈ wG := wG_mem (List.mem_of_getElem? (i := 1106) (by decide +kernel)) rfl
theorem wt_1107 : (Cond.methodLink "PenAcresModel" 163 ⟨"PenAcresModel", "isStroke", "(II)Z"⟩) ∈ wG := wG_mem (List.mem_of_getElem? (i := 1107) (by decide +kernel)) rfl
theorem wt_1109 : (Cond.instanceMethod ⟨"PenAcresModel", "isStroke", "(II)Z"⟩) ∈ wG := wG_mem (List.mem_of_getElem? (i := 1109) (by decide +kernel)) rfl
theorem wt_1110 : (Cond.code ⟨"PenAcresModel", "isStroke", "(II)Z"⟩ prog_14_method_40_code 3 (Option.some Jvm.ClassFile.FieldType.boolean)) ∈ wG := wG_mem (List.mem_of_getElem? (i := 1110) (by decide +kernel)) rfl
theorem wt_1114 : (Cond.code ⟨"PenAcresModel", "set", "(III)I"⟩ prog_14_method_42_code 5 (Option.some Jvm.ClassFile.FieldType.int)) ∈ wG := wG_mem (List.mem_of_getElem? (i := 1114) (by decide +kernel)) rfl
theorem wt_1115 : (Cond.constantLong "PenAcresModel" 167 (999 : Int64)) ∈ wG := wG_mem (List.mem_of_getElem? (i := 1115) (by decide +kernel)) rfl
theorem wt_1119 : (Cond.code ⟨"PenAcresModel", "alter", "(IIII)I"⟩ prog_14_method_43_code 6 (Option.some Jvm.ClassFile.FieldType.int)) ∈ wG := wG_mem (List.mem_of_getElem? (i := 1119) (by decide +kernel)) rfl
theorem wt_1123 : (Cond.code ⟨"PenAcresModel", "cut", "(II)I"⟩ prog_14_method_44_code 3 (Option.some Jvm.ClassFile.FieldType.int)) ∈ wG := wG_mem (List.mem_of_getElem? (i := 1123) (by decide +kernel)) rfl
theorem wt_1127 : (Cond.code ⟨"PenAcresModel", "turn", "(II)I"⟩ prog_14_method_45_code 3 (Option.some Jvm.ClassFile.FieldType.int)) ∈ wG := wG_mem (List.mem_of_getElem? (i := 1127) (by decide +kernel)) rfl
theorem wt_1131 : (Cond.code ⟨"PenAcresModel", "as", "(II)I"⟩ prog_14_method_47_code 3 (Option.some Jvm.ClassFile.FieldType.int)) ∈ wG := wG_mem (List.mem_of_getElem? (i := 1131) (by decide +kernel)) rfl
theorem wt_1132 : (Cond.methodLink "PenAcresModel" 169 ⟨"PenAcresModel", "isUnder", "(II)Z"⟩) ∈ wG := wG_mem (List.mem_of_getElem? (i := 1132) (by decide +kernel)) rfl
theorem wt_1133 : (Cond.static ⟨"PenAcresModel", "isUnder", "(II)Z"⟩) ∈ wG := wG_mem (List.mem_of_getElem? (i := 1133) (by decide +kernel)) rfl
theorem wt_1134 : (Cond.code ⟨"PenAcresModel", "isUnder", "(II)Z"⟩ prog_14_method_46_code 2 (Option.some Jvm.ClassFile.FieldType.boolean)) ∈ wG := wG_mem (List.mem_of_getElem? (i := 1134) (by decide +kernel)) rfl
theorem wt_1135 : (Cond.constant "PenAcresModel" 172 (-1000000003 : Int32)) ∈ wG := wG_mem (List.mem_of_getElem? (i := 1135) (by decide +kernel)) rfl
theorem wt_1139 : (Cond.code ⟨"PenAcresModel", "line", "(I)J"⟩ prog_14_method_48_code 2 (Option.some Jvm.ClassFile.FieldType.long)) ∈ wG := wG_mem (List.mem_of_getElem? (i := 1139) (by decide +kernel)) rfl
theorem wt_1143 : (Cond.code ⟨"PenAcresModel", "inside", "(I)J"⟩ prog_14_method_49_code 2 (Option.some Jvm.ClassFile.FieldType.long)) ∈ wG := wG_mem (List.mem_of_getElem? (i := 1143) (by decide +kernel)) rfl
theorem wt_1147 : (Cond.code ⟨"PenAcresModel", "years", "(I)I"⟩ prog_14_method_53_code 2 (Option.some Jvm.ClassFile.FieldType.int)) ∈ wG := wG_mem (List.mem_of_getElem? (i := 1147) (by decide +kernel)) rfl
theorem wt_1148 : (Cond.constantLong "PenAcresModel" 177 (60 : Int64)) ∈ wG := wG_mem (List.mem_of_getElem? (i := 1148) (by decide +kernel)) rfl
theorem wt_1149 : (Cond.constant "PenAcresModel" 179 (-1000000005 : Int32)) ∈ wG := wG_mem (List.mem_of_getElem? (i := 1149) (by decide +kernel)) rfl
theorem wt_1150 : (Cond.methodLink "PenAcresModel" 180 ⟨"PenAcresModel", "goesOn", "(I)V"⟩) ∈ wG := wG_mem (List.mem_of_getElem? (i := 1150) (by decide +kernel)) rfl
theorem wt_1152 : (Cond.instanceMethod ⟨"PenAcresModel", "goesOn", "(I)V"⟩) ∈ wG := wG_mem (List.mem_of_getElem? (i := 1152) (by decide +kernel)) rfl
theorem wt_1153 : (Cond.code ⟨"PenAcresModel", "goesOn", "(I)V"⟩ prog_14_method_51_code 3 (Option.none : Option Jvm.ClassFile.FieldType)) ∈ wG := wG_mem (List.mem_of_getElem? (i := 1153) (by decide +kernel)) rfl
theorem wt_1154 : (Cond.methodLink "PenAcresModel" 174 ⟨"PenAcresModel", "year", "()V"⟩) ∈ wG := wG_mem (List.mem_of_getElem? (i := 1154) (by decide +kernel)) rfl
theorem wt_1156 : (Cond.instanceMethod ⟨"PenAcresModel", "year", "()V"⟩) ∈ wG := wG_mem (List.mem_of_getElem? (i := 1156) (by decide +kernel)) rfl
theorem wt_1157 : (Cond.code ⟨"PenAcresModel", "year", "()V"⟩ prog_14_method_50_code 4 (Option.none : Option Jvm.ClassFile.FieldType)) ∈ wG := wG_mem (List.mem_of_getElem? (i := 1157) (by decide +kernel)) rfl
theorem wt_1158 : (Cond.constant "PenAcresModel" 173 (99999 : Int32)) ∈ wG := wG_mem (List.mem_of_getElem? (i := 1158) (by decide +kernel)) rfl
theorem wt_1159 : (Cond.methodLink "PenAcresModel" 184 ⟨"PenAcresModel", "together", "(I)I"⟩) ∈ wG := wG_mem (List.mem_of_getElem? (i := 1159) (by decide +kernel)) rfl
theorem wt_1161 : (Cond.instanceMethod ⟨"PenAcresModel", "together", "(I)I"⟩) ∈ wG := wG_mem (List.mem_of_getElem? (i := 1161) (by decide +kernel)) rfl
theorem wt_1162 : (Cond.code ⟨"PenAcresModel", "together", "(I)I"⟩ prog_14_method_52_code 4 (Option.some Jvm.ClassFile.FieldType.int)) ∈ wG := wG_mem (List.mem_of_getElem? (i := 1162) (by decide +kernel)) rfl
theorem wt_1166 : (Cond.code ⟨"PenAcresModel", "now", "(I)I"⟩ prog_14_method_55_code 2 (Option.some Jvm.ClassFile.FieldType.int)) ∈ wG := wG_mem (List.mem_of_getElem? (i := 1166) (by decide +kernel)) rfl
theorem wt_1167 : (Cond.methodLink "PenAcresModel" 187 ⟨"PenAcresModel", "thoseThatWrite", "()I"⟩) ∈ wG := wG_mem (List.mem_of_getElem? (i := 1167) (by decide +kernel)) rfl
theorem wt_1169 : (Cond.instanceMethod ⟨"PenAcresModel", "thoseThatWrite", "()I"⟩) ∈ wG := wG_mem (List.mem_of_getElem? (i := 1169) (by decide +kernel)) rfl
theorem wt_1170 : (Cond.code ⟨"PenAcresModel", "thoseThatWrite", "()I"⟩ prog_14_method_54_code 3 (Option.some Jvm.ClassFile.FieldType.int)) ∈ wG := wG_mem (List.mem_of_getElem? (i := 1170) (by decide +kernel)) rfl
theorem wt_1174 : (Cond.code ⟨"PenAcresModel", "on", "(III)I"⟩ prog_14_method_57_code 4 (Option.some Jvm.ClassFile.FieldType.int)) ∈ wG := wG_mem (List.mem_of_getElem? (i := 1174) (by decide +kernel)) rfl
theorem wt_1175 : (Cond.methodLink "PenAcresModel" 191 ⟨"PenAcresModel", "laysAside", "()V"⟩) ∈ wG := wG_mem (List.mem_of_getElem? (i := 1175) (by decide +kernel)) rfl
theorem wt_1177 : (Cond.instanceMethod ⟨"PenAcresModel", "laysAside", "()V"⟩) ∈ wG := wG_mem (List.mem_of_getElem? (i := 1177) (by decide +kernel)) rfl
theorem wt_1178 : (Cond.code ⟨"PenAcresModel", "laysAside", "()V"⟩ prog_14_method_6_code 2 (Option.none : Option Jvm.ClassFile.FieldType)) ∈ wG := wG_mem (List.mem_of_getElem? (i := 1178) (by decide +kernel)) rfl
theorem wt_1179 : (Cond.methodLink "PenAcresModel" 194 ⟨"PenAcresModel", "ownsNow", "(I)I"⟩) ∈ wG := wG_mem (List.mem_of_getElem? (i := 1179) (by decide +kernel)) rfl
theorem wt_1181 : (Cond.instanceMethod ⟨"PenAcresModel", "ownsNow", "(I)I"⟩) ∈ wG := wG_mem (List.mem_of_getElem? (i := 1181) (by decide +kernel)) rfl
theorem wt_1182 : (Cond.code ⟨"PenAcresModel", "ownsNow", "(I)I"⟩ prog_14_method_56_code 2 (Option.some Jvm.ClassFile.FieldType.int)) ∈ wG := wG_mem (List.mem_of_getElem? (i := 1182) (by decide +kernel)) rfl
theorem wt_1183 : (Cond.methodLink "PenAcresModel" 197 ⟨"PenAcresModel", "takesBack", "(I)I"⟩) ∈ wG := wG_mem (List.mem_of_getElem? (i := 1183) (by decide +kernel)) rfl
theorem wt_1185 : (Cond.instanceMethod ⟨"PenAcresModel", "takesBack", "(I)I"⟩) ∈ wG := wG_mem (List.mem_of_getElem? (i := 1185) (by decide +kernel)) rfl
theorem wt_1186 : (Cond.code ⟨"PenAcresModel", "takesBack", "(I)I"⟩ prog_14_method_7_code 3 (Option.some Jvm.ClassFile.FieldType.int)) ∈ wG := wG_mem (List.mem_of_getElem? (i := 1186) (by decide +kernel)) rfl
theorem wt_1190 : (Cond.code ⟨"PenAcresModel", "dry", "(I)I"⟩ prog_14_method_59_code 4 (Option.some Jvm.ClassFile.FieldType.int)) ∈ wG := wG_mem (List.mem_of_getElem? (i := 1190) (by decide +kernel)) rfl
theorem wt_1191 : (Cond.methodLink "PenAcresModel" 200 ⟨"PenAcresModel", "isDry", "(I)Z"⟩) ∈ wG := wG_mem (List.mem_of_getElem? (i := 1191) (by decide +kernel)) rfl
theorem wt_1193 : (Cond.instanceMethod ⟨"PenAcresModel", "isDry", "(I)Z"⟩) ∈ wG := wG_mem (List.mem_of_getElem? (i := 1193) (by decide +kernel)) rfl
theorem wt_1194 : (Cond.code ⟨"PenAcresModel", "isDry", "(I)Z"⟩ prog_14_method_58_code 2 (Option.some Jvm.ClassFile.FieldType.boolean)) ∈ wG := wG_mem (List.mem_of_getElem? (i := 1194) (by decide +kernel)) rfl
theorem wt_1195 : (Cond.constant "PenAcresModel" 203 (-1000000004 : Int32)) ∈ wG := wG_mem (List.mem_of_getElem? (i := 1195) (by decide +kernel)) rfl
theorem wt_1199 : (Cond.code ⟨"PenAcresModel", "rich", "(I)I"⟩ prog_14_method_61_code 2 (Option.some Jvm.ClassFile.FieldType.int)) ∈ wG := wG_mem (List.mem_of_getElem? (i := 1199) (by decide +kernel)) rfl
theorem wt_1200 : (Cond.methodLink "PenAcresModel" 204 ⟨"PenAcresModel", "richest", "()I"⟩) ∈ wG := wG_mem (List.mem_of_getElem? (i := 1200) (by decide +kernel)) rfl
theorem wt_1202 : (Cond.instanceMethod ⟨"PenAcresModel", "richest", "()I"⟩) ∈ wG := wG_mem (List.mem_of_getElem? (i := 1202) (by decide +kernel)) rfl
theorem wt_1203 : (Cond.code ⟨"PenAcresModel", "richest", "()I"⟩ prog_14_method_60_code 3 (Option.some Jvm.ClassFile.FieldType.int)) ∈ wG := wG_mem (List.mem_of_getElem? (i := 1203) (by decide +kernel)) rfl
theorem wt_1207 : (Cond.code ⟨"PenAcresModel", "rain", "(I)I"⟩ prog_14_method_62_code 8 (Option.some Jvm.ClassFile.FieldType.int)) ∈ wG := wG_mem (List.mem_of_getElem? (i := 1207) (by decide +kernel)) rfl
theorem wt_1208 : (Cond.methodLink "PenAcresModel" 207 ⟨"PenAcresModel", "insideMany", "(I)I"⟩) ∈ wG := wG_mem (List.mem_of_getElem? (i := 1208) (by decide +kernel)) rfl
theorem wt_1210 : (Cond.instanceMethod ⟨"PenAcresModel", "insideMany", "(I)I"⟩) ∈ wG := wG_mem (List.mem_of_getElem? (i := 1210) (by decide +kernel)) rfl
theorem wt_1211 : (Cond.code ⟨"PenAcresModel", "insideMany", "(I)I"⟩ prog_14_method_26_code 2 (Option.some Jvm.ClassFile.FieldType.int)) ∈ wG := wG_mem (List.mem_of_getElem? (i := 1211) (by decide +kernel)) rfl
theorem wt_1215 : (Cond.code ⟨"PenAcresModel", "longer", "(I)I"⟩ prog_14_method_63_code 7 (Option.some Jvm.ClassFile.FieldType.int)) ∈ wG := wG_mem (List.mem_of_getElem? (i := 1215) (by decide +kernel)) rfl
theorem wt_1219 : (Cond.code ⟨"PenAcresModel", "begin", "(I)I"⟩ prog_14_method_64_code 7 (Option.some Jvm.ClassFile.FieldType.int)) ∈ wG := wG_mem (List.mem_of_getElem? (i := 1219) (by decide +kernel)) rfl
theorem wt_1223 : (Cond.code ⟨"PenAcresModel", "kind", "(I)I"⟩ prog_14_method_65_code 7 (Option.some Jvm.ClassFile.FieldType.int)) ∈ wG := wG_mem (List.mem_of_getElem? (i := 1223) (by decide +kernel)) rfl
theorem wt_1227 : (Cond.code ⟨"PenAcresModel", "ink", "(I)I"⟩ prog_14_method_66_code 7 (Option.some Jvm.ClassFile.FieldType.int)) ∈ wG := wG_mem (List.mem_of_getElem? (i := 1227) (by decide +kernel)) rfl
theorem wt_1231 : (Cond.code ⟨"PenAcresModel", "court", "(II)I"⟩ prog_14_method_67_code 3 (Option.some Jvm.ClassFile.FieldType.int)) ∈ wG := wG_mem (List.mem_of_getElem? (i := 1231) (by decide +kernel)) rfl
theorem wt_1235 : (Cond.code ⟨"PenAcresModel", "way", "(III)I"⟩ prog_14_method_68_code 14 (Option.some Jvm.ClassFile.FieldType.int)) ∈ wG := wG_mem (List.mem_of_getElem? (i := 1235) (by decide +kernel)) rfl
theorem wt_1239 : (Cond.code ⟨"PenAcresModel", "sea", "()I"⟩ prog_14_method_69_code 4 (Option.some Jvm.ClassFile.FieldType.int)) ∈ wG := wG_mem (List.mem_of_getElem? (i := 1239) (by decide +kernel)) rfl
theorem wt_1243 : (Cond.code ⟨"PenAcresModel", "feed", "(II)I"⟩ prog_14_method_70_code 4 (Option.some Jvm.ClassFile.FieldType.int)) ∈ wG := wG_mem (List.mem_of_getElem? (i := 1243) (by decide +kernel)) rfl
theorem wt_1244 : (Cond.constantLong "PenAcresModel" 210 (4 : Int64)) ∈ wG := wG_mem (List.mem_of_getElem? (i := 1244) (by decide +kernel)) rfl
theorem wt_1248 : (Cond.code ⟨"PenAcresModel", "wipe", "()I"⟩ prog_14_method_71_code 2 (Option.some Jvm.ClassFile.FieldType.int)) ∈ wG := wG_mem (List.mem_of_getElem? (i := 1248) (by decide +kernel)) rfl
theorem wt_1252 : (Cond.code ⟨"PenAcresModel", "field", "()I"⟩ prog_14_method_83_code 2 (Option.some Jvm.ClassFile.FieldType.int)) ∈ wG := wG_mem (List.mem_of_getElem? (i := 1252) (by decide +kernel)) rfl
theorem wt_1253 : (Cond.methodLink "PenAcresModel" 301 ⟨"PenAcresModel", "saves", "()V"⟩) ∈ wG := wG_mem (List.mem_of_getElem? (i := 1253) (by decide +kernel)) rfl
theorem wt_1255 : (Cond.instanceMethod ⟨"PenAcresModel", "saves", "()V"⟩) ∈ wG := wG_mem (List.mem_of_getElem? (i := 1255) (by decide +kernel)) rfl
theorem wt_1256 : (Cond.code ⟨"PenAcresModel", "saves", "()V"⟩ prog_14_method_4_code 2 (Option.none : Option Jvm.ClassFile.FieldType)) ∈ wG := wG_mem (List.mem_of_getElem? (i := 1256) (by decide +kernel)) rfl
theorem wt_1257 : (Cond.methodLink "PenAcresModel" 243 ⟨"PenAcresModel", "token", "()V"⟩) ∈ wG := wG_mem (List.mem_of_getElem? (i := 1257) (by decide +kernel)) rfl
theorem wt_1259 : (Cond.instanceMethod ⟨"PenAcresModel", "token", "()V"⟩) ∈ wG := wG_mem (List.mem_of_getElem? (i := 1259) (by decide +kernel)) rfl
theorem wt_1260 : (Cond.code ⟨"PenAcresModel", "token", "()V"⟩ prog_14_method_75_code 3 (Option.none : Option Jvm.ClassFile.FieldType)) ∈ wG := wG_mem (List.mem_of_getElem? (i := 1260) (by decide +kernel)) rfl
theorem wt_1261 : (Cond.methodLink "PenAcresModel" 230 ⟨"PenAcresModel", "byteAt", "(I)I"⟩) ∈ wG := wG_mem (List.mem_of_getElem? (i := 1261) (by decide +kernel)) rfl
theorem wt_1263 : (Cond.instanceMethod ⟨"PenAcresModel", "byteAt", "(I)I"⟩) ∈ wG := wG_mem (List.mem_of_getElem? (i := 1263) (by decide +kernel)) rfl
theorem wt_1264 : (Cond.code ⟨"PenAcresModel", "byteAt", "(I)I"⟩ prog_14_method_72_code 2 (Option.some Jvm.ClassFile.FieldType.int)) ∈ wG := wG_mem (List.mem_of_getElem? (i := 1264) (by decide +kernel)) rfl
theorem wt_1265 : (Cond.methodLink "PenAcresModel" 233 ⟨"PenAcresModel", "isLetter", "(I)Z"⟩) ∈ wG := wG_mem (List.mem_of_getElem? (i := 1265) (by decide +kernel)) rfl
theorem wt_1266 : (Cond.static ⟨"PenAcresModel", "isLetter", "(I)Z"⟩) ∈ wG := wG_mem (List.mem_of_getElem? (i := 1266) (by decide +kernel)) rfl
theorem wt_1267 : (Cond.code ⟨"PenAcresModel", "isLetter", "(I)Z"⟩ prog_14_method_73_code 1 (Option.some Jvm.ClassFile.FieldType.boolean)) ∈ wG := wG_mem (List.mem_of_getElem? (i := 1267) (by decide +kernel)) rfl
theorem wt_1268 : (Cond.constantLong "PenAcresModel" 216 (97 : Int64)) ∈ wG := wG_mem (List.mem_of_getElem? (i := 1268) (by decide +kernel)) rfl
theorem wt_1269 : (Cond.constantLong "PenAcresModel" 218 (122 : Int64)) ∈ wG := wG_mem (List.mem_of_getElem? (i := 1269) (by decide +kernel)) rfl
theorem wt_1270 : (Cond.methodLink "PenAcresModel" 236 ⟨"PenAcresModel", "isDigit", "(I)Z"⟩) ∈ wG := wG_mem (List.mem_of_getElem? (i := 1270) (by decide +kernel)) rfl
theorem wt_1271 : (Cond.static ⟨"PenAcresModel", "isDigit", "(I)Z"⟩) ∈ wG := wG_mem (List.mem_of_getElem? (i := 1271) (by decide +kernel)) rfl
theorem wt_1272 : (Cond.code ⟨"PenAcresModel", "isDigit", "(I)Z"⟩ prog_14_method_74_code 1 (Option.some Jvm.ClassFile.FieldType.boolean)) ∈ wG := wG_mem (List.mem_of_getElem? (i := 1272) (by decide +kernel)) rfl
theorem wt_1273 : (Cond.constantLong "PenAcresModel" 220 (48 : Int64)) ∈ wG := wG_mem (List.mem_of_getElem? (i := 1273) (by decide +kernel)) rfl
theorem wt_1274 : (Cond.constantLong "PenAcresModel" 222 (57 : Int64)) ∈ wG := wG_mem (List.mem_of_getElem? (i := 1274) (by decide +kernel)) rfl
theorem wt_1275 : (Cond.methodLink "PenAcresModel" 304 ⟨"PenAcresModel", "item", "()V"⟩) ∈ wG := wG_mem (List.mem_of_getElem? (i := 1275) (by decide +kernel)) rfl
theorem wt_1277 : (Cond.instanceMethod ⟨"PenAcresModel", "item", "()V"⟩) ∈ wG := wG_mem (List.mem_of_getElem? (i := 1277) (by decide +kernel)) rfl
theorem wt_1278 : (Cond.code ⟨"PenAcresModel", "item", "()V"⟩ prog_14_method_82_code 4 (Option.none : Option Jvm.ClassFile.FieldType)) ∈ wG := wG_mem (List.mem_of_getElem? (i := 1278) (by decide +kernel)) rfl
theorem wt_1279 : (Cond.methodLink "PenAcresModel" 291 ⟨"PenAcresModel", "kindHere", "()I"⟩) ∈ wG := wG_mem (List.mem_of_getElem? (i := 1279) (by decide +kernel)) rfl
theorem wt_1281 : (Cond.instanceMethod ⟨"PenAcresModel", "kindHere", "()I"⟩) ∈ wG := wG_mem (List.mem_of_getElem? (i := 1281) (by decide +kernel)) rfl
theorem wt_1282 : (Cond.code ⟨"PenAcresModel", "kindHere", "()I"⟩ prog_14_method_79_code 3 (Option.some Jvm.ClassFile.FieldType.int)) ∈ wG := wG_mem (List.mem_of_getElem? (i := 1282) (by decide +kernel)) rfl
theorem wt_1283 : (Cond.methodLink "PenAcresModel" 257 ⟨"PenAcresModel", "word", "()J"⟩) ∈ wG := wG_mem (List.mem_of_getElem? (i := 1283) (by decide +kernel)) rfl
theorem wt_1285 : (Cond.instanceMethod ⟨"PenAcresModel", "word", "()J"⟩) ∈ wG := wG_mem (List.mem_of_getElem? (i := 1285) (by decide +kernel)) rfl
theorem wt_1286 : (Cond.code ⟨"PenAcresModel", "word", "()J"⟩ prog_14_method_77_code 4 (Option.some Jvm.ClassFile.FieldType.long)) ∈ wG := wG_mem (List.mem_of_getElem? (i := 1286) (by decide +kernel)) rfl
theorem wt_1287 : (Cond.constantLong "PenAcresModel" 246 (36028797018963967 : Int64)) ∈ wG := wG_mem (List.mem_of_getElem? (i := 1287) (by decide +kernel)) rfl
theorem wt_1288 : (Cond.constantLong "PenAcresModel" 248 (32 : Int64)) ∈ wG := wG_mem (List.mem_of_getElem? (i := 1288) (by decide +kernel)) rfl
theorem wt_1289 : (Cond.constantLong "PenAcresModel" 260 (263620 : Int64)) ∈ wG := wG_mem (List.mem_of_getElem? (i := 1289) (by decide +kernel)) rfl
theorem wt_1290 : (Cond.constantLong "PenAcresModel" 262 (13946034 : Int64)) ∈ wG := wG_mem (List.mem_of_getElem? (i := 1290) (by decide +kernel)) rfl
theorem wt_1291 : (Cond.constantLong "PenAcresModel" 264 (152933 : Int64)) ∈ wG := wG_mem (List.mem_of_getElem? (i := 1291) (by decide +kernel)) rfl
theorem wt_1292 : (Cond.constantLong "PenAcresModel" 266 (20186489 : Int64)) ∈ wG := wG_mem (List.mem_of_getElem? (i := 1292) (by decide +kernel)) rfl
theorem wt_1293 : (Cond.constantLong "PenAcresModel" 268 (267570 : Int64)) ∈ wG := wG_mem (List.mem_of_getElem? (i := 1293) (by decide +kernel)) rfl
theorem wt_1294 : (Cond.constantLong "PenAcresModel" 270 (398548 : Int64)) ∈ wG := wG_mem (List.mem_of_getElem? (i := 1294) (by decide +kernel)) rfl
theorem wt_1295 : (Cond.methodLink "PenAcresModel" 294 ⟨"PenAcresModel", "handItem", "(I)V"⟩) ∈ wG := wG_mem (List.mem_of_getElem? (i := 1295) (by decide +kernel)) rfl
theorem wt_1297 : (Cond.instanceMethod ⟨"PenAcresModel", "handItem", "(I)V"⟩) ∈ wG := wG_mem (List.mem_of_getElem? (i := 1297) (by decide +kernel)) rfl
theorem wt_1298 : (Cond.code ⟨"PenAcresModel", "handItem", "(I)V"⟩ prog_14_method_81_code 5 (Option.none : Option Jvm.ClassFile.FieldType)) ∈ wG := wG_mem (List.mem_of_getElem? (i := 1298) (by decide +kernel)) rfl
theorem wt_1299 : (Cond.methodLink "PenAcresModel" 253 ⟨"PenAcresModel", "must", "(Z)V"⟩) ∈ wG := wG_mem (List.mem_of_getElem? (i := 1299) (by decide +kernel)) rfl
theorem wt_1301 : (Cond.instanceMethod ⟨"PenAcresModel", "must", "(Z)V"⟩) ∈ wG := wG_mem (List.mem_of_getElem? (i := 1301) (by decide +kernel)) rfl
theorem wt_1302 : (Cond.code ⟨"PenAcresModel", "must", "(Z)V"⟩ prog_14_method_76_code 2 (Option.none : Option Jvm.ClassFile.FieldType)) ∈ wG := wG_mem (List.mem_of_getElem? (i := 1302) (by decide +kernel)) rfl
theorem wt_1303 : (Cond.constantLong "PenAcresModel" 280 (52 : Int64)) ∈ wG := wG_mem (List.mem_of_getElem? (i := 1303) (by decide +kernel)) rfl
theorem wt_1304 : (Cond.methodLink "PenAcresModel" 282 ⟨"PenAcresModel", "number", "(II)V"⟩) ∈ wG := wG_mem (List.mem_of_getElem? (i := 1304) (by decide +kernel)) rfl
theorem wt_1306 : (Cond.instanceMethod ⟨"PenAcresModel", "number", "(II)V"⟩) ∈ wG := wG_mem (List.mem_of_getElem? (i := 1306) (by decide +kernel)) rfl
theorem wt_1307 : (Cond.code ⟨"PenAcresModel", "number", "(II)V"⟩ prog_14_method_78_code 6 (Option.none : Option Jvm.ClassFile.FieldType)) ∈ wG := wG_mem (List.mem_of_getElem? (i := 1307) (by decide +kernel)) rfl
theorem wt_1308 : (Cond.constantLong "PenAcresModel" 286 (9675 : Int64)) ∈ wG := wG_mem (List.mem_of_getElem? (i := 1308) (by decide +kernel)) rfl
theorem wt_1309 : (Cond.methodLink "PenAcresModel" 288 ⟨"PenAcresModel", "wayHere", "()I"⟩) ∈ wG := wG_mem (List.mem_of_getElem? (i := 1309) (by decide +kernel)) rfl
theorem wt_1311 : (Cond.instanceMethod ⟨"PenAcresModel", "wayHere", "()I"⟩) ∈ wG := wG_mem (List.mem_of_getElem? (i := 1311) (by decide +kernel)) rfl
theorem wt_1312 : (Cond.code ⟨"PenAcresModel", "wayHere", "()I"⟩ prog_14_method_80_code 3 (Option.some Jvm.ClassFile.FieldType.int)) ∈ wG := wG_mem (List.mem_of_getElem? (i := 1312) (by decide +kernel)) rfl
theorem wt_1313 : (Cond.constantLong "PenAcresModel" 272 (688 : Int64)) ∈ wG := wG_mem (List.mem_of_getElem? (i := 1313) (by decide +kernel)) rfl
theorem wt_1314 : (Cond.constantLong "PenAcresModel" 274 (19176724 : Int64)) ∈ wG := wG_mem (List.mem_of_getElem? (i := 1314) (by decide +kernel)) rfl
theorem wt_1315 : (Cond.constantLong "PenAcresModel" 276 (147182 : Int64)) ∈ wG := wG_mem (List.mem_of_getElem? (i := 1315) (by decide +kernel)) rfl
theorem wt_1316 : (Cond.constantLong "PenAcresModel" 278 (66667 : Int64)) ∈ wG := wG_mem (List.mem_of_getElem? (i := 1316) (by decide +kernel)) rfl
theorem wt_1317 : (Cond.constantLong "PenAcresModel" 297 (651858149 : Int64)) ∈ wG := wG_mem (List.mem_of_getElem? (i := 1317) (by decide +kernel)) rfl
theorem wt_1318 : (Cond.constantLong "PenAcresModel" 299 (4697 : Int64)) ∈ wG := wG_mem (List.mem_of_getElem? (i := 1318) (by decide +kernel)) rfl
theorem wt_1319 : (Cond.methodLink "PenAcresModel" 307 ⟨"PenAcresModel", "putsBack", "()V"⟩) ∈ wG := wG_mem (List.mem_of_getElem? (i := 1319) (by decide +kernel)) rfl
theorem wt_1321 : (Cond.instanceMethod ⟨"PenAcresModel", "putsBack", "()V"⟩) ∈ wG := wG_mem (List.mem_of_getElem? (i := 1321) (by decide +kernel)) rfl
theorem wt_1322 : (Cond.code ⟨"PenAcresModel", "putsBack", "()V"⟩ prog_14_method_5_code 2 (Option.none : Option Jvm.ClassFile.FieldType)) ∈ wG := wG_mem (List.mem_of_getElem? (i := 1322) (by decide +kernel)) rfl
theorem wt_1326 : (Cond.code ⟨"PenAcresModel", "sheet", "(III)I"⟩ prog_14_method_85_code 5 (Option.some Jvm.ClassFile.FieldType.int)) ∈ wG := wG_mem (List.mem_of_getElem? (i := 1326) (by decide +kernel)) rfl
theorem wt_1327 : (Cond.methodLink "PenAcresModel" 310 ⟨"PenAcresModel", "isOne", "(I)Z"⟩) ∈ wG := wG_mem (List.mem_of_getElem? (i := 1327) (by decide +kernel)) rfl
theorem wt_1328 : (Cond.static ⟨"PenAcresModel", "isOne", "(I)Z"⟩) ∈ wG := wG_mem (List.mem_of_getElem? (i := 1328) (by decide +kernel)) rfl
theorem wt_1329 : (Cond.code ⟨"PenAcresModel", "isOne", "(I)Z"⟩ prog_14_method_84_code 1 (Option.some Jvm.ClassFile.FieldType.boolean)) ∈ wG := wG_mem (List.mem_of_getElem? (i := 1329) (by decide +kernel)) rfl
theorem wt_1330 : (Cond.constant "PenAcresModel" 313 (-1000000007 : Int32)) ∈ wG := wG_mem (List.mem_of_getElem? (i := 1330) (by decide +kernel)) rfl
theorem wt_1334 : (Cond.code ⟨"PenAcresModel", "write", "(IIJ)J"⟩ prog_14_method_88_code 8 (Option.some Jvm.ClassFile.FieldType.long)) ∈ wG := wG_mem (List.mem_of_getElem? (i := 1334) (by decide +kernel)) rfl
theorem wt_1335 : (Cond.methodLink "PenAcresModel" 315 ⟨"PenAcresModel", "wrong", "(I)I"⟩) ∈ wG := wG_mem (List.mem_of_getElem? (i := 1335) (by decide +kernel)) rfl
theorem wt_1337 : (Cond.instanceMethod ⟨"PenAcresModel", "wrong", "(I)I"⟩) ∈ wG := wG_mem (List.mem_of_getElem? (i := 1337) (by decide +kernel)) rfl
theorem wt_1338 : (Cond.code ⟨"PenAcresModel", "wrong", "(I)I"⟩ prog_14_method_87_code 2 (Option.some Jvm.ClassFile.FieldType.int)) ∈ wG := wG_mem (List.mem_of_getElem? (i := 1338) (by decide +kernel)) rfl
theorem wt_1339 : (Cond.constant "PenAcresModel" 314 (-1000000006 : Int32)) ∈ wG := wG_mem (List.mem_of_getElem? (i := 1339) (by decide +kernel)) rfl
theorem wt_1340 : (Cond.methodLink "PenAcresModel" 318 ⟨"PenAcresModel", "narrowed", "(IJ)J"⟩) ∈ wG := wG_mem (List.mem_of_getElem? (i := 1340) (by decide +kernel)) rfl
theorem wt_1341 : (Cond.static ⟨"PenAcresModel", "narrowed", "(IJ)J"⟩) ∈ wG := wG_mem (List.mem_of_getElem? (i := 1341) (by decide +kernel)) rfl
theorem wt_1342 : (Cond.code ⟨"PenAcresModel", "narrowed", "(IJ)J"⟩ prog_14_method_86_code 3 (Option.some Jvm.ClassFile.FieldType.long)) ∈ wG := wG_mem (List.mem_of_getElem? (i := 1342) (by decide +kernel)) rfl
theorem wt_1346 : (Cond.code ⟨"PenAcresModel", "copy", "(IIIII)I"⟩ prog_14_method_89_code 7 (Option.some Jvm.ClassFile.FieldType.int)) ∈ wG := wG_mem (List.mem_of_getElem? (i := 1346) (by decide +kernel)) rfl
theorem wt_1350 : (Cond.code ⟨"PenAcresModel", "lays", "(I)I"⟩ prog_14_method_90_code 6 (Option.some Jvm.ClassFile.FieldType.int)) ∈ wG := wG_mem (List.mem_of_getElem? (i := 1350) (by decide +kernel)) rfl
theorem wt_1354 : (Cond.code ⟨"PenAcresModel", "book", "(II)I"⟩ prog_14_method_91_code 5 (Option.some Jvm.ClassFile.FieldType.int)) ∈ wG := wG_mem (List.mem_of_getElem? (i := 1354) (by decide +kernel)) rfl
theorem wt_1358 : (Cond.code ⟨"PenAcresModel", "read", "(II)I"⟩ prog_14_method_93_code 6 (Option.some Jvm.ClassFile.FieldType.int)) ∈ wG := wG_mem (List.mem_of_getElem? (i := 1358) (by decide +kernel)) rfl
theorem wt_1359 : (Cond.methodLink "PenAcresModel" 322 ⟨"PenAcresModel", "isBook", "(II)Z"⟩) ∈ wG := wG_mem (List.mem_of_getElem? (i := 1359) (by decide +kernel)) rfl
theorem wt_1361 : (Cond.instanceMethod ⟨"PenAcresModel", "isBook", "(II)Z"⟩) ∈ wG := wG_mem (List.mem_of_getElem? (i := 1361) (by decide +kernel)) rfl
theorem wt_1362 : (Cond.code ⟨"PenAcresModel", "isBook", "(II)Z"⟩ prog_14_method_92_code 4 (Option.some Jvm.ClassFile.FieldType.boolean)) ∈ wG := wG_mem (List.mem_of_getElem? (i := 1362) (by decide +kernel)) rfl
theorem wt_1366 : (Cond.code ⟨"PenAcresModel", "image", "()I"⟩ prog_14_method_94_code 2 (Option.some Jvm.ClassFile.FieldType.int)) ∈ wG := wG_mem (List.mem_of_getElem? (i := 1366) (by decide +kernel)) rfl
theorem wt_1370 : (Cond.code ⟨"PenAcresModel", "undo", "()I"⟩ prog_14_method_95_code 2 (Option.some Jvm.ClassFile.FieldType.int)) ∈ wG := wG_mem (List.mem_of_getElem? (i := 1370) (by decide +kernel)) rfl
theorem wt_1374 : (Cond.code ⟨"PenAcresModel", "tear", "()I"⟩ prog_14_method_96_code 2 (Option.some Jvm.ClassFile.FieldType.int)) ∈ wG := wG_mem (List.mem_of_getElem? (i := 1374) (by decide +kernel)) rfl
theorem wt_1378 : (Cond.code ⟨"PenAcresModel", "count", "(I)I"⟩ prog_14_method_98_code 2 (Option.some Jvm.ClassFile.FieldType.int)) ∈ wG := wG_mem (List.mem_of_getElem? (i := 1378) (by decide +kernel)) rfl
theorem wt_1379 : (Cond.methodLink "PenAcresModel" 328 ⟨"PenAcresModel", "costsAll", "()I"⟩) ∈ wG := wG_mem (List.mem_of_getElem? (i := 1379) (by decide +kernel)) rfl
theorem wt_1381 : (Cond.instanceMethod ⟨"PenAcresModel", "costsAll", "()I"⟩) ∈ wG := wG_mem (List.mem_of_getElem? (i := 1381) (by decide +kernel)) rfl
theorem wt_1382 : (Cond.code ⟨"PenAcresModel", "costsAll", "()I"⟩ prog_14_method_97_code 3 (Option.some Jvm.ClassFile.FieldType.int)) ∈ wG := wG_mem (List.mem_of_getElem? (i := 1382) (by decide +kernel)) rfl
theorem wt_1386 : (Cond.code ⟨"PenAcresModel", "status", "(I)I"⟩ prog_14_method_99_code 4 (Option.some Jvm.ClassFile.FieldType.int)) ∈ wG := wG_mem (List.mem_of_getElem? (i := 1386) (by decide +kernel)) rfl
theorem wt_1387 : (Cond.constantLong "PenAcresModel" 331 (6 : Int64)) ∈ wG := wG_mem (List.mem_of_getElem? (i := 1387) (by decide +kernel)) rfl
theorem ws_21 : (Cond.selects "PenAcresModel" ⟨"PenAcresModel", "becomes", "(II)I"⟩ ⟨"PenAcresModel", "becomes", "(II)I"⟩) ∈ wG := wG_sel (List.mem_of_getElem? (i := 21) (by decide +kernel)) rfl
theorem ws_22 : (Cond.selects "PenAcresModel" ⟨"PenAcresModel", "finds", "(I)I"⟩ ⟨"PenAcresModel", "finds", "(I)I"⟩) ∈ wG := wG_sel (List.mem_of_getElem? (i := 22) (by decide +kernel)) rfl
theorem ws_23 : (Cond.selects "PenAcresModel" ⟨"PenAcresModel", "writeAll", "()V"⟩ ⟨"PenAcresModel", "writeAll", "()V"⟩) ∈ wG := wG_sel (List.mem_of_getElem? (i := 23) (by decide +kernel)) rfl
theorem ws_24 : (Cond.selects "PenAcresModel" ⟨"PenAcresModel", "smudges", "()J"⟩ ⟨"PenAcresModel", "smudges", "()J"⟩) ∈ wG := wG_sel (List.mem_of_getElem? (i := 24) (by decide +kernel)) rfl
theorem ws_25 : (Cond.selects "PenAcresModel" ⟨"PenAcresModel", "draws", "(IJ)V"⟩ ⟨"PenAcresModel", "draws", "(IJ)V"⟩) ∈ wG := wG_sel (List.mem_of_getElem? (i := 25) (by decide +kernel)) rfl
theorem ws_26 : (Cond.selects "PenAcresModel" ⟨"PenAcresModel", "its", "(II)I"⟩ ⟨"PenAcresModel", "its", "(II)I"⟩) ∈ wG := wG_sel (List.mem_of_getElem? (i := 26) (by decide +kernel)) rfl
theorem ws_27 : (Cond.selects "PenAcresModel" ⟨"PenAcresModel", "turned", "(II)I"⟩ ⟨"PenAcresModel", "turned", "(II)I"⟩) ∈ wG := wG_sel (List.mem_of_getElem? (i := 27) (by decide +kernel)) rfl
theorem ws_28 : (Cond.selects "PenAcresModel" ⟨"PenAcresModel", "stepsOf", "(II)I"⟩ ⟨"PenAcresModel", "stepsOf", "(II)I"⟩) ∈ wG := wG_sel (List.mem_of_getElem? (i := 28) (by decide +kernel)) rfl
theorem ws_29 : (Cond.selects "PenAcresModel" ⟨"PenAcresModel", "ownerOf", "(I)I"⟩ ⟨"PenAcresModel", "ownerOf", "(I)I"⟩) ∈ wG := wG_sel (List.mem_of_getElem? (i := 29) (by decide +kernel)) rfl
theorem ws_30 : (Cond.selects "PenAcresModel" ⟨"PenAcresModel", "writes", "(I)Z"⟩ ⟨"PenAcresModel", "writes", "(I)Z"⟩) ∈ wG := wG_sel (List.mem_of_getElem? (i := 30) (by decide +kernel)) rfl
theorem ws_31 : (Cond.selects "PenAcresModel" ⟨"PenAcresModel", "thoseWith", "(IZ)I"⟩ ⟨"PenAcresModel", "thoseWith", "(IZ)I"⟩) ∈ wG := wG_sel (List.mem_of_getElem? (i := 31) (by decide +kernel)) rfl
theorem ws_32 : (Cond.selects "PenAcresModel" ⟨"PenAcresModel", "writersInside", "(I)I"⟩ ⟨"PenAcresModel", "writersInside", "(I)I"⟩) ∈ wG := wG_sel (List.mem_of_getElem? (i := 32) (by decide +kernel)) rfl
theorem ws_33 : (Cond.selects "PenAcresModel" ⟨"PenAcresModel", "adds", "(II)I"⟩ ⟨"PenAcresModel", "adds", "(II)I"⟩) ∈ wG := wG_sel (List.mem_of_getElem? (i := 33) (by decide +kernel)) rfl
theorem ws_34 : (Cond.selects "PenAcresModel" ⟨"PenAcresModel", "isHand", "(I)Z"⟩ ⟨"PenAcresModel", "isHand", "(I)Z"⟩) ∈ wG := wG_sel (List.mem_of_getElem? (i := 34) (by decide +kernel)) rfl
theorem ws_35 : (Cond.selects "PenAcresModel" ⟨"PenAcresModel", "strokes", "(III)I"⟩ ⟨"PenAcresModel", "strokes", "(III)I"⟩) ∈ wG := wG_sel (List.mem_of_getElem? (i := 35) (by decide +kernel)) rfl
theorem ws_36 : (Cond.selects "PenAcresModel" ⟨"PenAcresModel", "ownedBy", "(I)I"⟩ ⟨"PenAcresModel", "ownedBy", "(I)I"⟩) ∈ wG := wG_sel (List.mem_of_getElem? (i := 36) (by decide +kernel)) rfl
theorem ws_37 : (Cond.selects "PenAcresModel" ⟨"PenAcresModel", "cropOf", "(I)I"⟩ ⟨"PenAcresModel", "cropOf", "(I)I"⟩) ∈ wG := wG_sel (List.mem_of_getElem? (i := 37) (by decide +kernel)) rfl
theorem ws_38 : (Cond.selects "PenAcresModel" ⟨"PenAcresModel", "isStroke", "(II)Z"⟩ ⟨"PenAcresModel", "isStroke", "(II)Z"⟩) ∈ wG := wG_sel (List.mem_of_getElem? (i := 38) (by decide +kernel)) rfl
theorem ws_39 : (Cond.selects "PenAcresModel" ⟨"PenAcresModel", "goesOn", "(I)V"⟩ ⟨"PenAcresModel", "goesOn", "(I)V"⟩) ∈ wG := wG_sel (List.mem_of_getElem? (i := 39) (by decide +kernel)) rfl
theorem ws_40 : (Cond.selects "PenAcresModel" ⟨"PenAcresModel", "year", "()V"⟩ ⟨"PenAcresModel", "year", "()V"⟩) ∈ wG := wG_sel (List.mem_of_getElem? (i := 40) (by decide +kernel)) rfl
theorem ws_41 : (Cond.selects "PenAcresModel" ⟨"PenAcresModel", "together", "(I)I"⟩ ⟨"PenAcresModel", "together", "(I)I"⟩) ∈ wG := wG_sel (List.mem_of_getElem? (i := 41) (by decide +kernel)) rfl
theorem ws_42 : (Cond.selects "PenAcresModel" ⟨"PenAcresModel", "thoseThatWrite", "()I"⟩ ⟨"PenAcresModel", "thoseThatWrite", "()I"⟩) ∈ wG := wG_sel (List.mem_of_getElem? (i := 42) (by decide +kernel)) rfl
theorem ws_43 : (Cond.selects "PenAcresModel" ⟨"PenAcresModel", "laysAside", "()V"⟩ ⟨"PenAcresModel", "laysAside", "()V"⟩) ∈ wG := wG_sel (List.mem_of_getElem? (i := 43) (by decide +kernel)) rfl
theorem ws_44 : (Cond.selects "PenAcresModel" ⟨"PenAcresModel", "ownsNow", "(I)I"⟩ ⟨"PenAcresModel", "ownsNow", "(I)I"⟩) ∈ wG := wG_sel (List.mem_of_getElem? (i := 44) (by decide +kernel)) rfl
theorem ws_45 : (Cond.selects "PenAcresModel" ⟨"PenAcresModel", "takesBack", "(I)I"⟩ ⟨"PenAcresModel", "takesBack", "(I)I"⟩) ∈ wG := wG_sel (List.mem_of_getElem? (i := 45) (by decide +kernel)) rfl
theorem ws_46 : (Cond.selects "PenAcresModel" ⟨"PenAcresModel", "isDry", "(I)Z"⟩ ⟨"PenAcresModel", "isDry", "(I)Z"⟩) ∈ wG := wG_sel (List.mem_of_getElem? (i := 46) (by decide +kernel)) rfl
theorem ws_47 : (Cond.selects "PenAcresModel" ⟨"PenAcresModel", "richest", "()I"⟩ ⟨"PenAcresModel", "richest", "()I"⟩) ∈ wG := wG_sel (List.mem_of_getElem? (i := 47) (by decide +kernel)) rfl
theorem ws_48 : (Cond.selects "PenAcresModel" ⟨"PenAcresModel", "insideMany", "(I)I"⟩ ⟨"PenAcresModel", "insideMany", "(I)I"⟩) ∈ wG := wG_sel (List.mem_of_getElem? (i := 48) (by decide +kernel)) rfl
theorem ws_49 : (Cond.selects "PenAcresModel" ⟨"PenAcresModel", "saves", "()V"⟩ ⟨"PenAcresModel", "saves", "()V"⟩) ∈ wG := wG_sel (List.mem_of_getElem? (i := 49) (by decide +kernel)) rfl
theorem ws_50 : (Cond.selects "PenAcresModel" ⟨"PenAcresModel", "token", "()V"⟩ ⟨"PenAcresModel", "token", "()V"⟩) ∈ wG := wG_sel (List.mem_of_getElem? (i := 50) (by decide +kernel)) rfl
theorem ws_51 : (Cond.selects "PenAcresModel" ⟨"PenAcresModel", "byteAt", "(I)I"⟩ ⟨"PenAcresModel", "byteAt", "(I)I"⟩) ∈ wG := wG_sel (List.mem_of_getElem? (i := 51) (by decide +kernel)) rfl
theorem ws_52 : (Cond.selects "PenAcresModel" ⟨"PenAcresModel", "item", "()V"⟩ ⟨"PenAcresModel", "item", "()V"⟩) ∈ wG := wG_sel (List.mem_of_getElem? (i := 52) (by decide +kernel)) rfl
theorem ws_53 : (Cond.selects "PenAcresModel" ⟨"PenAcresModel", "kindHere", "()I"⟩ ⟨"PenAcresModel", "kindHere", "()I"⟩) ∈ wG := wG_sel (List.mem_of_getElem? (i := 53) (by decide +kernel)) rfl
theorem ws_54 : (Cond.selects "PenAcresModel" ⟨"PenAcresModel", "word", "()J"⟩ ⟨"PenAcresModel", "word", "()J"⟩) ∈ wG := wG_sel (List.mem_of_getElem? (i := 54) (by decide +kernel)) rfl
theorem ws_55 : (Cond.selects "PenAcresModel" ⟨"PenAcresModel", "handItem", "(I)V"⟩ ⟨"PenAcresModel", "handItem", "(I)V"⟩) ∈ wG := wG_sel (List.mem_of_getElem? (i := 55) (by decide +kernel)) rfl
theorem ws_56 : (Cond.selects "PenAcresModel" ⟨"PenAcresModel", "must", "(Z)V"⟩ ⟨"PenAcresModel", "must", "(Z)V"⟩) ∈ wG := wG_sel (List.mem_of_getElem? (i := 56) (by decide +kernel)) rfl
theorem ws_57 : (Cond.selects "PenAcresModel" ⟨"PenAcresModel", "number", "(II)V"⟩ ⟨"PenAcresModel", "number", "(II)V"⟩) ∈ wG := wG_sel (List.mem_of_getElem? (i := 57) (by decide +kernel)) rfl
theorem ws_58 : (Cond.selects "PenAcresModel" ⟨"PenAcresModel", "wayHere", "()I"⟩ ⟨"PenAcresModel", "wayHere", "()I"⟩) ∈ wG := wG_sel (List.mem_of_getElem? (i := 58) (by decide +kernel)) rfl
theorem ws_59 : (Cond.selects "PenAcresModel" ⟨"PenAcresModel", "putsBack", "()V"⟩ ⟨"PenAcresModel", "putsBack", "()V"⟩) ∈ wG := wG_sel (List.mem_of_getElem? (i := 59) (by decide +kernel)) rfl
theorem ws_60 : (Cond.selects "PenAcresModel" ⟨"PenAcresModel", "wrong", "(I)I"⟩ ⟨"PenAcresModel", "wrong", "(I)I"⟩) ∈ wG := wG_sel (List.mem_of_getElem? (i := 60) (by decide +kernel)) rfl
theorem ws_61 : (Cond.selects "PenAcresModel" ⟨"PenAcresModel", "isBook", "(II)Z"⟩ ⟨"PenAcresModel", "isBook", "(II)Z"⟩) ∈ wG := wG_sel (List.mem_of_getElem? (i := 61) (by decide +kernel)) rfl
theorem ws_62 : (Cond.selects "PenAcresModel" ⟨"PenAcresModel", "costsAll", "()I"⟩ ⟨"PenAcresModel", "costsAll", "()I"⟩) ∈ wG := wG_sel (List.mem_of_getElem? (i := 62) (by decide +kernel)) rfl
theorem ok_X12_in : okY Y_X12_in 3 := ⟨wt_981, wt_12, by decide, ⟨by decide, by decide⟩, by decide +kernel⟩
theorem ok_X12_finds : okY Y_X12_finds 1 := ⟨wt_990, wt_12, by decide, ⟨by decide, by decide⟩, by decide +kernel⟩
theorem ok_X12_saves : okY Y_X12_saves 0 := ⟨wt_1256, wt_12, by decide, ⟨by decide, by decide⟩, by decide +kernel⟩
theorem ok_X12_putsBack : okY Y_X12_putsBack 0 := ⟨wt_1322, wt_12, by decide, ⟨by decide, by decide⟩, by decide +kernel⟩
theorem ok_X12_laysAside : okY Y_X12_laysAside 0 := ⟨wt_1178, wt_12, by decide, ⟨by decide, by decide⟩, by decide +kernel⟩
theorem ok_X12_takesBack : okY Y_X12_takesBack 1 := ⟨wt_1186, wt_12, by decide, ⟨by decide, by decide⟩, by decide +kernel⟩
theorem ok_X12_becomes : okY Y_X12_becomes 2 := ⟨wt_985, wt_12, by decide, ⟨by decide, by decide⟩, by decide +kernel⟩
theorem ok_X12_isCell : okY Y_X12_isCell 1 := ⟨wt_977, wt_12, by decide, ⟨by decide, by decide⟩, by decide +kernel⟩
theorem ok_X12_isHand : okY Y_X12_isHand 1 := ⟨wt_1078, wt_12, by decide, ⟨by decide, by decide⟩, by decide +kernel⟩
theorem ok_X12_isKind : okY Y_X12_isKind 1 := ⟨wt_1064, wt_12, by decide, ⟨by decide, by decide⟩, by decide +kernel⟩
theorem ok_X12_isWay : okY Y_X12_isWay 1 := ⟨wt_1081, wt_12, by decide, ⟨by decide, by decide⟩, by decide +kernel⟩
theorem ok_X12_spot : okY Y_X12_spot 2 := ⟨wt_1014, wt_12, by decide, ⟨by decide, by decide⟩, by decide +kernel⟩
theorem ok_X12_its : okY Y_X12_its 2 := ⟨wt_1011, wt_12, by decide, ⟨by decide, by decide⟩, by decide +kernel⟩
theorem ok_X12_has : okY Y_X12_has 2 := ⟨wt_1035, wt_12, by decide, ⟨by decide, by decide⟩, by decide +kernel⟩
theorem ok_X12_ones : okY Y_X12_ones 1 := ⟨wt_1094, wt_12, by decide, ⟨by decide, by decide⟩, by decide +kernel⟩
theorem ok_X12_stepsOf : okY Y_X12_stepsOf 2 := ⟨wt_1022, wt_12, by decide, ⟨by decide, by decide⟩, by decide +kernel⟩
theorem ok_X12_turned : okY Y_X12_turned 2 := ⟨wt_1018, wt_12, by decide, ⟨by decide, by decide⟩, by decide +kernel⟩
theorem ok_X12_cropOf : okY Y_X12_cropOf 1 := ⟨wt_1102, wt_12, by decide, ⟨by decide, by decide⟩, by decide +kernel⟩
theorem ok_X12_beside : okY Y_X12_beside 2 := ⟨wt_1025, wt_12, by decide, ⟨by decide, by decide⟩, by decide +kernel⟩
theorem ok_X12_isEdge : okY Y_X12_isEdge 1 := ⟨wt_1032, wt_12, by decide, ⟨by decide, by decide⟩, by decide +kernel⟩
theorem ok_X12_smudges : okY Y_X12_smudges 0 := ⟨wt_1003, wt_12, by decide, ⟨by decide, by decide⟩, by decide +kernel⟩
theorem ok_X12_draws : okY Y_X12_draws 2 := ⟨wt_1007, wt_12, by decide, ⟨by decide, by decide⟩, by decide +kernel⟩
theorem ok_X12_insideOf : okY Y_X12_insideOf 1 := ⟨wt_1029, wt_12, by decide, ⟨by decide, by decide⟩, by decide +kernel⟩
theorem ok_X12_writeAll : okY Y_X12_writeAll 0 := ⟨wt_999, wt_12, by decide, ⟨by decide, by decide⟩, by decide +kernel⟩
theorem ok_X12_insideMany : okY Y_X12_insideMany 1 := ⟨wt_1211, wt_12, by decide, ⟨by decide, by decide⟩, by decide +kernel⟩
theorem ok_X12_writes : okY Y_X12_writes 1 := ⟨wt_1044, wt_12, by decide, ⟨by decide, by decide⟩, by decide +kernel⟩
theorem ok_X12_ownerOf : okY Y_X12_ownerOf 1 := ⟨wt_1040, wt_12, by decide, ⟨by decide, by decide⟩, by decide +kernel⟩
theorem ok_X12_ownedBy : okY Y_X12_ownedBy 1 := ⟨wt_1098, wt_12, by decide, ⟨by decide, by decide⟩, by decide +kernel⟩
theorem ok_X12_smudge : okY Y_X12_smudge 2 := ⟨wt_974, wt_12, by decide, ⟨by decide, by decide⟩, by decide +kernel⟩
theorem ok_X12_thoseWith : okY Y_X12_thoseWith 2 := ⟨wt_1048, wt_12, by decide, ⟨by decide, by decide⟩, by decide +kernel⟩
theorem ok_X12_cell : okY Y_X12_cell 2 := ⟨wt_994, wt_12, by decide, ⟨by decide, by decide⟩, by decide +kernel⟩
theorem ok_X12_writersInside : okY Y_X12_writersInside 1 := ⟨wt_1057, wt_12, by decide, ⟨by decide, by decide⟩, by decide +kernel⟩
theorem ok_X12_cells : okY Y_X12_cells 1 := ⟨wt_1052, wt_12, by decide, ⟨by decide, by decide⟩, by decide +kernel⟩
theorem ok_X12_adds : okY Y_X12_adds 2 := ⟨wt_1070, wt_12, by decide, ⟨by decide, by decide⟩, by decide +kernel⟩
theorem ok_X12_hand : okY Y_X12_hand 2 := ⟨wt_1061, wt_12, by decide, ⟨by decide, by decide⟩, by decide +kernel⟩
theorem ok_X12_strokes : okY Y_X12_strokes 3 := ⟨wt_1086, wt_12, by decide, ⟨by decide, by decide⟩, by decide +kernel⟩
theorem ok_X12_stroke : okY Y_X12_stroke 3 := ⟨wt_1074, wt_12, by decide, ⟨by decide, by decide⟩, by decide +kernel⟩
theorem ok_X12_of : okY Y_X12_of 2 := ⟨wt_1090, wt_12, by decide, ⟨by decide, by decide⟩, by decide +kernel⟩
theorem ok_X12_isStroke : okY Y_X12_isStroke 2 := ⟨wt_1110, wt_12, by decide, ⟨by decide, by decide⟩, by decide +kernel⟩
theorem ok_X12_told : okY Y_X12_told 3 := ⟨wt_1106, wt_12, by decide, ⟨by decide, by decide⟩, by decide +kernel⟩
theorem ok_X12_set : okY Y_X12_set 3 := ⟨wt_1114, wt_12, by decide, ⟨by decide, by decide⟩, by decide +kernel⟩
theorem ok_X12_alter : okY Y_X12_alter 4 := ⟨wt_1119, wt_12, by decide, ⟨by decide, by decide⟩, by decide +kernel⟩
theorem ok_X12_cut : okY Y_X12_cut 2 := ⟨wt_1123, wt_12, by decide, ⟨by decide, by decide⟩, by decide +kernel⟩
theorem ok_X12_turn : okY Y_X12_turn 2 := ⟨wt_1127, wt_12, by decide, ⟨by decide, by decide⟩, by decide +kernel⟩
theorem ok_X12_isUnder : okY Y_X12_isUnder 2 := ⟨wt_1134, wt_12, by decide, ⟨by decide, by decide⟩, by decide +kernel⟩
theorem ok_X12_as : okY Y_X12_as 2 := ⟨wt_1131, wt_12, by decide, ⟨by decide, by decide⟩, by decide +kernel⟩
theorem ok_X12_line : okY Y_X12_line 1 := ⟨wt_1139, wt_12, by decide, ⟨by decide, by decide⟩, by decide +kernel⟩
theorem ok_X12_inside : okY Y_X12_inside 1 := ⟨wt_1143, wt_12, by decide, ⟨by decide, by decide⟩, by decide +kernel⟩
theorem ok_X12_year : okY Y_X12_year 0 := ⟨wt_1157, wt_12, by decide, ⟨by decide, by decide⟩, by decide +kernel⟩
theorem ok_X12_goesOn : okY Y_X12_goesOn 1 := ⟨wt_1153, wt_12, by decide, ⟨by decide, by decide⟩, by decide +kernel⟩
theorem ok_X12_together : okY Y_X12_together 1 := ⟨wt_1162, wt_12, by decide, ⟨by decide, by decide⟩, by decide +kernel⟩
theorem ok_X12_years : okY Y_X12_years 1 := ⟨wt_1147, wt_12, by decide, ⟨by decide, by decide⟩, by decide +kernel⟩
theorem ok_X12_thoseThatWrite : okY Y_X12_thoseThatWrite 0 := ⟨wt_1170, wt_12, by decide, ⟨by decide, by decide⟩, by decide +kernel⟩
theorem ok_X12_now : okY Y_X12_now 1 := ⟨wt_1166, wt_12, by decide, ⟨by decide, by decide⟩, by decide +kernel⟩
theorem ok_X12_ownsNow : okY Y_X12_ownsNow 1 := ⟨wt_1182, wt_12, by decide, ⟨by decide, by decide⟩, by decide +kernel⟩
theorem ok_X12_on : okY Y_X12_on 3 := ⟨wt_1174, wt_12, by decide, ⟨by decide, by decide⟩, by decide +kernel⟩
theorem ok_X12_isDry : okY Y_X12_isDry 1 := ⟨wt_1194, wt_12, by decide, ⟨by decide, by decide⟩, by decide +kernel⟩
theorem ok_X12_dry : okY Y_X12_dry 1 := ⟨wt_1190, wt_12, by decide, ⟨by decide, by decide⟩, by decide +kernel⟩
theorem ok_X12_richest : okY Y_X12_richest 0 := ⟨wt_1203, wt_12, by decide, ⟨by decide, by decide⟩, by decide +kernel⟩
theorem ok_X12_rich : okY Y_X12_rich 1 := ⟨wt_1199, wt_12, by decide, ⟨by decide, by decide⟩, by decide +kernel⟩
theorem ok_X12_rain : okY Y_X12_rain 1 := ⟨wt_1207, wt_12, by decide, ⟨by decide, by decide⟩, by decide +kernel⟩
theorem ok_X12_longer : okY Y_X12_longer 1 := ⟨wt_1215, wt_12, by decide, ⟨by decide, by decide⟩, by decide +kernel⟩
theorem ok_X12_begin : okY Y_X12_begin 1 := ⟨wt_1219, wt_12, by decide, ⟨by decide, by decide⟩, by decide +kernel⟩
theorem ok_X12_kind : okY Y_X12_kind 1 := ⟨wt_1223, wt_12, by decide, ⟨by decide, by decide⟩, by decide +kernel⟩
theorem ok_X12_ink : okY Y_X12_ink 1 := ⟨wt_1227, wt_12, by decide, ⟨by decide, by decide⟩, by decide +kernel⟩
theorem ok_X12_court : okY Y_X12_court 2 := ⟨wt_1231, wt_12, by decide, ⟨by decide, by decide⟩, by decide +kernel⟩
theorem ok_X12_way : okY Y_X12_way 3 := ⟨wt_1235, wt_12, by decide, ⟨by decide, by decide⟩, by decide +kernel⟩
theorem ok_X12_sea : okY Y_X12_sea 0 := ⟨wt_1239, wt_12, by decide, ⟨by decide, by decide⟩, by decide +kernel⟩
theorem ok_X12_feed : okY Y_X12_feed 2 := ⟨wt_1243, wt_12, by decide, ⟨by decide, by decide⟩, by decide +kernel⟩
theorem ok_X12_wipe : okY Y_X12_wipe 0 := ⟨wt_1248, wt_12, by decide, ⟨by decide, by decide⟩, by decide +kernel⟩
theorem ok_X12_byteAt : okY Y_X12_byteAt 1 := ⟨wt_1264, wt_12, by decide, ⟨by decide, by decide⟩, by decide +kernel⟩
theorem ok_X12_isLetter : okY Y_X12_isLetter 1 := ⟨wt_1267, wt_12, by decide, ⟨by decide, by decide⟩, by decide +kernel⟩
theorem ok_X12_isDigit : okY Y_X12_isDigit 1 := ⟨wt_1272, wt_12, by decide, ⟨by decide, by decide⟩, by decide +kernel⟩
theorem ok_X12_token : okY Y_X12_token 0 := ⟨wt_1260, wt_12, by decide, ⟨by decide, by decide⟩, by decide +kernel⟩
theorem ok_X12_must : okY Y_X12_must 1 := ⟨wt_1302, wt_12, by decide, ⟨by decide, by decide⟩, by decide +kernel⟩
theorem ok_X12_word : okY Y_X12_word 0 := ⟨wt_1286, wt_12, by decide, ⟨by decide, by decide⟩, by decide +kernel⟩
theorem ok_X12_number : okY Y_X12_number 2 := ⟨wt_1307, wt_12, by decide, ⟨by decide, by decide⟩, by decide +kernel⟩
theorem ok_X12_kindHere : okY Y_X12_kindHere 0 := ⟨wt_1282, wt_12, by decide, ⟨by decide, by decide⟩, by decide +kernel⟩
theorem ok_X12_wayHere : okY Y_X12_wayHere 0 := ⟨wt_1312, wt_12, by decide, ⟨by decide, by decide⟩, by decide +kernel⟩
theorem ok_X12_handItem : okY Y_X12_handItem 1 := ⟨wt_1298, wt_12, by decide, ⟨by decide, by decide⟩, by decide +kernel⟩
theorem ok_X12_item : okY Y_X12_item 0 := ⟨wt_1278, wt_12, by decide, ⟨by decide, by decide⟩, by decide +kernel⟩
theorem ok_X12_field : okY Y_X12_field 0 := ⟨wt_1252, wt_12, by decide, ⟨by decide, by decide⟩, by decide +kernel⟩
theorem ok_X12_isOne : okY Y_X12_isOne 1 := ⟨wt_1329, wt_12, by decide, ⟨by decide, by decide⟩, by decide +kernel⟩
theorem ok_X12_sheet : okY Y_X12_sheet 3 := ⟨wt_1326, wt_12, by decide, ⟨by decide, by decide⟩, by decide +kernel⟩
theorem ok_X12_narrowed : okY Y_X12_narrowed 2 := ⟨wt_1342, wt_12, by decide, ⟨by decide, by decide⟩, by decide +kernel⟩
theorem ok_X12_wrong : okY Y_X12_wrong 1 := ⟨wt_1338, wt_12, by decide, ⟨by decide, by decide⟩, by decide +kernel⟩
theorem ok_X12_write : okY Y_X12_write 3 := ⟨wt_1334, wt_12, by decide, ⟨by decide, by decide⟩, by decide +kernel⟩
theorem ok_X12_copy : okY Y_X12_copy 5 := ⟨wt_1346, wt_12, by decide, ⟨by decide, by decide⟩, by decide +kernel⟩
theorem ok_X12_lays : okY Y_X12_lays 1 := ⟨wt_1350, wt_12, by decide, ⟨by decide, by decide⟩, by decide +kernel⟩
theorem ok_X12_book : okY Y_X12_book 2 := ⟨wt_1354, wt_12, by decide, ⟨by decide, by decide⟩, by decide +kernel⟩
theorem ok_X12_isBook : okY Y_X12_isBook 2 := ⟨wt_1362, wt_12, by decide, ⟨by decide, by decide⟩, by decide +kernel⟩
theorem ok_X12_read : okY Y_X12_read 2 := ⟨wt_1358, wt_12, by decide, ⟨by decide, by decide⟩, by decide +kernel⟩
theorem ok_X12_image : okY Y_X12_image 0 := ⟨wt_1366, wt_12, by decide, ⟨by decide, by decide⟩, by decide +kernel⟩
theorem ok_X12_undo : okY Y_X12_undo 0 := ⟨wt_1370, wt_12, by decide, ⟨by decide, by decide⟩, by decide +kernel⟩
theorem ok_X12_tear : okY Y_X12_tear 0 := ⟨wt_1374, wt_12, by decide, ⟨by decide, by decide⟩, by decide +kernel⟩
theorem ok_X12_costsAll : okY Y_X12_costsAll 0 := ⟨wt_1382, wt_12, by decide, ⟨by decide, by decide⟩, by decide +kernel⟩
theorem ok_X12_count : okY Y_X12_count 1 := ⟨wt_1378, wt_12, by decide, ⟨by decide, by decide⟩, by decide +kernel⟩
theorem ok_X12_status : okY Y_X12_status 1 := ⟨wt_1386, wt_12, by decide, ⟨by decide, by decide⟩, by decide +kernel⟩
theorem uw_11 : ∀ w ∈ u_ws RX12 TX12 20, w ∈ wG := by
  intro w hw
  refine List.mem_filter.mpr ⟨List.mem_append_right _ ?_, ?_⟩
  · revert w; decide +kernel
  · revert w; decide +kernel
theorem okf_M_22_11 : okF "PenAcresModel" 22 11 4 := ⟨RX12, TX12, 20, rfl, by decide, uw_11, wt_914⟩
theorem okf_M_16_11 : okF "PenAcresModel" 16 11 2 := ⟨RX12, TX12, 20, rfl, by decide, uw_11, wt_912⟩
theorem okf_M_7_11 : okF "PenAcresModel" 7 11 0 := ⟨RX12, TX12, 20, rfl, by decide, uw_11, wt_910⟩
theorem okf_M_19_11 : okF "PenAcresModel" 19 11 3 := ⟨RX12, TX12, 20, rfl, by decide, uw_11, wt_913⟩
theorem okf_M_25_11 : okF "PenAcresModel" 25 11 6 := ⟨RX12, TX12, 20, rfl, by decide, uw_11, wt_916⟩
theorem okf_M_32_11 : okF "PenAcresModel" 32 11 8 := ⟨RX12, TX12, 20, rfl, by decide, uw_11, wt_918⟩
theorem okf_M_29_11 : okF "PenAcresModel" 29 11 7 := ⟨RX12, TX12, 20, rfl, by decide, uw_11, wt_917⟩
theorem okf_M_35_11 : okF "PenAcresModel" 35 11 9 := ⟨RX12, TX12, 20, rfl, by decide, uw_11, wt_919⟩
theorem okf_M_212_11 : okF "PenAcresModel" 212 11 11 := ⟨RX12, TX12, 20, rfl, by decide, uw_11, wt_921⟩
theorem okf_M_38_11 : okF "PenAcresModel" 38 11 10 := ⟨RX12, TX12, 20, rfl, by decide, uw_11, wt_920⟩
theorem okf_M_224_11 : okF "PenAcresModel" 224 11 13 := ⟨RX12, TX12, 20, rfl, by decide, uw_11, wt_923⟩
theorem okf_M_227_11 : okF "PenAcresModel" 227 11 12 := ⟨RX12, TX12, 20, rfl, by decide, uw_11, wt_922⟩
theorem okf_M_239_11 : okF "PenAcresModel" 239 11 15 := ⟨RX12, TX12, 20, rfl, by decide, uw_11, wt_925⟩
theorem okf_M_250_11 : okF "PenAcresModel" 250 11 14 := ⟨RX12, TX12, 20, rfl, by decide, uw_11, wt_924⟩
theorem okf_M_41_11 : okF "PenAcresModel" 41 11 16 := ⟨RX12, TX12, 20, rfl, by decide, uw_11, wt_926⟩
theorem okf_M_44_11 : okF "PenAcresModel" 44 11 17 := ⟨RX12, TX12, 20, rfl, by decide, uw_11, wt_927⟩
theorem okf_M_47_11 : okF "PenAcresModel" 47 11 18 := ⟨RX12, TX12, 20, rfl, by decide, uw_11, wt_928⟩
theorem okf_M_50_11 : okF "PenAcresModel" 50 11 19 := ⟨RX12, TX12, 20, rfl, by decide, uw_11, wt_929⟩
theorem okf_M_13_11 : okF "PenAcresModel" 13 11 1 := ⟨RX12, TX12, 20, rfl, by decide, uw_11, wt_911⟩
theorem okf_M_325_11 : okF "PenAcresModel" 325 11 5 := ⟨RX12, TX12, 20, rfl, by decide, uw_11, wt_915⟩
theorem okp_M_212_11 : okP "PenAcresModel" 212 11 11 .int false := ⟨RX12, TX12, 20, tyX12, rfl, by decide, uw_11, wt_921, tyX12_ok, nmX12, rfl, by decide +kernel, fun h => by cases h⟩
theorem okp_M_227_11 : okP "PenAcresModel" 227 11 12 .int false := ⟨RX12, TX12, 20, tyX12, rfl, by decide, uw_11, wt_922, tyX12_ok, nmX12, rfl, by decide +kernel, fun h => by cases h⟩
theorem okp_M_224_11 : okP "PenAcresModel" 224 11 13 .int false := ⟨RX12, TX12, 20, tyX12, rfl, by decide, uw_11, wt_923, tyX12_ok, nmX12, rfl, by decide +kernel, fun h => by cases h⟩
theorem okp_M_239_11 : okP "PenAcresModel" 239 11 15 .boolean false := ⟨RX12, TX12, 20, tyX12, rfl, by decide, uw_11, wt_925, tyX12_ok, nmX12, rfl, by decide +kernel, fun h => by cases h⟩
theorem okp_M_250_11 : okP "PenAcresModel" 250 11 14 .int false := ⟨RX12, TX12, 20, tyX12, rfl, by decide, uw_11, wt_924, tyX12_ok, nmX12, rfl, by decide +kernel, fun h => by cases h⟩
theorem okp_M_325_11 : okP "PenAcresModel" 325 11 5 .boolean false := ⟨RX12, TX12, 20, tyX12, rfl, by decide, uw_11, wt_915, tyX12_ok, nmX12, rfl, by decide +kernel, fun h => by cases h⟩
theorem so_86 : (sh 86).1 = 11 := rfl
theorem sa_87 : sh 87 = (20, 176) := rfl
theorem sa_88 : sh 88 = (20, 176) := rfl
theorem sa_89 : sh 89 = (20, 176) := rfl
theorem sa_90 : sh 90 = (20, 176) := rfl
theorem sa_91 : sh 91 = (20, 7) := rfl
theorem sa_92 : sh 92 = (21, 6) := rfl
theorem sa_93 : sh 93 = (21, 6) := rfl
theorem sa_94 : sh 94 = (20, 6) := rfl
theorem sa_95 : sh 95 = (20, 6) := rfl
theorem sa_96 : sh 96 = (20, 120) := rfl
theorem sa_97 : sh 97 = (20, 4) := rfl
theorem sa_98 : sh 98 = (20, 4) := rfl
theorem sa_99 : sh 99 = (21, 160) := rfl
theorem sa_100 : sh 100 = (21, 40) := rfl
