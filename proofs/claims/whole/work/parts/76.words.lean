/-! constructors and the law: words, instructions, fields -/
abbrev Y_X0_init : My := (yX0_init, cX0_init, 3, none)
abbrev Y_X2_init : My := (yX2_init, cX2_init, 2, none)
abbrev Y_X3_init : My := (yX3_init, cX3_init, 3, none)
abbrev Y_X4_init : My := (yX4_init, cX4_init, 3, none)
abbrev Y_X5_init : My := (yX5_init, cX5_init, 3, none)
abbrev Y_X6_init : My := (yX6_init, cX6_init, 3, none)
abbrev Y_X7_init : My := (yX7_init, cX7_init, 3, none)
abbrev Y_X8_init : My := (yX8_init, cX8_init, 3, none)
abbrev Y_X9_init : My := (yX9_init, cX9_init, 1, none)
abbrev Y_X10_init : My := (yX10_init, cX10_init, 1, none)
abbrev Y_X11_init : My := (yX11_init, cX11_init, 3, none)
abbrev Y_X12_init : My := (yX12_init, cX12_init, 1, none)
abbrev Y_law : My := (yL_law, cL_law, 4, some .boolean)
theorem wt_21 : (Cond.classLink "PenAcresLaw" 7 "PenAcres") ∈ wG := wG_mem (tm_0 (List.mem_of_getElem? (i := 21) rfl)) rfl
theorem wt_22 : (Cond.instantiable "PenAcres" 8) ∈ wG := wG_mem (tm_0 (List.mem_of_getElem? (i := 22) rfl)) rfl
theorem wt_23 : (Cond.methodLink "PenAcresLaw" 9 ⟨"PenAcres", "<init>", "()V"⟩) ∈ wG := wG_mem (tm_0 (List.mem_of_getElem? (i := 23) rfl)) rfl
theorem wt_24 : (Cond.instanceMethod ⟨"PenAcres", "<init>", "()V"⟩) ∈ wG := wG_mem (tm_0 (List.mem_of_getElem? (i := 24) rfl)) rfl
theorem wt_25 : (Cond.code ⟨"PenAcres", "<init>", "()V"⟩ prog_1_method_1_code 3 (Option.none : Option Jvm.ClassFile.FieldType)) ∈ wG := wG_mem (tm_0 (List.mem_of_getElem? (i := 25) rfl)) rfl
theorem wt_26 : (Cond.methodLink "PenAcres" 3 ⟨"java/lang/Object", "<init>", "()V"⟩) ∈ wG := wG_mem (tm_0 (List.mem_of_getElem? (i := 26) rfl)) rfl
theorem wt_27 : (Cond.instanceMethod ⟨"java/lang/Object", "<init>", "()V"⟩) ∈ wG := wG_mem (tm_0 (List.mem_of_getElem? (i := 27) rfl)) rfl
theorem wt_29 : (Cond.classLink "PenAcres" 9 "PenAcres$HandKind") ∈ wG := wG_mem (tm_0 (List.mem_of_getElem? (i := 29) rfl)) rfl
theorem wt_30 : (Cond.instantiable "PenAcres$HandKind" 2) ∈ wG := wG_mem (tm_0 (List.mem_of_getElem? (i := 30) rfl)) rfl
theorem wt_32 : (Cond.methodLink "PenAcres" 13 ⟨"PenAcres$HandKind", "<init>", "(ILjava/lang/String;)V"⟩) ∈ wG := wG_mem (tm_0 (List.mem_of_getElem? (i := 32) rfl)) rfl
theorem wt_33 : (Cond.instanceMethod ⟨"PenAcres$HandKind", "<init>", "(ILjava/lang/String;)V"⟩) ∈ wG := wG_mem (tm_0 (List.mem_of_getElem? (i := 33) rfl)) rfl
theorem wt_34 : (Cond.code ⟨"PenAcres$HandKind", "<init>", "(ILjava/lang/String;)V"⟩ prog_5_method_1_code 3 (Option.none : Option Jvm.ClassFile.FieldType)) ∈ wG := wG_mem (tm_0 (List.mem_of_getElem? (i := 34) rfl)) rfl
theorem wt_35 : (Cond.methodLink "PenAcres$HandKind" 1 ⟨"java/lang/Object", "<init>", "()V"⟩) ∈ wG := wG_mem (tm_0 (List.mem_of_getElem? (i := 35) rfl)) rfl
theorem wt_36 : (Cond.fieldLink "PenAcres$HandKind" 7 "PenAcres$HandKind" "number" "I") ∈ wG := wG_mem (tm_0 (List.mem_of_getElem? (i := 36) rfl)) rfl
theorem wt_38 : (Cond.fieldLink "PenAcres$HandKind" 13 "PenAcres$HandKind" "word" "Ljava/lang/String;") ∈ wG := wG_mem (tm_0 (List.mem_of_getElem? (i := 38) rfl)) rfl
theorem wt_47 : (Cond.classLink "PenAcres" 16 "PenAcres$MiserKind") ∈ wG := wG_mem (tm_0 (List.mem_of_getElem? (i := 47) rfl)) rfl
theorem wt_48 : (Cond.instantiable "PenAcres$MiserKind" 2) ∈ wG := wG_mem (tm_0 (List.mem_of_getElem? (i := 48) rfl)) rfl
theorem wt_50 : (Cond.methodLink "PenAcres" 20 ⟨"PenAcres$MiserKind", "<init>", "(ILjava/lang/String;)V"⟩) ∈ wG := wG_mem (tm_0 (List.mem_of_getElem? (i := 50) rfl)) rfl
theorem wt_51 : (Cond.instanceMethod ⟨"PenAcres$MiserKind", "<init>", "(ILjava/lang/String;)V"⟩) ∈ wG := wG_mem (tm_0 (List.mem_of_getElem? (i := 51) rfl)) rfl
theorem wt_52 : (Cond.code ⟨"PenAcres$MiserKind", "<init>", "(ILjava/lang/String;)V"⟩ prog_9_method_1_code 3 (Option.none : Option Jvm.ClassFile.FieldType)) ∈ wG := wG_mem (tm_0 (List.mem_of_getElem? (i := 52) rfl)) rfl
theorem wt_53 : (Cond.methodLink "PenAcres$MiserKind" 1 ⟨"PenAcres$HandKind", "<init>", "(ILjava/lang/String;)V"⟩) ∈ wG := wG_mem (tm_0 (List.mem_of_getElem? (i := 53) rfl)) rfl
theorem wt_57 : (Cond.classLink "PenAcres" 21 "PenAcres$DukeKind") ∈ wG := wG_mem (tm_0 (List.mem_of_getElem? (i := 57) rfl)) rfl
theorem wt_58 : (Cond.instantiable "PenAcres$DukeKind" 2) ∈ wG := wG_mem (tm_0 (List.mem_of_getElem? (i := 58) rfl)) rfl
theorem wt_60 : (Cond.methodLink "PenAcres" 25 ⟨"PenAcres$DukeKind", "<init>", "(ILjava/lang/String;)V"⟩) ∈ wG := wG_mem (tm_0 (List.mem_of_getElem? (i := 60) rfl)) rfl
theorem wt_61 : (Cond.instanceMethod ⟨"PenAcres$DukeKind", "<init>", "(ILjava/lang/String;)V"⟩) ∈ wG := wG_mem (tm_0 (List.mem_of_getElem? (i := 61) rfl)) rfl
theorem wt_62 : (Cond.code ⟨"PenAcres$DukeKind", "<init>", "(ILjava/lang/String;)V"⟩ prog_2_method_1_code 3 (Option.none : Option Jvm.ClassFile.FieldType)) ∈ wG := wG_mem (tm_0 (List.mem_of_getElem? (i := 62) rfl)) rfl
theorem wt_63 : (Cond.methodLink "PenAcres$DukeKind" 1 ⟨"PenAcres$HandKind", "<init>", "(ILjava/lang/String;)V"⟩) ∈ wG := wG_mem (tm_0 (List.mem_of_getElem? (i := 63) rfl)) rfl
theorem wt_67 : (Cond.classLink "PenAcres" 26 "PenAcres$ShakyKind") ∈ wG := wG_mem (tm_0 (List.mem_of_getElem? (i := 67) rfl)) rfl
theorem wt_68 : (Cond.instantiable "PenAcres$ShakyKind" 2) ∈ wG := wG_mem (tm_0 (List.mem_of_getElem? (i := 68) rfl)) rfl
theorem wt_70 : (Cond.methodLink "PenAcres" 30 ⟨"PenAcres$ShakyKind", "<init>", "(ILjava/lang/String;)V"⟩) ∈ wG := wG_mem (tm_0 (List.mem_of_getElem? (i := 70) rfl)) rfl
theorem wt_71 : (Cond.instanceMethod ⟨"PenAcres$ShakyKind", "<init>", "(ILjava/lang/String;)V"⟩) ∈ wG := wG_mem (tm_0 (List.mem_of_getElem? (i := 71) rfl)) rfl
theorem wt_72 : (Cond.code ⟨"PenAcres$ShakyKind", "<init>", "(ILjava/lang/String;)V"⟩ prog_10_method_1_code 3 (Option.none : Option Jvm.ClassFile.FieldType)) ∈ wG := wG_mem (tm_0 (List.mem_of_getElem? (i := 72) rfl)) rfl
theorem wt_73 : (Cond.methodLink "PenAcres$ShakyKind" 1 ⟨"PenAcres$HandKind", "<init>", "(ILjava/lang/String;)V"⟩) ∈ wG := wG_mem (tm_0 (List.mem_of_getElem? (i := 73) rfl)) rfl
theorem wt_77 : (Cond.classLink "PenAcres" 31 "PenAcres$HeirKind") ∈ wG := wG_mem (tm_0 (List.mem_of_getElem? (i := 77) rfl)) rfl
theorem wt_78 : (Cond.instantiable "PenAcres$HeirKind" 2) ∈ wG := wG_mem (tm_0 (List.mem_of_getElem? (i := 78) rfl)) rfl
theorem wt_80 : (Cond.methodLink "PenAcres" 35 ⟨"PenAcres$HeirKind", "<init>", "(ILjava/lang/String;)V"⟩) ∈ wG := wG_mem (tm_0 (List.mem_of_getElem? (i := 80) rfl)) rfl
theorem wt_81 : (Cond.instanceMethod ⟨"PenAcres$HeirKind", "<init>", "(ILjava/lang/String;)V"⟩) ∈ wG := wG_mem (tm_0 (List.mem_of_getElem? (i := 81) rfl)) rfl
theorem wt_82 : (Cond.code ⟨"PenAcres$HeirKind", "<init>", "(ILjava/lang/String;)V"⟩ prog_6_method_1_code 3 (Option.none : Option Jvm.ClassFile.FieldType)) ∈ wG := wG_mem (tm_0 (List.mem_of_getElem? (i := 82) rfl)) rfl
theorem wt_83 : (Cond.methodLink "PenAcres$HeirKind" 1 ⟨"PenAcres$MiserKind", "<init>", "(ILjava/lang/String;)V"⟩) ∈ wG := wG_mem (tm_0 (List.mem_of_getElem? (i := 83) rfl)) rfl
theorem wt_87 : (Cond.classLink "PenAcres" 36 "PenAcres$LeftKind") ∈ wG := wG_mem (tm_0 (List.mem_of_getElem? (i := 87) rfl)) rfl
theorem wt_88 : (Cond.instantiable "PenAcres$LeftKind" 2) ∈ wG := wG_mem (tm_0 (List.mem_of_getElem? (i := 88) rfl)) rfl
theorem wt_90 : (Cond.methodLink "PenAcres" 40 ⟨"PenAcres$LeftKind", "<init>", "(ILjava/lang/String;)V"⟩) ∈ wG := wG_mem (tm_0 (List.mem_of_getElem? (i := 90) rfl)) rfl
theorem wt_91 : (Cond.instanceMethod ⟨"PenAcres$LeftKind", "<init>", "(ILjava/lang/String;)V"⟩) ∈ wG := wG_mem (tm_0 (List.mem_of_getElem? (i := 91) rfl)) rfl
theorem wt_92 : (Cond.code ⟨"PenAcres$LeftKind", "<init>", "(ILjava/lang/String;)V"⟩ prog_8_method_1_code 3 (Option.none : Option Jvm.ClassFile.FieldType)) ∈ wG := wG_mem (tm_0 (List.mem_of_getElem? (i := 92) rfl)) rfl
theorem wt_93 : (Cond.methodLink "PenAcres$LeftKind" 3 ⟨"PenAcres$DukeKind", "<init>", "(ILjava/lang/String;)V"⟩) ∈ wG := wG_mem (tm_0 (List.mem_of_getElem? (i := 93) rfl)) rfl
theorem wt_97 : (Cond.classLink "PenAcres" 45 "PenAcres$Land") ∈ wG := wG_mem (tm_0 (List.mem_of_getElem? (i := 97) rfl)) rfl
theorem wt_98 : (Cond.instantiable "PenAcres$Land" 6) ∈ wG := wG_mem (tm_0 (List.mem_of_getElem? (i := 98) rfl)) rfl
theorem wt_99 : (Cond.methodLink "PenAcres" 47 ⟨"PenAcres$Land", "<init>", "(LPenAcres$HandKind;)V"⟩) ∈ wG := wG_mem (tm_0 (List.mem_of_getElem? (i := 99) rfl)) rfl
theorem wt_100 : (Cond.instanceMethod ⟨"PenAcres$Land", "<init>", "(LPenAcres$HandKind;)V"⟩) ∈ wG := wG_mem (tm_0 (List.mem_of_getElem? (i := 100) rfl)) rfl
theorem wt_101 : (Cond.code ⟨"PenAcres$Land", "<init>", "(LPenAcres$HandKind;)V"⟩ prog_7_method_1_code 3 (Option.none : Option Jvm.ClassFile.FieldType)) ∈ wG := wG_mem (tm_0 (List.mem_of_getElem? (i := 101) rfl)) rfl
theorem wt_102 : (Cond.methodLink "PenAcres$Land" 3 ⟨"java/lang/Object", "<init>", "()V"⟩) ∈ wG := wG_mem (tm_0 (List.mem_of_getElem? (i := 102) rfl)) rfl
theorem wt_103 : (Cond.classLink "PenAcres$Land" 9 "PenAcres$Hand") ∈ wG := wG_mem (tm_0 (List.mem_of_getElem? (i := 103) rfl)) rfl
theorem wt_105 : (Cond.instantiable "PenAcres$Hand" 11) ∈ wG := wG_mem (tm_0 (List.mem_of_getElem? (i := 105) rfl)) rfl
theorem wt_106 : (Cond.methodLink "PenAcres$Land" 17 ⟨"PenAcres$Hand", "<init>", "(LPenAcres$HandKind;)V"⟩) ∈ wG := wG_mem (tm_0 (List.mem_of_getElem? (i := 106) rfl)) rfl
theorem wt_107 : (Cond.instanceMethod ⟨"PenAcres$Hand", "<init>", "(LPenAcres$HandKind;)V"⟩) ∈ wG := wG_mem (tm_0 (List.mem_of_getElem? (i := 107) rfl)) rfl
theorem wt_108 : (Cond.code ⟨"PenAcres$Hand", "<init>", "(LPenAcres$HandKind;)V"⟩ prog_4_method_1_code 2 (Option.none : Option Jvm.ClassFile.FieldType)) ∈ wG := wG_mem (tm_0 (List.mem_of_getElem? (i := 108) rfl)) rfl
theorem wt_109 : (Cond.methodLink "PenAcres$Hand" 3 ⟨"java/lang/Object", "<init>", "()V"⟩) ∈ wG := wG_mem (tm_0 (List.mem_of_getElem? (i := 109) rfl)) rfl
theorem wt_157 : (Cond.arrayClass Jvm.ClassFile.FieldType.int) ∈ wG := wG_mem (tm_0 (List.mem_of_getElem? (i := 157) rfl)) rfl
theorem wt_180 : (Cond.arrayClass Jvm.ClassFile.FieldType.long) ∈ wG := wG_mem (tm_0 (List.mem_of_getElem? (i := 180) rfl)) rfl
theorem wt_181 : (Cond.classLink "PenAcres" 60 "PenAcres$Tape") ∈ wG := wG_mem (tm_0 (List.mem_of_getElem? (i := 181) rfl)) rfl
theorem wt_182 : (Cond.instantiable "PenAcres$Tape" 6) ∈ wG := wG_mem (tm_0 (List.mem_of_getElem? (i := 182) rfl)) rfl
theorem wt_183 : (Cond.methodLink "PenAcres" 62 ⟨"PenAcres$Tape", "<init>", "()V"⟩) ∈ wG := wG_mem (tm_0 (List.mem_of_getElem? (i := 183) rfl)) rfl
theorem wt_184 : (Cond.instanceMethod ⟨"PenAcres$Tape", "<init>", "()V"⟩) ∈ wG := wG_mem (tm_0 (List.mem_of_getElem? (i := 184) rfl)) rfl
theorem wt_185 : (Cond.code ⟨"PenAcres$Tape", "<init>", "()V"⟩ prog_12_method_1_code 1 (Option.none : Option Jvm.ClassFile.FieldType)) ∈ wG := wG_mem (tm_0 (List.mem_of_getElem? (i := 185) rfl)) rfl
theorem wt_186 : (Cond.methodLink "PenAcres$Tape" 3 ⟨"java/lang/Object", "<init>", "()V"⟩) ∈ wG := wG_mem (tm_0 (List.mem_of_getElem? (i := 186) rfl)) rfl
theorem wt_207 : (Cond.arrayClass Jvm.ClassFile.FieldType.char) ∈ wG := wG_mem (tm_0 (List.mem_of_getElem? (i := 207) rfl)) rfl
theorem wt_208 : (Cond.classLink "PenAcres" 67 "PenAcres$Sheet") ∈ wG := wG_mem (tm_0 (List.mem_of_getElem? (i := 208) rfl)) rfl
theorem wt_210 : (Cond.instantiable "PenAcres$Sheet" 3) ∈ wG := wG_mem (tm_0 (List.mem_of_getElem? (i := 210) rfl)) rfl
theorem wt_211 : (Cond.methodLink "PenAcres" 73 ⟨"PenAcres$Sheet", "<init>", "()V"⟩) ∈ wG := wG_mem (tm_0 (List.mem_of_getElem? (i := 211) rfl)) rfl
theorem wt_212 : (Cond.instanceMethod ⟨"PenAcres$Sheet", "<init>", "()V"⟩) ∈ wG := wG_mem (tm_0 (List.mem_of_getElem? (i := 212) rfl)) rfl
theorem wt_213 : (Cond.code ⟨"PenAcres$Sheet", "<init>", "()V"⟩ prog_11_method_1_code 1 (Option.none : Option Jvm.ClassFile.FieldType)) ∈ wG := wG_mem (tm_0 (List.mem_of_getElem? (i := 213) rfl)) rfl
theorem wt_214 : (Cond.methodLink "PenAcres$Sheet" 3 ⟨"java/lang/Object", "<init>", "()V"⟩) ∈ wG := wG_mem (tm_0 (List.mem_of_getElem? (i := 214) rfl)) rfl
theorem wt_253 : (Cond.methodLink "PenAcresLaw" 13 ⟨"PenAcres", "smudge", "(II)I"⟩) ∈ wG := wG_mem (tm_1 (List.mem_of_getElem? (i := 13) rfl)) rfl
theorem wt_254 : (Cond.instanceMethod ⟨"PenAcres", "smudge", "(II)I"⟩) ∈ wG := wG_mem (tm_1 (List.mem_of_getElem? (i := 14) rfl)) rfl
theorem wt_255 : (Cond.selects "PenAcres" ⟨"PenAcres", "smudge", "(II)I"⟩ ⟨"PenAcres", "smudge", "(II)I"⟩) ∈ wG := wG_mem (tm_1 (List.mem_of_getElem? (i := 15) rfl)) rfl
theorem wt_279 : (Cond.methodLink "PenAcresLaw" 18 ⟨"PenAcres", "cell", "(II)I"⟩) ∈ wG := wG_mem (tm_1 (List.mem_of_getElem? (i := 39) rfl)) rfl
theorem wt_280 : (Cond.instanceMethod ⟨"PenAcres", "cell", "(II)I"⟩) ∈ wG := wG_mem (tm_1 (List.mem_of_getElem? (i := 40) rfl)) rfl
theorem wt_281 : (Cond.selects "PenAcres" ⟨"PenAcres", "cell", "(II)I"⟩ ⟨"PenAcres", "cell", "(II)I"⟩) ∈ wG := wG_mem (tm_1 (List.mem_of_getElem? (i := 41) rfl)) rfl
theorem wt_333 : (Cond.methodLink "PenAcresLaw" 22 ⟨"PenAcres", "cells", "(I)J"⟩) ∈ wG := wG_mem (tm_1 (List.mem_of_getElem? (i := 93) rfl)) rfl
theorem wt_334 : (Cond.instanceMethod ⟨"PenAcres", "cells", "(I)J"⟩) ∈ wG := wG_mem (tm_1 (List.mem_of_getElem? (i := 94) rfl)) rfl
theorem wt_335 : (Cond.selects "PenAcres" ⟨"PenAcres", "cells", "(I)J"⟩ ⟨"PenAcres", "cells", "(I)J"⟩) ∈ wG := wG_mem (tm_1 (List.mem_of_getElem? (i := 95) rfl)) rfl
theorem wt_345 : (Cond.methodLink "PenAcresLaw" 27 ⟨"PenAcres", "hand", "(II)I"⟩) ∈ wG := wG_mem (tm_1 (List.mem_of_getElem? (i := 105) rfl)) rfl
theorem wt_346 : (Cond.instanceMethod ⟨"PenAcres", "hand", "(II)I"⟩) ∈ wG := wG_mem (tm_1 (List.mem_of_getElem? (i := 106) rfl)) rfl
theorem wt_347 : (Cond.selects "PenAcres" ⟨"PenAcres", "hand", "(II)I"⟩ ⟨"PenAcres", "hand", "(II)I"⟩) ∈ wG := wG_mem (tm_1 (List.mem_of_getElem? (i := 107) rfl)) rfl
theorem wt_366 : (Cond.methodLink "PenAcresLaw" 31 ⟨"PenAcres", "stroke", "(III)I"⟩) ∈ wG := wG_mem (tm_1 (List.mem_of_getElem? (i := 126) rfl)) rfl
theorem wt_367 : (Cond.instanceMethod ⟨"PenAcres", "stroke", "(III)I"⟩) ∈ wG := wG_mem (tm_1 (List.mem_of_getElem? (i := 127) rfl)) rfl
theorem wt_368 : (Cond.selects "PenAcres" ⟨"PenAcres", "stroke", "(III)I"⟩ ⟨"PenAcres", "stroke", "(III)I"⟩) ∈ wG := wG_mem (tm_1 (List.mem_of_getElem? (i := 128) rfl)) rfl
theorem wt_432 : (Cond.methodLink "PenAcresLaw" 36 ⟨"PenAcres", "of", "(II)I"⟩) ∈ wG := wG_mem (tm_1 (List.mem_of_getElem? (i := 192) rfl)) rfl
theorem wt_433 : (Cond.instanceMethod ⟨"PenAcres", "of", "(II)I"⟩) ∈ wG := wG_mem (tm_1 (List.mem_of_getElem? (i := 193) rfl)) rfl
theorem wt_434 : (Cond.selects "PenAcres" ⟨"PenAcres", "of", "(II)I"⟩ ⟨"PenAcres", "of", "(II)I"⟩) ∈ wG := wG_mem (tm_1 (List.mem_of_getElem? (i := 194) rfl)) rfl
theorem wt_478 : (Cond.methodLink "PenAcresLaw" 40 ⟨"PenAcres", "told", "(III)I"⟩) ∈ wG := wG_mem (tm_1 (List.mem_of_getElem? (i := 238) rfl)) rfl
theorem wt_479 : (Cond.instanceMethod ⟨"PenAcres", "told", "(III)I"⟩) ∈ wG := wG_mem (tm_1 (List.mem_of_getElem? (i := 239) rfl)) rfl
theorem wt_480 : (Cond.selects "PenAcres" ⟨"PenAcres", "told", "(III)I"⟩ ⟨"PenAcres", "told", "(III)I"⟩) ∈ wG := wG_mem (tm_2 (List.mem_of_getElem? (i := 0) rfl)) rfl
theorem wt_488 : (Cond.methodLink "PenAcresLaw" 44 ⟨"PenAcres", "set", "(III)I"⟩) ∈ wG := wG_mem (tm_2 (List.mem_of_getElem? (i := 8) rfl)) rfl
theorem wt_489 : (Cond.instanceMethod ⟨"PenAcres", "set", "(III)I"⟩) ∈ wG := wG_mem (tm_2 (List.mem_of_getElem? (i := 9) rfl)) rfl
theorem wt_490 : (Cond.selects "PenAcres" ⟨"PenAcres", "set", "(III)I"⟩ ⟨"PenAcres", "set", "(III)I"⟩) ∈ wG := wG_mem (tm_2 (List.mem_of_getElem? (i := 10) rfl)) rfl
theorem wt_500 : (Cond.methodLink "PenAcresLaw" 48 ⟨"PenAcres", "alter", "(IIII)I"⟩) ∈ wG := wG_mem (tm_2 (List.mem_of_getElem? (i := 20) rfl)) rfl
theorem wt_501 : (Cond.instanceMethod ⟨"PenAcres", "alter", "(IIII)I"⟩) ∈ wG := wG_mem (tm_2 (List.mem_of_getElem? (i := 21) rfl)) rfl
theorem wt_502 : (Cond.selects "PenAcres" ⟨"PenAcres", "alter", "(IIII)I"⟩ ⟨"PenAcres", "alter", "(IIII)I"⟩) ∈ wG := wG_mem (tm_2 (List.mem_of_getElem? (i := 22) rfl)) rfl
theorem wt_504 : (Cond.methodLink "PenAcresLaw" 53 ⟨"PenAcres", "cut", "(II)I"⟩) ∈ wG := wG_mem (tm_2 (List.mem_of_getElem? (i := 24) rfl)) rfl
theorem wt_505 : (Cond.instanceMethod ⟨"PenAcres", "cut", "(II)I"⟩) ∈ wG := wG_mem (tm_2 (List.mem_of_getElem? (i := 25) rfl)) rfl
theorem wt_506 : (Cond.selects "PenAcres" ⟨"PenAcres", "cut", "(II)I"⟩ ⟨"PenAcres", "cut", "(II)I"⟩) ∈ wG := wG_mem (tm_2 (List.mem_of_getElem? (i := 26) rfl)) rfl
theorem wt_508 : (Cond.methodLink "PenAcresLaw" 57 ⟨"PenAcres", "turn", "(II)I"⟩) ∈ wG := wG_mem (tm_2 (List.mem_of_getElem? (i := 28) rfl)) rfl
theorem wt_509 : (Cond.instanceMethod ⟨"PenAcres", "turn", "(II)I"⟩) ∈ wG := wG_mem (tm_2 (List.mem_of_getElem? (i := 29) rfl)) rfl
theorem wt_510 : (Cond.selects "PenAcres" ⟨"PenAcres", "turn", "(II)I"⟩ ⟨"PenAcres", "turn", "(II)I"⟩) ∈ wG := wG_mem (tm_2 (List.mem_of_getElem? (i := 30) rfl)) rfl
theorem wt_516 : (Cond.methodLink "PenAcresLaw" 61 ⟨"PenAcres", "as", "(II)I"⟩) ∈ wG := wG_mem (tm_2 (List.mem_of_getElem? (i := 36) rfl)) rfl
theorem wt_517 : (Cond.instanceMethod ⟨"PenAcres", "as", "(II)I"⟩) ∈ wG := wG_mem (tm_2 (List.mem_of_getElem? (i := 37) rfl)) rfl
theorem wt_518 : (Cond.selects "PenAcres" ⟨"PenAcres", "as", "(II)I"⟩ ⟨"PenAcres", "as", "(II)I"⟩) ∈ wG := wG_mem (tm_2 (List.mem_of_getElem? (i := 38) rfl)) rfl
theorem wt_546 : (Cond.methodLink "PenAcresLaw" 65 ⟨"PenAcres", "line", "(I)J"⟩) ∈ wG := wG_mem (tm_2 (List.mem_of_getElem? (i := 66) rfl)) rfl
theorem wt_547 : (Cond.instanceMethod ⟨"PenAcres", "line", "(I)J"⟩) ∈ wG := wG_mem (tm_2 (List.mem_of_getElem? (i := 67) rfl)) rfl
theorem wt_548 : (Cond.selects "PenAcres" ⟨"PenAcres", "line", "(I)J"⟩ ⟨"PenAcres", "line", "(I)J"⟩) ∈ wG := wG_mem (tm_2 (List.mem_of_getElem? (i := 68) rfl)) rfl
theorem wt_551 : (Cond.methodLink "PenAcresLaw" 69 ⟨"PenAcres", "inside", "(I)J"⟩) ∈ wG := wG_mem (tm_2 (List.mem_of_getElem? (i := 71) rfl)) rfl
theorem wt_552 : (Cond.instanceMethod ⟨"PenAcres", "inside", "(I)J"⟩) ∈ wG := wG_mem (tm_2 (List.mem_of_getElem? (i := 72) rfl)) rfl
theorem wt_553 : (Cond.selects "PenAcres" ⟨"PenAcres", "inside", "(I)J"⟩ ⟨"PenAcres", "inside", "(I)J"⟩) ∈ wG := wG_mem (tm_2 (List.mem_of_getElem? (i := 73) rfl)) rfl
theorem wt_556 : (Cond.methodLink "PenAcresLaw" 73 ⟨"PenAcres", "years", "(I)I"⟩) ∈ wG := wG_mem (tm_2 (List.mem_of_getElem? (i := 76) rfl)) rfl
theorem wt_557 : (Cond.instanceMethod ⟨"PenAcres", "years", "(I)I"⟩) ∈ wG := wG_mem (tm_2 (List.mem_of_getElem? (i := 77) rfl)) rfl
theorem wt_558 : (Cond.selects "PenAcres" ⟨"PenAcres", "years", "(I)I"⟩ ⟨"PenAcres", "years", "(I)I"⟩) ∈ wG := wG_mem (tm_2 (List.mem_of_getElem? (i := 78) rfl)) rfl
theorem wt_583 : (Cond.methodLink "PenAcresLaw" 78 ⟨"PenAcres", "now", "(I)I"⟩) ∈ wG := wG_mem (tm_2 (List.mem_of_getElem? (i := 103) rfl)) rfl
theorem wt_584 : (Cond.instanceMethod ⟨"PenAcres", "now", "(I)I"⟩) ∈ wG := wG_mem (tm_2 (List.mem_of_getElem? (i := 104) rfl)) rfl
theorem wt_585 : (Cond.selects "PenAcres" ⟨"PenAcres", "now", "(I)I"⟩ ⟨"PenAcres", "now", "(I)I"⟩) ∈ wG := wG_mem (tm_2 (List.mem_of_getElem? (i := 105) rfl)) rfl
theorem wt_596 : (Cond.methodLink "PenAcresLaw" 82 ⟨"PenAcres", "on", "(III)I"⟩) ∈ wG := wG_mem (tm_2 (List.mem_of_getElem? (i := 116) rfl)) rfl
theorem wt_597 : (Cond.instanceMethod ⟨"PenAcres", "on", "(III)I"⟩) ∈ wG := wG_mem (tm_2 (List.mem_of_getElem? (i := 117) rfl)) rfl
theorem wt_598 : (Cond.selects "PenAcres" ⟨"PenAcres", "on", "(III)I"⟩ ⟨"PenAcres", "on", "(III)I"⟩) ∈ wG := wG_mem (tm_2 (List.mem_of_getElem? (i := 118) rfl)) rfl
theorem wt_618 : (Cond.methodLink "PenAcresLaw" 86 ⟨"PenAcres", "dry", "(I)I"⟩) ∈ wG := wG_mem (tm_2 (List.mem_of_getElem? (i := 138) rfl)) rfl
theorem wt_619 : (Cond.instanceMethod ⟨"PenAcres", "dry", "(I)I"⟩) ∈ wG := wG_mem (tm_2 (List.mem_of_getElem? (i := 139) rfl)) rfl
theorem wt_620 : (Cond.selects "PenAcres" ⟨"PenAcres", "dry", "(I)I"⟩ ⟨"PenAcres", "dry", "(I)I"⟩) ∈ wG := wG_mem (tm_2 (List.mem_of_getElem? (i := 140) rfl)) rfl
theorem wt_624 : (Cond.methodLink "PenAcresLaw" 90 ⟨"PenAcres", "rich", "(I)I"⟩) ∈ wG := wG_mem (tm_2 (List.mem_of_getElem? (i := 144) rfl)) rfl
theorem wt_625 : (Cond.instanceMethod ⟨"PenAcres", "rich", "(I)I"⟩) ∈ wG := wG_mem (tm_2 (List.mem_of_getElem? (i := 145) rfl)) rfl
theorem wt_626 : (Cond.selects "PenAcres" ⟨"PenAcres", "rich", "(I)I"⟩ ⟨"PenAcres", "rich", "(I)I"⟩) ∈ wG := wG_mem (tm_2 (List.mem_of_getElem? (i := 146) rfl)) rfl
theorem wt_632 : (Cond.methodLink "PenAcresLaw" 94 ⟨"PenAcres", "rain", "(I)I"⟩) ∈ wG := wG_mem (tm_2 (List.mem_of_getElem? (i := 152) rfl)) rfl
theorem wt_633 : (Cond.instanceMethod ⟨"PenAcres", "rain", "(I)I"⟩) ∈ wG := wG_mem (tm_2 (List.mem_of_getElem? (i := 153) rfl)) rfl
theorem wt_634 : (Cond.selects "PenAcres" ⟨"PenAcres", "rain", "(I)I"⟩ ⟨"PenAcres", "rain", "(I)I"⟩) ∈ wG := wG_mem (tm_2 (List.mem_of_getElem? (i := 154) rfl)) rfl
theorem wt_639 : (Cond.methodLink "PenAcresLaw" 98 ⟨"PenAcres", "longer", "(I)I"⟩) ∈ wG := wG_mem (tm_2 (List.mem_of_getElem? (i := 159) rfl)) rfl
theorem wt_640 : (Cond.instanceMethod ⟨"PenAcres", "longer", "(I)I"⟩) ∈ wG := wG_mem (tm_2 (List.mem_of_getElem? (i := 160) rfl)) rfl
theorem wt_641 : (Cond.selects "PenAcres" ⟨"PenAcres", "longer", "(I)I"⟩ ⟨"PenAcres", "longer", "(I)I"⟩) ∈ wG := wG_mem (tm_2 (List.mem_of_getElem? (i := 161) rfl)) rfl
theorem wt_649 : (Cond.methodLink "PenAcresLaw" 102 ⟨"PenAcres", "begin", "(I)I"⟩) ∈ wG := wG_mem (tm_2 (List.mem_of_getElem? (i := 169) rfl)) rfl
theorem wt_650 : (Cond.instanceMethod ⟨"PenAcres", "begin", "(I)I"⟩) ∈ wG := wG_mem (tm_2 (List.mem_of_getElem? (i := 170) rfl)) rfl
theorem wt_651 : (Cond.selects "PenAcres" ⟨"PenAcres", "begin", "(I)I"⟩ ⟨"PenAcres", "begin", "(I)I"⟩) ∈ wG := wG_mem (tm_2 (List.mem_of_getElem? (i := 171) rfl)) rfl
theorem wt_653 : (Cond.methodLink "PenAcresLaw" 106 ⟨"PenAcres", "kind", "(I)I"⟩) ∈ wG := wG_mem (tm_2 (List.mem_of_getElem? (i := 173) rfl)) rfl
theorem wt_654 : (Cond.instanceMethod ⟨"PenAcres", "kind", "(I)I"⟩) ∈ wG := wG_mem (tm_2 (List.mem_of_getElem? (i := 174) rfl)) rfl
theorem wt_655 : (Cond.selects "PenAcres" ⟨"PenAcres", "kind", "(I)I"⟩ ⟨"PenAcres", "kind", "(I)I"⟩) ∈ wG := wG_mem (tm_2 (List.mem_of_getElem? (i := 175) rfl)) rfl
theorem wt_657 : (Cond.methodLink "PenAcresLaw" 110 ⟨"PenAcres", "ink", "(I)I"⟩) ∈ wG := wG_mem (tm_2 (List.mem_of_getElem? (i := 177) rfl)) rfl
theorem wt_658 : (Cond.instanceMethod ⟨"PenAcres", "ink", "(I)I"⟩) ∈ wG := wG_mem (tm_2 (List.mem_of_getElem? (i := 178) rfl)) rfl
theorem wt_659 : (Cond.selects "PenAcres" ⟨"PenAcres", "ink", "(I)I"⟩ ⟨"PenAcres", "ink", "(I)I"⟩) ∈ wG := wG_mem (tm_2 (List.mem_of_getElem? (i := 179) rfl)) rfl
theorem wt_661 : (Cond.methodLink "PenAcresLaw" 114 ⟨"PenAcres", "court", "(II)I"⟩) ∈ wG := wG_mem (tm_2 (List.mem_of_getElem? (i := 181) rfl)) rfl
theorem wt_662 : (Cond.instanceMethod ⟨"PenAcres", "court", "(II)I"⟩) ∈ wG := wG_mem (tm_2 (List.mem_of_getElem? (i := 182) rfl)) rfl
theorem wt_663 : (Cond.selects "PenAcres" ⟨"PenAcres", "court", "(II)I"⟩ ⟨"PenAcres", "court", "(II)I"⟩) ∈ wG := wG_mem (tm_2 (List.mem_of_getElem? (i := 183) rfl)) rfl
theorem wt_665 : (Cond.methodLink "PenAcresLaw" 118 ⟨"PenAcres", "way", "(III)I"⟩) ∈ wG := wG_mem (tm_2 (List.mem_of_getElem? (i := 185) rfl)) rfl
theorem wt_666 : (Cond.instanceMethod ⟨"PenAcres", "way", "(III)I"⟩) ∈ wG := wG_mem (tm_2 (List.mem_of_getElem? (i := 186) rfl)) rfl
theorem wt_667 : (Cond.selects "PenAcres" ⟨"PenAcres", "way", "(III)I"⟩ ⟨"PenAcres", "way", "(III)I"⟩) ∈ wG := wG_mem (tm_2 (List.mem_of_getElem? (i := 187) rfl)) rfl
theorem wt_673 : (Cond.methodLink "PenAcresLaw" 122 ⟨"PenAcres", "sea", "()I"⟩) ∈ wG := wG_mem (tm_2 (List.mem_of_getElem? (i := 193) rfl)) rfl
theorem wt_674 : (Cond.instanceMethod ⟨"PenAcres", "sea", "()I"⟩) ∈ wG := wG_mem (tm_2 (List.mem_of_getElem? (i := 194) rfl)) rfl
theorem wt_675 : (Cond.selects "PenAcres" ⟨"PenAcres", "sea", "()I"⟩ ⟨"PenAcres", "sea", "()I"⟩) ∈ wG := wG_mem (tm_2 (List.mem_of_getElem? (i := 195) rfl)) rfl
theorem wt_678 : (Cond.methodLink "PenAcresLaw" 127 ⟨"PenAcres", "feed", "(II)I"⟩) ∈ wG := wG_mem (tm_2 (List.mem_of_getElem? (i := 198) rfl)) rfl
theorem wt_679 : (Cond.instanceMethod ⟨"PenAcres", "feed", "(II)I"⟩) ∈ wG := wG_mem (tm_2 (List.mem_of_getElem? (i := 199) rfl)) rfl
theorem wt_680 : (Cond.selects "PenAcres" ⟨"PenAcres", "feed", "(II)I"⟩ ⟨"PenAcres", "feed", "(II)I"⟩) ∈ wG := wG_mem (tm_2 (List.mem_of_getElem? (i := 200) rfl)) rfl
theorem wt_686 : (Cond.methodLink "PenAcresLaw" 131 ⟨"PenAcres", "wipe", "()I"⟩) ∈ wG := wG_mem (tm_2 (List.mem_of_getElem? (i := 206) rfl)) rfl
theorem wt_687 : (Cond.instanceMethod ⟨"PenAcres", "wipe", "()I"⟩) ∈ wG := wG_mem (tm_2 (List.mem_of_getElem? (i := 207) rfl)) rfl
theorem wt_688 : (Cond.selects "PenAcres" ⟨"PenAcres", "wipe", "()I"⟩ ⟨"PenAcres", "wipe", "()I"⟩) ∈ wG := wG_mem (tm_2 (List.mem_of_getElem? (i := 208) rfl)) rfl
theorem wt_690 : (Cond.methodLink "PenAcresLaw" 135 ⟨"PenAcres", "field", "()I"⟩) ∈ wG := wG_mem (tm_2 (List.mem_of_getElem? (i := 210) rfl)) rfl
theorem wt_691 : (Cond.instanceMethod ⟨"PenAcres", "field", "()I"⟩) ∈ wG := wG_mem (tm_2 (List.mem_of_getElem? (i := 211) rfl)) rfl
theorem wt_692 : (Cond.selects "PenAcres" ⟨"PenAcres", "field", "()I"⟩ ⟨"PenAcres", "field", "()I"⟩) ∈ wG := wG_mem (tm_2 (List.mem_of_getElem? (i := 212) rfl)) rfl
theorem wt_822 : (Cond.methodLink "PenAcresLaw" 139 ⟨"PenAcres", "sheet", "(III)I"⟩) ∈ wG := wG_mem (tm_3 (List.mem_of_getElem? (i := 102) rfl)) rfl
theorem wt_823 : (Cond.instanceMethod ⟨"PenAcres", "sheet", "(III)I"⟩) ∈ wG := wG_mem (tm_3 (List.mem_of_getElem? (i := 103) rfl)) rfl
theorem wt_824 : (Cond.selects "PenAcres" ⟨"PenAcres", "sheet", "(III)I"⟩ ⟨"PenAcres", "sheet", "(III)I"⟩) ∈ wG := wG_mem (tm_3 (List.mem_of_getElem? (i := 104) rfl)) rfl
theorem wt_838 : (Cond.methodLink "PenAcresLaw" 145 ⟨"PenAcres", "write", "(IIJ)J"⟩) ∈ wG := wG_mem (tm_3 (List.mem_of_getElem? (i := 118) rfl)) rfl
theorem wt_839 : (Cond.instanceMethod ⟨"PenAcres", "write", "(IIJ)J"⟩) ∈ wG := wG_mem (tm_3 (List.mem_of_getElem? (i := 119) rfl)) rfl
theorem wt_840 : (Cond.selects "PenAcres" ⟨"PenAcres", "write", "(IIJ)J"⟩ ⟨"PenAcres", "write", "(IIJ)J"⟩) ∈ wG := wG_mem (tm_3 (List.mem_of_getElem? (i := 120) rfl)) rfl
theorem wt_855 : (Cond.methodLink "PenAcresLaw" 150 ⟨"PenAcres", "copy", "(IIIII)I"⟩) ∈ wG := wG_mem (tm_3 (List.mem_of_getElem? (i := 135) rfl)) rfl
theorem wt_856 : (Cond.instanceMethod ⟨"PenAcres", "copy", "(IIIII)I"⟩) ∈ wG := wG_mem (tm_3 (List.mem_of_getElem? (i := 136) rfl)) rfl
theorem wt_857 : (Cond.selects "PenAcres" ⟨"PenAcres", "copy", "(IIIII)I"⟩ ⟨"PenAcres", "copy", "(IIIII)I"⟩) ∈ wG := wG_mem (tm_3 (List.mem_of_getElem? (i := 137) rfl)) rfl
theorem wt_864 : (Cond.methodLink "PenAcresLaw" 155 ⟨"PenAcres", "lays", "(I)I"⟩) ∈ wG := wG_mem (tm_3 (List.mem_of_getElem? (i := 144) rfl)) rfl
theorem wt_865 : (Cond.instanceMethod ⟨"PenAcres", "lays", "(I)I"⟩) ∈ wG := wG_mem (tm_3 (List.mem_of_getElem? (i := 145) rfl)) rfl
theorem wt_866 : (Cond.selects "PenAcres" ⟨"PenAcres", "lays", "(I)I"⟩ ⟨"PenAcres", "lays", "(I)I"⟩) ∈ wG := wG_mem (tm_3 (List.mem_of_getElem? (i := 146) rfl)) rfl
theorem wt_869 : (Cond.methodLink "PenAcresLaw" 159 ⟨"PenAcres", "book", "(II)I"⟩) ∈ wG := wG_mem (tm_3 (List.mem_of_getElem? (i := 149) rfl)) rfl
theorem wt_870 : (Cond.instanceMethod ⟨"PenAcres", "book", "(II)I"⟩) ∈ wG := wG_mem (tm_3 (List.mem_of_getElem? (i := 150) rfl)) rfl
theorem wt_871 : (Cond.selects "PenAcres" ⟨"PenAcres", "book", "(II)I"⟩ ⟨"PenAcres", "book", "(II)I"⟩) ∈ wG := wG_mem (tm_3 (List.mem_of_getElem? (i := 151) rfl)) rfl
theorem wt_873 : (Cond.methodLink "PenAcresLaw" 163 ⟨"PenAcres", "read", "(II)I"⟩) ∈ wG := wG_mem (tm_3 (List.mem_of_getElem? (i := 153) rfl)) rfl
theorem wt_874 : (Cond.instanceMethod ⟨"PenAcres", "read", "(II)I"⟩) ∈ wG := wG_mem (tm_3 (List.mem_of_getElem? (i := 154) rfl)) rfl
theorem wt_875 : (Cond.selects "PenAcres" ⟨"PenAcres", "read", "(II)I"⟩ ⟨"PenAcres", "read", "(II)I"⟩) ∈ wG := wG_mem (tm_3 (List.mem_of_getElem? (i := 155) rfl)) rfl
theorem wt_881 : (Cond.methodLink "PenAcresLaw" 167 ⟨"PenAcres", "image", "()I"⟩) ∈ wG := wG_mem (tm_3 (List.mem_of_getElem? (i := 161) rfl)) rfl
theorem wt_882 : (Cond.instanceMethod ⟨"PenAcres", "image", "()I"⟩) ∈ wG := wG_mem (tm_3 (List.mem_of_getElem? (i := 162) rfl)) rfl
theorem wt_883 : (Cond.selects "PenAcres" ⟨"PenAcres", "image", "()I"⟩ ⟨"PenAcres", "image", "()I"⟩) ∈ wG := wG_mem (tm_3 (List.mem_of_getElem? (i := 163) rfl)) rfl
theorem wt_885 : (Cond.methodLink "PenAcresLaw" 171 ⟨"PenAcres", "undo", "()I"⟩) ∈ wG := wG_mem (tm_3 (List.mem_of_getElem? (i := 165) rfl)) rfl
theorem wt_886 : (Cond.instanceMethod ⟨"PenAcres", "undo", "()I"⟩) ∈ wG := wG_mem (tm_3 (List.mem_of_getElem? (i := 166) rfl)) rfl
theorem wt_887 : (Cond.selects "PenAcres" ⟨"PenAcres", "undo", "()I"⟩ ⟨"PenAcres", "undo", "()I"⟩) ∈ wG := wG_mem (tm_3 (List.mem_of_getElem? (i := 167) rfl)) rfl
theorem wt_889 : (Cond.methodLink "PenAcresLaw" 175 ⟨"PenAcres", "tear", "()I"⟩) ∈ wG := wG_mem (tm_3 (List.mem_of_getElem? (i := 169) rfl)) rfl
theorem wt_890 : (Cond.instanceMethod ⟨"PenAcres", "tear", "()I"⟩) ∈ wG := wG_mem (tm_3 (List.mem_of_getElem? (i := 170) rfl)) rfl
theorem wt_891 : (Cond.selects "PenAcres" ⟨"PenAcres", "tear", "()I"⟩ ⟨"PenAcres", "tear", "()I"⟩) ∈ wG := wG_mem (tm_3 (List.mem_of_getElem? (i := 171) rfl)) rfl
theorem wt_893 : (Cond.methodLink "PenAcresLaw" 179 ⟨"PenAcres", "count", "(I)I"⟩) ∈ wG := wG_mem (tm_3 (List.mem_of_getElem? (i := 173) rfl)) rfl
theorem wt_894 : (Cond.instanceMethod ⟨"PenAcres", "count", "(I)I"⟩) ∈ wG := wG_mem (tm_3 (List.mem_of_getElem? (i := 174) rfl)) rfl
theorem wt_895 : (Cond.selects "PenAcres" ⟨"PenAcres", "count", "(I)I"⟩ ⟨"PenAcres", "count", "(I)I"⟩) ∈ wG := wG_mem (tm_3 (List.mem_of_getElem? (i := 175) rfl)) rfl
theorem wt_905 : (Cond.methodLink "PenAcresLaw" 183 ⟨"PenAcres", "status", "(I)I"⟩) ∈ wG := wG_mem (tm_3 (List.mem_of_getElem? (i := 185) rfl)) rfl
theorem wt_906 : (Cond.instanceMethod ⟨"PenAcres", "status", "(I)I"⟩) ∈ wG := wG_mem (tm_3 (List.mem_of_getElem? (i := 186) rfl)) rfl
theorem wt_907 : (Cond.selects "PenAcres" ⟨"PenAcres", "status", "(I)I"⟩ ⟨"PenAcres", "status", "(I)I"⟩) ∈ wG := wG_mem (tm_3 (List.mem_of_getElem? (i := 187) rfl)) rfl
theorem wt_909 : (Cond.classLink "PenAcresLaw" 10 "PenAcresModel") ∈ wG := wG_mem (tm_3 (List.mem_of_getElem? (i := 189) rfl)) rfl
theorem wt_910 : (Cond.instantiable "PenAcresModel" 20) ∈ wG := wG_mem (tm_3 (List.mem_of_getElem? (i := 190) rfl)) rfl
theorem wt_911 : (Cond.methodLink "PenAcresLaw" 12 ⟨"PenAcresModel", "<init>", "()V"⟩) ∈ wG := wG_mem (tm_3 (List.mem_of_getElem? (i := 191) rfl)) rfl
theorem wt_912 : (Cond.instanceMethod ⟨"PenAcresModel", "<init>", "()V"⟩) ∈ wG := wG_mem (tm_3 (List.mem_of_getElem? (i := 192) rfl)) rfl
theorem wt_913 : (Cond.code ⟨"PenAcresModel", "<init>", "()V"⟩ prog_14_method_1_code 1 (Option.none : Option Jvm.ClassFile.FieldType)) ∈ wG := wG_mem (tm_3 (List.mem_of_getElem? (i := 193) rfl)) rfl
theorem wt_914 : (Cond.methodLink "PenAcresModel" 1 ⟨"java/lang/Object", "<init>", "()V"⟩) ∈ wG := wG_mem (tm_3 (List.mem_of_getElem? (i := 194) rfl)) rfl
theorem wt_976 : (Cond.methodLink "PenAcresLaw" 17 ⟨"PenAcresModel", "smudge", "(II)I"⟩) ∈ wG := wG_mem (tm_4 (List.mem_of_getElem? (i := 16) rfl)) rfl
theorem wt_977 : (Cond.instanceMethod ⟨"PenAcresModel", "smudge", "(II)I"⟩) ∈ wG := wG_mem (tm_4 (List.mem_of_getElem? (i := 17) rfl)) rfl
theorem wt_978 : (Cond.selects "PenAcresModel" ⟨"PenAcresModel", "smudge", "(II)I"⟩ ⟨"PenAcresModel", "smudge", "(II)I"⟩) ∈ wG := wG_mem (tm_4 (List.mem_of_getElem? (i := 18) rfl)) rfl
theorem wt_996 : (Cond.methodLink "PenAcresLaw" 21 ⟨"PenAcresModel", "cell", "(II)I"⟩) ∈ wG := wG_mem (tm_4 (List.mem_of_getElem? (i := 36) rfl)) rfl
theorem wt_997 : (Cond.instanceMethod ⟨"PenAcresModel", "cell", "(II)I"⟩) ∈ wG := wG_mem (tm_4 (List.mem_of_getElem? (i := 37) rfl)) rfl
theorem wt_998 : (Cond.selects "PenAcresModel" ⟨"PenAcresModel", "cell", "(II)I"⟩ ⟨"PenAcresModel", "cell", "(II)I"⟩) ∈ wG := wG_mem (tm_4 (List.mem_of_getElem? (i := 38) rfl)) rfl
theorem wt_1054 : (Cond.methodLink "PenAcresLaw" 26 ⟨"PenAcresModel", "cells", "(I)J"⟩) ∈ wG := wG_mem (tm_4 (List.mem_of_getElem? (i := 94) rfl)) rfl
theorem wt_1055 : (Cond.instanceMethod ⟨"PenAcresModel", "cells", "(I)J"⟩) ∈ wG := wG_mem (tm_4 (List.mem_of_getElem? (i := 95) rfl)) rfl
theorem wt_1056 : (Cond.selects "PenAcresModel" ⟨"PenAcresModel", "cells", "(I)J"⟩ ⟨"PenAcresModel", "cells", "(I)J"⟩) ∈ wG := wG_mem (tm_4 (List.mem_of_getElem? (i := 96) rfl)) rfl
theorem wt_1063 : (Cond.methodLink "PenAcresLaw" 30 ⟨"PenAcresModel", "hand", "(II)I"⟩) ∈ wG := wG_mem (tm_4 (List.mem_of_getElem? (i := 103) rfl)) rfl
theorem wt_1064 : (Cond.instanceMethod ⟨"PenAcresModel", "hand", "(II)I"⟩) ∈ wG := wG_mem (tm_4 (List.mem_of_getElem? (i := 104) rfl)) rfl
theorem wt_1065 : (Cond.selects "PenAcresModel" ⟨"PenAcresModel", "hand", "(II)I"⟩ ⟨"PenAcresModel", "hand", "(II)I"⟩) ∈ wG := wG_mem (tm_4 (List.mem_of_getElem? (i := 105) rfl)) rfl
theorem wt_1076 : (Cond.methodLink "PenAcresLaw" 35 ⟨"PenAcresModel", "stroke", "(III)I"⟩) ∈ wG := wG_mem (tm_4 (List.mem_of_getElem? (i := 116) rfl)) rfl
theorem wt_1077 : (Cond.instanceMethod ⟨"PenAcresModel", "stroke", "(III)I"⟩) ∈ wG := wG_mem (tm_4 (List.mem_of_getElem? (i := 117) rfl)) rfl
theorem wt_1078 : (Cond.selects "PenAcresModel" ⟨"PenAcresModel", "stroke", "(III)I"⟩ ⟨"PenAcresModel", "stroke", "(III)I"⟩) ∈ wG := wG_mem (tm_4 (List.mem_of_getElem? (i := 118) rfl)) rfl
theorem wt_1092 : (Cond.methodLink "PenAcresLaw" 39 ⟨"PenAcresModel", "of", "(II)I"⟩) ∈ wG := wG_mem (tm_4 (List.mem_of_getElem? (i := 132) rfl)) rfl
theorem wt_1093 : (Cond.instanceMethod ⟨"PenAcresModel", "of", "(II)I"⟩) ∈ wG := wG_mem (tm_4 (List.mem_of_getElem? (i := 133) rfl)) rfl
theorem wt_1094 : (Cond.selects "PenAcresModel" ⟨"PenAcresModel", "of", "(II)I"⟩ ⟨"PenAcresModel", "of", "(II)I"⟩) ∈ wG := wG_mem (tm_4 (List.mem_of_getElem? (i := 134) rfl)) rfl
theorem wt_1108 : (Cond.methodLink "PenAcresLaw" 43 ⟨"PenAcresModel", "told", "(III)I"⟩) ∈ wG := wG_mem (tm_4 (List.mem_of_getElem? (i := 148) rfl)) rfl
theorem wt_1109 : (Cond.instanceMethod ⟨"PenAcresModel", "told", "(III)I"⟩) ∈ wG := wG_mem (tm_4 (List.mem_of_getElem? (i := 149) rfl)) rfl
theorem wt_1110 : (Cond.selects "PenAcresModel" ⟨"PenAcresModel", "told", "(III)I"⟩ ⟨"PenAcresModel", "told", "(III)I"⟩) ∈ wG := wG_mem (tm_4 (List.mem_of_getElem? (i := 150) rfl)) rfl
theorem wt_1116 : (Cond.methodLink "PenAcresLaw" 47 ⟨"PenAcresModel", "set", "(III)I"⟩) ∈ wG := wG_mem (tm_4 (List.mem_of_getElem? (i := 156) rfl)) rfl
theorem wt_1117 : (Cond.instanceMethod ⟨"PenAcresModel", "set", "(III)I"⟩) ∈ wG := wG_mem (tm_4 (List.mem_of_getElem? (i := 157) rfl)) rfl
theorem wt_1118 : (Cond.selects "PenAcresModel" ⟨"PenAcresModel", "set", "(III)I"⟩ ⟨"PenAcresModel", "set", "(III)I"⟩) ∈ wG := wG_mem (tm_4 (List.mem_of_getElem? (i := 158) rfl)) rfl
theorem wt_1121 : (Cond.methodLink "PenAcresLaw" 52 ⟨"PenAcresModel", "alter", "(IIII)I"⟩) ∈ wG := wG_mem (tm_4 (List.mem_of_getElem? (i := 161) rfl)) rfl
theorem wt_1122 : (Cond.instanceMethod ⟨"PenAcresModel", "alter", "(IIII)I"⟩) ∈ wG := wG_mem (tm_4 (List.mem_of_getElem? (i := 162) rfl)) rfl
theorem wt_1123 : (Cond.selects "PenAcresModel" ⟨"PenAcresModel", "alter", "(IIII)I"⟩ ⟨"PenAcresModel", "alter", "(IIII)I"⟩) ∈ wG := wG_mem (tm_4 (List.mem_of_getElem? (i := 163) rfl)) rfl
theorem wt_1125 : (Cond.methodLink "PenAcresLaw" 56 ⟨"PenAcresModel", "cut", "(II)I"⟩) ∈ wG := wG_mem (tm_4 (List.mem_of_getElem? (i := 165) rfl)) rfl
theorem wt_1126 : (Cond.instanceMethod ⟨"PenAcresModel", "cut", "(II)I"⟩) ∈ wG := wG_mem (tm_4 (List.mem_of_getElem? (i := 166) rfl)) rfl
theorem wt_1127 : (Cond.selects "PenAcresModel" ⟨"PenAcresModel", "cut", "(II)I"⟩ ⟨"PenAcresModel", "cut", "(II)I"⟩) ∈ wG := wG_mem (tm_4 (List.mem_of_getElem? (i := 167) rfl)) rfl
theorem wt_1129 : (Cond.methodLink "PenAcresLaw" 60 ⟨"PenAcresModel", "turn", "(II)I"⟩) ∈ wG := wG_mem (tm_4 (List.mem_of_getElem? (i := 169) rfl)) rfl
theorem wt_1130 : (Cond.instanceMethod ⟨"PenAcresModel", "turn", "(II)I"⟩) ∈ wG := wG_mem (tm_4 (List.mem_of_getElem? (i := 170) rfl)) rfl
theorem wt_1131 : (Cond.selects "PenAcresModel" ⟨"PenAcresModel", "turn", "(II)I"⟩ ⟨"PenAcresModel", "turn", "(II)I"⟩) ∈ wG := wG_mem (tm_4 (List.mem_of_getElem? (i := 171) rfl)) rfl
theorem wt_1133 : (Cond.methodLink "PenAcresLaw" 64 ⟨"PenAcresModel", "as", "(II)I"⟩) ∈ wG := wG_mem (tm_4 (List.mem_of_getElem? (i := 173) rfl)) rfl
theorem wt_1134 : (Cond.instanceMethod ⟨"PenAcresModel", "as", "(II)I"⟩) ∈ wG := wG_mem (tm_4 (List.mem_of_getElem? (i := 174) rfl)) rfl
theorem wt_1135 : (Cond.selects "PenAcresModel" ⟨"PenAcresModel", "as", "(II)I"⟩ ⟨"PenAcresModel", "as", "(II)I"⟩) ∈ wG := wG_mem (tm_4 (List.mem_of_getElem? (i := 175) rfl)) rfl
theorem wt_1141 : (Cond.methodLink "PenAcresLaw" 68 ⟨"PenAcresModel", "line", "(I)J"⟩) ∈ wG := wG_mem (tm_4 (List.mem_of_getElem? (i := 181) rfl)) rfl
theorem wt_1142 : (Cond.instanceMethod ⟨"PenAcresModel", "line", "(I)J"⟩) ∈ wG := wG_mem (tm_4 (List.mem_of_getElem? (i := 182) rfl)) rfl
theorem wt_1143 : (Cond.selects "PenAcresModel" ⟨"PenAcresModel", "line", "(I)J"⟩ ⟨"PenAcresModel", "line", "(I)J"⟩) ∈ wG := wG_mem (tm_4 (List.mem_of_getElem? (i := 183) rfl)) rfl
theorem wt_1145 : (Cond.methodLink "PenAcresLaw" 72 ⟨"PenAcresModel", "inside", "(I)J"⟩) ∈ wG := wG_mem (tm_4 (List.mem_of_getElem? (i := 185) rfl)) rfl
theorem wt_1146 : (Cond.instanceMethod ⟨"PenAcresModel", "inside", "(I)J"⟩) ∈ wG := wG_mem (tm_4 (List.mem_of_getElem? (i := 186) rfl)) rfl
theorem wt_1147 : (Cond.selects "PenAcresModel" ⟨"PenAcresModel", "inside", "(I)J"⟩ ⟨"PenAcresModel", "inside", "(I)J"⟩) ∈ wG := wG_mem (tm_4 (List.mem_of_getElem? (i := 187) rfl)) rfl
theorem wt_1149 : (Cond.methodLink "PenAcresLaw" 77 ⟨"PenAcresModel", "years", "(I)I"⟩) ∈ wG := wG_mem (tm_4 (List.mem_of_getElem? (i := 189) rfl)) rfl
theorem wt_1150 : (Cond.instanceMethod ⟨"PenAcresModel", "years", "(I)I"⟩) ∈ wG := wG_mem (tm_4 (List.mem_of_getElem? (i := 190) rfl)) rfl
theorem wt_1151 : (Cond.selects "PenAcresModel" ⟨"PenAcresModel", "years", "(I)I"⟩ ⟨"PenAcresModel", "years", "(I)I"⟩) ∈ wG := wG_mem (tm_4 (List.mem_of_getElem? (i := 191) rfl)) rfl
theorem wt_1168 : (Cond.methodLink "PenAcresLaw" 81 ⟨"PenAcresModel", "now", "(I)I"⟩) ∈ wG := wG_mem (tm_4 (List.mem_of_getElem? (i := 208) rfl)) rfl
theorem wt_1169 : (Cond.instanceMethod ⟨"PenAcresModel", "now", "(I)I"⟩) ∈ wG := wG_mem (tm_4 (List.mem_of_getElem? (i := 209) rfl)) rfl
theorem wt_1170 : (Cond.selects "PenAcresModel" ⟨"PenAcresModel", "now", "(I)I"⟩ ⟨"PenAcresModel", "now", "(I)I"⟩) ∈ wG := wG_mem (tm_4 (List.mem_of_getElem? (i := 210) rfl)) rfl
theorem wt_1176 : (Cond.methodLink "PenAcresLaw" 85 ⟨"PenAcresModel", "on", "(III)I"⟩) ∈ wG := wG_mem (tm_4 (List.mem_of_getElem? (i := 216) rfl)) rfl
theorem wt_1177 : (Cond.instanceMethod ⟨"PenAcresModel", "on", "(III)I"⟩) ∈ wG := wG_mem (tm_4 (List.mem_of_getElem? (i := 217) rfl)) rfl
theorem wt_1178 : (Cond.selects "PenAcresModel" ⟨"PenAcresModel", "on", "(III)I"⟩ ⟨"PenAcresModel", "on", "(III)I"⟩) ∈ wG := wG_mem (tm_4 (List.mem_of_getElem? (i := 218) rfl)) rfl
theorem wt_1192 : (Cond.methodLink "PenAcresLaw" 89 ⟨"PenAcresModel", "dry", "(I)I"⟩) ∈ wG := wG_mem (tm_4 (List.mem_of_getElem? (i := 232) rfl)) rfl
theorem wt_1193 : (Cond.instanceMethod ⟨"PenAcresModel", "dry", "(I)I"⟩) ∈ wG := wG_mem (tm_4 (List.mem_of_getElem? (i := 233) rfl)) rfl
theorem wt_1194 : (Cond.selects "PenAcresModel" ⟨"PenAcresModel", "dry", "(I)I"⟩ ⟨"PenAcresModel", "dry", "(I)I"⟩) ∈ wG := wG_mem (tm_4 (List.mem_of_getElem? (i := 234) rfl)) rfl
theorem wt_1201 : (Cond.methodLink "PenAcresLaw" 93 ⟨"PenAcresModel", "rich", "(I)I"⟩) ∈ wG := wG_mem (tm_5 (List.mem_of_getElem? (i := 1) rfl)) rfl
theorem wt_1202 : (Cond.instanceMethod ⟨"PenAcresModel", "rich", "(I)I"⟩) ∈ wG := wG_mem (tm_5 (List.mem_of_getElem? (i := 2) rfl)) rfl
theorem wt_1203 : (Cond.selects "PenAcresModel" ⟨"PenAcresModel", "rich", "(I)I"⟩ ⟨"PenAcresModel", "rich", "(I)I"⟩) ∈ wG := wG_mem (tm_5 (List.mem_of_getElem? (i := 3) rfl)) rfl
theorem wt_1209 : (Cond.methodLink "PenAcresLaw" 97 ⟨"PenAcresModel", "rain", "(I)I"⟩) ∈ wG := wG_mem (tm_5 (List.mem_of_getElem? (i := 9) rfl)) rfl
theorem wt_1210 : (Cond.instanceMethod ⟨"PenAcresModel", "rain", "(I)I"⟩) ∈ wG := wG_mem (tm_5 (List.mem_of_getElem? (i := 10) rfl)) rfl
theorem wt_1211 : (Cond.selects "PenAcresModel" ⟨"PenAcresModel", "rain", "(I)I"⟩ ⟨"PenAcresModel", "rain", "(I)I"⟩) ∈ wG := wG_mem (tm_5 (List.mem_of_getElem? (i := 11) rfl)) rfl
theorem wt_1217 : (Cond.methodLink "PenAcresLaw" 101 ⟨"PenAcresModel", "longer", "(I)I"⟩) ∈ wG := wG_mem (tm_5 (List.mem_of_getElem? (i := 17) rfl)) rfl
theorem wt_1218 : (Cond.instanceMethod ⟨"PenAcresModel", "longer", "(I)I"⟩) ∈ wG := wG_mem (tm_5 (List.mem_of_getElem? (i := 18) rfl)) rfl
theorem wt_1219 : (Cond.selects "PenAcresModel" ⟨"PenAcresModel", "longer", "(I)I"⟩ ⟨"PenAcresModel", "longer", "(I)I"⟩) ∈ wG := wG_mem (tm_5 (List.mem_of_getElem? (i := 19) rfl)) rfl
theorem wt_1221 : (Cond.methodLink "PenAcresLaw" 105 ⟨"PenAcresModel", "begin", "(I)I"⟩) ∈ wG := wG_mem (tm_5 (List.mem_of_getElem? (i := 21) rfl)) rfl
theorem wt_1222 : (Cond.instanceMethod ⟨"PenAcresModel", "begin", "(I)I"⟩) ∈ wG := wG_mem (tm_5 (List.mem_of_getElem? (i := 22) rfl)) rfl
theorem wt_1223 : (Cond.selects "PenAcresModel" ⟨"PenAcresModel", "begin", "(I)I"⟩ ⟨"PenAcresModel", "begin", "(I)I"⟩) ∈ wG := wG_mem (tm_5 (List.mem_of_getElem? (i := 23) rfl)) rfl
theorem wt_1225 : (Cond.methodLink "PenAcresLaw" 109 ⟨"PenAcresModel", "kind", "(I)I"⟩) ∈ wG := wG_mem (tm_5 (List.mem_of_getElem? (i := 25) rfl)) rfl
theorem wt_1226 : (Cond.instanceMethod ⟨"PenAcresModel", "kind", "(I)I"⟩) ∈ wG := wG_mem (tm_5 (List.mem_of_getElem? (i := 26) rfl)) rfl
theorem wt_1227 : (Cond.selects "PenAcresModel" ⟨"PenAcresModel", "kind", "(I)I"⟩ ⟨"PenAcresModel", "kind", "(I)I"⟩) ∈ wG := wG_mem (tm_5 (List.mem_of_getElem? (i := 27) rfl)) rfl
theorem wt_1229 : (Cond.methodLink "PenAcresLaw" 113 ⟨"PenAcresModel", "ink", "(I)I"⟩) ∈ wG := wG_mem (tm_5 (List.mem_of_getElem? (i := 29) rfl)) rfl
theorem wt_1230 : (Cond.instanceMethod ⟨"PenAcresModel", "ink", "(I)I"⟩) ∈ wG := wG_mem (tm_5 (List.mem_of_getElem? (i := 30) rfl)) rfl
theorem wt_1231 : (Cond.selects "PenAcresModel" ⟨"PenAcresModel", "ink", "(I)I"⟩ ⟨"PenAcresModel", "ink", "(I)I"⟩) ∈ wG := wG_mem (tm_5 (List.mem_of_getElem? (i := 31) rfl)) rfl
theorem wt_1233 : (Cond.methodLink "PenAcresLaw" 117 ⟨"PenAcresModel", "court", "(II)I"⟩) ∈ wG := wG_mem (tm_5 (List.mem_of_getElem? (i := 33) rfl)) rfl
theorem wt_1234 : (Cond.instanceMethod ⟨"PenAcresModel", "court", "(II)I"⟩) ∈ wG := wG_mem (tm_5 (List.mem_of_getElem? (i := 34) rfl)) rfl
theorem wt_1235 : (Cond.selects "PenAcresModel" ⟨"PenAcresModel", "court", "(II)I"⟩ ⟨"PenAcresModel", "court", "(II)I"⟩) ∈ wG := wG_mem (tm_5 (List.mem_of_getElem? (i := 35) rfl)) rfl
theorem wt_1237 : (Cond.methodLink "PenAcresLaw" 121 ⟨"PenAcresModel", "way", "(III)I"⟩) ∈ wG := wG_mem (tm_5 (List.mem_of_getElem? (i := 37) rfl)) rfl
theorem wt_1238 : (Cond.instanceMethod ⟨"PenAcresModel", "way", "(III)I"⟩) ∈ wG := wG_mem (tm_5 (List.mem_of_getElem? (i := 38) rfl)) rfl
theorem wt_1239 : (Cond.selects "PenAcresModel" ⟨"PenAcresModel", "way", "(III)I"⟩ ⟨"PenAcresModel", "way", "(III)I"⟩) ∈ wG := wG_mem (tm_5 (List.mem_of_getElem? (i := 39) rfl)) rfl
theorem wt_1241 : (Cond.methodLink "PenAcresLaw" 126 ⟨"PenAcresModel", "sea", "()I"⟩) ∈ wG := wG_mem (tm_5 (List.mem_of_getElem? (i := 41) rfl)) rfl
theorem wt_1242 : (Cond.instanceMethod ⟨"PenAcresModel", "sea", "()I"⟩) ∈ wG := wG_mem (tm_5 (List.mem_of_getElem? (i := 42) rfl)) rfl
theorem wt_1243 : (Cond.selects "PenAcresModel" ⟨"PenAcresModel", "sea", "()I"⟩ ⟨"PenAcresModel", "sea", "()I"⟩) ∈ wG := wG_mem (tm_5 (List.mem_of_getElem? (i := 43) rfl)) rfl
theorem wt_1245 : (Cond.methodLink "PenAcresLaw" 130 ⟨"PenAcresModel", "feed", "(II)I"⟩) ∈ wG := wG_mem (tm_5 (List.mem_of_getElem? (i := 45) rfl)) rfl
theorem wt_1246 : (Cond.instanceMethod ⟨"PenAcresModel", "feed", "(II)I"⟩) ∈ wG := wG_mem (tm_5 (List.mem_of_getElem? (i := 46) rfl)) rfl
theorem wt_1247 : (Cond.selects "PenAcresModel" ⟨"PenAcresModel", "feed", "(II)I"⟩ ⟨"PenAcresModel", "feed", "(II)I"⟩) ∈ wG := wG_mem (tm_5 (List.mem_of_getElem? (i := 47) rfl)) rfl
theorem wt_1250 : (Cond.methodLink "PenAcresLaw" 134 ⟨"PenAcresModel", "wipe", "()I"⟩) ∈ wG := wG_mem (tm_5 (List.mem_of_getElem? (i := 50) rfl)) rfl
theorem wt_1251 : (Cond.instanceMethod ⟨"PenAcresModel", "wipe", "()I"⟩) ∈ wG := wG_mem (tm_5 (List.mem_of_getElem? (i := 51) rfl)) rfl
theorem wt_1252 : (Cond.selects "PenAcresModel" ⟨"PenAcresModel", "wipe", "()I"⟩ ⟨"PenAcresModel", "wipe", "()I"⟩) ∈ wG := wG_mem (tm_5 (List.mem_of_getElem? (i := 52) rfl)) rfl
theorem wt_1254 : (Cond.methodLink "PenAcresLaw" 138 ⟨"PenAcresModel", "field", "()I"⟩) ∈ wG := wG_mem (tm_5 (List.mem_of_getElem? (i := 54) rfl)) rfl
theorem wt_1255 : (Cond.instanceMethod ⟨"PenAcresModel", "field", "()I"⟩) ∈ wG := wG_mem (tm_5 (List.mem_of_getElem? (i := 55) rfl)) rfl
theorem wt_1256 : (Cond.selects "PenAcresModel" ⟨"PenAcresModel", "field", "()I"⟩ ⟨"PenAcresModel", "field", "()I"⟩) ∈ wG := wG_mem (tm_5 (List.mem_of_getElem? (i := 56) rfl)) rfl
theorem wt_1328 : (Cond.methodLink "PenAcresLaw" 142 ⟨"PenAcresModel", "sheet", "(III)I"⟩) ∈ wG := wG_mem (tm_5 (List.mem_of_getElem? (i := 128) rfl)) rfl
theorem wt_1329 : (Cond.instanceMethod ⟨"PenAcresModel", "sheet", "(III)I"⟩) ∈ wG := wG_mem (tm_5 (List.mem_of_getElem? (i := 129) rfl)) rfl
theorem wt_1330 : (Cond.selects "PenAcresModel" ⟨"PenAcresModel", "sheet", "(III)I"⟩ ⟨"PenAcresModel", "sheet", "(III)I"⟩) ∈ wG := wG_mem (tm_5 (List.mem_of_getElem? (i := 130) rfl)) rfl
theorem wt_1336 : (Cond.methodLink "PenAcresLaw" 149 ⟨"PenAcresModel", "write", "(IIJ)J"⟩) ∈ wG := wG_mem (tm_5 (List.mem_of_getElem? (i := 136) rfl)) rfl
theorem wt_1337 : (Cond.instanceMethod ⟨"PenAcresModel", "write", "(IIJ)J"⟩) ∈ wG := wG_mem (tm_5 (List.mem_of_getElem? (i := 137) rfl)) rfl
theorem wt_1338 : (Cond.selects "PenAcresModel" ⟨"PenAcresModel", "write", "(IIJ)J"⟩ ⟨"PenAcresModel", "write", "(IIJ)J"⟩) ∈ wG := wG_mem (tm_5 (List.mem_of_getElem? (i := 138) rfl)) rfl
theorem wt_1348 : (Cond.methodLink "PenAcresLaw" 154 ⟨"PenAcresModel", "copy", "(IIIII)I"⟩) ∈ wG := wG_mem (tm_5 (List.mem_of_getElem? (i := 148) rfl)) rfl
theorem wt_1349 : (Cond.instanceMethod ⟨"PenAcresModel", "copy", "(IIIII)I"⟩) ∈ wG := wG_mem (tm_5 (List.mem_of_getElem? (i := 149) rfl)) rfl
theorem wt_1350 : (Cond.selects "PenAcresModel" ⟨"PenAcresModel", "copy", "(IIIII)I"⟩ ⟨"PenAcresModel", "copy", "(IIIII)I"⟩) ∈ wG := wG_mem (tm_5 (List.mem_of_getElem? (i := 150) rfl)) rfl
theorem wt_1352 : (Cond.methodLink "PenAcresLaw" 158 ⟨"PenAcresModel", "lays", "(I)I"⟩) ∈ wG := wG_mem (tm_5 (List.mem_of_getElem? (i := 152) rfl)) rfl
theorem wt_1353 : (Cond.instanceMethod ⟨"PenAcresModel", "lays", "(I)I"⟩) ∈ wG := wG_mem (tm_5 (List.mem_of_getElem? (i := 153) rfl)) rfl
theorem wt_1354 : (Cond.selects "PenAcresModel" ⟨"PenAcresModel", "lays", "(I)I"⟩ ⟨"PenAcresModel", "lays", "(I)I"⟩) ∈ wG := wG_mem (tm_5 (List.mem_of_getElem? (i := 154) rfl)) rfl
theorem wt_1356 : (Cond.methodLink "PenAcresLaw" 162 ⟨"PenAcresModel", "book", "(II)I"⟩) ∈ wG := wG_mem (tm_5 (List.mem_of_getElem? (i := 156) rfl)) rfl
theorem wt_1357 : (Cond.instanceMethod ⟨"PenAcresModel", "book", "(II)I"⟩) ∈ wG := wG_mem (tm_5 (List.mem_of_getElem? (i := 157) rfl)) rfl
theorem wt_1358 : (Cond.selects "PenAcresModel" ⟨"PenAcresModel", "book", "(II)I"⟩ ⟨"PenAcresModel", "book", "(II)I"⟩) ∈ wG := wG_mem (tm_5 (List.mem_of_getElem? (i := 158) rfl)) rfl
theorem wt_1360 : (Cond.methodLink "PenAcresLaw" 166 ⟨"PenAcresModel", "read", "(II)I"⟩) ∈ wG := wG_mem (tm_5 (List.mem_of_getElem? (i := 160) rfl)) rfl
theorem wt_1361 : (Cond.instanceMethod ⟨"PenAcresModel", "read", "(II)I"⟩) ∈ wG := wG_mem (tm_5 (List.mem_of_getElem? (i := 161) rfl)) rfl
theorem wt_1362 : (Cond.selects "PenAcresModel" ⟨"PenAcresModel", "read", "(II)I"⟩ ⟨"PenAcresModel", "read", "(II)I"⟩) ∈ wG := wG_mem (tm_5 (List.mem_of_getElem? (i := 162) rfl)) rfl
theorem wt_1368 : (Cond.methodLink "PenAcresLaw" 170 ⟨"PenAcresModel", "image", "()I"⟩) ∈ wG := wG_mem (tm_5 (List.mem_of_getElem? (i := 168) rfl)) rfl
theorem wt_1369 : (Cond.instanceMethod ⟨"PenAcresModel", "image", "()I"⟩) ∈ wG := wG_mem (tm_5 (List.mem_of_getElem? (i := 169) rfl)) rfl
theorem wt_1370 : (Cond.selects "PenAcresModel" ⟨"PenAcresModel", "image", "()I"⟩ ⟨"PenAcresModel", "image", "()I"⟩) ∈ wG := wG_mem (tm_5 (List.mem_of_getElem? (i := 170) rfl)) rfl
theorem wt_1372 : (Cond.methodLink "PenAcresLaw" 174 ⟨"PenAcresModel", "undo", "()I"⟩) ∈ wG := wG_mem (tm_5 (List.mem_of_getElem? (i := 172) rfl)) rfl
theorem wt_1373 : (Cond.instanceMethod ⟨"PenAcresModel", "undo", "()I"⟩) ∈ wG := wG_mem (tm_5 (List.mem_of_getElem? (i := 173) rfl)) rfl
theorem wt_1374 : (Cond.selects "PenAcresModel" ⟨"PenAcresModel", "undo", "()I"⟩ ⟨"PenAcresModel", "undo", "()I"⟩) ∈ wG := wG_mem (tm_5 (List.mem_of_getElem? (i := 174) rfl)) rfl
theorem wt_1376 : (Cond.methodLink "PenAcresLaw" 178 ⟨"PenAcresModel", "tear", "()I"⟩) ∈ wG := wG_mem (tm_5 (List.mem_of_getElem? (i := 176) rfl)) rfl
theorem wt_1377 : (Cond.instanceMethod ⟨"PenAcresModel", "tear", "()I"⟩) ∈ wG := wG_mem (tm_5 (List.mem_of_getElem? (i := 177) rfl)) rfl
theorem wt_1378 : (Cond.selects "PenAcresModel" ⟨"PenAcresModel", "tear", "()I"⟩ ⟨"PenAcresModel", "tear", "()I"⟩) ∈ wG := wG_mem (tm_5 (List.mem_of_getElem? (i := 178) rfl)) rfl
theorem wt_1380 : (Cond.methodLink "PenAcresLaw" 182 ⟨"PenAcresModel", "count", "(I)I"⟩) ∈ wG := wG_mem (tm_5 (List.mem_of_getElem? (i := 180) rfl)) rfl
theorem wt_1381 : (Cond.instanceMethod ⟨"PenAcresModel", "count", "(I)I"⟩) ∈ wG := wG_mem (tm_5 (List.mem_of_getElem? (i := 181) rfl)) rfl
theorem wt_1382 : (Cond.selects "PenAcresModel" ⟨"PenAcresModel", "count", "(I)I"⟩ ⟨"PenAcresModel", "count", "(I)I"⟩) ∈ wG := wG_mem (tm_5 (List.mem_of_getElem? (i := 182) rfl)) rfl
theorem wt_1388 : (Cond.methodLink "PenAcresLaw" 186 ⟨"PenAcresModel", "status", "(I)I"⟩) ∈ wG := wG_mem (tm_5 (List.mem_of_getElem? (i := 188) rfl)) rfl
theorem wt_1389 : (Cond.instanceMethod ⟨"PenAcresModel", "status", "(I)I"⟩) ∈ wG := wG_mem (tm_5 (List.mem_of_getElem? (i := 189) rfl)) rfl
theorem wt_1390 : (Cond.selects "PenAcresModel" ⟨"PenAcresModel", "status", "(I)I"⟩ ⟨"PenAcresModel", "status", "(I)I"⟩) ∈ wG := wG_mem (tm_5 (List.mem_of_getElem? (i := 190) rfl)) rfl
theorem wt_1393 : (Cond.constantLong "PenAcresLaw" 143 (4294967295 : Int64)) ∈ wG := wG_mem (tm_5 (List.mem_of_getElem? (i := 193) rfl)) rfl
theorem wt_28 : (Cond.code Lib.objectInit ⟨#[0xb1]⟩ 1 none) ∈ wG := wG_mem (tm_0 (List.mem_of_getElem? (i := 28) rfl)) rfl
theorem ok_X0_init : okY Y_X0_init 2 := ⟨wt_62, wt_4, by decide, ⟨by decide, by decide⟩, by decide +kernel⟩
theorem ok_X2_init : okY Y_X2_init 1 := ⟨wt_108, wt_9, by decide, ⟨by decide, by decide⟩, by decide +kernel⟩
theorem ok_X3_init : okY Y_X3_init 2 := ⟨wt_34, wt_2, by decide, ⟨by decide, by decide⟩, by decide +kernel⟩
theorem ok_X4_init : okY Y_X4_init 2 := ⟨wt_82, wt_6, by decide, ⟨by decide, by decide⟩, by decide +kernel⟩
theorem ok_X5_init : okY Y_X5_init 1 := ⟨wt_101, wt_8, by decide, ⟨by decide, by decide⟩, by decide +kernel⟩
theorem ok_X6_init : okY Y_X6_init 2 := ⟨wt_92, wt_7, by decide, ⟨by decide, by decide⟩, by decide +kernel⟩
theorem ok_X7_init : okY Y_X7_init 2 := ⟨wt_52, wt_3, by decide, ⟨by decide, by decide⟩, by decide +kernel⟩
theorem ok_X8_init : okY Y_X8_init 2 := ⟨wt_72, wt_5, by decide, ⟨by decide, by decide⟩, by decide +kernel⟩
theorem ok_X9_init : okY Y_X9_init 0 := ⟨wt_213, wt_11, by decide, ⟨by decide, by decide⟩, by decide +kernel⟩
theorem ok_X10_init : okY Y_X10_init 0 := ⟨wt_185, wt_10, by decide, ⟨by decide, by decide⟩, by decide +kernel⟩
theorem ok_X11_init : okY Y_X11_init 0 := ⟨wt_25, wt_1, by decide, ⟨by decide, by decide⟩, by decide +kernel⟩
theorem ok_X12_init : okY Y_X12_init 0 := ⟨wt_913, wt_12, by decide, ⟨by decide, by decide⟩, by decide +kernel⟩
theorem okp_H_15_7 : okP "PenAcres$Hand" 15 7 5 (.array .int) true := ⟨RX2, TX2, 11, tyX2, rfl, by decide, uw_7, wt_124, tyX2_ok, nmX2, rfl, by decide +kernel, fun h => by rfl⟩
theorem okp_H_19_7 : okP "PenAcres$Hand" 19 7 6 (.array .int) true := ⟨RX2, TX2, 11, tyX2, rfl, by decide, uw_7, wt_126, tyX2_ok, nmX2, rfl, by decide +kernel, fun h => by rfl⟩
theorem okp_K0_7_1 : okP "PenAcres$HandKind" 7 1 0 .int true := ⟨RX3, TX3, 2, tyX3, rfl, by decide, uw_1, wt_36, tyX3_ok, nmX3, rfl, by decide +kernel, fun h => by rfl⟩
theorem okp_K0_7_2 : okP "PenAcres$HandKind" 7 2 0 .int true := ⟨RX7, TX7, 2, tyX7, rfl, by decide, uw_2, wt_36, tyX7_ok, nmX7, rfl, by decide +kernel, fun h => by rfl⟩
theorem okp_K0_7_3 : okP "PenAcres$HandKind" 7 3 0 .int true := ⟨RX0, TX0, 2, tyX0, rfl, by decide, uw_3, wt_36, tyX0_ok, nmX0, rfl, by decide +kernel, fun h => by rfl⟩
theorem okp_K0_7_4 : okP "PenAcres$HandKind" 7 4 0 .int true := ⟨RX8, TX8, 2, tyX8, rfl, by decide, uw_4, wt_36, tyX8_ok, nmX8, rfl, by decide +kernel, fun h => by rfl⟩
theorem okp_K0_7_5 : okP "PenAcres$HandKind" 7 5 0 .int true := ⟨RX4, TX4, 2, tyX4, rfl, by decide, uw_5, wt_36, tyX4_ok, nmX4, rfl, by decide +kernel, fun h => by rfl⟩
theorem okp_K0_7_6 : okP "PenAcres$HandKind" 7 6 0 .int true := ⟨RX6, TX6, 2, tyX6, rfl, by decide, uw_6, wt_36, tyX6_ok, nmX6, rfl, by decide +kernel, fun h => by rfl⟩
theorem okp_K0_13_1 : okP "PenAcres$HandKind" 13 1 1 (.object "java/lang/String") true := ⟨RX3, TX3, 2, tyX3, rfl, by decide, uw_1, wt_38, tyX3_ok, nmX3, rfl, by decide +kernel, fun h => by rfl⟩
theorem okp_K0_13_2 : okP "PenAcres$HandKind" 13 2 1 (.object "java/lang/String") true := ⟨RX7, TX7, 2, tyX7, rfl, by decide, uw_2, wt_38, tyX7_ok, nmX7, rfl, by decide +kernel, fun h => by rfl⟩
theorem okp_K0_13_3 : okP "PenAcres$HandKind" 13 3 1 (.object "java/lang/String") true := ⟨RX0, TX0, 2, tyX0, rfl, by decide, uw_3, wt_38, tyX0_ok, nmX0, rfl, by decide +kernel, fun h => by rfl⟩
theorem okp_K0_13_4 : okP "PenAcres$HandKind" 13 4 1 (.object "java/lang/String") true := ⟨RX8, TX8, 2, tyX8, rfl, by decide, uw_4, wt_38, tyX8_ok, nmX8, rfl, by decide +kernel, fun h => by rfl⟩
theorem okp_K0_13_5 : okP "PenAcres$HandKind" 13 5 1 (.object "java/lang/String") true := ⟨RX4, TX4, 2, tyX4, rfl, by decide, uw_5, wt_38, tyX4_ok, nmX4, rfl, by decide +kernel, fun h => by rfl⟩
theorem okp_K0_13_6 : okP "PenAcres$HandKind" 13 6 1 (.object "java/lang/String") true := ⟨RX6, TX6, 2, tyX6, rfl, by decide, uw_6, wt_38, tyX6_ok, nmX6, rfl, by decide +kernel, fun h => by rfl⟩
theorem okp_L_11_8 : okP "PenAcres$Land" 11 8 3 (.array (.object "PenAcres$Hand")) true := ⟨RX5, TX5, 6, tyX5, rfl, by decide, uw_8, wt_164, tyX5_ok, nmX5, rfl, by decide +kernel, fun h => by rfl⟩
theorem okp_L_20_8 : okP "PenAcres$Land" 20 8 4 (.array .long) true := ⟨RX5, TX5, 6, tyX5, rfl, by decide, uw_8, wt_165, tyX5_ok, nmX5, rfl, by decide +kernel, fun h => by rfl⟩
theorem okp_L_24_8 : okP "PenAcres$Land" 24 8 5 (.array .int) true := ⟨RX5, TX5, 6, tyX5, rfl, by decide, uw_8, wt_166, tyX5_ok, nmX5, rfl, by decide +kernel, fun h => by rfl⟩
theorem okp_S_9_10 : okP "PenAcres$Sheet" 9 10 2 (.array .long) true := ⟨RX9, TX9, 3, tyX9, rfl, by decide, uw_10, wt_219, tyX9_ok, nmX9, rfl, by decide +kernel, fun h => by rfl⟩
theorem okp_T_9_9 : okP "PenAcres$Tape" 9 9 1 (.array .char) true := ⟨RX10, TX10, 6, tyX10, rfl, by decide, uw_9, wt_189, tyX10_ok, nmX10, rfl, by decide +kernel, fun h => by rfl⟩
theorem okp_P_41_0 : okP "PenAcres" 41 0 0 (.array (.object "PenAcres$HandKind")) true := ⟨RX11, TX11, 8, tyX11, rfl, by decide, uw_0, wt_228, tyX11_ok, nmX11, rfl, by decide +kernel, fun h => by rfl⟩
theorem okp_P_50_0 : okP "PenAcres" 50 0 1 (.object "PenAcres$Land") true := ⟨RX11, TX11, 8, tyX11, rfl, by decide, uw_0, wt_229, tyX11_ok, nmX11, rfl, by decide +kernel, fun h => by rfl⟩
theorem okp_P_54_0 : okP "PenAcres" 54 0 2 (.object "PenAcres$Land") true := ⟨RX11, TX11, 8, tyX11, rfl, by decide, uw_0, wt_230, tyX11_ok, nmX11, rfl, by decide +kernel, fun h => by rfl⟩
theorem okp_P_57_0 : okP "PenAcres" 57 0 3 (.object "PenAcres$Land") true := ⟨RX11, TX11, 8, tyX11, rfl, by decide, uw_0, wt_231, tyX11_ok, nmX11, rfl, by decide +kernel, fun h => by rfl⟩
theorem okp_P_63_0 : okP "PenAcres" 63 0 5 (.object "PenAcres$Tape") true := ⟨RX11, TX11, 8, tyX11, rfl, by decide, uw_0, wt_233, tyX11_ok, nmX11, rfl, by decide +kernel, fun h => by rfl⟩
theorem okp_P_69_0 : okP "PenAcres" 69 0 6 (.array (.object "PenAcres$Sheet")) true := ⟨RX11, TX11, 8, tyX11, rfl, by decide, uw_0, wt_234, tyX11_ok, nmX11, rfl, by decide +kernel, fun h => by rfl⟩
theorem okp_P_74_0 : okP "PenAcres" 74 0 7 (.array .int) true := ⟨RX11, TX11, 8, tyX11, rfl, by decide, uw_0, wt_235, tyX11_ok, nmX11, rfl, by decide +kernel, fun h => by rfl⟩
theorem okp_M_7_11 : okP "PenAcresModel" 7 11 0 (.array .int) true := ⟨RX12, TX12, 20, tyX12, rfl, by decide, uw_11, wt_915, tyX12_ok, nmX12, rfl, by decide +kernel, fun h => by rfl⟩
theorem okp_M_13_11 : okP "PenAcresModel" 13 11 1 (.array .int) true := ⟨RX12, TX12, 20, tyX12, rfl, by decide, uw_11, wt_916, tyX12_ok, nmX12, rfl, by decide +kernel, fun h => by rfl⟩
theorem okp_M_16_11 : okP "PenAcresModel" 16 11 2 (.array .int) true := ⟨RX12, TX12, 20, tyX12, rfl, by decide, uw_11, wt_917, tyX12_ok, nmX12, rfl, by decide +kernel, fun h => by rfl⟩
theorem okp_M_19_11 : okP "PenAcresModel" 19 11 3 (.array .int) true := ⟨RX12, TX12, 20, tyX12, rfl, by decide, uw_11, wt_918, tyX12_ok, nmX12, rfl, by decide +kernel, fun h => by rfl⟩
theorem okp_M_22_11 : okP "PenAcresModel" 22 11 4 (.array .int) true := ⟨RX12, TX12, 20, tyX12, rfl, by decide, uw_11, wt_919, tyX12_ok, nmX12, rfl, by decide +kernel, fun h => by rfl⟩
theorem okp_M_25_11 : okP "PenAcresModel" 25 11 6 (.array .long) true := ⟨RX12, TX12, 20, tyX12, rfl, by decide, uw_11, wt_921, tyX12_ok, nmX12, rfl, by decide +kernel, fun h => by rfl⟩
theorem okp_M_29_11 : okP "PenAcresModel" 29 11 7 (.array .long) true := ⟨RX12, TX12, 20, tyX12, rfl, by decide, uw_11, wt_922, tyX12_ok, nmX12, rfl, by decide +kernel, fun h => by rfl⟩
theorem okp_M_32_11 : okP "PenAcresModel" 32 11 8 (.array .int) true := ⟨RX12, TX12, 20, tyX12, rfl, by decide, uw_11, wt_923, tyX12_ok, nmX12, rfl, by decide +kernel, fun h => by rfl⟩
theorem okp_M_35_11 : okP "PenAcresModel" 35 11 9 (.array .int) true := ⟨RX12, TX12, 20, tyX12, rfl, by decide, uw_11, wt_924, tyX12_ok, nmX12, rfl, by decide +kernel, fun h => by rfl⟩
theorem okp_M_38_11 : okP "PenAcresModel" 38 11 10 (.array .int) true := ⟨RX12, TX12, 20, tyX12, rfl, by decide, uw_11, wt_925, tyX12_ok, nmX12, rfl, by decide +kernel, fun h => by rfl⟩
theorem okp_M_41_11 : okP "PenAcresModel" 41 11 16 (.array .int) true := ⟨RX12, TX12, 20, tyX12, rfl, by decide, uw_11, wt_931, tyX12_ok, nmX12, rfl, by decide +kernel, fun h => by rfl⟩
theorem okp_M_44_11 : okP "PenAcresModel" 44 11 17 (.array .int) true := ⟨RX12, TX12, 20, tyX12, rfl, by decide, uw_11, wt_932, tyX12_ok, nmX12, rfl, by decide +kernel, fun h => by rfl⟩
theorem okp_M_47_11 : okP "PenAcresModel" 47 11 18 (.array .long) true := ⟨RX12, TX12, 20, tyX12, rfl, by decide, uw_11, wt_933, tyX12_ok, nmX12, rfl, by decide +kernel, fun h => by rfl⟩
theorem okp_M_50_11 : okP "PenAcresModel" 50 11 19 (.array .long) true := ⟨RX12, TX12, 20, tyX12, rfl, by decide, uw_11, wt_934, tyX12_ok, nmX12, rfl, by decide +kernel, fun h => by rfl⟩
theorem okn_0 : okN 0 8 := ⟨RX11, TX11, tyX11, rfl, wt_22, wt_1, uw_0, tyX11_ok, by decide +kernel⟩
theorem okn_1 : okN 1 2 := ⟨RX3, TX3, tyX3, rfl, wt_30, wt_2, uw_1, tyX3_ok, by decide +kernel⟩
theorem okn_2 : okN 2 2 := ⟨RX7, TX7, tyX7, rfl, wt_48, wt_3, uw_2, tyX7_ok, by decide +kernel⟩
theorem okn_3 : okN 3 2 := ⟨RX0, TX0, tyX0, rfl, wt_58, wt_4, uw_3, tyX0_ok, by decide +kernel⟩
theorem okn_4 : okN 4 2 := ⟨RX8, TX8, tyX8, rfl, wt_68, wt_5, uw_4, tyX8_ok, by decide +kernel⟩
theorem okn_5 : okN 5 2 := ⟨RX4, TX4, tyX4, rfl, wt_78, wt_6, uw_5, tyX4_ok, by decide +kernel⟩
theorem okn_6 : okN 6 2 := ⟨RX6, TX6, tyX6, rfl, wt_88, wt_7, uw_6, tyX6_ok, by decide +kernel⟩
theorem okn_7 : okN 7 11 := ⟨RX2, TX2, tyX2, rfl, wt_105, wt_9, uw_7, tyX2_ok, by decide +kernel⟩
theorem okn_8 : okN 8 6 := ⟨RX5, TX5, tyX5, rfl, wt_98, wt_8, uw_8, tyX5_ok, by decide +kernel⟩
theorem okn_9 : okN 9 6 := ⟨RX10, TX10, tyX10, rfl, wt_182, wt_10, uw_9, tyX10_ok, by decide +kernel⟩
theorem okn_10 : okN 10 3 := ⟨RX9, TX9, tyX9, rfl, wt_210, wt_11, uw_10, tyX9_ok, by decide +kernel⟩
theorem okn_11 : okN 11 20 := ⟨RX12, TX12, tyX12, rfl, wt_910, wt_12, uw_11, tyX12_ok, by decide +kernel⟩
