section
-- ===== PART A: goes FIRST, ahead of the names: the tables' words, and 'selects' of the private methods out of them =====
/-- a private method of a class that the tables say can be made, by its rows of tables_1 -/
def lw_okq (q : MethodName × Nat) : Prop := (q.1.cls ≠ "java/lang/invoke/MethodHandle" ∧ q.1.cls ≠ "java/lang/invoke/VarHandle") ∧ Cond.instantiable q.1.cls q.2 ∈ tables_1 ∧ Cond.privateMethod q.1 ∈ tables_1 ∧ Cond.instanceMethod q.1 ∈ tables_1
theorem lw_p0 : lw_okq (⟨"PenAcres", "finding", "(I)I"⟩, 8) := ⟨⟨by decide +kernel, by decide +kernel⟩, List.mem_of_getElem? (i := 22) (by decide +kernel), List.mem_of_getElem? (i := 265) (by decide +kernel), List.mem_of_getElem? (i := 266) (by decide +kernel)⟩
theorem lw_p1 : lw_okq (⟨"PenAcres$Land", "stakeClaims", "()V"⟩, 6) := ⟨⟨by decide +kernel, by decide +kernel⟩, List.mem_of_getElem? (i := 98) (by decide +kernel), List.mem_of_getElem? (i := 318) (by decide +kernel), List.mem_of_getElem? (i := 319) (by decide +kernel)⟩
theorem lw_p2 : lw_okq (⟨"PenAcres$Land", "shareOf", "(I)J"⟩, 6) := ⟨⟨by decide +kernel, by decide +kernel⟩, List.mem_of_getElem? (i := 98) (by decide +kernel), List.mem_of_getElem? (i := 326) (by decide +kernel), List.mem_of_getElem? (i := 327) (by decide +kernel)⟩
theorem lw_p3 : lw_okq (⟨"PenAcres$Land", "goesBefore", "(II)Z"⟩, 6) := ⟨⟨by decide +kernel, by decide +kernel⟩, List.mem_of_getElem? (i := 98) (by decide +kernel), List.mem_of_getElem? (i := 330) (by decide +kernel), List.mem_of_getElem? (i := 331) (by decide +kernel)⟩
theorem lw_p4 : lw_okq (⟨"PenAcres", "onTrial", "(I)LPenAcres$Hand;"⟩, 8) := ⟨⟨by decide +kernel, by decide +kernel⟩, List.mem_of_getElem? (i := 22) (by decide +kernel), List.mem_of_getElem? (i := 601) (by decide +kernel), List.mem_of_getElem? (i := 602) (by decide +kernel)⟩
theorem lw_p5 : lw_okq (⟨"PenAcres$Tape", "goOn", "()V"⟩, 6) := ⟨⟨by decide +kernel, by decide +kernel⟩, List.mem_of_getElem? (i := 182) (by decide +kernel), List.mem_of_getElem? (i := 699) (by decide +kernel), List.mem_of_getElem? (i := 700) (by decide +kernel)⟩
theorem lw_p6 : lw_okq (⟨"PenAcres$Tape", "byteAt", "(I)C"⟩, 6) := ⟨⟨by decide +kernel, by decide +kernel⟩, List.mem_of_getElem? (i := 182) (by decide +kernel), List.mem_of_getElem? (i := 703) (by decide +kernel), List.mem_of_getElem? (i := 704) (by decide +kernel)⟩
theorem lw_p7 : lw_okq (⟨"PenAcres$Tape", "goOverWord", "()V"⟩, 6) := ⟨⟨by decide +kernel, by decide +kernel⟩, List.mem_of_getElem? (i := 182) (by decide +kernel), List.mem_of_getElem? (i := 710) (by decide +kernel), List.mem_of_getElem? (i := 711) (by decide +kernel)⟩
theorem lw_p8 : lw_okq (⟨"PenAcres$Tape", "goOverNumber", "()V"⟩, 6) := ⟨⟨by decide +kernel, by decide +kernel⟩, List.mem_of_getElem? (i := 182) (by decide +kernel), List.mem_of_getElem? (i := 717) (by decide +kernel), List.mem_of_getElem? (i := 718) (by decide +kernel)⟩
theorem lw_p9 : lw_okq (⟨"PenAcres$Tape", "takeItem", "(LPenAcres$Land;[LPenAcres$HandKind;)Z"⟩, 6) := ⟨⟨by decide +kernel, by decide +kernel⟩, List.mem_of_getElem? (i := 182) (by decide +kernel), List.mem_of_getElem? (i := 722) (by decide +kernel), List.mem_of_getElem? (i := 723) (by decide +kernel)⟩
theorem lw_p10 : lw_okq (⟨"PenAcres$Tape", "isWord", "(Ljava/lang/String;)Z"⟩, 6) := ⟨⟨by decide +kernel, by decide +kernel⟩, List.mem_of_getElem? (i := 182) (by decide +kernel), List.mem_of_getElem? (i := 727) (by decide +kernel), List.mem_of_getElem? (i := 728) (by decide +kernel)⟩
theorem lw_p11 : lw_okq (⟨"PenAcres$Tape", "takeSmudge", "(LPenAcres$Land;Z)Z"⟩, 6) := ⟨⟨by decide +kernel, by decide +kernel⟩, List.mem_of_getElem? (i := 182) (by decide +kernel), List.mem_of_getElem? (i := 779) (by decide +kernel), List.mem_of_getElem? (i := 780) (by decide +kernel)⟩
theorem lw_p12 : lw_okq (⟨"PenAcres$Tape", "isNumber", "(II)Z"⟩, 6) := ⟨⟨by decide +kernel, by decide +kernel⟩, List.mem_of_getElem? (i := 182) (by decide +kernel), List.mem_of_getElem? (i := 783) (by decide +kernel), List.mem_of_getElem? (i := 784) (by decide +kernel)⟩
theorem lw_p13 : lw_okq (⟨"PenAcres$Tape", "kindNamed", "([LPenAcres$HandKind;)LPenAcres$HandKind;"⟩, 6) := ⟨⟨by decide +kernel, by decide +kernel⟩, List.mem_of_getElem? (i := 182) (by decide +kernel), List.mem_of_getElem? (i := 789) (by decide +kernel), List.mem_of_getElem? (i := 790) (by decide +kernel)⟩
theorem lw_p14 : lw_okq (⟨"PenAcres$Tape", "takeHand", "(LPenAcres$Land;LPenAcres$HandKind;)Z"⟩, 6) := ⟨⟨by decide +kernel, by decide +kernel⟩, List.mem_of_getElem? (i := 182) (by decide +kernel), List.mem_of_getElem? (i := 794) (by decide +kernel), List.mem_of_getElem? (i := 795) (by decide +kernel)⟩
theorem lw_p15 : lw_okq (⟨"PenAcres$Tape", "takeInk", "(LPenAcres$Hand;)Z"⟩, 6) := ⟨⟨by decide +kernel, by decide +kernel⟩, List.mem_of_getElem? (i := 182) (by decide +kernel), List.mem_of_getElem? (i := 800) (by decide +kernel), List.mem_of_getElem? (i := 801) (by decide +kernel)⟩
def lw_privs_1 : List (MethodName × Nat) := [(⟨"PenAcres", "finding", "(I)I"⟩, 8), (⟨"PenAcres$Land", "stakeClaims", "()V"⟩, 6), (⟨"PenAcres$Land", "shareOf", "(I)J"⟩, 6), (⟨"PenAcres$Land", "goesBefore", "(II)Z"⟩, 6), (⟨"PenAcres", "onTrial", "(I)LPenAcres$Hand;"⟩, 8), (⟨"PenAcres$Tape", "goOn", "()V"⟩, 6), (⟨"PenAcres$Tape", "byteAt", "(I)C"⟩, 6), (⟨"PenAcres$Tape", "goOverWord", "()V"⟩, 6), (⟨"PenAcres$Tape", "goOverNumber", "()V"⟩, 6), (⟨"PenAcres$Tape", "takeItem", "(LPenAcres$Land;[LPenAcres$HandKind;)Z"⟩, 6), (⟨"PenAcres$Tape", "isWord", "(Ljava/lang/String;)Z"⟩, 6), (⟨"PenAcres$Tape", "takeSmudge", "(LPenAcres$Land;Z)Z"⟩, 6), (⟨"PenAcres$Tape", "isNumber", "(II)Z"⟩, 6), (⟨"PenAcres$Tape", "kindNamed", "([LPenAcres$HandKind;)LPenAcres$HandKind;"⟩, 6), (⟨"PenAcres$Tape", "takeHand", "(LPenAcres$Land;LPenAcres$HandKind;)Z"⟩, 6), (⟨"PenAcres$Tape", "takeInk", "(LPenAcres$Hand;)Z"⟩, 6)]
theorem lw_r1 : ∀ q ∈ lw_privs_1, lw_okq q := List.forall_mem_cons.mpr ⟨lw_p0, List.forall_mem_cons.mpr ⟨lw_p1, List.forall_mem_cons.mpr ⟨lw_p2, List.forall_mem_cons.mpr ⟨lw_p3, List.forall_mem_cons.mpr ⟨lw_p4, List.forall_mem_cons.mpr ⟨lw_p5, List.forall_mem_cons.mpr ⟨lw_p6, List.forall_mem_cons.mpr ⟨lw_p7, List.forall_mem_cons.mpr ⟨lw_p8, List.forall_mem_cons.mpr ⟨lw_p9, List.forall_mem_cons.mpr ⟨lw_p10, List.forall_mem_cons.mpr ⟨lw_p11, List.forall_mem_cons.mpr ⟨lw_p12, List.forall_mem_cons.mpr ⟨lw_p13, List.forall_mem_cons.mpr ⟨lw_p14, List.forall_mem_cons.mpr ⟨lw_p15, fun _ h => absurd h List.not_mem_nil⟩⟩⟩⟩⟩⟩⟩⟩⟩⟩⟩⟩⟩⟩⟩⟩
theorem lw_p16 : lw_okq (⟨"PenAcres$Tape", "takeStrokes", "(LPenAcres$Hand;)Z"⟩, 6) := ⟨⟨by decide +kernel, by decide +kernel⟩, List.mem_of_getElem? (i := 182) (by decide +kernel), List.mem_of_getElem? (i := 805) (by decide +kernel), List.mem_of_getElem? (i := 806) (by decide +kernel)⟩
theorem lw_p17 : lw_okq (⟨"PenAcres$Tape", "wayNamed", "()I"⟩, 6) := ⟨⟨by decide +kernel, by decide +kernel⟩, List.mem_of_getElem? (i := 182) (by decide +kernel), List.mem_of_getElem? (i := 809) (by decide +kernel), List.mem_of_getElem? (i := 810) (by decide +kernel)⟩
theorem lw_p18 : lw_okq (⟨"PenAcres", "sheetOf", "(I)LPenAcres$Sheet;"⟩, 8) := ⟨⟨by decide +kernel, by decide +kernel⟩, List.mem_of_getElem? (i := 22) (by decide +kernel), List.mem_of_getElem? (i := 822) (by decide +kernel), List.mem_of_getElem? (i := 823) (by decide +kernel)⟩
theorem lw_p19 : lw_okq (⟨"PenAcres$Sheet", "lowestBits", "(J)J"⟩, 3) := ⟨⟨by decide +kernel, by decide +kernel⟩, List.mem_of_getElem? (i := 210) (by decide +kernel), List.mem_of_getElem? (i := 847) (by decide +kernel), List.mem_of_getElem? (i := 848) (by decide +kernel)⟩
theorem lw_p20 : lw_okq (⟨"PenAcres", "tells", "(LPenAcres$Sheet;ILPenAcres$HandKind;I)Z"⟩, 8) := ⟨⟨by decide +kernel, by decide +kernel⟩, List.mem_of_getElem? (i := 22) (by decide +kernel), List.mem_of_getElem? (i := 873) (by decide +kernel), List.mem_of_getElem? (i := 874) (by decide +kernel)⟩
theorem lw_p21 : lw_okq (⟨"PenAcresModel", "becomes", "(II)I"⟩, 20) := ⟨⟨by decide +kernel, by decide +kernel⟩, List.mem_of_getElem? (i := 905) (by decide +kernel), List.mem_of_getElem? (i := 983) (by decide +kernel), List.mem_of_getElem? (i := 984) (by decide +kernel)⟩
theorem lw_p22 : lw_okq (⟨"PenAcresModel", "finds", "(I)I"⟩, 20) := ⟨⟨by decide +kernel, by decide +kernel⟩, List.mem_of_getElem? (i := 905) (by decide +kernel), List.mem_of_getElem? (i := 988) (by decide +kernel), List.mem_of_getElem? (i := 989) (by decide +kernel)⟩
theorem lw_p23 : lw_okq (⟨"PenAcresModel", "writeAll", "()V"⟩, 20) := ⟨⟨by decide +kernel, by decide +kernel⟩, List.mem_of_getElem? (i := 905) (by decide +kernel), List.mem_of_getElem? (i := 997) (by decide +kernel), List.mem_of_getElem? (i := 998) (by decide +kernel)⟩
theorem lw_p24 : lw_okq (⟨"PenAcresModel", "smudges", "()J"⟩, 20) := ⟨⟨by decide +kernel, by decide +kernel⟩, List.mem_of_getElem? (i := 905) (by decide +kernel), List.mem_of_getElem? (i := 1001) (by decide +kernel), List.mem_of_getElem? (i := 1002) (by decide +kernel)⟩
theorem lw_p25 : lw_okq (⟨"PenAcresModel", "draws", "(IJ)V"⟩, 20) := ⟨⟨by decide +kernel, by decide +kernel⟩, List.mem_of_getElem? (i := 905) (by decide +kernel), List.mem_of_getElem? (i := 1005) (by decide +kernel), List.mem_of_getElem? (i := 1006) (by decide +kernel)⟩
theorem lw_p26 : lw_okq (⟨"PenAcresModel", "its", "(II)I"⟩, 20) := ⟨⟨by decide +kernel, by decide +kernel⟩, List.mem_of_getElem? (i := 905) (by decide +kernel), List.mem_of_getElem? (i := 1009) (by decide +kernel), List.mem_of_getElem? (i := 1010) (by decide +kernel)⟩
theorem lw_p27 : lw_okq (⟨"PenAcresModel", "turned", "(II)I"⟩, 20) := ⟨⟨by decide +kernel, by decide +kernel⟩, List.mem_of_getElem? (i := 905) (by decide +kernel), List.mem_of_getElem? (i := 1016) (by decide +kernel), List.mem_of_getElem? (i := 1017) (by decide +kernel)⟩
theorem lw_p28 : lw_okq (⟨"PenAcresModel", "stepsOf", "(II)I"⟩, 20) := ⟨⟨by decide +kernel, by decide +kernel⟩, List.mem_of_getElem? (i := 905) (by decide +kernel), List.mem_of_getElem? (i := 1020) (by decide +kernel), List.mem_of_getElem? (i := 1021) (by decide +kernel)⟩
theorem lw_p29 : lw_okq (⟨"PenAcresModel", "ownerOf", "(I)I"⟩, 20) := ⟨⟨by decide +kernel, by decide +kernel⟩, List.mem_of_getElem? (i := 905) (by decide +kernel), List.mem_of_getElem? (i := 1038) (by decide +kernel), List.mem_of_getElem? (i := 1039) (by decide +kernel)⟩
theorem lw_p30 : lw_okq (⟨"PenAcresModel", "writes", "(I)Z"⟩, 20) := ⟨⟨by decide +kernel, by decide +kernel⟩, List.mem_of_getElem? (i := 905) (by decide +kernel), List.mem_of_getElem? (i := 1042) (by decide +kernel), List.mem_of_getElem? (i := 1043) (by decide +kernel)⟩
theorem lw_p31 : lw_okq (⟨"PenAcresModel", "thoseWith", "(IZ)I"⟩, 20) := ⟨⟨by decide +kernel, by decide +kernel⟩, List.mem_of_getElem? (i := 905) (by decide +kernel), List.mem_of_getElem? (i := 1046) (by decide +kernel), List.mem_of_getElem? (i := 1047) (by decide +kernel)⟩
def lw_privs_2 : List (MethodName × Nat) := [(⟨"PenAcres$Tape", "takeStrokes", "(LPenAcres$Hand;)Z"⟩, 6), (⟨"PenAcres$Tape", "wayNamed", "()I"⟩, 6), (⟨"PenAcres", "sheetOf", "(I)LPenAcres$Sheet;"⟩, 8), (⟨"PenAcres$Sheet", "lowestBits", "(J)J"⟩, 3), (⟨"PenAcres", "tells", "(LPenAcres$Sheet;ILPenAcres$HandKind;I)Z"⟩, 8), (⟨"PenAcresModel", "becomes", "(II)I"⟩, 20), (⟨"PenAcresModel", "finds", "(I)I"⟩, 20), (⟨"PenAcresModel", "writeAll", "()V"⟩, 20), (⟨"PenAcresModel", "smudges", "()J"⟩, 20), (⟨"PenAcresModel", "draws", "(IJ)V"⟩, 20), (⟨"PenAcresModel", "its", "(II)I"⟩, 20), (⟨"PenAcresModel", "turned", "(II)I"⟩, 20), (⟨"PenAcresModel", "stepsOf", "(II)I"⟩, 20), (⟨"PenAcresModel", "ownerOf", "(I)I"⟩, 20), (⟨"PenAcresModel", "writes", "(I)Z"⟩, 20), (⟨"PenAcresModel", "thoseWith", "(IZ)I"⟩, 20)]
theorem lw_r2 : ∀ q ∈ lw_privs_2, lw_okq q := List.forall_mem_cons.mpr ⟨lw_p16, List.forall_mem_cons.mpr ⟨lw_p17, List.forall_mem_cons.mpr ⟨lw_p18, List.forall_mem_cons.mpr ⟨lw_p19, List.forall_mem_cons.mpr ⟨lw_p20, List.forall_mem_cons.mpr ⟨lw_p21, List.forall_mem_cons.mpr ⟨lw_p22, List.forall_mem_cons.mpr ⟨lw_p23, List.forall_mem_cons.mpr ⟨lw_p24, List.forall_mem_cons.mpr ⟨lw_p25, List.forall_mem_cons.mpr ⟨lw_p26, List.forall_mem_cons.mpr ⟨lw_p27, List.forall_mem_cons.mpr ⟨lw_p28, List.forall_mem_cons.mpr ⟨lw_p29, List.forall_mem_cons.mpr ⟨lw_p30, List.forall_mem_cons.mpr ⟨lw_p31, fun _ h => absurd h List.not_mem_nil⟩⟩⟩⟩⟩⟩⟩⟩⟩⟩⟩⟩⟩⟩⟩⟩
theorem lw_p32 : lw_okq (⟨"PenAcresModel", "writersInside", "(I)I"⟩, 20) := ⟨⟨by decide +kernel, by decide +kernel⟩, List.mem_of_getElem? (i := 905) (by decide +kernel), List.mem_of_getElem? (i := 1055) (by decide +kernel), List.mem_of_getElem? (i := 1056) (by decide +kernel)⟩
theorem lw_p33 : lw_okq (⟨"PenAcresModel", "adds", "(II)I"⟩, 20) := ⟨⟨by decide +kernel, by decide +kernel⟩, List.mem_of_getElem? (i := 905) (by decide +kernel), List.mem_of_getElem? (i := 1068) (by decide +kernel), List.mem_of_getElem? (i := 1069) (by decide +kernel)⟩
theorem lw_p34 : lw_okq (⟨"PenAcresModel", "isHand", "(I)Z"⟩, 20) := ⟨⟨by decide +kernel, by decide +kernel⟩, List.mem_of_getElem? (i := 905) (by decide +kernel), List.mem_of_getElem? (i := 1076) (by decide +kernel), List.mem_of_getElem? (i := 1077) (by decide +kernel)⟩
theorem lw_p35 : lw_okq (⟨"PenAcresModel", "strokes", "(III)I"⟩, 20) := ⟨⟨by decide +kernel, by decide +kernel⟩, List.mem_of_getElem? (i := 905) (by decide +kernel), List.mem_of_getElem? (i := 1084) (by decide +kernel), List.mem_of_getElem? (i := 1085) (by decide +kernel)⟩
theorem lw_p36 : lw_okq (⟨"PenAcresModel", "ownedBy", "(I)I"⟩, 20) := ⟨⟨by decide +kernel, by decide +kernel⟩, List.mem_of_getElem? (i := 905) (by decide +kernel), List.mem_of_getElem? (i := 1096) (by decide +kernel), List.mem_of_getElem? (i := 1097) (by decide +kernel)⟩
theorem lw_p37 : lw_okq (⟨"PenAcresModel", "cropOf", "(I)I"⟩, 20) := ⟨⟨by decide +kernel, by decide +kernel⟩, List.mem_of_getElem? (i := 905) (by decide +kernel), List.mem_of_getElem? (i := 1100) (by decide +kernel), List.mem_of_getElem? (i := 1101) (by decide +kernel)⟩
theorem lw_p38 : lw_okq (⟨"PenAcresModel", "isStroke", "(II)Z"⟩, 20) := ⟨⟨by decide +kernel, by decide +kernel⟩, List.mem_of_getElem? (i := 905) (by decide +kernel), List.mem_of_getElem? (i := 1108) (by decide +kernel), List.mem_of_getElem? (i := 1109) (by decide +kernel)⟩
theorem lw_p39 : lw_okq (⟨"PenAcresModel", "goesOn", "(I)V"⟩, 20) := ⟨⟨by decide +kernel, by decide +kernel⟩, List.mem_of_getElem? (i := 905) (by decide +kernel), List.mem_of_getElem? (i := 1151) (by decide +kernel), List.mem_of_getElem? (i := 1152) (by decide +kernel)⟩
theorem lw_p40 : lw_okq (⟨"PenAcresModel", "year", "()V"⟩, 20) := ⟨⟨by decide +kernel, by decide +kernel⟩, List.mem_of_getElem? (i := 905) (by decide +kernel), List.mem_of_getElem? (i := 1155) (by decide +kernel), List.mem_of_getElem? (i := 1156) (by decide +kernel)⟩
theorem lw_p41 : lw_okq (⟨"PenAcresModel", "together", "(I)I"⟩, 20) := ⟨⟨by decide +kernel, by decide +kernel⟩, List.mem_of_getElem? (i := 905) (by decide +kernel), List.mem_of_getElem? (i := 1160) (by decide +kernel), List.mem_of_getElem? (i := 1161) (by decide +kernel)⟩
theorem lw_p42 : lw_okq (⟨"PenAcresModel", "thoseThatWrite", "()I"⟩, 20) := ⟨⟨by decide +kernel, by decide +kernel⟩, List.mem_of_getElem? (i := 905) (by decide +kernel), List.mem_of_getElem? (i := 1168) (by decide +kernel), List.mem_of_getElem? (i := 1169) (by decide +kernel)⟩
theorem lw_p43 : lw_okq (⟨"PenAcresModel", "laysAside", "()V"⟩, 20) := ⟨⟨by decide +kernel, by decide +kernel⟩, List.mem_of_getElem? (i := 905) (by decide +kernel), List.mem_of_getElem? (i := 1176) (by decide +kernel), List.mem_of_getElem? (i := 1177) (by decide +kernel)⟩
theorem lw_p44 : lw_okq (⟨"PenAcresModel", "ownsNow", "(I)I"⟩, 20) := ⟨⟨by decide +kernel, by decide +kernel⟩, List.mem_of_getElem? (i := 905) (by decide +kernel), List.mem_of_getElem? (i := 1180) (by decide +kernel), List.mem_of_getElem? (i := 1181) (by decide +kernel)⟩
theorem lw_p45 : lw_okq (⟨"PenAcresModel", "takesBack", "(I)I"⟩, 20) := ⟨⟨by decide +kernel, by decide +kernel⟩, List.mem_of_getElem? (i := 905) (by decide +kernel), List.mem_of_getElem? (i := 1184) (by decide +kernel), List.mem_of_getElem? (i := 1185) (by decide +kernel)⟩
theorem lw_p46 : lw_okq (⟨"PenAcresModel", "isDry", "(I)Z"⟩, 20) := ⟨⟨by decide +kernel, by decide +kernel⟩, List.mem_of_getElem? (i := 905) (by decide +kernel), List.mem_of_getElem? (i := 1192) (by decide +kernel), List.mem_of_getElem? (i := 1193) (by decide +kernel)⟩
theorem lw_p47 : lw_okq (⟨"PenAcresModel", "richest", "()I"⟩, 20) := ⟨⟨by decide +kernel, by decide +kernel⟩, List.mem_of_getElem? (i := 905) (by decide +kernel), List.mem_of_getElem? (i := 1201) (by decide +kernel), List.mem_of_getElem? (i := 1202) (by decide +kernel)⟩
def lw_privs_3 : List (MethodName × Nat) := [(⟨"PenAcresModel", "writersInside", "(I)I"⟩, 20), (⟨"PenAcresModel", "adds", "(II)I"⟩, 20), (⟨"PenAcresModel", "isHand", "(I)Z"⟩, 20), (⟨"PenAcresModel", "strokes", "(III)I"⟩, 20), (⟨"PenAcresModel", "ownedBy", "(I)I"⟩, 20), (⟨"PenAcresModel", "cropOf", "(I)I"⟩, 20), (⟨"PenAcresModel", "isStroke", "(II)Z"⟩, 20), (⟨"PenAcresModel", "goesOn", "(I)V"⟩, 20), (⟨"PenAcresModel", "year", "()V"⟩, 20), (⟨"PenAcresModel", "together", "(I)I"⟩, 20), (⟨"PenAcresModel", "thoseThatWrite", "()I"⟩, 20), (⟨"PenAcresModel", "laysAside", "()V"⟩, 20), (⟨"PenAcresModel", "ownsNow", "(I)I"⟩, 20), (⟨"PenAcresModel", "takesBack", "(I)I"⟩, 20), (⟨"PenAcresModel", "isDry", "(I)Z"⟩, 20), (⟨"PenAcresModel", "richest", "()I"⟩, 20)]
theorem lw_r3 : ∀ q ∈ lw_privs_3, lw_okq q := List.forall_mem_cons.mpr ⟨lw_p32, List.forall_mem_cons.mpr ⟨lw_p33, List.forall_mem_cons.mpr ⟨lw_p34, List.forall_mem_cons.mpr ⟨lw_p35, List.forall_mem_cons.mpr ⟨lw_p36, List.forall_mem_cons.mpr ⟨lw_p37, List.forall_mem_cons.mpr ⟨lw_p38, List.forall_mem_cons.mpr ⟨lw_p39, List.forall_mem_cons.mpr ⟨lw_p40, List.forall_mem_cons.mpr ⟨lw_p41, List.forall_mem_cons.mpr ⟨lw_p42, List.forall_mem_cons.mpr ⟨lw_p43, List.forall_mem_cons.mpr ⟨lw_p44, List.forall_mem_cons.mpr ⟨lw_p45, List.forall_mem_cons.mpr ⟨lw_p46, List.forall_mem_cons.mpr ⟨lw_p47, fun _ h => absurd h List.not_mem_nil⟩⟩⟩⟩⟩⟩⟩⟩⟩⟩⟩⟩⟩⟩⟩⟩
theorem lw_p48 : lw_okq (⟨"PenAcresModel", "insideMany", "(I)I"⟩, 20) := ⟨⟨by decide +kernel, by decide +kernel⟩, List.mem_of_getElem? (i := 905) (by decide +kernel), List.mem_of_getElem? (i := 1209) (by decide +kernel), List.mem_of_getElem? (i := 1210) (by decide +kernel)⟩
theorem lw_p49 : lw_okq (⟨"PenAcresModel", "saves", "()V"⟩, 20) := ⟨⟨by decide +kernel, by decide +kernel⟩, List.mem_of_getElem? (i := 905) (by decide +kernel), List.mem_of_getElem? (i := 1254) (by decide +kernel), List.mem_of_getElem? (i := 1255) (by decide +kernel)⟩
theorem lw_p50 : lw_okq (⟨"PenAcresModel", "token", "()V"⟩, 20) := ⟨⟨by decide +kernel, by decide +kernel⟩, List.mem_of_getElem? (i := 905) (by decide +kernel), List.mem_of_getElem? (i := 1258) (by decide +kernel), List.mem_of_getElem? (i := 1259) (by decide +kernel)⟩
theorem lw_p51 : lw_okq (⟨"PenAcresModel", "byteAt", "(I)I"⟩, 20) := ⟨⟨by decide +kernel, by decide +kernel⟩, List.mem_of_getElem? (i := 905) (by decide +kernel), List.mem_of_getElem? (i := 1262) (by decide +kernel), List.mem_of_getElem? (i := 1263) (by decide +kernel)⟩
theorem lw_p52 : lw_okq (⟨"PenAcresModel", "item", "()V"⟩, 20) := ⟨⟨by decide +kernel, by decide +kernel⟩, List.mem_of_getElem? (i := 905) (by decide +kernel), List.mem_of_getElem? (i := 1276) (by decide +kernel), List.mem_of_getElem? (i := 1277) (by decide +kernel)⟩
theorem lw_p53 : lw_okq (⟨"PenAcresModel", "kindHere", "()I"⟩, 20) := ⟨⟨by decide +kernel, by decide +kernel⟩, List.mem_of_getElem? (i := 905) (by decide +kernel), List.mem_of_getElem? (i := 1280) (by decide +kernel), List.mem_of_getElem? (i := 1281) (by decide +kernel)⟩
theorem lw_p54 : lw_okq (⟨"PenAcresModel", "word", "()J"⟩, 20) := ⟨⟨by decide +kernel, by decide +kernel⟩, List.mem_of_getElem? (i := 905) (by decide +kernel), List.mem_of_getElem? (i := 1284) (by decide +kernel), List.mem_of_getElem? (i := 1285) (by decide +kernel)⟩
theorem lw_p55 : lw_okq (⟨"PenAcresModel", "handItem", "(I)V"⟩, 20) := ⟨⟨by decide +kernel, by decide +kernel⟩, List.mem_of_getElem? (i := 905) (by decide +kernel), List.mem_of_getElem? (i := 1296) (by decide +kernel), List.mem_of_getElem? (i := 1297) (by decide +kernel)⟩
theorem lw_p56 : lw_okq (⟨"PenAcresModel", "must", "(Z)V"⟩, 20) := ⟨⟨by decide +kernel, by decide +kernel⟩, List.mem_of_getElem? (i := 905) (by decide +kernel), List.mem_of_getElem? (i := 1300) (by decide +kernel), List.mem_of_getElem? (i := 1301) (by decide +kernel)⟩
theorem lw_p57 : lw_okq (⟨"PenAcresModel", "number", "(II)V"⟩, 20) := ⟨⟨by decide +kernel, by decide +kernel⟩, List.mem_of_getElem? (i := 905) (by decide +kernel), List.mem_of_getElem? (i := 1305) (by decide +kernel), List.mem_of_getElem? (i := 1306) (by decide +kernel)⟩
theorem lw_p58 : lw_okq (⟨"PenAcresModel", "wayHere", "()I"⟩, 20) := ⟨⟨by decide +kernel, by decide +kernel⟩, List.mem_of_getElem? (i := 905) (by decide +kernel), List.mem_of_getElem? (i := 1310) (by decide +kernel), List.mem_of_getElem? (i := 1311) (by decide +kernel)⟩
theorem lw_p59 : lw_okq (⟨"PenAcresModel", "putsBack", "()V"⟩, 20) := ⟨⟨by decide +kernel, by decide +kernel⟩, List.mem_of_getElem? (i := 905) (by decide +kernel), List.mem_of_getElem? (i := 1320) (by decide +kernel), List.mem_of_getElem? (i := 1321) (by decide +kernel)⟩
theorem lw_p60 : lw_okq (⟨"PenAcresModel", "wrong", "(I)I"⟩, 20) := ⟨⟨by decide +kernel, by decide +kernel⟩, List.mem_of_getElem? (i := 905) (by decide +kernel), List.mem_of_getElem? (i := 1336) (by decide +kernel), List.mem_of_getElem? (i := 1337) (by decide +kernel)⟩
theorem lw_p61 : lw_okq (⟨"PenAcresModel", "isBook", "(II)Z"⟩, 20) := ⟨⟨by decide +kernel, by decide +kernel⟩, List.mem_of_getElem? (i := 905) (by decide +kernel), List.mem_of_getElem? (i := 1360) (by decide +kernel), List.mem_of_getElem? (i := 1361) (by decide +kernel)⟩
theorem lw_p62 : lw_okq (⟨"PenAcresModel", "costsAll", "()I"⟩, 20) := ⟨⟨by decide +kernel, by decide +kernel⟩, List.mem_of_getElem? (i := 905) (by decide +kernel), List.mem_of_getElem? (i := 1380) (by decide +kernel), List.mem_of_getElem? (i := 1381) (by decide +kernel)⟩
def lw_privs_4 : List (MethodName × Nat) := [(⟨"PenAcresModel", "insideMany", "(I)I"⟩, 20), (⟨"PenAcresModel", "saves", "()V"⟩, 20), (⟨"PenAcresModel", "token", "()V"⟩, 20), (⟨"PenAcresModel", "byteAt", "(I)I"⟩, 20), (⟨"PenAcresModel", "item", "()V"⟩, 20), (⟨"PenAcresModel", "kindHere", "()I"⟩, 20), (⟨"PenAcresModel", "word", "()J"⟩, 20), (⟨"PenAcresModel", "handItem", "(I)V"⟩, 20), (⟨"PenAcresModel", "must", "(Z)V"⟩, 20), (⟨"PenAcresModel", "number", "(II)V"⟩, 20), (⟨"PenAcresModel", "wayHere", "()I"⟩, 20), (⟨"PenAcresModel", "putsBack", "()V"⟩, 20), (⟨"PenAcresModel", "wrong", "(I)I"⟩, 20), (⟨"PenAcresModel", "isBook", "(II)Z"⟩, 20), (⟨"PenAcresModel", "costsAll", "()I"⟩, 20)]
theorem lw_r4 : ∀ q ∈ lw_privs_4, lw_okq q := List.forall_mem_cons.mpr ⟨lw_p48, List.forall_mem_cons.mpr ⟨lw_p49, List.forall_mem_cons.mpr ⟨lw_p50, List.forall_mem_cons.mpr ⟨lw_p51, List.forall_mem_cons.mpr ⟨lw_p52, List.forall_mem_cons.mpr ⟨lw_p53, List.forall_mem_cons.mpr ⟨lw_p54, List.forall_mem_cons.mpr ⟨lw_p55, List.forall_mem_cons.mpr ⟨lw_p56, List.forall_mem_cons.mpr ⟨lw_p57, List.forall_mem_cons.mpr ⟨lw_p58, List.forall_mem_cons.mpr ⟨lw_p59, List.forall_mem_cons.mpr ⟨lw_p60, List.forall_mem_cons.mpr ⟨lw_p61, List.forall_mem_cons.mpr ⟨lw_p62, fun _ h => absurd h List.not_mem_nil⟩⟩⟩⟩⟩⟩⟩⟩⟩⟩⟩⟩⟩⟩⟩
def lw_privs : List (MethodName × Nat) := lw_privs_1 ++ (lw_privs_2 ++ (lw_privs_3 ++ (lw_privs_4)))
def lw_tbl : List Cond := k2_sels lw_privs ++ tables_1
theorem lw_privs_ok : ∀ q ∈ lw_privs, lw_okq q := by
  show ∀ q ∈ lw_privs_1 ++ (lw_privs_2 ++ (lw_privs_3 ++ (lw_privs_4))), lw_okq q
  exact List.forall_mem_append.mpr ⟨lw_r1, List.forall_mem_append.mpr ⟨lw_r2, List.forall_mem_append.mpr ⟨lw_r3, lw_r4⟩⟩⟩
end
section
def RX0 : String := "PenAcres$DukeKind"
def TX0 : u_T := fun k => match k with
  | 0 => ("PenAcres$HandKind", "number", "I", true)
  | _ => ("PenAcres$HandKind", "word", "Ljava/lang/String;", true)
def tyX0 : Nat → FieldType := fun k => match k with
  | 0 => .int
  | _ => .object "java/lang/String"
abbrev wsX00 : List Cond := u_ws RX0 TX0 2
theorem nmX0 : ∀ a, a < 2 → ∀ b, b < 2 → a ≠ b → (TX0 a).2.1 ≠ (TX0 b).2.1 := by decide +kernel
theorem tyX0_ok : ∀ k, k < 2 → parseFieldDescriptor (TX0 k).2.2.1 = some (tyX0 k) := by decide +kernel
abbrev cX0_init : ByteArray := prog_2_method_1_code
def yX0_init : MethodName := ⟨RX0, "<init>", "(ILjava/lang/String;)V"⟩
abbrev cX0_isOf : ByteArray := prog_2_method_2_code
def yX0_isOf : MethodName := ⟨RX0, "isOf", "(I)Z"⟩
abbrev cX0_steps : ByteArray := prog_2_method_3_code
def yX0_steps : MethodName := ⟨RX0, "steps", "(II)I"⟩
def RX1 : String := "PenAcres$Grid"
def TX1 : u_T := fun k => match k with
  | _ => ("", "", "", false)
def tyX1 : Nat → FieldType := fun k => match k with
  | _ => .int
abbrev wsX10 : List Cond := u_ws RX1 TX1 0
theorem nmX1 : ∀ a, a < 0 → ∀ b, b < 0 → a ≠ b → (TX1 a).2.1 ≠ (TX1 b).2.1 := by decide +kernel
theorem tyX1_ok : ∀ k, k < 0 → parseFieldDescriptor (TX1 k).2.2.1 = some (tyX1 k) := by decide +kernel
abbrev cX1_bit : ByteArray := prog_3_method_2_code
def yX1_bit : MethodName := ⟨RX1, "bit", "(I)J"⟩
abbrev cX1_stepFrom : ByteArray := prog_3_method_3_code
def yX1_stepFrom : MethodName := ⟨RX1, "stepFrom", "(II)I"⟩
abbrev cX1_withBeside : ByteArray := prog_3_method_4_code
def yX1_withBeside : MethodName := ⟨RX1, "withBeside", "(J)J"⟩
abbrev cX1_enclosedBy : ByteArray := prog_3_method_5_code
def yX1_enclosedBy : MethodName := ⟨RX1, "enclosedBy", "(J)J"⟩
abbrev cX1_fewestSteps : ByteArray := prog_3_method_6_code
def yX1_fewestSteps : MethodName := ⟨RX1, "fewestSteps", "(JII)I"⟩
def RX2 : String := "PenAcres$Hand"
def TX2 : u_T := fun k => match k with
  | 0 => ("PenAcres$Hand", "kind", "LPenAcres$HandKind;", false)
  | 1 => ("PenAcres$Hand", "at", "I", false)
  | 2 => ("PenAcres$Hand", "ink", "I", false)
  | 3 => ("PenAcres$Hand", "corn", "I", false)
  | 4 => ("PenAcres$Hand", "strokes", "I", false)
  | 5 => ("PenAcres$Hand", "ways", "[I", true)
  | 6 => ("PenAcres$Hand", "lengths", "[I", true)
  | 7 => ("PenAcres$Hand", "path", "J", false)
  | 8 => ("PenAcres$Hand", "cost", "I", false)
  | 9 => ("PenAcres$Hand", "lineSeen", "J", false)
  | _ => ("PenAcres$Hand", "insideSeen", "J", false)
def tyX2 : Nat → FieldType := fun k => match k with
  | 0 => .object "PenAcres$HandKind"
  | 1 => .int
  | 2 => .int
  | 3 => .int
  | 4 => .int
  | 5 => .array .int
  | 6 => .array .int
  | 7 => .long
  | 8 => .int
  | 9 => .long
  | _ => .long
abbrev wsX20 : List Cond := u_ws RX2 TX2 11
theorem nmX2 : ∀ a, a < 11 → ∀ b, b < 11 → a ≠ b → (TX2 a).2.1 ≠ (TX2 b).2.1 := by decide +kernel
theorem tyX2_ok : ∀ k, k < 11 → parseFieldDescriptor (TX2 k).2.2.1 = some (tyX2 k) := by decide +kernel
abbrev cX2_init : ByteArray := prog_4_method_1_code
def yX2_init : MethodName := ⟨RX2, "<init>", "(LPenAcres$HandKind;)V"⟩
abbrev cX2_startAnew : ByteArray := prog_4_method_2_code
def yX2_startAnew : MethodName := ⟨RX2, "startAnew", "(LPenAcres$HandKind;I)V"⟩
abbrev cX2_takeFrom : ByteArray := prog_4_method_3_code
def yX2_takeFrom : MethodName := ⟨RX2, "takeFrom", "(LPenAcres$Hand;)V"⟩
abbrev cX2_hasStroke : ByteArray := prog_4_method_4_code
def yX2_hasStroke : MethodName := ⟨RX2, "hasStroke", "(I)Z"⟩
abbrev cX2_addStroke : ByteArray := prog_4_method_5_code
def yX2_addStroke : MethodName := ⟨RX2, "addStroke", "(II)Z"⟩
abbrev cX2_moveTo : ByteArray := prog_4_method_6_code
def yX2_moveTo : MethodName := ⟨RX2, "moveTo", "(I)V"⟩
abbrev cX2_become : ByteArray := prog_4_method_7_code
def yX2_become : MethodName := ⟨RX2, "become", "(LPenAcres$HandKind;)V"⟩
abbrev cX2_trace : ByteArray := prog_4_method_8_code
def yX2_trace : MethodName := ⟨RX2, "trace", "()V"⟩
abbrev cX2_writes : ByteArray := prog_4_method_9_code
def yX2_writes : MethodName := ⟨RX2, "writes", "()Z"⟩
abbrev cX2_lineUnder : ByteArray := prog_4_method_10_code
def yX2_lineUnder : MethodName := ⟨RX2, "lineUnder", "(J)J"⟩
abbrev cX2_insideUnder : ByteArray := prog_4_method_11_code
def yX2_insideUnder : MethodName := ⟨RX2, "insideUnder", "(J)J"⟩
abbrev cX2_howManyInside : ByteArray := prog_4_method_12_code
def yX2_howManyInside : MethodName := ⟨RX2, "howManyInside", "(J)I"⟩
abbrev cX2_howManyInsideWithLonger : ByteArray := prog_4_method_13_code
def yX2_howManyInsideWithLonger : MethodName := ⟨RX2, "howManyInsideWithLonger", "(IJ)I"⟩
abbrev cX2_goYear : ByteArray := prog_4_method_14_code
def yX2_goYear : MethodName := ⟨RX2, "goYear", "(I)V"⟩
def RX3 : String := "PenAcres$HandKind"
def TX3 : u_T := fun k => match k with
  | 0 => ("PenAcres$HandKind", "number", "I", true)
  | _ => ("PenAcres$HandKind", "word", "Ljava/lang/String;", true)
def tyX3 : Nat → FieldType := fun k => match k with
  | 0 => .int
  | _ => .object "java/lang/String"
abbrev wsX30 : List Cond := u_ws RX3 TX3 2
theorem nmX3 : ∀ a, a < 2 → ∀ b, b < 2 → a ≠ b → (TX3 a).2.1 ≠ (TX3 b).2.1 := by decide +kernel
theorem tyX3_ok : ∀ k, k < 2 → parseFieldDescriptor (TX3 k).2.2.1 = some (tyX3 k) := by decide +kernel
abbrev cX3_init : ByteArray := prog_5_method_1_code
def yX3_init : MethodName := ⟨RX3, "<init>", "(ILjava/lang/String;)V"⟩
abbrev cX3_isOf : ByteArray := prog_5_method_2_code
def yX3_isOf : MethodName := ⟨RX3, "isOf", "(I)Z"⟩
abbrev cX3_steps : ByteArray := prog_5_method_3_code
def yX3_steps : MethodName := ⟨RX3, "steps", "(II)I"⟩
abbrev cX3_turns : ByteArray := prog_5_method_4_code
def yX3_turns : MethodName := ⟨RX3, "turns", "(I)I"⟩
abbrev cX3_crop : ByteArray := prog_5_method_5_code
def yX3_crop : MethodName := ⟨RX3, "crop", "()I"⟩
def RX4 : String := "PenAcres$HeirKind"
def TX4 : u_T := fun k => match k with
  | 0 => ("PenAcres$HandKind", "number", "I", true)
  | _ => ("PenAcres$HandKind", "word", "Ljava/lang/String;", true)
def tyX4 : Nat → FieldType := fun k => match k with
  | 0 => .int
  | _ => .object "java/lang/String"
abbrev wsX40 : List Cond := u_ws RX4 TX4 2
theorem nmX4 : ∀ a, a < 2 → ∀ b, b < 2 → a ≠ b → (TX4 a).2.1 ≠ (TX4 b).2.1 := by decide +kernel
theorem tyX4_ok : ∀ k, k < 2 → parseFieldDescriptor (TX4 k).2.2.1 = some (tyX4 k) := by decide +kernel
abbrev cX4_init : ByteArray := prog_6_method_1_code
def yX4_init : MethodName := ⟨RX4, "<init>", "(ILjava/lang/String;)V"⟩
abbrev cX4_isOf : ByteArray := prog_6_method_2_code
def yX4_isOf : MethodName := ⟨RX4, "isOf", "(I)Z"⟩
abbrev cX4_steps : ByteArray := prog_6_method_3_code
def yX4_steps : MethodName := ⟨RX4, "steps", "(II)I"⟩
abbrev cX4_crop : ByteArray := prog_6_method_4_code
def yX4_crop : MethodName := ⟨RX4, "crop", "()I"⟩
def RX5 : String := "PenAcres$Land"
def TX5 : u_T := fun k => match k with
  | 0 => ("PenAcres$Land", "smudged", "J", false)
  | 1 => ("PenAcres$Land", "year", "I", false)
  | 2 => ("PenAcres$Land", "hands", "I", false)
  | 3 => ("PenAcres$Land", "rows", "[LPenAcres$Hand;", true)
  | 4 => ("PenAcres$Land", "claims", "[J", true)
  | _ => ("PenAcres$Land", "ownedCells", "[I", true)
def tyX5 : Nat → FieldType := fun k => match k with
  | 0 => .long
  | 1 => .int
  | 2 => .int
  | 3 => .array (.object "PenAcres$Hand")
  | 4 => .array .long
  | _ => .array .int
abbrev wsX50 : List Cond := u_ws RX5 TX5 6
theorem nmX5 : ∀ a, a < 6 → ∀ b, b < 6 → a ≠ b → (TX5 a).2.1 ≠ (TX5 b).2.1 := by decide +kernel
theorem tyX5_ok : ∀ k, k < 6 → parseFieldDescriptor (TX5 k).2.2.1 = some (tyX5 k) := by decide +kernel
abbrev cX5_init : ByteArray := prog_7_method_1_code
def yX5_init : MethodName := ⟨RX5, "<init>", "(LPenAcres$HandKind;)V"⟩
abbrev cX5_takeFrom : ByteArray := prog_7_method_2_code
def yX5_takeFrom : MethodName := ⟨RX5, "takeFrom", "(LPenAcres$Land;)V"⟩
abbrev cX5_isFull : ByteArray := prog_7_method_3_code
def yX5_isFull : MethodName := ⟨RX5, "isFull", "()Z"⟩
abbrev cX5_newHand : ByteArray := prog_7_method_4_code
def yX5_newHand : MethodName := ⟨RX5, "newHand", "(LPenAcres$HandKind;I)LPenAcres$Hand;"⟩
abbrev cX5_handOf : ByteArray := prog_7_method_5_code
def yX5_handOf : MethodName := ⟨RX5, "handOf", "(I)LPenAcres$Hand;"⟩
abbrev cX5_makeSmudged : ByteArray := prog_7_method_6_code
def yX5_makeSmudged : MethodName := ⟨RX5, "makeSmudged", "(IZ)V"⟩
abbrev cX5_handsOnWhoseLines : ByteArray := prog_7_method_7_code
def yX5_handsOnWhoseLines : MethodName := ⟨RX5, "handsOnWhoseLines", "(I)I"⟩
abbrev cX5_handsAround : ByteArray := prog_7_method_8_code
def yX5_handsAround : MethodName := ⟨RX5, "handsAround", "(I)I"⟩
abbrev cX5_handsThatWrite : ByteArray := prog_7_method_9_code
def yX5_handsThatWrite : MethodName := ⟨RX5, "handsThatWrite", "()I"⟩
abbrev cX5_stakeClaims : ByteArray := prog_7_method_10_code
def yX5_stakeClaims : MethodName := ⟨RX5, "stakeClaims", "()V"⟩
abbrev cX5_goesBefore : ByteArray := prog_7_method_11_code
def yX5_goesBefore : MethodName := ⟨RX5, "goesBefore", "(II)Z"⟩
abbrev cX5_shareOf : ByteArray := prog_7_method_12_code
def yX5_shareOf : MethodName := ⟨RX5, "shareOf", "(I)J"⟩
abbrev cX5_ownerOf : ByteArray := prog_7_method_13_code
def yX5_ownerOf : MethodName := ⟨RX5, "ownerOf", "(I)I"⟩
abbrev cX5_howManyOwnedBy : ByteArray := prog_7_method_14_code
def yX5_howManyOwnedBy : MethodName := ⟨RX5, "howManyOwnedBy", "(I)I"⟩
abbrev cX5_owned : ByteArray := prog_7_method_15_code
def yX5_owned : MethodName := ⟨RX5, "owned", "()J"⟩
abbrev cX5_disputed : ByteArray := prog_7_method_16_code
def yX5_disputed : MethodName := ⟨RX5, "disputed", "()J"⟩
abbrev cX5_goYear : ByteArray := prog_7_method_17_code
def yX5_goYear : MethodName := ⟨RX5, "goYear", "()V"⟩
abbrev cX5_goYears : ByteArray := prog_7_method_18_code
def yX5_goYears : MethodName := ⟨RX5, "goYears", "(I)V"⟩
abbrev cX5_richest : ByteArray := prog_7_method_19_code
def yX5_richest : MethodName := ⟨RX5, "richest", "()I"⟩
abbrev cX5_cornOfAll : ByteArray := prog_7_method_20_code
def yX5_cornOfAll : MethodName := ⟨RX5, "cornOfAll", "()I"⟩
abbrev cX5_inkOfAll : ByteArray := prog_7_method_21_code
def yX5_inkOfAll : MethodName := ⟨RX5, "inkOfAll", "()I"⟩
abbrev cX5_strokesOfAll : ByteArray := prog_7_method_22_code
def yX5_strokesOfAll : MethodName := ⟨RX5, "strokesOfAll", "()I"⟩
abbrev cX5_costsOfAll : ByteArray := prog_7_method_23_code
def yX5_costsOfAll : MethodName := ⟨RX5, "costsOfAll", "()I"⟩
def RX6 : String := "PenAcres$LeftKind"
def TX6 : u_T := fun k => match k with
  | 0 => ("PenAcres$HandKind", "number", "I", true)
  | _ => ("PenAcres$HandKind", "word", "Ljava/lang/String;", true)
def tyX6 : Nat → FieldType := fun k => match k with
  | 0 => .int
  | _ => .object "java/lang/String"
abbrev wsX60 : List Cond := u_ws RX6 TX6 2
theorem nmX6 : ∀ a, a < 2 → ∀ b, b < 2 → a ≠ b → (TX6 a).2.1 ≠ (TX6 b).2.1 := by decide +kernel
theorem tyX6_ok : ∀ k, k < 2 → parseFieldDescriptor (TX6 k).2.2.1 = some (tyX6 k) := by decide +kernel
abbrev cX6_init : ByteArray := prog_8_method_1_code
def yX6_init : MethodName := ⟨RX6, "<init>", "(ILjava/lang/String;)V"⟩
abbrev cX6_isOf : ByteArray := prog_8_method_2_code
def yX6_isOf : MethodName := ⟨RX6, "isOf", "(I)Z"⟩
abbrev cX6_turns : ByteArray := prog_8_method_3_code
def yX6_turns : MethodName := ⟨RX6, "turns", "(I)I"⟩
abbrev cX6_crop : ByteArray := prog_8_method_4_code
def yX6_crop : MethodName := ⟨RX6, "crop", "()I"⟩
def RX7 : String := "PenAcres$MiserKind"
def TX7 : u_T := fun k => match k with
  | 0 => ("PenAcres$HandKind", "number", "I", true)
  | _ => ("PenAcres$HandKind", "word", "Ljava/lang/String;", true)
def tyX7 : Nat → FieldType := fun k => match k with
  | 0 => .int
  | _ => .object "java/lang/String"
abbrev wsX70 : List Cond := u_ws RX7 TX7 2
theorem nmX7 : ∀ a, a < 2 → ∀ b, b < 2 → a ≠ b → (TX7 a).2.1 ≠ (TX7 b).2.1 := by decide +kernel
theorem tyX7_ok : ∀ k, k < 2 → parseFieldDescriptor (TX7 k).2.2.1 = some (tyX7 k) := by decide +kernel
abbrev cX7_init : ByteArray := prog_9_method_1_code
def yX7_init : MethodName := ⟨RX7, "<init>", "(ILjava/lang/String;)V"⟩
abbrev cX7_isOf : ByteArray := prog_9_method_2_code
def yX7_isOf : MethodName := ⟨RX7, "isOf", "(I)Z"⟩
abbrev cX7_steps : ByteArray := prog_9_method_3_code
def yX7_steps : MethodName := ⟨RX7, "steps", "(II)I"⟩
abbrev cX7_crop : ByteArray := prog_9_method_4_code
def yX7_crop : MethodName := ⟨RX7, "crop", "()I"⟩
def RX8 : String := "PenAcres$ShakyKind"
def TX8 : u_T := fun k => match k with
  | 0 => ("PenAcres$HandKind", "number", "I", true)
  | _ => ("PenAcres$HandKind", "word", "Ljava/lang/String;", true)
def tyX8 : Nat → FieldType := fun k => match k with
  | 0 => .int
  | _ => .object "java/lang/String"
abbrev wsX80 : List Cond := u_ws RX8 TX8 2
theorem nmX8 : ∀ a, a < 2 → ∀ b, b < 2 → a ≠ b → (TX8 a).2.1 ≠ (TX8 b).2.1 := by decide +kernel
theorem tyX8_ok : ∀ k, k < 2 → parseFieldDescriptor (TX8 k).2.2.1 = some (tyX8 k) := by decide +kernel
abbrev cX8_init : ByteArray := prog_10_method_1_code
def yX8_init : MethodName := ⟨RX8, "<init>", "(ILjava/lang/String;)V"⟩
abbrev cX8_isOf : ByteArray := prog_10_method_2_code
def yX8_isOf : MethodName := ⟨RX8, "isOf", "(I)Z"⟩
abbrev cX8_steps : ByteArray := prog_10_method_3_code
def yX8_steps : MethodName := ⟨RX8, "steps", "(II)I"⟩
abbrev cX8_crop : ByteArray := prog_10_method_4_code
def yX8_crop : MethodName := ⟨RX8, "crop", "()I"⟩
def RX9 : String := "PenAcres$Sheet"
def TX9 : u_T := fun k => match k with
  | 0 => ("PenAcres$Sheet", "bits", "I", false)
  | 1 => ("PenAcres$Sheet", "size", "I", false)
  | _ => ("PenAcres$Sheet", "numbers", "[J", true)
def tyX9 : Nat → FieldType := fun k => match k with
  | 0 => .int
  | 1 => .int
  | _ => .array .long
abbrev wsX90 : List Cond := u_ws RX9 TX9 3
theorem nmX9 : ∀ a, a < 3 → ∀ b, b < 3 → a ≠ b → (TX9 a).2.1 ≠ (TX9 b).2.1 := by decide +kernel
theorem tyX9_ok : ∀ k, k < 3 → parseFieldDescriptor (TX9 k).2.2.1 = some (tyX9 k) := by decide +kernel
abbrev cX9_init : ByteArray := prog_11_method_1_code
def yX9_init : MethodName := ⟨RX9, "<init>", "()V"⟩
abbrev cX9_isMissing : ByteArray := prog_11_method_2_code
def yX9_isMissing : MethodName := ⟨RX9, "isMissing", "()Z"⟩
abbrev cX9_become : ByteArray := prog_11_method_3_code
def yX9_become : MethodName := ⟨RX9, "become", "(II)V"⟩
abbrev cX9_put : ByteArray := prog_11_method_4_code
def yX9_put : MethodName := ⟨RX9, "put", "(IJ)V"⟩
abbrev cX9_lowestBits : ByteArray := prog_11_method_5_code
def yX9_lowestBits : MethodName := ⟨RX9, "lowestBits", "(J)J"⟩
abbrev cX9_hasNumbers : ByteArray := prog_11_method_6_code
def yX9_hasNumbers : MethodName := ⟨RX9, "hasNumbers", "(II)Z"⟩
def RX10 : String := "PenAcres$Tape"
def TX10 : u_T := fun k => match k with
  | 0 => ("PenAcres$Tape", "size", "I", false)
  | 1 => ("PenAcres$Tape", "bytes", "[C", true)
  | 2 => ("PenAcres$Tape", "sort", "I", false)
  | 3 => ("PenAcres$Tape", "start", "I", false)
  | 4 => ("PenAcres$Tape", "behind", "I", false)
  | _ => ("PenAcres$Tape", "value", "I", false)
def tyX10 : Nat → FieldType := fun k => match k with
  | 0 => .int
  | 1 => .array .char
  | 2 => .int
  | 3 => .int
  | 4 => .int
  | _ => .int
abbrev wsX100 : List Cond := u_ws RX10 TX10 6
theorem nmX10 : ∀ a, a < 6 → ∀ b, b < 6 → a ≠ b → (TX10 a).2.1 ≠ (TX10 b).2.1 := by decide +kernel
theorem tyX10_ok : ∀ k, k < 6 → parseFieldDescriptor (TX10 k).2.2.1 = some (tyX10 k) := by decide +kernel
abbrev cX10_init : ByteArray := prog_12_method_1_code
def yX10_init : MethodName := ⟨RX10, "<init>", "()V"⟩
abbrev cX10_add : ByteArray := prog_12_method_2_code
def yX10_add : MethodName := ⟨RX10, "add", "(I)V"⟩
abbrev cX10_tellTo : ByteArray := prog_12_method_3_code
def yX10_tellTo : MethodName := ⟨RX10, "tellTo", "(LPenAcres$Land;[LPenAcres$HandKind;)I"⟩
abbrev cX10_takeItem : ByteArray := prog_12_method_4_code
def yX10_takeItem : MethodName := ⟨RX10, "takeItem", "(LPenAcres$Land;[LPenAcres$HandKind;)Z"⟩
abbrev cX10_takeSmudge : ByteArray := prog_12_method_5_code
def yX10_takeSmudge : MethodName := ⟨RX10, "takeSmudge", "(LPenAcres$Land;Z)Z"⟩
abbrev cX10_takeHand : ByteArray := prog_12_method_6_code
def yX10_takeHand : MethodName := ⟨RX10, "takeHand", "(LPenAcres$Land;LPenAcres$HandKind;)Z"⟩
abbrev cX10_takeInk : ByteArray := prog_12_method_7_code
def yX10_takeInk : MethodName := ⟨RX10, "takeInk", "(LPenAcres$Hand;)Z"⟩
abbrev cX10_takeStrokes : ByteArray := prog_12_method_8_code
def yX10_takeStrokes : MethodName := ⟨RX10, "takeStrokes", "(LPenAcres$Hand;)Z"⟩
abbrev cX10_kindNamed : ByteArray := prog_12_method_9_code
def yX10_kindNamed : MethodName := ⟨RX10, "kindNamed", "([LPenAcres$HandKind;)LPenAcres$HandKind;"⟩
abbrev cX10_wayNamed : ByteArray := prog_12_method_10_code
def yX10_wayNamed : MethodName := ⟨RX10, "wayNamed", "()I"⟩
abbrev cX10_isWord : ByteArray := prog_12_method_11_code
def yX10_isWord : MethodName := ⟨RX10, "isWord", "(Ljava/lang/String;)Z"⟩
abbrev cX10_isNumber : ByteArray := prog_12_method_12_code
def yX10_isNumber : MethodName := ⟨RX10, "isNumber", "(II)Z"⟩
abbrev cX10_goOn : ByteArray := prog_12_method_13_code
def yX10_goOn : MethodName := ⟨RX10, "goOn", "()V"⟩
abbrev cX10_goOverWord : ByteArray := prog_12_method_14_code
def yX10_goOverWord : MethodName := ⟨RX10, "goOverWord", "()V"⟩
abbrev cX10_goOverNumber : ByteArray := prog_12_method_15_code
def yX10_goOverNumber : MethodName := ⟨RX10, "goOverNumber", "()V"⟩
abbrev cX10_byteAt : ByteArray := prog_12_method_16_code
def yX10_byteAt : MethodName := ⟨RX10, "byteAt", "(I)C"⟩
abbrev cX10_isLetter : ByteArray := prog_12_method_17_code
def yX10_isLetter : MethodName := ⟨RX10, "isLetter", "(C)Z"⟩
abbrev cX10_isDigit : ByteArray := prog_12_method_18_code
def yX10_isDigit : MethodName := ⟨RX10, "isDigit", "(C)Z"⟩
def RX11 : String := "PenAcres"
def TX11 : u_T := fun k => match k with
  | 0 => ("PenAcres", "kinds", "[LPenAcres$HandKind;", true)
  | 1 => ("PenAcres", "land", "LPenAcres$Land;", true)
  | 2 => ("PenAcres", "ahead", "LPenAcres$Land;", true)
  | 3 => ("PenAcres", "kept", "LPenAcres$Land;", true)
  | 4 => ("PenAcres", "keeps", "Z", false)
  | 5 => ("PenAcres", "tape", "LPenAcres$Tape;", true)
  | 6 => ("PenAcres", "sheets", "[LPenAcres$Sheet;", true)
  | _ => ("PenAcres", "answered", "[I", true)
def tyX11 : Nat → FieldType := fun k => match k with
  | 0 => .array (.object "PenAcres$HandKind")
  | 1 => .object "PenAcres$Land"
  | 2 => .object "PenAcres$Land"
  | 3 => .object "PenAcres$Land"
  | 4 => .boolean
  | 5 => .object "PenAcres$Tape"
  | 6 => .array (.object "PenAcres$Sheet")
  | _ => .array .int
abbrev wsX110 : List Cond := u_ws RX11 TX11 8
theorem nmX11 : ∀ a, a < 8 → ∀ b, b < 8 → a ≠ b → (TX11 a).2.1 ≠ (TX11 b).2.1 := by decide +kernel
theorem tyX11_ok : ∀ k, k < 8 → parseFieldDescriptor (TX11 k).2.2.1 = some (tyX11 k) := by decide +kernel
abbrev cX11_init : ByteArray := prog_1_method_1_code
def yX11_init : MethodName := ⟨RX11, "<init>", "()V"⟩
abbrev cX11_smudge : ByteArray := prog_1_method_2_code
def yX11_smudge : MethodName := ⟨RX11, "smudge", "(II)I"⟩
abbrev cX11_cell : ByteArray := prog_1_method_3_code
def yX11_cell : MethodName := ⟨RX11, "cell", "(II)I"⟩
abbrev cX11_cells : ByteArray := prog_1_method_4_code
def yX11_cells : MethodName := ⟨RX11, "cells", "(I)J"⟩
abbrev cX11_hand : ByteArray := prog_1_method_5_code
def yX11_hand : MethodName := ⟨RX11, "hand", "(II)I"⟩
abbrev cX11_stroke : ByteArray := prog_1_method_6_code
def yX11_stroke : MethodName := ⟨RX11, "stroke", "(III)I"⟩
abbrev cX11_of : ByteArray := prog_1_method_7_code
def yX11_of : MethodName := ⟨RX11, "of", "(II)I"⟩
abbrev cX11_told : ByteArray := prog_1_method_8_code
def yX11_told : MethodName := ⟨RX11, "told", "(III)I"⟩
abbrev cX11_set : ByteArray := prog_1_method_9_code
def yX11_set : MethodName := ⟨RX11, "set", "(III)I"⟩
abbrev cX11_alter : ByteArray := prog_1_method_10_code
def yX11_alter : MethodName := ⟨RX11, "alter", "(IIII)I"⟩
abbrev cX11_cut : ByteArray := prog_1_method_11_code
def yX11_cut : MethodName := ⟨RX11, "cut", "(II)I"⟩
abbrev cX11_turn : ByteArray := prog_1_method_12_code
def yX11_turn : MethodName := ⟨RX11, "turn", "(II)I"⟩
abbrev cX11_as : ByteArray := prog_1_method_13_code
def yX11_as : MethodName := ⟨RX11, "as", "(II)I"⟩
abbrev cX11_line : ByteArray := prog_1_method_14_code
def yX11_line : MethodName := ⟨RX11, "line", "(I)J"⟩
abbrev cX11_inside : ByteArray := prog_1_method_15_code
def yX11_inside : MethodName := ⟨RX11, "inside", "(I)J"⟩
abbrev cX11_years : ByteArray := prog_1_method_16_code
def yX11_years : MethodName := ⟨RX11, "years", "(I)I"⟩
abbrev cX11_now : ByteArray := prog_1_method_17_code
def yX11_now : MethodName := ⟨RX11, "now", "(I)I"⟩
abbrev cX11_on : ByteArray := prog_1_method_18_code
def yX11_on : MethodName := ⟨RX11, "on", "(III)I"⟩
abbrev cX11_dry : ByteArray := prog_1_method_19_code
def yX11_dry : MethodName := ⟨RX11, "dry", "(I)I"⟩
abbrev cX11_rich : ByteArray := prog_1_method_20_code
def yX11_rich : MethodName := ⟨RX11, "rich", "(I)I"⟩
abbrev cX11_rain : ByteArray := prog_1_method_21_code
def yX11_rain : MethodName := ⟨RX11, "rain", "(I)I"⟩
abbrev cX11_longer : ByteArray := prog_1_method_22_code
def yX11_longer : MethodName := ⟨RX11, "longer", "(I)I"⟩
abbrev cX11_begin : ByteArray := prog_1_method_23_code
def yX11_begin : MethodName := ⟨RX11, "begin", "(I)I"⟩
abbrev cX11_kind : ByteArray := prog_1_method_24_code
def yX11_kind : MethodName := ⟨RX11, "kind", "(I)I"⟩
abbrev cX11_ink : ByteArray := prog_1_method_25_code
def yX11_ink : MethodName := ⟨RX11, "ink", "(I)I"⟩
abbrev cX11_court : ByteArray := prog_1_method_26_code
def yX11_court : MethodName := ⟨RX11, "court", "(II)I"⟩
abbrev cX11_way : ByteArray := prog_1_method_27_code
def yX11_way : MethodName := ⟨RX11, "way", "(III)I"⟩
abbrev cX11_sea : ByteArray := prog_1_method_28_code
def yX11_sea : MethodName := ⟨RX11, "sea", "()I"⟩
abbrev cX11_feed : ByteArray := prog_1_method_29_code
def yX11_feed : MethodName := ⟨RX11, "feed", "(II)I"⟩
abbrev cX11_wipe : ByteArray := prog_1_method_30_code
def yX11_wipe : MethodName := ⟨RX11, "wipe", "()I"⟩
abbrev cX11_field : ByteArray := prog_1_method_31_code
def yX11_field : MethodName := ⟨RX11, "field", "()I"⟩
abbrev cX11_sheet : ByteArray := prog_1_method_32_code
def yX11_sheet : MethodName := ⟨RX11, "sheet", "(III)I"⟩
abbrev cX11_write : ByteArray := prog_1_method_33_code
def yX11_write : MethodName := ⟨RX11, "write", "(IIJ)J"⟩
abbrev cX11_copy : ByteArray := prog_1_method_34_code
def yX11_copy : MethodName := ⟨RX11, "copy", "(IIIII)I"⟩
abbrev cX11_lays : ByteArray := prog_1_method_35_code
def yX11_lays : MethodName := ⟨RX11, "lays", "(I)I"⟩
abbrev cX11_book : ByteArray := prog_1_method_36_code
def yX11_book : MethodName := ⟨RX11, "book", "(II)I"⟩
abbrev cX11_read : ByteArray := prog_1_method_37_code
def yX11_read : MethodName := ⟨RX11, "read", "(II)I"⟩
abbrev cX11_image : ByteArray := prog_1_method_38_code
def yX11_image : MethodName := ⟨RX11, "image", "()I"⟩
abbrev cX11_undo : ByteArray := prog_1_method_39_code
def yX11_undo : MethodName := ⟨RX11, "undo", "()I"⟩
abbrev cX11_tear : ByteArray := prog_1_method_40_code
def yX11_tear : MethodName := ⟨RX11, "tear", "()I"⟩
abbrev cX11_count : ByteArray := prog_1_method_41_code
def yX11_count : MethodName := ⟨RX11, "count", "(I)I"⟩
abbrev cX11_status : ByteArray := prog_1_method_42_code
def yX11_status : MethodName := ⟨RX11, "status", "(I)I"⟩
abbrev cX11_finding : ByteArray := prog_1_method_43_code
def yX11_finding : MethodName := ⟨RX11, "finding", "(I)I"⟩
abbrev cX11_onTrial : ByteArray := prog_1_method_44_code
def yX11_onTrial : MethodName := ⟨RX11, "onTrial", "(I)LPenAcres$Hand;"⟩
abbrev cX11_tells : ByteArray := prog_1_method_45_code
def yX11_tells : MethodName := ⟨RX11, "tells", "(LPenAcres$Sheet;ILPenAcres$HandKind;I)Z"⟩
abbrev cX11_sheetOf : ByteArray := prog_1_method_46_code
def yX11_sheetOf : MethodName := ⟨RX11, "sheetOf", "(I)LPenAcres$Sheet;"⟩
abbrev cX11_within : ByteArray := prog_1_method_47_code
def yX11_within : MethodName := ⟨RX11, "within", "(III)Z"⟩
abbrev cX11_isCell : ByteArray := prog_1_method_48_code
def yX11_isCell : MethodName := ⟨RX11, "isCell", "(I)Z"⟩
abbrev cX11_isKind : ByteArray := prog_1_method_49_code
def yX11_isKind : MethodName := ⟨RX11, "isKind", "(I)Z"⟩
abbrev cX11_isWay : ByteArray := prog_1_method_50_code
def yX11_isWay : MethodName := ⟨RX11, "isWay", "(I)Z"⟩
abbrev cX11_isLength : ByteArray := prog_1_method_51_code
def yX11_isLength : MethodName := ⟨RX11, "isLength", "(I)Z"⟩
abbrev cX11_isInk : ByteArray := prog_1_method_52_code
def yX11_isInk : MethodName := ⟨RX11, "isInk", "(I)Z"⟩
abbrev cX11_isYearsOn : ByteArray := prog_1_method_53_code
def yX11_isYearsOn : MethodName := ⟨RX11, "isYearsOn", "(I)Z"⟩
abbrev cX11_isBits : ByteArray := prog_1_method_54_code
def yX11_isBits : MethodName := ⟨RX11, "isBits", "(I)Z"⟩
abbrev cX11_bitOf : ByteArray := prog_1_method_55_code
def yX11_bitOf : MethodName := ⟨RX11, "bitOf", "(JI)I"⟩
def RX12 : String := "PenAcresModel"
def TX12 : u_T := fun k => match k with
  | 0 => ("PenAcresModel", "s", "[I", true)
  | 1 => ("PenAcresModel", "keptS", "[I", true)
  | 2 => ("PenAcresModel", "other", "[I", true)
  | 3 => ("PenAcresModel", "aside", "[I", true)
  | 4 => ("PenAcresModel", "statuses", "[I", true)
  | 5 => ("PenAcresModel", "isKept", "Z", false)
  | 6 => ("PenAcresModel", "lines", "[J", true)
  | 7 => ("PenAcresModel", "insides", "[J", true)
  | 8 => ("PenAcresModel", "costs", "[I", true)
  | 9 => ("PenAcresModel", "owned", "[I", true)
  | 10 => ("PenAcresModel", "tape", "[I", true)
  | 11 => ("PenAcresModel", "taped", "I", false)
  | 12 => ("PenAcresModel", "from", "I", false)
  | 13 => ("PenAcresModel", "to", "I", false)
  | 14 => ("PenAcresModel", "value", "I", false)
  | 15 => ("PenAcresModel", "isWrong", "Z", false)
  | 16 => ("PenAcresModel", "bitsOf", "[I", true)
  | 17 => ("PenAcresModel", "sizeOf", "[I", true)
  | 18 => ("PenAcresModel", "numbers", "[J", true)
  | _ => ("PenAcresModel", "moved", "[J", true)
def tyX12 : Nat → FieldType := fun k => match k with
  | 0 => .array .int
  | 1 => .array .int
  | 2 => .array .int
  | 3 => .array .int
  | 4 => .array .int
  | 5 => .boolean
  | 6 => .array .long
  | 7 => .array .long
  | 8 => .array .int
  | 9 => .array .int
  | 10 => .array .int
  | 11 => .int
  | 12 => .int
  | 13 => .int
  | 14 => .int
  | 15 => .boolean
  | 16 => .array .int
  | 17 => .array .int
  | 18 => .array .long
  | _ => .array .long
abbrev wsX120 : List Cond := u_ws RX12 TX12 20
theorem nmX12 : ∀ a, a < 20 → ∀ b, b < 20 → a ≠ b → (TX12 a).2.1 ≠ (TX12 b).2.1 := by decide +kernel
theorem tyX12_ok : ∀ k, k < 20 → parseFieldDescriptor (TX12 k).2.2.1 = some (tyX12 k) := by decide +kernel
abbrev cX12_init : ByteArray := prog_14_method_1_code
def yX12_init : MethodName := ⟨RX12, "<init>", "()V"⟩
abbrev cX12_in : ByteArray := prog_14_method_2_code
def yX12_in : MethodName := ⟨RX12, "in", "(JJJ)Z"⟩
abbrev cX12_finds : ByteArray := prog_14_method_3_code
def yX12_finds : MethodName := ⟨RX12, "finds", "(I)I"⟩
abbrev cX12_saves : ByteArray := prog_14_method_4_code
def yX12_saves : MethodName := ⟨RX12, "saves", "()V"⟩
abbrev cX12_putsBack : ByteArray := prog_14_method_5_code
def yX12_putsBack : MethodName := ⟨RX12, "putsBack", "()V"⟩
abbrev cX12_laysAside : ByteArray := prog_14_method_6_code
def yX12_laysAside : MethodName := ⟨RX12, "laysAside", "()V"⟩
abbrev cX12_takesBack : ByteArray := prog_14_method_7_code
def yX12_takesBack : MethodName := ⟨RX12, "takesBack", "(I)I"⟩
abbrev cX12_becomes : ByteArray := prog_14_method_8_code
def yX12_becomes : MethodName := ⟨RX12, "becomes", "(II)I"⟩
abbrev cX12_isCell : ByteArray := prog_14_method_9_code
def yX12_isCell : MethodName := ⟨RX12, "isCell", "(I)Z"⟩
abbrev cX12_isHand : ByteArray := prog_14_method_10_code
def yX12_isHand : MethodName := ⟨RX12, "isHand", "(I)Z"⟩
abbrev cX12_isKind : ByteArray := prog_14_method_11_code
def yX12_isKind : MethodName := ⟨RX12, "isKind", "(I)Z"⟩
abbrev cX12_isWay : ByteArray := prog_14_method_12_code
def yX12_isWay : MethodName := ⟨RX12, "isWay", "(I)Z"⟩
abbrev cX12_spot : ByteArray := prog_14_method_13_code
def yX12_spot : MethodName := ⟨RX12, "spot", "(II)I"⟩
abbrev cX12_its : ByteArray := prog_14_method_14_code
def yX12_its : MethodName := ⟨RX12, "its", "(II)I"⟩
abbrev cX12_has : ByteArray := prog_14_method_15_code
def yX12_has : MethodName := ⟨RX12, "has", "(JI)Z"⟩
abbrev cX12_ones : ByteArray := prog_14_method_16_code
def yX12_ones : MethodName := ⟨RX12, "ones", "(J)I"⟩
abbrev cX12_stepsOf : ByteArray := prog_14_method_17_code
def yX12_stepsOf : MethodName := ⟨RX12, "stepsOf", "(II)I"⟩
abbrev cX12_turned : ByteArray := prog_14_method_18_code
def yX12_turned : MethodName := ⟨RX12, "turned", "(II)I"⟩
abbrev cX12_cropOf : ByteArray := prog_14_method_19_code
def yX12_cropOf : MethodName := ⟨RX12, "cropOf", "(I)I"⟩
abbrev cX12_beside : ByteArray := prog_14_method_20_code
def yX12_beside : MethodName := ⟨RX12, "beside", "(II)I"⟩
abbrev cX12_isEdge : ByteArray := prog_14_method_21_code
def yX12_isEdge : MethodName := ⟨RX12, "isEdge", "(I)Z"⟩
abbrev cX12_smudges : ByteArray := prog_14_method_22_code
def yX12_smudges : MethodName := ⟨RX12, "smudges", "()J"⟩
abbrev cX12_draws : ByteArray := prog_14_method_23_code
def yX12_draws : MethodName := ⟨RX12, "draws", "(IJ)V"⟩
abbrev cX12_insideOf : ByteArray := prog_14_method_24_code
def yX12_insideOf : MethodName := ⟨RX12, "insideOf", "(J)J"⟩
abbrev cX12_writeAll : ByteArray := prog_14_method_25_code
def yX12_writeAll : MethodName := ⟨RX12, "writeAll", "()V"⟩
abbrev cX12_insideMany : ByteArray := prog_14_method_26_code
def yX12_insideMany : MethodName := ⟨RX12, "insideMany", "(I)I"⟩
abbrev cX12_writes : ByteArray := prog_14_method_27_code
def yX12_writes : MethodName := ⟨RX12, "writes", "(I)Z"⟩
abbrev cX12_ownerOf : ByteArray := prog_14_method_28_code
def yX12_ownerOf : MethodName := ⟨RX12, "ownerOf", "(I)I"⟩
abbrev cX12_ownedBy : ByteArray := prog_14_method_29_code
def yX12_ownedBy : MethodName := ⟨RX12, "ownedBy", "(I)I"⟩
abbrev cX12_smudge : ByteArray := prog_14_method_30_code
def yX12_smudge : MethodName := ⟨RX12, "smudge", "(II)I"⟩
abbrev cX12_thoseWith : ByteArray := prog_14_method_31_code
def yX12_thoseWith : MethodName := ⟨RX12, "thoseWith", "(IZ)I"⟩
abbrev cX12_cell : ByteArray := prog_14_method_32_code
def yX12_cell : MethodName := ⟨RX12, "cell", "(II)I"⟩
abbrev cX12_writersInside : ByteArray := prog_14_method_33_code
def yX12_writersInside : MethodName := ⟨RX12, "writersInside", "(I)I"⟩
abbrev cX12_cells : ByteArray := prog_14_method_34_code
def yX12_cells : MethodName := ⟨RX12, "cells", "(I)J"⟩
abbrev cX12_adds : ByteArray := prog_14_method_35_code
def yX12_adds : MethodName := ⟨RX12, "adds", "(II)I"⟩
abbrev cX12_hand : ByteArray := prog_14_method_36_code
def yX12_hand : MethodName := ⟨RX12, "hand", "(II)I"⟩
abbrev cX12_strokes : ByteArray := prog_14_method_37_code
def yX12_strokes : MethodName := ⟨RX12, "strokes", "(III)I"⟩
abbrev cX12_stroke : ByteArray := prog_14_method_38_code
def yX12_stroke : MethodName := ⟨RX12, "stroke", "(III)I"⟩
abbrev cX12_of : ByteArray := prog_14_method_39_code
def yX12_of : MethodName := ⟨RX12, "of", "(II)I"⟩
abbrev cX12_isStroke : ByteArray := prog_14_method_40_code
def yX12_isStroke : MethodName := ⟨RX12, "isStroke", "(II)Z"⟩
abbrev cX12_told : ByteArray := prog_14_method_41_code
def yX12_told : MethodName := ⟨RX12, "told", "(III)I"⟩
abbrev cX12_set : ByteArray := prog_14_method_42_code
def yX12_set : MethodName := ⟨RX12, "set", "(III)I"⟩
abbrev cX12_alter : ByteArray := prog_14_method_43_code
def yX12_alter : MethodName := ⟨RX12, "alter", "(IIII)I"⟩
abbrev cX12_cut : ByteArray := prog_14_method_44_code
def yX12_cut : MethodName := ⟨RX12, "cut", "(II)I"⟩
abbrev cX12_turn : ByteArray := prog_14_method_45_code
def yX12_turn : MethodName := ⟨RX12, "turn", "(II)I"⟩
abbrev cX12_isUnder : ByteArray := prog_14_method_46_code
def yX12_isUnder : MethodName := ⟨RX12, "isUnder", "(II)Z"⟩
abbrev cX12_as : ByteArray := prog_14_method_47_code
def yX12_as : MethodName := ⟨RX12, "as", "(II)I"⟩
abbrev cX12_line : ByteArray := prog_14_method_48_code
def yX12_line : MethodName := ⟨RX12, "line", "(I)J"⟩
abbrev cX12_inside : ByteArray := prog_14_method_49_code
def yX12_inside : MethodName := ⟨RX12, "inside", "(I)J"⟩
abbrev cX12_year : ByteArray := prog_14_method_50_code
def yX12_year : MethodName := ⟨RX12, "year", "()V"⟩
abbrev cX12_goesOn : ByteArray := prog_14_method_51_code
def yX12_goesOn : MethodName := ⟨RX12, "goesOn", "(I)V"⟩
abbrev cX12_together : ByteArray := prog_14_method_52_code
def yX12_together : MethodName := ⟨RX12, "together", "(I)I"⟩
abbrev cX12_years : ByteArray := prog_14_method_53_code
def yX12_years : MethodName := ⟨RX12, "years", "(I)I"⟩
abbrev cX12_thoseThatWrite : ByteArray := prog_14_method_54_code
def yX12_thoseThatWrite : MethodName := ⟨RX12, "thoseThatWrite", "()I"⟩
abbrev cX12_now : ByteArray := prog_14_method_55_code
def yX12_now : MethodName := ⟨RX12, "now", "(I)I"⟩
abbrev cX12_ownsNow : ByteArray := prog_14_method_56_code
def yX12_ownsNow : MethodName := ⟨RX12, "ownsNow", "(I)I"⟩
abbrev cX12_on : ByteArray := prog_14_method_57_code
def yX12_on : MethodName := ⟨RX12, "on", "(III)I"⟩
abbrev cX12_isDry : ByteArray := prog_14_method_58_code
def yX12_isDry : MethodName := ⟨RX12, "isDry", "(I)Z"⟩
abbrev cX12_dry : ByteArray := prog_14_method_59_code
def yX12_dry : MethodName := ⟨RX12, "dry", "(I)I"⟩
abbrev cX12_richest : ByteArray := prog_14_method_60_code
def yX12_richest : MethodName := ⟨RX12, "richest", "()I"⟩
abbrev cX12_rich : ByteArray := prog_14_method_61_code
def yX12_rich : MethodName := ⟨RX12, "rich", "(I)I"⟩
abbrev cX12_rain : ByteArray := prog_14_method_62_code
def yX12_rain : MethodName := ⟨RX12, "rain", "(I)I"⟩
abbrev cX12_longer : ByteArray := prog_14_method_63_code
def yX12_longer : MethodName := ⟨RX12, "longer", "(I)I"⟩
abbrev cX12_begin : ByteArray := prog_14_method_64_code
def yX12_begin : MethodName := ⟨RX12, "begin", "(I)I"⟩
abbrev cX12_kind : ByteArray := prog_14_method_65_code
def yX12_kind : MethodName := ⟨RX12, "kind", "(I)I"⟩
abbrev cX12_ink : ByteArray := prog_14_method_66_code
def yX12_ink : MethodName := ⟨RX12, "ink", "(I)I"⟩
abbrev cX12_court : ByteArray := prog_14_method_67_code
def yX12_court : MethodName := ⟨RX12, "court", "(II)I"⟩
abbrev cX12_way : ByteArray := prog_14_method_68_code
def yX12_way : MethodName := ⟨RX12, "way", "(III)I"⟩
abbrev cX12_sea : ByteArray := prog_14_method_69_code
def yX12_sea : MethodName := ⟨RX12, "sea", "()I"⟩
abbrev cX12_feed : ByteArray := prog_14_method_70_code
def yX12_feed : MethodName := ⟨RX12, "feed", "(II)I"⟩
abbrev cX12_wipe : ByteArray := prog_14_method_71_code
def yX12_wipe : MethodName := ⟨RX12, "wipe", "()I"⟩
abbrev cX12_byteAt : ByteArray := prog_14_method_72_code
def yX12_byteAt : MethodName := ⟨RX12, "byteAt", "(I)I"⟩
abbrev cX12_isLetter : ByteArray := prog_14_method_73_code
def yX12_isLetter : MethodName := ⟨RX12, "isLetter", "(I)Z"⟩
abbrev cX12_isDigit : ByteArray := prog_14_method_74_code
def yX12_isDigit : MethodName := ⟨RX12, "isDigit", "(I)Z"⟩
abbrev cX12_token : ByteArray := prog_14_method_75_code
def yX12_token : MethodName := ⟨RX12, "token", "()V"⟩
abbrev cX12_must : ByteArray := prog_14_method_76_code
def yX12_must : MethodName := ⟨RX12, "must", "(Z)V"⟩
abbrev cX12_word : ByteArray := prog_14_method_77_code
def yX12_word : MethodName := ⟨RX12, "word", "()J"⟩
abbrev cX12_number : ByteArray := prog_14_method_78_code
def yX12_number : MethodName := ⟨RX12, "number", "(II)V"⟩
abbrev cX12_kindHere : ByteArray := prog_14_method_79_code
def yX12_kindHere : MethodName := ⟨RX12, "kindHere", "()I"⟩
abbrev cX12_wayHere : ByteArray := prog_14_method_80_code
def yX12_wayHere : MethodName := ⟨RX12, "wayHere", "()I"⟩
abbrev cX12_handItem : ByteArray := prog_14_method_81_code
def yX12_handItem : MethodName := ⟨RX12, "handItem", "(I)V"⟩
abbrev cX12_item : ByteArray := prog_14_method_82_code
def yX12_item : MethodName := ⟨RX12, "item", "()V"⟩
abbrev cX12_field : ByteArray := prog_14_method_83_code
def yX12_field : MethodName := ⟨RX12, "field", "()I"⟩
abbrev cX12_isOne : ByteArray := prog_14_method_84_code
def yX12_isOne : MethodName := ⟨RX12, "isOne", "(I)Z"⟩
abbrev cX12_sheet : ByteArray := prog_14_method_85_code
def yX12_sheet : MethodName := ⟨RX12, "sheet", "(III)I"⟩
abbrev cX12_narrowed : ByteArray := prog_14_method_86_code
def yX12_narrowed : MethodName := ⟨RX12, "narrowed", "(IJ)J"⟩
abbrev cX12_wrong : ByteArray := prog_14_method_87_code
def yX12_wrong : MethodName := ⟨RX12, "wrong", "(I)I"⟩
abbrev cX12_write : ByteArray := prog_14_method_88_code
def yX12_write : MethodName := ⟨RX12, "write", "(IIJ)J"⟩
abbrev cX12_copy : ByteArray := prog_14_method_89_code
def yX12_copy : MethodName := ⟨RX12, "copy", "(IIIII)I"⟩
abbrev cX12_lays : ByteArray := prog_14_method_90_code
def yX12_lays : MethodName := ⟨RX12, "lays", "(I)I"⟩
abbrev cX12_book : ByteArray := prog_14_method_91_code
def yX12_book : MethodName := ⟨RX12, "book", "(II)I"⟩
abbrev cX12_isBook : ByteArray := prog_14_method_92_code
def yX12_isBook : MethodName := ⟨RX12, "isBook", "(II)Z"⟩
abbrev cX12_read : ByteArray := prog_14_method_93_code
def yX12_read : MethodName := ⟨RX12, "read", "(II)I"⟩
abbrev cX12_image : ByteArray := prog_14_method_94_code
def yX12_image : MethodName := ⟨RX12, "image", "()I"⟩
abbrev cX12_undo : ByteArray := prog_14_method_95_code
def yX12_undo : MethodName := ⟨RX12, "undo", "()I"⟩
abbrev cX12_tear : ByteArray := prog_14_method_96_code
def yX12_tear : MethodName := ⟨RX12, "tear", "()I"⟩
abbrev cX12_costsAll : ByteArray := prog_14_method_97_code
def yX12_costsAll : MethodName := ⟨RX12, "costsAll", "()I"⟩
abbrev cX12_count : ByteArray := prog_14_method_98_code
def yX12_count : MethodName := ⟨RX12, "count", "(I)I"⟩
abbrev cX12_status : ByteArray := prog_14_method_99_code
def yX12_status : MethodName := ⟨RX12, "status", "(I)I"⟩
def RJ13 : String := "java/lang/Long"
def TJ13 : u_T := fun k => match k with
  | _ => ("", "", "", false)
def tyJ13 : Nat → FieldType := fun k => match k with
  | _ => .int
abbrev wsJ130 : List Cond := u_ws RJ13 TJ13 0
theorem nmJ13 : ∀ a, a < 0 → ∀ b, b < 0 → a ≠ b → (TJ13 a).2.1 ≠ (TJ13 b).2.1 := by decide +kernel
theorem tyJ13_ok : ∀ k, k < 0 → parseFieldDescriptor (TJ13 k).2.2.1 = some (tyJ13 k) := by decide +kernel
abbrev cJ13_bitCount_95d88 : ByteArray := prog_15_method_50_code
def yJ13_bitCount_95d88 : MethodName := ⟨RJ13, "bitCount", "(J)I"⟩
def RJ9 : String := "java/lang/Math"
def TJ9 : u_T := fun k => match k with
  | _ => ("", "", "", false)
def tyJ9 : Nat → FieldType := fun k => match k with
  | _ => .int
abbrev wsJ90 : List Cond := u_ws RJ9 TJ9 0
theorem nmJ9 : ∀ a, a < 0 → ∀ b, b < 0 → a ≠ b → (TJ9 a).2.1 ≠ (TJ9 b).2.1 := by decide +kernel
theorem tyJ9_ok : ∀ k, k < 0 → parseFieldDescriptor (TJ9 k).2.2.1 = some (tyJ9 k) := by decide +kernel
abbrev cJ9_max_7cf53 : ByteArray := prog_16_method_65_code
def yJ9_max_7cf53 : MethodName := ⟨RJ9, "max", "(II)I"⟩
abbrev cJ9_min_7cf53 : ByteArray := prog_16_method_69_code
def yJ9_min_7cf53 : MethodName := ⟨RJ9, "min", "(II)I"⟩
def RJ0 : String := "java/lang/String"
def TJ0 : u_T := fun k => match k with
  | _ => ("", "", "", false)
def tyJ0 : Nat → FieldType := fun k => match k with
  | _ => .int
abbrev wsJ00 : List Cond := u_ws RJ0 TJ0 0
theorem nmJ0 : ∀ a, a < 0 → ∀ b, b < 0 → a ≠ b → (TJ0 a).2.1 ≠ (TJ0 b).2.1 := by decide +kernel
theorem tyJ0_ok : ∀ k, k < 0 → parseFieldDescriptor (TJ0 k).2.2.1 = some (tyJ0 k) := by decide +kernel
abbrev cJ0_length_8abf5 : ByteArray := prog_17_method_54_code
def yJ0_length_8abf5 : MethodName := ⟨RJ0, "length", "()I"⟩
abbrev cJ0_charAt_5068e : ByteArray := prog_17_method_56_code
def yJ0_charAt_5068e : MethodName := ⟨RJ0, "charAt", "(I)C"⟩
abbrev cJ0_coder_7d493 : ByteArray := prog_17_method_152_code
def yJ0_coder_7d493 : MethodName := ⟨RJ0, "coder", "()B"⟩
abbrev cJ0_isLatin1_aae02 : ByteArray := prog_17_method_154_code
def yJ0_isLatin1_aae02 : MethodName := ⟨RJ0, "isLatin1", "()Z"⟩
abbrev cJ0_checkIndex_df160 : ByteArray := prog_17_method_155_code
def yJ0_checkIndex_df160 : MethodName := ⟨RJ0, "checkIndex", "(II)V"⟩
def RJ1 : String := "java/lang/StringLatin1"
def TJ1 : u_T := fun k => match k with
  | _ => ("", "", "", false)
def tyJ1 : Nat → FieldType := fun k => match k with
  | _ => .int
abbrev wsJ10 : List Cond := u_ws RJ1 TJ1 0
theorem nmJ1 : ∀ a, a < 0 → ∀ b, b < 0 → a ≠ b → (TJ1 a).2.1 ≠ (TJ1 b).2.1 := by decide +kernel
theorem tyJ1_ok : ∀ k, k < 0 → parseFieldDescriptor (TJ1 k).2.2.1 = some (tyJ1 k) := by decide +kernel
abbrev cJ1_charAt_3b067 : ByteArray := prog_18_method_2_code
def yJ1_charAt_3b067 : MethodName := ⟨RJ1, "charAt", "([BI)C"⟩
def RJ2 : String := "java/lang/StringUTF16"
def TJ2 : u_T := fun k => match k with
  | _ => ("", "", "", false)
def tyJ2 : Nat → FieldType := fun k => match k with
  | _ => .int
abbrev wsJ20 : List Cond := u_ws RJ2 TJ2 0
theorem nmJ2 : ∀ a, a < 0 → ∀ b, b < 0 → a ≠ b → (TJ2 a).2.1 ≠ (TJ2 b).2.1 := by decide +kernel
theorem tyJ2_ok : ∀ k, k < 0 → parseFieldDescriptor (TJ2 k).2.2.1 = some (tyJ2 k) := by decide +kernel
abbrev cJ2_getChar_3b067 : ByteArray := prog_19_method_5_code
def yJ2_getChar_3b067 : MethodName := ⟨RJ2, "getChar", "([BI)C"⟩
abbrev cJ2_length_9d52b : ByteArray := prog_19_method_6_code
def yJ2_length_9d52b : MethodName := ⟨RJ2, "length", "([B)I"⟩
abbrev cJ2_charAt_3b067 : ByteArray := prog_19_method_83_code
def yJ2_charAt_3b067 : MethodName := ⟨RJ2, "charAt", "([BI)C"⟩
abbrev cJ2_checkIndex_2214a : ByteArray := prog_19_method_91_code
def yJ2_checkIndex_2214a : MethodName := ⟨RJ2, "checkIndex", "(I[B)V"⟩
def RJ10 : String := "java/lang/System"
def TJ10 : u_T := fun k => match k with
  | _ => ("", "", "", false)
def tyJ10 : Nat → FieldType := fun k => match k with
  | _ => .int
abbrev wsJ100 : List Cond := u_ws RJ10 TJ10 0
theorem nmJ10 : ∀ a, a < 0 → ∀ b, b < 0 → a ≠ b → (TJ10 a).2.1 ≠ (TJ10 b).2.1 := by decide +kernel
theorem tyJ10_ok : ∀ k, k < 0 → parseFieldDescriptor (TJ10 k).2.2.1 = some (tyJ10 k) := by decide +kernel
def RJ3 : String := "jdk/internal/util/Preconditions"
def TJ3 : u_T := fun k => match k with
  | _ => ("", "", "", false)
def tyJ3 : Nat → FieldType := fun k => match k with
  | _ => .int
abbrev wsJ30 : List Cond := u_ws RJ3 TJ3 0
theorem nmJ3 : ∀ a, a < 0 → ∀ b, b < 0 → a ≠ b → (TJ3 a).2.1 ≠ (TJ3 b).2.1 := by decide +kernel
theorem tyJ3_ok : ∀ k, k < 0 → parseFieldDescriptor (TJ3 k).2.2.1 = some (tyJ3 k) := by decide +kernel
abbrev cJ3_checkIndex_8e157 : ByteArray := prog_21_method_11_code
def yJ3_checkIndex_8e157 : MethodName := ⟨RJ3, "checkIndex", "(IILjava/util/function/BiFunction;)I"⟩
def RL : String := "PenAcresLaw"
abbrev cL_law : ByteArray := code
def yL_law : MethodName := ⟨RL, "law", "([I)Z"⟩
end
section
/-! memory: ints, longs, references of cells by their numbers; the shape of each cell is fixed ahead -/
abbrev Mm : Type := (Nat → Nat → Int32) × (Nat → Nat → Int64) × (Nat → Nat → Option Nat)
/-- D, array classes, base, addresses of texts, of their bytes -/
abbrev Gl : Type := va_G × (Nat → ClassId) × Nat × (Nat → Nat) × (Nat → Nat)
abbrev kcl : List vw_C := [(RX11, TX11, 8), (RX3, TX3, 2), (RX7, TX7, 2), (RX0, TX0, 2), (RX8, TX8, 2), (RX4, TX4, 2), (RX6, TX6, 2), (RX2, TX2, 11), (RX5, TX5, 6), (RX10, TX10, 6), (RX9, TX9, 3), (RX12, TX12, 20)]
/-- kinds of fields by class: 0 an int, 1 a long, 2 a reference -/
def ftL : List (List Nat) := [[2, 2, 2, 2, 0, 2, 2, 2], [0, 2], [0, 2], [0, 2], [0, 2], [0, 2], [0, 2], [2, 0, 0, 0, 0, 2, 2, 1, 0, 1, 1], [1, 0, 0, 2, 2, 2], [0, 2, 0, 0, 0, 0], [0, 0, 2], [2, 2, 2, 2, 2, 0, 2, 2, 2, 2, 2, 0, 0, 0, 0, 0, 2, 2, 2, 2]]
abbrev gA (G : Gl) : Nat → Prop := fun q => G.2.2.1 ≤ q
/-- where a cell lies: below 1000 ours, else a text's -/
def ad (G : Gl) (c : Nat) : Nat := if c < 1000 then G.2.2.1 + c else G.2.2.2.1 (c - 1000)
abbrev aR (G : Gl) (c : Nat) : Value := .ref (ad G c)
def rO (G : Gl) (r : Option Nat) : Value := va_rf (r.map (ad G))
def fV (G : Gl) (M : Mm) (c : Nat) (q : Nat × Nat) : Value := if q.1 = 0 then .int (M.1 c q.2) else if q.1 = 1 then .long (M.2.1 c q.2) else rO G (M.2.2 c q.2)
def fL (G : Gl) (M : Mm) (ci c : Nat) : List Value := ((ftL.getD ci []).zipIdx).map (fV G M c)
def aE (G : Gl) (M : Mm) (c k n : Nat) : va_E := .inl (G.2.1 k, n, if k = 0 ∨ k = 2 then .inl (M.1 c) else if k = 1 then .inr (.inl (M.2.1 c)) else .inr (.inr (.inr (.inr (fun j => (M.2.2 c j).map (ad G))))))
/-- what a cell holds: shape (20 + k, n): an array of n; (ci, _): an object -/
def cE (G : Gl) (M : Mm) (c : Nat) (sh : Nat × Nat) : va_E := if 20 ≤ sh.1 then aE G M c (sh.1 - 20) sh.2 else .inr (sh.1, fL G M sh.1 c)
def shL : List (Nat × Nat) := [(0, 0), (1, 0), (24, 6), (2, 0), (3, 0), (4, 0), (5, 0), (6, 0), (8, 0), (23, 6), (7, 0), (20, 8), (20, 8), (7, 0), (20, 8), (20, 8), (7, 0), (20, 8), (20, 8), (7, 0), (20, 8), (20, 8), (7, 0), (20, 8), (20, 8), (7, 0), (20, 8), (20, 8), (21, 6), (20, 6), (8, 0), (23, 6), (7, 0), (20, 8), (20, 8), (7, 0), (20, 8), (20, 8), (7, 0), (20, 8), (20, 8), (7, 0), (20, 8), (20, 8), (7, 0), (20, 8), (20, 8), (7, 0), (20, 8), (20, 8), (21, 6), (20, 6), (8, 0), (23, 6), (7, 0), (20, 8), (20, 8), (7, 0), (20, 8), (20, 8), (7, 0), (20, 8), (20, 8), (7, 0), (20, 8), (20, 8), (7, 0), (20, 8), (20, 8), (7, 0), (20, 8), (20, 8), (21, 6), (20, 6), (9, 0), (22, 120), (25, 4), (10, 0), (21, 40), (10, 0), (21, 40), (10, 0), (21, 40), (10, 0), (21, 40), (20, 7), (11, 0), (20, 176), (20, 176), (20, 176), (20, 176), (20, 7), (21, 6), (21, 6), (20, 6), (20, 6), (20, 120), (20, 4), (20, 4), (21, 160), (21, 40)]
def sh (c : Nat) : Nat × Nat := shL.getD c (99, 0)
def WL (G : Gl) (M : Mm) (N : Nat) : va_W := (List.range N).map (fun c => (G.2.2.1 + c, cE G M c (sh c)))
theorem wl_get {G : Gl} {M : Mm} {N c : Nat} (h : c < N) : (WL G M N)[c]? = some (G.2.2.1 + c, cE G M c (sh c)) := by
  simp [WL, h]
theorem wl_at {G : Gl} {M : Mm} {N k : Nat} {q : Nat × va_E} (h : (WL G M N)[k]? = some q) : k < N ∧ q = (G.2.2.1 + k, cE G M k (sh k)) := by
  have hk : k < N := by
    have := (List.getElem?_eq_some_iff.mp h).1
    simpa [WL] using this
  exact ⟨hk, (Option.some.inj ((wl_get hk).symm.trans h)).symm⟩
theorem wl_D (G : Gl) (M : Mm) (N : Nat) : va_D (gA G) (WL G M N) := by
  refine ⟨fun i j p q hi hj e => ?_, fun k q hk => ?_⟩
  · obtain ⟨-, rfl⟩ := wl_at hi
    obtain ⟨-, rfl⟩ := wl_at hj
    have : G.2.2.1 + i = G.2.2.1 + j := e
    omega
  · obtain ⟨-, rfl⟩ := wl_at hk
    exact Nat.le_add_right _ _
theorem wl_set {G : Gl} {M M' : Mm} {N c : Nat} {e : va_E} (he : e = cE G M' c (sh c)) (ho : ∀ c', c' ≠ c → cE G M' c' (sh c') = cE G M c' (sh c')) : (WL G M N).set c (G.2.2.1 + c, e) = WL G M' N := by
  apply List.ext_getElem?
  intro j
  by_cases hj : j < N
  · by_cases hc : j = c
    · subst hc
      rw [List.getElem?_set_self (by simpa [WL] using hj), wl_get hj, he]
    · rw [List.getElem?_set_ne (Ne.symm hc), wl_get hj, wl_get hj, ho j hc]
  · rw [List.getElem?_eq_none (by simp [WL]; omega), List.getElem?_eq_none (by simp [WL]; omega)]
theorem wl_push {G : Gl} {M M' : Mm} {N : Nat} {e : va_E} (he : e = cE G M' N (sh N)) (ho : ∀ c', c' < N → cE G M' c' (sh c') = cE G M c' (sh c')) : WL G M N ++ [(G.2.2.1 + N, e)] = WL G M' (N + 1) := by
  simp only [WL, List.range_succ, List.map_append, List.map_cons, List.map_nil]
  rw [he]
  congr 1
  apply List.map_congr_left
  intro c hc
  rw [ho c (List.mem_range.mp hc)]
/-- ours, in a heap -/
def Rl (G : Gl) (M : Mm) (N : Nat) (H : Heap) : Prop := va_P G.1 kcl (WL G M N) H ∧ H.size = G.2.2.1 + N
abbrev tyG (G : Gl) : List (ClassId × FieldType) := [(G.2.1 0, .int), (G.2.1 1, .long), (G.2.1 2, .char), (G.2.1 3, .object RX2), (G.2.1 4, .object RX3), (G.2.1 5, .object RX9)]
end
