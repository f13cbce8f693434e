section
-- ===== PART A: goes FIRST, ahead of the names: the tables' words, and 'selects' of the private methods out of them =====
/-- a private method of a class that the tables say can be made, by its rows of tables_1 -/
def lw_okq (q : MethodName × Nat) : Prop := (q.1.cls ≠ "java/lang/invoke/MethodHandle" ∧ q.1.cls ≠ "java/lang/invoke/VarHandle") ∧ Cond.instantiable q.1.cls q.2 ∈ tables_1 ∧ Cond.privateMethod q.1 ∈ tables_1 ∧ Cond.instanceMethod q.1 ∈ tables_1
theorem lw_p0 : lw_okq (⟨"PenAcres", "finding", "(I)I"⟩, 8) := ⟨⟨by decide +kernel, by decide +kernel⟩, List.mem_of_getElem? (i := 22) (by decide +kernel), List.mem_of_getElem? (i := 265) (by decide +kernel), List.mem_of_getElem? (i := 266) (by decide +kernel)⟩
theorem lw_p1 : lw_okq (⟨"PenAcres$Land", "stakeClaims", "()V"⟩, 6) := ⟨⟨by decide +kernel, by decide +kernel⟩, List.mem_of_getElem? (i := 98) (by decide +kernel), List.mem_of_getElem? (i := 318) (by decide +kernel), List.mem_of_getElem? (i := 319) (by decide +kernel)⟩
theorem lw_p2 : lw_okq (⟨"PenAcres$Land", "shareOf", "(I)J"⟩, 6) := ⟨⟨by decide +kernel, by decide +kernel⟩, List.mem_of_getElem? (i := 98) (by decide +kernel), List.mem_of_getElem? (i := 326) (by decide +kernel), List.mem_of_getElem? (i := 327) (by decide +kernel)⟩
theorem lw_p3 : lw_okq (⟨"PenAcres$Land", "goesBefore", "(II)Z"⟩, 6) := ⟨⟨by decide +kernel, by decide +kernel⟩, List.mem_of_getElem? (i := 98) (by decide +kernel), List.mem_of_getElem? (i := 330) (by decide +kernel), List.mem_of_getElem? (i := 331) (by decide +kernel)⟩
theorem lw_p4 : lw_okq (⟨"PenAcres", "onTrial", "(I)LPenAcres$Hand;"⟩, 8) := ⟨⟨by decide +kernel, by decide +kernel⟩, List.mem_of_getElem? (i := 22) (by decide +kernel), List.mem_of_getElem? (i := 601) (by decide +kernel), List.mem_of_getElem? (i := 602) (by decide +kernel)⟩
theorem lw_p5 : lw_okq (⟨"PenAcres$Tape", "goOn", "()V"⟩, 6) := ⟨⟨by decide +kernel, by decide +kernel⟩, List.mem_of_getElem? (i := 182) (by decide +kernel), List.mem_of_getElem? (i := 699) (by decide +kernel), List.mem_of_getElem? (i := 700) (by decide +kernel)⟩
theorem lw_p6 : lw_okq (⟨"PenAcres$Tape", "byteAt", "(I)C"⟩, 6) := ⟨⟨by decide +kernel, by decide +kernel⟩, List.mem_of_getElem? (i := 182) (by decide +kernel), List.mem_of_getElem? (i := 703) (by decide +kernel), List.mem_of_getElem? (i := 704) (by decide +kernel)⟩
theorem lw_p7 : lw_okq (⟨"PenAcres$Tape", "goOverWord", "()V"⟩, 6) := ⟨⟨by decide +kernel, by decide +kernel⟩, List.mem_of_getElem? (i := 182) (by decide +kernel), List.mem_of_getElem? (i := 710) (by decide +kernel), List.mem_of_getElem? (i := 711) (by decide +kernel)⟩
theorem lw_p8 : lw_okq (⟨"PenAcres$Tape", "goOverNumber", "()V"⟩, 6) := ⟨⟨by decide +kernel, by decide +kernel⟩, List.mem_of_getElem? (i := 182) (by decide +kernel), List.mem_of_getElem? (i := 717) (by decide +kernel), List.mem_of_getElem? (i := 718) (by decide +kernel)⟩
theorem lw_p9 : lw_okq (⟨"PenAcres$Tape", "takeItem", "(LPenAcres$Land;[LPenAcres$HandKind;)Z"⟩, 6) := ⟨⟨by decide +kernel, by decide +kernel⟩, List.mem_of_getElem? (i := 182) (by decide +kernel), List.mem_of_getElem? (i := 722) (by decide +kernel), List.mem_of_getElem? (i := 723) (by decide +kernel)⟩
theorem lw_p10 : lw_okq (⟨"PenAcres$Tape", "isWord", "(Ljava/lang/String;)Z"⟩, 6) := ⟨⟨by decide +kernel, by decide +kernel⟩, List.mem_of_getElem? (i := 182) (by decide +kernel), List.mem_of_getElem? (i := 727) (by decide +kernel), List.mem_of_getElem? (i := 728) (by decide +kernel)⟩
theorem lw_p11 : lw_okq (⟨"PenAcres$Tape", "takeSmudge", "(LPenAcres$Land;Z)Z"⟩, 6) := ⟨⟨by decide +kernel, by decide +kernel⟩, List.mem_of_getElem? (i := 182) (by decide +kernel), List.mem_of_getElem? (i := 779) (by decide +kernel), List.mem_of_getElem? (i := 780) (by decide +kernel)⟩
theorem lw_p12 : lw_okq (⟨"PenAcres$Tape", "isNumber", "(II)Z"⟩, 6) := ⟨⟨by decide +kernel, by decide +kernel⟩, List.mem_of_getElem? (i := 182) (by decide +kernel), List.mem_of_getElem? (i := 783) (by decide +kernel), List.mem_of_getElem? (i := 784) (by decide +kernel)⟩
theorem lw_p13 : lw_okq (⟨"PenAcres$Tape", "kindNamed", "([LPenAcres$HandKind;)LPenAcres$HandKind;"⟩, 6) := ⟨⟨by decide +kernel, by decide +kernel⟩, List.mem_of_getElem? (i := 182) (by decide +kernel), List.mem_of_getElem? (i := 789) (by decide +kernel), List.mem_of_getElem? (i := 790) (by decide +kernel)⟩
theorem lw_p14 : lw_okq (⟨"PenAcres$Tape", "takeHand", "(LPenAcres$Land;LPenAcres$HandKind;)Z"⟩, 6) := ⟨⟨by decide +kernel, by decide +kernel⟩, List.mem_of_getElem? (i := 182) (by decide +kernel), List.mem_of_getElem? (i := 794) (by decide +kernel), List.mem_of_getElem? (i := 795) (by decide +kernel)⟩
theorem lw_p15 : lw_okq (⟨"PenAcres$Tape", "takeInk", "(LPenAcres$Hand;)Z"⟩, 6) := ⟨⟨by decide +kernel, by decide +kernel⟩, List.mem_of_getElem? (i := 182) (by decide +kernel), List.mem_of_getElem? (i := 800) (by decide +kernel), List.mem_of_getElem? (i := 801) (by decide +kernel)⟩
def lw_privs_1 : List (MethodName × Nat) := [(⟨"PenAcres", "finding", "(I)I"⟩, 8), (⟨"PenAcres$Land", "stakeClaims", "()V"⟩, 6), (⟨"PenAcres$Land", "shareOf", "(I)J"⟩, 6), (⟨"PenAcres$Land", "goesBefore", "(II)Z"⟩, 6), (⟨"PenAcres", "onTrial", "(I)LPenAcres$Hand;"⟩, 8), (⟨"PenAcres$Tape", "goOn", "()V"⟩, 6), (⟨"PenAcres$Tape", "byteAt", "(I)C"⟩, 6), (⟨"PenAcres$Tape", "goOverWord", "()V"⟩, 6), (⟨"PenAcres$Tape", "goOverNumber", "()V"⟩, 6), (⟨"PenAcres$Tape", "takeItem", "(LPenAcres$Land;[LPenAcres$HandKind;)Z"⟩, 6), (⟨"PenAcres$Tape", "isWord", "(Ljava/lang/String;)Z"⟩, 6), (⟨"PenAcres$Tape", "takeSmudge", "(LPenAcres$Land;Z)Z"⟩, 6), (⟨"PenAcres$Tape", "isNumber", "(II)Z"⟩, 6), (⟨"PenAcres$Tape", "kindNamed", "([LPenAcres$HandKind;)LPenAcres$HandKind;"⟩, 6), (⟨"PenAcres$Tape", "takeHand", "(LPenAcres$Land;LPenAcres$HandKind;)Z"⟩, 6), (⟨"PenAcres$Tape", "takeInk", "(LPenAcres$Hand;)Z"⟩, 6)]
theorem lw_r1 : ∀ q ∈ lw_privs_1, lw_okq q := List.forall_mem_cons.mpr ⟨lw_p0, List.forall_mem_cons.mpr ⟨lw_p1, List.forall_mem_cons.mpr ⟨lw_p2, List.forall_mem_cons.mpr ⟨lw_p3, List.forall_mem_cons.mpr ⟨lw_p4, List.forall_mem_cons.mpr ⟨lw_p5, List.forall_mem_cons.mpr ⟨lw_p6, List.forall_mem_cons.mpr ⟨lw_p7, List.forall_mem_cons.mpr ⟨lw_p8, List.forall_mem_cons.mpr ⟨lw_p9, List.forall_mem_cons.mpr ⟨lw_p10, List.forall_mem_cons.mpr ⟨lw_p11, List.forall_mem_cons.mpr ⟨lw_p12, List.forall_mem_cons.mpr ⟨lw_p13, List.forall_mem_cons.mpr ⟨lw_p14, List.forall_mem_cons.mpr ⟨lw_p15, fun _ h => absurd h List.not_mem_nil⟩⟩⟩⟩⟩⟩⟩⟩⟩⟩⟩⟩⟩⟩⟩⟩
theorem lw_p16 : lw_okq (⟨"PenAcres$Tape", "takeStrokes", "(LPenAcres$Hand;)Z"⟩, 6) := ⟨⟨by decide +kernel, by decide +kernel⟩, List.mem_of_getElem? (i := 182) (by decide +kernel), List.mem_of_getElem? (i := 805) (by decide +kernel), List.mem_of_getElem? (i := 806) (by decide +kernel)⟩
theorem lw_p17 : lw_okq (⟨"PenAcres$Tape", "wayNamed", "()I"⟩, 6) := ⟨⟨by decide +kernel, by decide +kernel⟩, List.mem_of_getElem? (i := 182) (by decide +kernel), List.mem_of_getElem? (i := 809) (by decide +kernel), List.mem_of_getElem? (i := 810) (by decide +kernel)⟩
theorem lw_p18 : lw_okq (⟨"PenAcres", "sheetOf", "(I)LPenAcres$Sheet;"⟩, 8) := ⟨⟨by decide +kernel, by decide +kernel⟩, List.mem_of_getElem? (i := 22) (by decide +kernel), List.mem_of_getElem? (i := 822) (by decide +kernel), List.mem_of_getElem? (i := 823) (by decide +kernel)⟩
theorem lw_p19 : lw_okq (⟨"PenAcres$Sheet", "lowestBits", "(J)J"⟩, 3) := ⟨⟨by decide +kernel, by decide +kernel⟩, List.mem_of_getElem? (i := 210) (by decide +kernel), List.mem_of_getElem? (i := 847) (by decide +kernel), List.mem_of_getElem? (i := 848) (by decide +kernel)⟩
theorem lw_p20 : lw_okq (⟨"PenAcres", "tells", "(LPenAcres$Sheet;ILPenAcres$HandKind;I)Z"⟩, 8) := ⟨⟨by decide +kernel, by decide +kernel⟩, List.mem_of_getElem? (i := 22) (by decide +kernel), List.mem_of_getElem? (i := 873) (by decide +kernel), List.mem_of_getElem? (i := 874) (by decide +kernel)⟩
theorem lw_p21 : lw_okq (⟨"PenAcresModel", "becomes", "(II)I"⟩, 20) := ⟨⟨by decide +kernel, by decide +kernel⟩, List.mem_of_getElem? (i := 905) (by decide +kernel), List.mem_of_getElem? (i := 983) (by decide +kernel), List.mem_of_getElem? (i := 984) (by decide +kernel)⟩
theorem lw_p22 : lw_okq (⟨"PenAcresModel", "finds", "(I)I"⟩, 20) := ⟨⟨by decide +kernel, by decide +kernel⟩, List.mem_of_getElem? (i := 905) (by decide +kernel), List.mem_of_getElem? (i := 988) (by decide +kernel), List.mem_of_getElem? (i := 989) (by decide +kernel)⟩
theorem lw_p23 : lw_okq (⟨"PenAcresModel", "writeAll", "()V"⟩, 20) := ⟨⟨by decide +kernel, by decide +kernel⟩, List.mem_of_getElem? (i := 905) (by decide +kernel), List.mem_of_getElem? (i := 997) (by decide +kernel), List.mem_of_getElem? (i := 998) (by decide +kernel)⟩
theorem lw_p24 : lw_okq (⟨"PenAcresModel", "smudges", "()J"⟩, 20) := ⟨⟨by decide +kernel, by decide +kernel⟩, List.mem_of_getElem? (i := 905) (by decide +kernel), List.mem_of_getElem? (i := 1001) (by decide +kernel), List.mem_of_getElem? (i := 1002) (by decide +kernel)⟩
theorem lw_p25 : lw_okq (⟨"PenAcresModel", "draws", "(IJ)V"⟩, 20) := ⟨⟨by decide +kernel, by decide +kernel⟩, List.mem_of_getElem? (i := 905) (by decide +kernel), List.mem_of_getElem? (i := 1005) (by decide +kernel), List.mem_of_getElem? (i := 1006) (by decide +kernel)⟩
theorem lw_p26 : lw_okq (⟨"PenAcresModel", "its", "(II)I"⟩, 20) := ⟨⟨by decide +kernel, by decide +kernel⟩, List.mem_of_getElem? (i := 905) (by decide +kernel), List.mem_of_getElem? (i := 1009) (by decide +kernel), List.mem_of_getElem? (i := 1010) (by decide +kernel)⟩
theorem lw_p27 : lw_okq (⟨"PenAcresModel", "turned", "(II)I"⟩, 20) := ⟨⟨by decide +kernel, by decide +kernel⟩, List.mem_of_getElem? (i := 905) (by decide +kernel), List.mem_of_getElem? (i := 1016) (by decide +kernel), List.mem_of_getElem? (i := 1017) (by decide +kernel)⟩
theorem lw_p28 : lw_okq (⟨"PenAcresModel", "stepsOf", "(II)I"⟩, 20) := ⟨⟨by decide +kernel, by decide +kernel⟩, List.mem_of_getElem? (i := 905) (by decide +kernel), List.mem_of_getElem? (i := 1020) (by decide +kernel), List.mem_of_getElem? (i := 1021) (by decide +kernel)⟩
theorem lw_p29 : lw_okq (⟨"PenAcresModel", "ownerOf", "(I)I"⟩, 20) := ⟨⟨by decide +kernel, by decide +kernel⟩, List.mem_of_getElem? (i := 905) (by decide +kernel), List.mem_of_getElem? (i := 1038) (by decide +kernel), List.mem_of_getElem? (i := 1039) (by decide +kernel)⟩
theorem lw_p30 : lw_okq (⟨"PenAcresModel", "writes", "(I)Z"⟩, 20) := ⟨⟨by decide +kernel, by decide +kernel⟩, List.mem_of_getElem? (i := 905) (by decide +kernel), List.mem_of_getElem? (i := 1042) (by decide +kernel), List.mem_of_getElem? (i := 1043) (by decide +kernel)⟩
theorem lw_p31 : lw_okq (⟨"PenAcresModel", "thoseWith", "(IZ)I"⟩, 20) := ⟨⟨by decide +kernel, by decide +kernel⟩, List.mem_of_getElem? (i := 905) (by decide +kernel), List.mem_of_getElem? (i := 1046) (by decide +kernel), List.mem_of_getElem? (i := 1047) (by decide +kernel)⟩
def lw_privs_2 : List (MethodName × Nat) := [(⟨"PenAcres$Tape", "takeStrokes", "(LPenAcres$Hand;)Z"⟩, 6), (⟨"PenAcres$Tape", "wayNamed", "()I"⟩, 6), (⟨"PenAcres", "sheetOf", "(I)LPenAcres$Sheet;"⟩, 8), (⟨"PenAcres$Sheet", "lowestBits", "(J)J"⟩, 3), (⟨"PenAcres", "tells", "(LPenAcres$Sheet;ILPenAcres$HandKind;I)Z"⟩, 8), (⟨"PenAcresModel", "becomes", "(II)I"⟩, 20), (⟨"PenAcresModel", "finds", "(I)I"⟩, 20), (⟨"PenAcresModel", "writeAll", "()V"⟩, 20), (⟨"PenAcresModel", "smudges", "()J"⟩, 20), (⟨"PenAcresModel", "draws", "(IJ)V"⟩, 20), (⟨"PenAcresModel", "its", "(II)I"⟩, 20), (⟨"PenAcresModel", "turned", "(II)I"⟩, 20), (⟨"PenAcresModel", "stepsOf", "(II)I"⟩, 20), (⟨"PenAcresModel", "ownerOf", "(I)I"⟩, 20), (⟨"PenAcresModel", "writes", "(I)Z"⟩, 20), (⟨"PenAcresModel", "thoseWith", "(IZ)I"⟩, 20)]
theorem lw_r2 : ∀ q ∈ lw_privs_2, lw_okq q := List.forall_mem_cons.mpr ⟨lw_p16, List.forall_mem_cons.mpr ⟨lw_p17, List.forall_mem_cons.mpr ⟨lw_p18, List.forall_mem_cons.mpr ⟨lw_p19, List.forall_mem_cons.mpr ⟨lw_p20, List.forall_mem_cons.mpr ⟨lw_p21, List.forall_mem_cons.mpr ⟨lw_p22, List.forall_mem_cons.mpr ⟨lw_p23, List.forall_mem_cons.mpr ⟨lw_p24, List.forall_mem_cons.mpr ⟨lw_p25, List.forall_mem_cons.mpr ⟨lw_p26, List.forall_mem_cons.mpr ⟨lw_p27, List.forall_mem_cons.mpr ⟨lw_p28, List.forall_mem_cons.mpr ⟨lw_p29, List.forall_mem_cons.mpr ⟨lw_p30, List.forall_mem_cons.mpr ⟨lw_p31, fun _ h => absurd h List.not_mem_nil⟩⟩⟩⟩⟩⟩⟩⟩⟩⟩⟩⟩⟩⟩⟩⟩
theorem lw_p32 : lw_okq (⟨"PenAcresModel", "writersInside", "(I)I"⟩, 20) := ⟨⟨by decide +kernel, by decide +kernel⟩, List.mem_of_getElem? (i := 905) (by decide +kernel), List.mem_of_getElem? (i := 1055) (by decide +kernel), List.mem_of_getElem? (i := 1056) (by decide +kernel)⟩
theorem lw_p33 : lw_okq (⟨"PenAcresModel", "adds", "(II)I"⟩, 20) := ⟨⟨by decide +kernel, by decide +kernel⟩, List.mem_of_getElem? (i := 905) (by decide +kernel), List.mem_of_getElem? (i := 1068) (by decide +kernel), List.mem_of_getElem? (i := 1069) (by decide +kernel)⟩
theorem lw_p34 : lw_okq (⟨"PenAcresModel", "isHand", "(I)Z"⟩, 20) := ⟨⟨by decide +kernel, by decide +kernel⟩, List.mem_of_getElem? (i := 905) (by decide +kernel), List.mem_of_getElem? (i := 1076) (by decide +kernel), List.mem_of_getElem? (i := 1077) (by decide +kernel)⟩
theorem lw_p35 : lw_okq (⟨"PenAcresModel", "strokes", "(III)I"⟩, 20) := ⟨⟨by decide +kernel, by decide +kernel⟩, List.mem_of_getElem? (i := 905) (by decide +kernel), List.mem_of_getElem? (i := 1084) (by decide +kernel), List.mem_of_getElem? (i := 1085) (by decide +kernel)⟩
theorem lw_p36 : lw_okq (⟨"PenAcresModel", "ownedBy", "(I)I"⟩, 20) := ⟨⟨by decide +kernel, by decide +kernel⟩, List.mem_of_getElem? (i := 905) (by decide +kernel), List.mem_of_getElem? (i := 1096) (by decide +kernel), List.mem_of_getElem? (i := 1097) (by decide +kernel)⟩
theorem lw_p37 : lw_okq (⟨"PenAcresModel", "cropOf", "(I)I"⟩, 20) := ⟨⟨by decide +kernel, by decide +kernel⟩, List.mem_of_getElem? (i := 905) (by decide +kernel), List.mem_of_getElem? (i := 1100) (by decide +kernel), List.mem_of_getElem? (i := 1101) (by decide +kernel)⟩
theorem lw_p38 : lw_okq (⟨"PenAcresModel", "isStroke", "(II)Z"⟩, 20) := ⟨⟨by decide +kernel, by decide +kernel⟩, List.mem_of_getElem? (i := 905) (by decide +kernel), List.mem_of_getElem? (i := 1108) (by decide +kernel), List.mem_of_getElem? (i := 1109) (by decide +kernel)⟩
theorem lw_p39 : lw_okq (⟨"PenAcresModel", "goesOn", "(I)V"⟩, 20) := ⟨⟨by decide +kernel, by decide +kernel⟩, List.mem_of_getElem? (i := 905) (by decide +kernel), List.mem_of_getElem? (i := 1151) (by decide +kernel), List.mem_of_getElem? (i := 1152) (by decide +kernel)⟩
theorem lw_p40 : lw_okq (⟨"PenAcresModel", "year", "()V"⟩, 20) := ⟨⟨by decide +kernel, by decide +kernel⟩, List.mem_of_getElem? (i := 905) (by decide +kernel), List.mem_of_getElem? (i := 1155) (by decide +kernel), List.mem_of_getElem? (i := 1156) (by decide +kernel)⟩
theorem lw_p41 : lw_okq (⟨"PenAcresModel", "together", "(I)I"⟩, 20) := ⟨⟨by decide +kernel, by decide +kernel⟩, List.mem_of_getElem? (i := 905) (by decide +kernel), List.mem_of_getElem? (i := 1160) (by decide +kernel), List.mem_of_getElem? (i := 1161) (by decide +kernel)⟩
theorem lw_p42 : lw_okq (⟨"PenAcresModel", "thoseThatWrite", "()I"⟩, 20) := ⟨⟨by decide +kernel, by decide +kernel⟩, List.mem_of_getElem? (i := 905) (by decide +kernel), List.mem_of_getElem? (i := 1168) (by decide +kernel), List.mem_of_getElem? (i := 1169) (by decide +kernel)⟩
theorem lw_p43 : lw_okq (⟨"PenAcresModel", "laysAside", "()V"⟩, 20) := ⟨⟨by decide +kernel, by decide +kernel⟩, List.mem_of_getElem? (i := 905) (by decide +kernel), List.mem_of_getElem? (i := 1176) (by decide +kernel), List.mem_of_getElem? (i := 1177) (by decide +kernel)⟩
theorem lw_p44 : lw_okq (⟨"PenAcresModel", "ownsNow", "(I)I"⟩, 20) := ⟨⟨by decide +kernel, by decide +kernel⟩, List.mem_of_getElem? (i := 905) (by decide +kernel), List.mem_of_getElem? (i := 1180) (by decide +kernel), List.mem_of_getElem? (i := 1181) (by decide +kernel)⟩
theorem lw_p45 : lw_okq (⟨"PenAcresModel", "takesBack", "(I)I"⟩, 20) := ⟨⟨by decide +kernel, by decide +kernel⟩, List.mem_of_getElem? (i := 905) (by decide +kernel), List.mem_of_getElem? (i := 1184) (by decide +kernel), List.mem_of_getElem? (i := 1185) (by decide +kernel)⟩
theorem lw_p46 : lw_okq (⟨"PenAcresModel", "isDry", "(I)Z"⟩, 20) := ⟨⟨by decide +kernel, by decide +kernel⟩, List.mem_of_getElem? (i := 905) (by decide +kernel), List.mem_of_getElem? (i := 1192) (by decide +kernel), List.mem_of_getElem? (i := 1193) (by decide +kernel)⟩
theorem lw_p47 : lw_okq (⟨"PenAcresModel", "richest", "()I"⟩, 20) := ⟨⟨by decide +kernel, by decide +kernel⟩, List.mem_of_getElem? (i := 905) (by decide +kernel), List.mem_of_getElem? (i := 1201) (by decide +kernel), List.mem_of_getElem? (i := 1202) (by decide +kernel)⟩
def lw_privs_3 : List (MethodName × Nat) := [(⟨"PenAcresModel", "writersInside", "(I)I"⟩, 20), (⟨"PenAcresModel", "adds", "(II)I"⟩, 20), (⟨"PenAcresModel", "isHand", "(I)Z"⟩, 20), (⟨"PenAcresModel", "strokes", "(III)I"⟩, 20), (⟨"PenAcresModel", "ownedBy", "(I)I"⟩, 20), (⟨"PenAcresModel", "cropOf", "(I)I"⟩, 20), (⟨"PenAcresModel", "isStroke", "(II)Z"⟩, 20), (⟨"PenAcresModel", "goesOn", "(I)V"⟩, 20), (⟨"PenAcresModel", "year", "()V"⟩, 20), (⟨"PenAcresModel", "together", "(I)I"⟩, 20), (⟨"PenAcresModel", "thoseThatWrite", "()I"⟩, 20), (⟨"PenAcresModel", "laysAside", "()V"⟩, 20), (⟨"PenAcresModel", "ownsNow", "(I)I"⟩, 20), (⟨"PenAcresModel", "takesBack", "(I)I"⟩, 20), (⟨"PenAcresModel", "isDry", "(I)Z"⟩, 20), (⟨"PenAcresModel", "richest", "()I"⟩, 20)]
theorem lw_r3 : ∀ q ∈ lw_privs_3, lw_okq q := List.forall_mem_cons.mpr ⟨lw_p32, List.forall_mem_cons.mpr ⟨lw_p33, List.forall_mem_cons.mpr ⟨lw_p34, List.forall_mem_cons.mpr ⟨lw_p35, List.forall_mem_cons.mpr ⟨lw_p36, List.forall_mem_cons.mpr ⟨lw_p37, List.forall_mem_cons.mpr ⟨lw_p38, List.forall_mem_cons.mpr ⟨lw_p39, List.forall_mem_cons.mpr ⟨lw_p40, List.forall_mem_cons.mpr ⟨lw_p41, List.forall_mem_cons.mpr ⟨lw_p42, List.forall_mem_cons.mpr ⟨lw_p43, List.forall_mem_cons.mpr ⟨lw_p44, List.forall_mem_cons.mpr ⟨lw_p45, List.forall_mem_cons.mpr ⟨lw_p46, List.forall_mem_cons.mpr ⟨lw_p47, fun _ h => absurd h List.not_mem_nil⟩⟩⟩⟩⟩⟩⟩⟩⟩⟩⟩⟩⟩⟩⟩⟩
theorem lw_p48 : lw_okq (⟨"PenAcresModel", "insideMany", "(I)I"⟩, 20) := ⟨⟨by decide +kernel, by decide +kernel⟩, List.mem_of_getElem? (i := 905) (by decide +kernel), List.mem_of_getElem? (i := 1209) (by decide +kernel), List.mem_of_getElem? (i := 1210) (by decide +kernel)⟩
theorem lw_p49 : lw_okq (⟨"PenAcresModel", "saves", "()V"⟩, 20) := ⟨⟨by decide +kernel, by decide +kernel⟩, List.mem_of_getElem? (i := 905) (by decide +kernel), List.mem_of_getElem? (i := 1254) (by decide +kernel), List.mem_of_getElem? (i := 1255) (by decide +kernel)⟩
theorem lw_p50 : lw_okq (⟨"PenAcresModel", "token", "()V"⟩, 20) := ⟨⟨by decide +kernel, by decide +kernel⟩, List.mem_of_getElem? (i := 905) (by decide +kernel), List.mem_of_getElem? (i := 1258) (by decide +kernel), List.mem_of_getElem? (i := 1259) (by decide +kernel)⟩
theorem lw_p51 : lw_okq (⟨"PenAcresModel", "byteAt", "(I)I"⟩, 20) := ⟨⟨by decide +kernel, by decide +kernel⟩, List.mem_of_getElem? (i := 905) (by decide +kernel), List.mem_of_getElem? (i := 1262) (by decide +kernel), List.mem_of_getElem? (i := 1263) (by decide +kernel)⟩
theorem lw_p52 : lw_okq (⟨"PenAcresModel", "item", "()V"⟩, 20) := ⟨⟨by decide +kernel, by decide +kernel⟩, List.mem_of_getElem? (i := 905) (by decide +kernel), List.mem_of_getElem? (i := 1276) (by decide +kernel), List.mem_of_getElem? (i := 1277) (by decide +kernel)⟩
theorem lw_p53 : lw_okq (⟨"PenAcresModel", "kindHere", "()I"⟩, 20) := ⟨⟨by decide +kernel, by decide +kernel⟩, List.mem_of_getElem? (i := 905) (by decide +kernel), List.mem_of_getElem? (i := 1280) (by decide +kernel), List.mem_of_getElem? (i := 1281) (by decide +kernel)⟩
theorem lw_p54 : lw_okq (⟨"PenAcresModel", "word", "()J"⟩, 20) := ⟨⟨by decide +kernel, by decide +kernel⟩, List.mem_of_getElem? (i := 905) (by decide +kernel), List.mem_of_getElem? (i := 1284) (by decide +kernel), List.mem_of_getElem? (i := 1285) (by decide +kernel)⟩
theorem lw_p55 : lw_okq (⟨"PenAcresModel", "handItem", "(I)V"⟩, 20) := ⟨⟨by decide +kernel, by decide +kernel⟩, List.mem_of_getElem? (i := 905) (by decide +kernel), List.mem_of_getElem? (i := 1296) (by decide +kernel), List.mem_of_getElem? (i := 1297) (by decide +kernel)⟩
theorem lw_p56 : lw_okq (⟨"PenAcresModel", "must", "(Z)V"⟩, 20) := ⟨⟨by decide +kernel, by decide +kernel⟩, List.mem_of_getElem? (i := 905) (by decide +kernel), List.mem_of_getElem? (i := 1300) (by decide +kernel), List.mem_of_getElem? (i := 1301) (by decide +kernel)⟩
theorem lw_p57 : lw_okq (⟨"PenAcresModel", "number", "(II)V"⟩, 20) := ⟨⟨by decide +kernel, by decide +kernel⟩, List.mem_of_getElem? (i := 905) (by decide +kernel), List.mem_of_getElem? (i := 1305) (by decide +kernel), List.mem_of_getElem? (i := 1306) (by decide +kernel)⟩
theorem lw_p58 : lw_okq (⟨"PenAcresModel", "wayHere", "()I"⟩, 20) := ⟨⟨by decide +kernel, by decide +kernel⟩, List.mem_of_getElem? (i := 905) (by decide +kernel), List.mem_of_getElem? (i := 1310) (by decide +kernel), List.mem_of_getElem? (i := 1311) (by decide +kernel)⟩
theorem lw_p59 : lw_okq (⟨"PenAcresModel", "putsBack", "()V"⟩, 20) := ⟨⟨by decide +kernel, by decide +kernel⟩, List.mem_of_getElem? (i := 905) (by decide +kernel), List.mem_of_getElem? (i := 1320) (by decide +kernel), List.mem_of_getElem? (i := 1321) (by decide +kernel)⟩
theorem lw_p60 : lw_okq (⟨"PenAcresModel", "wrong", "(I)I"⟩, 20) := ⟨⟨by decide +kernel, by decide +kernel⟩, List.mem_of_getElem? (i := 905) (by decide +kernel), List.mem_of_getElem? (i := 1336) (by decide +kernel), List.mem_of_getElem? (i := 1337) (by decide +kernel)⟩
theorem lw_p61 : lw_okq (⟨"PenAcresModel", "isBook", "(II)Z"⟩, 20) := ⟨⟨by decide +kernel, by decide +kernel⟩, List.mem_of_getElem? (i := 905) (by decide +kernel), List.mem_of_getElem? (i := 1360) (by decide +kernel), List.mem_of_getElem? (i := 1361) (by decide +kernel)⟩
theorem lw_p62 : lw_okq (⟨"PenAcresModel", "costsAll", "()I"⟩, 20) := ⟨⟨by decide +kernel, by decide +kernel⟩, List.mem_of_getElem? (i := 905) (by decide +kernel), List.mem_of_getElem? (i := 1380) (by decide +kernel), List.mem_of_getElem? (i := 1381) (by decide +kernel)⟩
def lw_privs_4 : List (MethodName × Nat) := [(⟨"PenAcresModel", "insideMany", "(I)I"⟩, 20), (⟨"PenAcresModel", "saves", "()V"⟩, 20), (⟨"PenAcresModel", "token", "()V"⟩, 20), (⟨"PenAcresModel", "byteAt", "(I)I"⟩, 20), (⟨"PenAcresModel", "item", "()V"⟩, 20), (⟨"PenAcresModel", "kindHere", "()I"⟩, 20), (⟨"PenAcresModel", "word", "()J"⟩, 20), (⟨"PenAcresModel", "handItem", "(I)V"⟩, 20), (⟨"PenAcresModel", "must", "(Z)V"⟩, 20), (⟨"PenAcresModel", "number", "(II)V"⟩, 20), (⟨"PenAcresModel", "wayHere", "()I"⟩, 20), (⟨"PenAcresModel", "putsBack", "()V"⟩, 20), (⟨"PenAcresModel", "wrong", "(I)I"⟩, 20), (⟨"PenAcresModel", "isBook", "(II)Z"⟩, 20), (⟨"PenAcresModel", "costsAll", "()I"⟩, 20)]
theorem lw_r4 : ∀ q ∈ lw_privs_4, lw_okq q := List.forall_mem_cons.mpr ⟨lw_p48, List.forall_mem_cons.mpr ⟨lw_p49, List.forall_mem_cons.mpr ⟨lw_p50, List.forall_mem_cons.mpr ⟨lw_p51, List.forall_mem_cons.mpr ⟨lw_p52, List.forall_mem_cons.mpr ⟨lw_p53, List.forall_mem_cons.mpr ⟨lw_p54, List.forall_mem_cons.mpr ⟨lw_p55, List.forall_mem_cons.mpr ⟨lw_p56, List.forall_mem_cons.mpr ⟨lw_p57, List.forall_mem_cons.mpr ⟨lw_p58, List.forall_mem_cons.mpr ⟨lw_p59, List.forall_mem_cons.mpr ⟨lw_p60, List.forall_mem_cons.mpr ⟨lw_p61, List.forall_mem_cons.mpr ⟨lw_p62, fun _ h => absurd h List.not_mem_nil⟩⟩⟩⟩⟩⟩⟩⟩⟩⟩⟩⟩⟩⟩⟩
def lw_privs : List (MethodName × Nat) := lw_privs_1 ++ (lw_privs_2 ++ (lw_privs_3 ++ (lw_privs_4)))
def lw_tbl : List Cond := k2_sels lw_privs ++ tables_1
theorem lw_privs_ok : ∀ q ∈ lw_privs, lw_okq q := by
  show ∀ q ∈ lw_privs_1 ++ (lw_privs_2 ++ (lw_privs_3 ++ (lw_privs_4))), lw_okq q
  exact List.forall_mem_append.mpr ⟨lw_r1, List.forall_mem_append.mpr ⟨lw_r2, List.forall_mem_append.mpr ⟨lw_r3, lw_r4⟩⟩⟩
end
section
def RX0 : String := "PenAcres$DukeKind"
def TX0 : u_T := fun k => match k with
  | 0 => ("PenAcres$HandKind", "number", "I", true)
  | _ => ("PenAcres$HandKind", "word", "Ljava/lang/String;", true)
def tyX0 : Nat → FieldType := fun k => match k with
  | 0 => .int
  | _ => .object "java/lang/String"
abbrev wsX00 : List Cond := u_ws RX0 TX0 2
theorem nmX0 : ∀ a, a < 2 → ∀ b, b < 2 → a ≠ b → (TX0 a).2.1 ≠ (TX0 b).2.1 := by decide +kernel
theorem tyX0_ok : ∀ k, k < 2 → parseFieldDescriptor (TX0 k).2.2.1 = some (tyX0 k) := by decide +kernel
abbrev cX0_init : ByteArray := prog_2_method_1_code
def yX0_init : MethodName := ⟨RX0, "<init>", "(ILjava/lang/String;)V"⟩
abbrev cX0_isOf : ByteArray := prog_2_method_2_code
def yX0_isOf : MethodName := ⟨RX0, "isOf", "(I)Z"⟩
abbrev cX0_steps : ByteArray := prog_2_method_3_code
def yX0_steps : MethodName := ⟨RX0, "steps", "(II)I"⟩
def RX1 : String := "PenAcres$Grid"
def TX1 : u_T := fun k => match k with
  | _ => ("", "", "", false)
def tyX1 : Nat → FieldType := fun k => match k with
  | _ => .int
abbrev wsX10 : List Cond := u_ws RX1 TX1 0
theorem nmX1 : ∀ a, a < 0 → ∀ b, b < 0 → a ≠ b → (TX1 a).2.1 ≠ (TX1 b).2.1 := by decide +kernel
theorem tyX1_ok : ∀ k, k < 0 → parseFieldDescriptor (TX1 k).2.2.1 = some (tyX1 k) := by decide +kernel
abbrev cX1_bit : ByteArray := prog_3_method_2_code
def yX1_bit : MethodName := ⟨RX1, "bit", "(I)J"⟩
abbrev cX1_stepFrom : ByteArray := prog_3_method_3_code
def yX1_stepFrom : MethodName := ⟨RX1, "stepFrom", "(II)I"⟩
abbrev cX1_withBeside : ByteArray := prog_3_method_4_code
def yX1_withBeside : MethodName := ⟨RX1, "withBeside", "(J)J"⟩
abbrev cX1_enclosedBy : ByteArray := prog_3_method_5_code
def yX1_enclosedBy : MethodName := ⟨RX1, "enclosedBy", "(J)J"⟩
abbrev cX1_fewestSteps : ByteArray := prog_3_method_6_code
def yX1_fewestSteps : MethodName := ⟨RX1, "fewestSteps", "(JII)I"⟩
def RX2 : String := "PenAcres$Hand"
def TX2 : u_T := fun k => match k with
  | 0 => ("PenAcres$Hand", "kind", "LPenAcres$HandKind;", false)
  | 1 => ("PenAcres$Hand", "at", "I", false)
  | 2 => ("PenAcres$Hand", "ink", "I", false)
  | 3 => ("PenAcres$Hand", "corn", "I", false)
  | 4 => ("PenAcres$Hand", "strokes", "I", false)
  | 5 => ("PenAcres$Hand", "ways", "[I", true)
  | 6 => ("PenAcres$Hand", "lengths", "[I", true)
  | 7 => ("PenAcres$Hand", "path", "J", false)
  | 8 => ("PenAcres$Hand", "cost", "I", false)
  | 9 => ("PenAcres$Hand", "lineSeen", "J", false)
  | _ => ("PenAcres$Hand", "insideSeen", "J", false)
def tyX2 : Nat → FieldType := fun k => match k with
  | 0 => .object "PenAcres$HandKind"
  | 1 => .int
  | 2 => .int
  | 3 => .int
  | 4 => .int
  | 5 => .array .int
  | 6 => .array .int
  | 7 => .long
  | 8 => .int
  | 9 => .long
  | _ => .long
abbrev wsX20 : List Cond := u_ws RX2 TX2 11
theorem nmX2 : ∀ a, a < 11 → ∀ b, b < 11 → a ≠ b → (TX2 a).2.1 ≠ (TX2 b).2.1 := by decide +kernel
theorem tyX2_ok : ∀ k, k < 11 → parseFieldDescriptor (TX2 k).2.2.1 = some (tyX2 k) := by decide +kernel
abbrev cX2_init : ByteArray := prog_4_method_1_code
def yX2_init : MethodName := ⟨RX2, "<init>", "(LPenAcres$HandKind;)V"⟩
abbrev cX2_startAnew : ByteArray := prog_4_method_2_code
def yX2_startAnew : MethodName := ⟨RX2, "startAnew", "(LPenAcres$HandKind;I)V"⟩
abbrev cX2_takeFrom : ByteArray := prog_4_method_3_code
def yX2_takeFrom : MethodName := ⟨RX2, "takeFrom", "(LPenAcres$Hand;)V"⟩
abbrev cX2_hasStroke : ByteArray := prog_4_method_4_code
def yX2_hasStroke : MethodName := ⟨RX2, "hasStroke", "(I)Z"⟩
abbrev cX2_addStroke : ByteArray := prog_4_method_5_code
def yX2_addStroke : MethodName := ⟨RX2, "addStroke", "(II)Z"⟩
abbrev cX2_moveTo : ByteArray := prog_4_method_6_code
def yX2_moveTo : MethodName := ⟨RX2, "moveTo", "(I)V"⟩
abbrev cX2_become : ByteArray := prog_4_method_7_code
def yX2_become : MethodName := ⟨RX2, "become", "(LPenAcres$HandKind;)V"⟩
abbrev cX2_trace : ByteArray := prog_4_method_8_code
def yX2_trace : MethodName := ⟨RX2, "trace", "()V"⟩
abbrev cX2_writes : ByteArray := prog_4_method_9_code
def yX2_writes : MethodName := ⟨RX2, "writes", "()Z"⟩
abbrev cX2_lineUnder : ByteArray := prog_4_method_10_code
def yX2_lineUnder : MethodName := ⟨RX2, "lineUnder", "(J)J"⟩
abbrev cX2_insideUnder : ByteArray := prog_4_method_11_code
def yX2_insideUnder : MethodName := ⟨RX2, "insideUnder", "(J)J"⟩
abbrev cX2_howManyInside : ByteArray := prog_4_method_12_code
def yX2_howManyInside : MethodName := ⟨RX2, "howManyInside", "(J)I"⟩
abbrev cX2_howManyInsideWithLonger : ByteArray := prog_4_method_13_code
def yX2_howManyInsideWithLonger : MethodName := ⟨RX2, "howManyInsideWithLonger", "(IJ)I"⟩
abbrev cX2_goYear : ByteArray := prog_4_method_14_code
def yX2_goYear : MethodName := ⟨RX2, "goYear", "(I)V"⟩
def RX3 : String := "PenAcres$HandKind"
def TX3 : u_T := fun k => match k with
  | 0 => ("PenAcres$HandKind", "number", "I", true)
  | _ => ("PenAcres$HandKind", "word", "Ljava/lang/String;", true)
def tyX3 : Nat → FieldType := fun k => match k with
  | 0 => .int
  | _ => .object "java/lang/String"
abbrev wsX30 : List Cond := u_ws RX3 TX3 2
theorem nmX3 : ∀ a, a < 2 → ∀ b, b < 2 → a ≠ b → (TX3 a).2.1 ≠ (TX3 b).2.1 := by decide +kernel
theorem tyX3_ok : ∀ k, k < 2 → parseFieldDescriptor (TX3 k).2.2.1 = some (tyX3 k) := by decide +kernel
abbrev cX3_init : ByteArray := prog_5_method_1_code
def yX3_init : MethodName := ⟨RX3, "<init>", "(ILjava/lang/String;)V"⟩
abbrev cX3_isOf : ByteArray := prog_5_method_2_code
def yX3_isOf : MethodName := ⟨RX3, "isOf", "(I)Z"⟩
abbrev cX3_steps : ByteArray := prog_5_method_3_code
def yX3_steps : MethodName := ⟨RX3, "steps", "(II)I"⟩
abbrev cX3_turns : ByteArray := prog_5_method_4_code
def yX3_turns : MethodName := ⟨RX3, "turns", "(I)I"⟩
abbrev cX3_crop : ByteArray := prog_5_method_5_code
def yX3_crop : MethodName := ⟨RX3, "crop", "()I"⟩
def RX4 : String := "PenAcres$HeirKind"
def TX4 : u_T := fun k => match k with
  | 0 => ("PenAcres$HandKind", "number", "I", true)
  | _ => ("PenAcres$HandKind", "word", "Ljava/lang/String;", true)
def tyX4 : Nat → FieldType := fun k => match k with
  | 0 => .int
  | _ => .object "java/lang/String"
abbrev wsX40 : List Cond := u_ws RX4 TX4 2
theorem nmX4 : ∀ a, a < 2 → ∀ b, b < 2 → a ≠ b → (TX4 a).2.1 ≠ (TX4 b).2.1 := by decide +kernel
theorem tyX4_ok : ∀ k, k < 2 → parseFieldDescriptor (TX4 k).2.2.1 = some (tyX4 k) := by decide +kernel
abbrev cX4_init : ByteArray := prog_6_method_1_code
def yX4_init : MethodName := ⟨RX4, "<init>", "(ILjava/lang/String;)V"⟩
abbrev cX4_isOf : ByteArray := prog_6_method_2_code
def yX4_isOf : MethodName := ⟨RX4, "isOf", "(I)Z"⟩
abbrev cX4_steps : ByteArray := prog_6_method_3_code
def yX4_steps : MethodName := ⟨RX4, "steps", "(II)I"⟩
abbrev cX4_crop : ByteArray := prog_6_method_4_code
def yX4_crop : MethodName := ⟨RX4, "crop", "()I"⟩
def RX5 : String := "PenAcres$Land"
def TX5 : u_T := fun k => match k with
  | 0 => ("PenAcres$Land", "smudged", "J", false)
  | 1 => ("PenAcres$Land", "year", "I", false)
  | 2 => ("PenAcres$Land", "hands", "I", false)
  | 3 => ("PenAcres$Land", "rows", "[LPenAcres$Hand;", true)
  | 4 => ("PenAcres$Land", "claims", "[J", true)
  | _ => ("PenAcres$Land", "ownedCells", "[I", true)
def tyX5 : Nat → FieldType := fun k => match k with
  | 0 => .long
  | 1 => .int
  | 2 => .int
  | 3 => .array (.object "PenAcres$Hand")
  | 4 => .array .long
  | _ => .array .int
abbrev wsX50 : List Cond := u_ws RX5 TX5 6
theorem nmX5 : ∀ a, a < 6 → ∀ b, b < 6 → a ≠ b → (TX5 a).2.1 ≠ (TX5 b).2.1 := by decide +kernel
theorem tyX5_ok : ∀ k, k < 6 → parseFieldDescriptor (TX5 k).2.2.1 = some (tyX5 k) := by decide +kernel
abbrev cX5_init : ByteArray := prog_7_method_1_code
def yX5_init : MethodName := ⟨RX5, "<init>", "(LPenAcres$HandKind;)V"⟩
abbrev cX5_takeFrom : ByteArray := prog_7_method_2_code
def yX5_takeFrom : MethodName := ⟨RX5, "takeFrom", "(LPenAcres$Land;)V"⟩
abbrev cX5_isFull : ByteArray := prog_7_method_3_code
def yX5_isFull : MethodName := ⟨RX5, "isFull", "()Z"⟩
abbrev cX5_newHand : ByteArray := prog_7_method_4_code
def yX5_newHand : MethodName := ⟨RX5, "newHand", "(LPenAcres$HandKind;I)LPenAcres$Hand;"⟩
abbrev cX5_handOf : ByteArray := prog_7_method_5_code
def yX5_handOf : MethodName := ⟨RX5, "handOf", "(I)LPenAcres$Hand;"⟩
abbrev cX5_makeSmudged : ByteArray := prog_7_method_6_code
def yX5_makeSmudged : MethodName := ⟨RX5, "makeSmudged", "(IZ)V"⟩
abbrev cX5_handsOnWhoseLines : ByteArray := prog_7_method_7_code
def yX5_handsOnWhoseLines : MethodName := ⟨RX5, "handsOnWhoseLines", "(I)I"⟩
abbrev cX5_handsAround : ByteArray := prog_7_method_8_code
def yX5_handsAround : MethodName := ⟨RX5, "handsAround", "(I)I"⟩
abbrev cX5_handsThatWrite : ByteArray := prog_7_method_9_code
def yX5_handsThatWrite : MethodName := ⟨RX5, "handsThatWrite", "()I"⟩
abbrev cX5_stakeClaims : ByteArray := prog_7_method_10_code
def yX5_stakeClaims : MethodName := ⟨RX5, "stakeClaims", "()V"⟩
abbrev cX5_goesBefore : ByteArray := prog_7_method_11_code
def yX5_goesBefore : MethodName := ⟨RX5, "goesBefore", "(II)Z"⟩
abbrev cX5_shareOf : ByteArray := prog_7_method_12_code
def yX5_shareOf : MethodName := ⟨RX5, "shareOf", "(I)J"⟩
abbrev cX5_ownerOf : ByteArray := prog_7_method_13_code
def yX5_ownerOf : MethodName := ⟨RX5, "ownerOf", "(I)I"⟩
abbrev cX5_howManyOwnedBy : ByteArray := prog_7_method_14_code
def yX5_howManyOwnedBy : MethodName := ⟨RX5, "howManyOwnedBy", "(I)I"⟩
abbrev cX5_owned : ByteArray := prog_7_method_15_code
def yX5_owned : MethodName := ⟨RX5, "owned", "()J"⟩
abbrev cX5_disputed : ByteArray := prog_7_method_16_code
def yX5_disputed : MethodName := ⟨RX5, "disputed", "()J"⟩
abbrev cX5_goYear : ByteArray := prog_7_method_17_code
def yX5_goYear : MethodName := ⟨RX5, "goYear", "()V"⟩
abbrev cX5_goYears : ByteArray := prog_7_method_18_code
def yX5_goYears : MethodName := ⟨RX5, "goYears", "(I)V"⟩
abbrev cX5_richest : ByteArray := prog_7_method_19_code
def yX5_richest : MethodName := ⟨RX5, "richest", "()I"⟩
abbrev cX5_cornOfAll : ByteArray := prog_7_method_20_code
def yX5_cornOfAll : MethodName := ⟨RX5, "cornOfAll", "()I"⟩
abbrev cX5_inkOfAll : ByteArray := prog_7_method_21_code
def yX5_inkOfAll : MethodName := ⟨RX5, "inkOfAll", "()I"⟩
abbrev cX5_strokesOfAll : ByteArray := prog_7_method_22_code
def yX5_strokesOfAll : MethodName := ⟨RX5, "strokesOfAll", "()I"⟩
abbrev cX5_costsOfAll : ByteArray := prog_7_method_23_code
def yX5_costsOfAll : MethodName := ⟨RX5, "costsOfAll", "()I"⟩
def RX6 : String := "PenAcres$LeftKind"
def TX6 : u_T := fun k => match k with
  | 0 => ("PenAcres$HandKind", "number", "I", true)
  | _ => ("PenAcres$HandKind", "word", "Ljava/lang/String;", true)
def tyX6 : Nat → FieldType := fun k => match k with
  | 0 => .int
  | _ => .object "java/lang/String"
abbrev wsX60 : List Cond := u_ws RX6 TX6 2
theorem nmX6 : ∀ a, a < 2 → ∀ b, b < 2 → a ≠ b → (TX6 a).2.1 ≠ (TX6 b).2.1 := by decide +kernel
theorem tyX6_ok : ∀ k, k < 2 → parseFieldDescriptor (TX6 k).2.2.1 = some (tyX6 k) := by decide +kernel
abbrev cX6_init : ByteArray := prog_8_method_1_code
def yX6_init : MethodName := ⟨RX6, "<init>", "(ILjava/lang/String;)V"⟩
abbrev cX6_isOf : ByteArray := prog_8_method_2_code
def yX6_isOf : MethodName := ⟨RX6, "isOf", "(I)Z"⟩
abbrev cX6_turns : ByteArray := prog_8_method_3_code
def yX6_turns : MethodName := ⟨RX6, "turns", "(I)I"⟩
abbrev cX6_crop : ByteArray := prog_8_method_4_code
def yX6_crop : MethodName := ⟨RX6, "crop", "()I"⟩
def RX7 : String := "PenAcres$MiserKind"
def TX7 : u_T := fun k => match k with
  | 0 => ("PenAcres$HandKind", "number", "I", true)
  | _ => ("PenAcres$HandKind", "word", "Ljava/lang/String;", true)
def tyX7 : Nat → FieldType := fun k => match k with
  | 0 => .int
  | _ => .object "java/lang/String"
abbrev wsX70 : List Cond := u_ws RX7 TX7 2
theorem nmX7 : ∀ a, a < 2 → ∀ b, b < 2 → a ≠ b → (TX7 a).2.1 ≠ (TX7 b).2.1 := by decide +kernel
theorem tyX7_ok : ∀ k, k < 2 → parseFieldDescriptor (TX7 k).2.2.1 = some (tyX7 k) := by decide +kernel
abbrev cX7_init : ByteArray := prog_9_method_1_code
def yX7_init : MethodName := ⟨RX7, "<init>", "(ILjava/lang/String;)V"⟩
abbrev cX7_isOf : ByteArray := prog_9_method_2_code
def yX7_isOf : MethodName := ⟨RX7, "isOf", "(I)Z"⟩
abbrev cX7_steps : ByteArray := prog_9_method_3_code
def yX7_steps : MethodName := ⟨RX7, "steps", "(II)I"⟩
abbrev cX7_crop : ByteArray := prog_9_method_4_code
def yX7_crop : MethodName := ⟨RX7, "crop", "()I"⟩
def RX8 : String := "PenAcres$ShakyKind"
def TX8 : u_T := fun k => match k with
  | 0 => ("PenAcres$HandKind", "number", "I", true)
  | _ => ("PenAcres$HandKind", "word", "Ljava/lang/String;", true)
def tyX8 : Nat → FieldType := fun k => match k with
  | 0 => .int
  | _ => .object "java/lang/String"
abbrev wsX80 : List Cond := u_ws RX8 TX8 2
theorem nmX8 : ∀ a, a < 2 → ∀ b, b < 2 → a ≠ b → (TX8 a).2.1 ≠ (TX8 b).2.1 := by decide +kernel
theorem tyX8_ok : ∀ k, k < 2 → parseFieldDescriptor (TX8 k).2.2.1 = some (tyX8 k) := by decide +kernel
abbrev cX8_init : ByteArray := prog_10_method_1_code
def yX8_init : MethodName := ⟨RX8, "<init>", "(ILjava/lang/String;)V"⟩
abbrev cX8_isOf : ByteArray := prog_10_method_2_code
def yX8_isOf : MethodName := ⟨RX8, "isOf", "(I)Z"⟩
abbrev cX8_steps : ByteArray := prog_10_method_3_code
def yX8_steps : MethodName := ⟨RX8, "steps", "(II)I"⟩
abbrev cX8_crop : ByteArray := prog_10_method_4_code
def yX8_crop : MethodName := ⟨RX8, "crop", "()I"⟩
def RX9 : String := "PenAcres$Sheet"
def TX9 : u_T := fun k => match k with
  | 0 => ("PenAcres$Sheet", "bits", "I", false)
  | 1 => ("PenAcres$Sheet", "size", "I", false)
  | _ => ("PenAcres$Sheet", "numbers", "[J", true)
def tyX9 : Nat → FieldType := fun k => match k with
  | 0 => .int
  | 1 => .int
  | _ => .array .long
abbrev wsX90 : List Cond := u_ws RX9 TX9 3
theorem nmX9 : ∀ a, a < 3 → ∀ b, b < 3 → a ≠ b → (TX9 a).2.1 ≠ (TX9 b).2.1 := by decide +kernel
theorem tyX9_ok : ∀ k, k < 3 → parseFieldDescriptor (TX9 k).2.2.1 = some (tyX9 k) := by decide +kernel
abbrev cX9_init : ByteArray := prog_11_method_1_code
def yX9_init : MethodName := ⟨RX9, "<init>", "()V"⟩
abbrev cX9_isMissing : ByteArray := prog_11_method_2_code
def yX9_isMissing : MethodName := ⟨RX9, "isMissing", "()Z"⟩
abbrev cX9_become : ByteArray := prog_11_method_3_code
def yX9_become : MethodName := ⟨RX9, "become", "(II)V"⟩
abbrev cX9_put : ByteArray := prog_11_method_4_code
def yX9_put : MethodName := ⟨RX9, "put", "(IJ)V"⟩
abbrev cX9_lowestBits : ByteArray := prog_11_method_5_code
def yX9_lowestBits : MethodName := ⟨RX9, "lowestBits", "(J)J"⟩
abbrev cX9_hasNumbers : ByteArray := prog_11_method_6_code
def yX9_hasNumbers : MethodName := ⟨RX9, "hasNumbers", "(II)Z"⟩
def RX10 : String := "PenAcres$Tape"
def TX10 : u_T := fun k => match k with
  | 0 => ("PenAcres$Tape", "size", "I", false)
  | 1 => ("PenAcres$Tape", "bytes", "[C", true)
  | 2 => ("PenAcres$Tape", "sort", "I", false)
  | 3 => ("PenAcres$Tape", "start", "I", false)
  | 4 => ("PenAcres$Tape", "behind", "I", false)
  | _ => ("PenAcres$Tape", "value", "I", false)
def tyX10 : Nat → FieldType := fun k => match k with
  | 0 => .int
  | 1 => .array .char
  | 2 => .int
  | 3 => .int
  | 4 => .int
  | _ => .int
abbrev wsX100 : List Cond := u_ws RX10 TX10 6
theorem nmX10 : ∀ a, a < 6 → ∀ b, b < 6 → a ≠ b → (TX10 a).2.1 ≠ (TX10 b).2.1 := by decide +kernel
theorem tyX10_ok : ∀ k, k < 6 → parseFieldDescriptor (TX10 k).2.2.1 = some (tyX10 k) := by decide +kernel
abbrev cX10_init : ByteArray := prog_12_method_1_code
def yX10_init : MethodName := ⟨RX10, "<init>", "()V"⟩
abbrev cX10_add : ByteArray := prog_12_method_2_code
def yX10_add : MethodName := ⟨RX10, "add", "(I)V"⟩
abbrev cX10_tellTo : ByteArray := prog_12_method_3_code
def yX10_tellTo : MethodName := ⟨RX10, "tellTo", "(LPenAcres$Land;[LPenAcres$HandKind;)I"⟩
abbrev cX10_takeItem : ByteArray := prog_12_method_4_code
def yX10_takeItem : MethodName := ⟨RX10, "takeItem", "(LPenAcres$Land;[LPenAcres$HandKind;)Z"⟩
abbrev cX10_takeSmudge : ByteArray := prog_12_method_5_code
def yX10_takeSmudge : MethodName := ⟨RX10, "takeSmudge", "(LPenAcres$Land;Z)Z"⟩
abbrev cX10_takeHand : ByteArray := prog_12_method_6_code
def yX10_takeHand : MethodName := ⟨RX10, "takeHand", "(LPenAcres$Land;LPenAcres$HandKind;)Z"⟩
abbrev cX10_takeInk : ByteArray := prog_12_method_7_code
def yX10_takeInk : MethodName := ⟨RX10, "takeInk", "(LPenAcres$Hand;)Z"⟩
abbrev cX10_takeStrokes : ByteArray := prog_12_method_8_code
def yX10_takeStrokes : MethodName := ⟨RX10, "takeStrokes", "(LPenAcres$Hand;)Z"⟩
abbrev cX10_kindNamed : ByteArray := prog_12_method_9_code
def yX10_kindNamed : MethodName := ⟨RX10, "kindNamed", "([LPenAcres$HandKind;)LPenAcres$HandKind;"⟩
abbrev cX10_wayNamed : ByteArray := prog_12_method_10_code
def yX10_wayNamed : MethodName := ⟨RX10, "wayNamed", "()I"⟩
abbrev cX10_isWord : ByteArray := prog_12_method_11_code
def yX10_isWord : MethodName := ⟨RX10, "isWord", "(Ljava/lang/String;)Z"⟩
abbrev cX10_isNumber : ByteArray := prog_12_method_12_code
def yX10_isNumber : MethodName := ⟨RX10, "isNumber", "(II)Z"⟩
abbrev cX10_goOn : ByteArray := prog_12_method_13_code
def yX10_goOn : MethodName := ⟨RX10, "goOn", "()V"⟩
abbrev cX10_goOverWord : ByteArray := prog_12_method_14_code
def yX10_goOverWord : MethodName := ⟨RX10, "goOverWord", "()V"⟩
abbrev cX10_goOverNumber : ByteArray := prog_12_method_15_code
def yX10_goOverNumber : MethodName := ⟨RX10, "goOverNumber", "()V"⟩
abbrev cX10_byteAt : ByteArray := prog_12_method_16_code
def yX10_byteAt : MethodName := ⟨RX10, "byteAt", "(I)C"⟩
abbrev cX10_isLetter : ByteArray := prog_12_method_17_code
def yX10_isLetter : MethodName := ⟨RX10, "isLetter", "(C)Z"⟩
abbrev cX10_isDigit : ByteArray := prog_12_method_18_code
def yX10_isDigit : MethodName := ⟨RX10, "isDigit", "(C)Z"⟩
def RX11 : String := "PenAcres"
def TX11 : u_T := fun k => match k with
  | 0 => ("PenAcres", "kinds", "[LPenAcres$HandKind;", true)
  | 1 => ("PenAcres", "land", "LPenAcres$Land;", true)
  | 2 => ("PenAcres", "ahead", "LPenAcres$Land;", true)
  | 3 => ("PenAcres", "kept", "LPenAcres$Land;", true)
  | 4 => ("PenAcres", "keeps", "Z", false)
  | 5 => ("PenAcres", "tape", "LPenAcres$Tape;", true)
  | 6 => ("PenAcres", "sheets", "[LPenAcres$Sheet;", true)
  | _ => ("PenAcres", "answered", "[I", true)
def tyX11 : Nat → FieldType := fun k => match k with
  | 0 => .array (.object "PenAcres$HandKind")
  | 1 => .object "PenAcres$Land"
  | 2 => .object "PenAcres$Land"
  | 3 => .object "PenAcres$Land"
  | 4 => .boolean
  | 5 => .object "PenAcres$Tape"
  | 6 => .array (.object "PenAcres$Sheet")
  | _ => .array .int
abbrev wsX110 : List Cond := u_ws RX11 TX11 8
theorem nmX11 : ∀ a, a < 8 → ∀ b, b < 8 → a ≠ b → (TX11 a).2.1 ≠ (TX11 b).2.1 := by decide +kernel
theorem tyX11_ok : ∀ k, k < 8 → parseFieldDescriptor (TX11 k).2.2.1 = some (tyX11 k) := by decide +kernel
abbrev cX11_init : ByteArray := prog_1_method_1_code
def yX11_init : MethodName := ⟨RX11, "<init>", "()V"⟩
abbrev cX11_smudge : ByteArray := prog_1_method_2_code
def yX11_smudge : MethodName := ⟨RX11, "smudge", "(II)I"⟩
abbrev cX11_cell : ByteArray := prog_1_method_3_code
def yX11_cell : MethodName := ⟨RX11, "cell", "(II)I"⟩
abbrev cX11_cells : ByteArray := prog_1_method_4_code
def yX11_cells : MethodName := ⟨RX11, "cells", "(I)J"⟩
abbrev cX11_hand : ByteArray := prog_1_method_5_code
def yX11_hand : MethodName := ⟨RX11, "hand", "(II)I"⟩
abbrev cX11_stroke : ByteArray := prog_1_method_6_code
def yX11_stroke : MethodName := ⟨RX11, "stroke", "(III)I"⟩
abbrev cX11_of : ByteArray := prog_1_method_7_code
def yX11_of : MethodName := ⟨RX11, "of", "(II)I"⟩
abbrev cX11_told : ByteArray := prog_1_method_8_code
def yX11_told : MethodName := ⟨RX11, "told", "(III)I"⟩
abbrev cX11_set : ByteArray := prog_1_method_9_code
def yX11_set : MethodName := ⟨RX11, "set", "(III)I"⟩
abbrev cX11_alter : ByteArray := prog_1_method_10_code
def yX11_alter : MethodName := ⟨RX11, "alter", "(IIII)I"⟩
abbrev cX11_cut : ByteArray := prog_1_method_11_code
def yX11_cut : MethodName := ⟨RX11, "cut", "(II)I"⟩
abbrev cX11_turn : ByteArray := prog_1_method_12_code
def yX11_turn : MethodName := ⟨RX11, "turn", "(II)I"⟩
abbrev cX11_as : ByteArray := prog_1_method_13_code
def yX11_as : MethodName := ⟨RX11, "as", "(II)I"⟩
abbrev cX11_line : ByteArray := prog_1_method_14_code
def yX11_line : MethodName := ⟨RX11, "line", "(I)J"⟩
abbrev cX11_inside : ByteArray := prog_1_method_15_code
def yX11_inside : MethodName := ⟨RX11, "inside", "(I)J"⟩
abbrev cX11_years : ByteArray := prog_1_method_16_code
def yX11_years : MethodName := ⟨RX11, "years", "(I)I"⟩
abbrev cX11_now : ByteArray := prog_1_method_17_code
def yX11_now : MethodName := ⟨RX11, "now", "(I)I"⟩
abbrev cX11_on : ByteArray := prog_1_method_18_code
def yX11_on : MethodName := ⟨RX11, "on", "(III)I"⟩
abbrev cX11_dry : ByteArray := prog_1_method_19_code
def yX11_dry : MethodName := ⟨RX11, "dry", "(I)I"⟩
abbrev cX11_rich : ByteArray := prog_1_method_20_code
def yX11_rich : MethodName := ⟨RX11, "rich", "(I)I"⟩
abbrev cX11_rain : ByteArray := prog_1_method_21_code
def yX11_rain : MethodName := ⟨RX11, "rain", "(I)I"⟩
abbrev cX11_longer : ByteArray := prog_1_method_22_code
def yX11_longer : MethodName := ⟨RX11, "longer", "(I)I"⟩
abbrev cX11_begin : ByteArray := prog_1_method_23_code
def yX11_begin : MethodName := ⟨RX11, "begin", "(I)I"⟩
abbrev cX11_kind : ByteArray := prog_1_method_24_code
def yX11_kind : MethodName := ⟨RX11, "kind", "(I)I"⟩
abbrev cX11_ink : ByteArray := prog_1_method_25_code
def yX11_ink : MethodName := ⟨RX11, "ink", "(I)I"⟩
abbrev cX11_court : ByteArray := prog_1_method_26_code
def yX11_court : MethodName := ⟨RX11, "court", "(II)I"⟩
abbrev cX11_way : ByteArray := prog_1_method_27_code
def yX11_way : MethodName := ⟨RX11, "way", "(III)I"⟩
abbrev cX11_sea : ByteArray := prog_1_method_28_code
def yX11_sea : MethodName := ⟨RX11, "sea", "()I"⟩
abbrev cX11_feed : ByteArray := prog_1_method_29_code
def yX11_feed : MethodName := ⟨RX11, "feed", "(II)I"⟩
abbrev cX11_wipe : ByteArray := prog_1_method_30_code
def yX11_wipe : MethodName := ⟨RX11, "wipe", "()I"⟩
abbrev cX11_field : ByteArray := prog_1_method_31_code
def yX11_field : MethodName := ⟨RX11, "field", "()I"⟩
abbrev cX11_sheet : ByteArray := prog_1_method_32_code
def yX11_sheet : MethodName := ⟨RX11, "sheet", "(III)I"⟩
abbrev cX11_write : ByteArray := prog_1_method_33_code
def yX11_write : MethodName := ⟨RX11, "write", "(IIJ)J"⟩
abbrev cX11_copy : ByteArray := prog_1_method_34_code
def yX11_copy : MethodName := ⟨RX11, "copy", "(IIIII)I"⟩
abbrev cX11_lays : ByteArray := prog_1_method_35_code
def yX11_lays : MethodName := ⟨RX11, "lays", "(I)I"⟩
abbrev cX11_book : ByteArray := prog_1_method_36_code
def yX11_book : MethodName := ⟨RX11, "book", "(II)I"⟩
abbrev cX11_read : ByteArray := prog_1_method_37_code
def yX11_read : MethodName := ⟨RX11, "read", "(II)I"⟩
abbrev cX11_image : ByteArray := prog_1_method_38_code
def yX11_image : MethodName := ⟨RX11, "image", "()I"⟩
abbrev cX11_undo : ByteArray := prog_1_method_39_code
def yX11_undo : MethodName := ⟨RX11, "undo", "()I"⟩
abbrev cX11_tear : ByteArray := prog_1_method_40_code
def yX11_tear : MethodName := ⟨RX11, "tear", "()I"⟩
abbrev cX11_count : ByteArray := prog_1_method_41_code
def yX11_count : MethodName := ⟨RX11, "count", "(I)I"⟩
abbrev cX11_status : ByteArray := prog_1_method_42_code
def yX11_status : MethodName := ⟨RX11, "status", "(I)I"⟩
abbrev cX11_finding : ByteArray := prog_1_method_43_code
def yX11_finding : MethodName := ⟨RX11, "finding", "(I)I"⟩
abbrev cX11_onTrial : ByteArray := prog_1_method_44_code
def yX11_onTrial : MethodName := ⟨RX11, "onTrial", "(I)LPenAcres$Hand;"⟩
abbrev cX11_tells : ByteArray := prog_1_method_45_code
def yX11_tells : MethodName := ⟨RX11, "tells", "(LPenAcres$Sheet;ILPenAcres$HandKind;I)Z"⟩
abbrev cX11_sheetOf : ByteArray := prog_1_method_46_code
def yX11_sheetOf : MethodName := ⟨RX11, "sheetOf", "(I)LPenAcres$Sheet;"⟩
abbrev cX11_within : ByteArray := prog_1_method_47_code
def yX11_within : MethodName := ⟨RX11, "within", "(III)Z"⟩
abbrev cX11_isCell : ByteArray := prog_1_method_48_code
def yX11_isCell : MethodName := ⟨RX11, "isCell", "(I)Z"⟩
abbrev cX11_isKind : ByteArray := prog_1_method_49_code
def yX11_isKind : MethodName := ⟨RX11, "isKind", "(I)Z"⟩
abbrev cX11_isWay : ByteArray := prog_1_method_50_code
def yX11_isWay : MethodName := ⟨RX11, "isWay", "(I)Z"⟩
abbrev cX11_isLength : ByteArray := prog_1_method_51_code
def yX11_isLength : MethodName := ⟨RX11, "isLength", "(I)Z"⟩
abbrev cX11_isInk : ByteArray := prog_1_method_52_code
def yX11_isInk : MethodName := ⟨RX11, "isInk", "(I)Z"⟩
abbrev cX11_isYearsOn : ByteArray := prog_1_method_53_code
def yX11_isYearsOn : MethodName := ⟨RX11, "isYearsOn", "(I)Z"⟩
abbrev cX11_isBits : ByteArray := prog_1_method_54_code
def yX11_isBits : MethodName := ⟨RX11, "isBits", "(I)Z"⟩
abbrev cX11_bitOf : ByteArray := prog_1_method_55_code
def yX11_bitOf : MethodName := ⟨RX11, "bitOf", "(JI)I"⟩
def RX12 : String := "PenAcresModel"
def TX12 : u_T := fun k => match k with
  | 0 => ("PenAcresModel", "s", "[I", true)
  | 1 => ("PenAcresModel", "keptS", "[I", true)
  | 2 => ("PenAcresModel", "other", "[I", true)
  | 3 => ("PenAcresModel", "aside", "[I", true)
  | 4 => ("PenAcresModel", "statuses", "[I", true)
  | 5 => ("PenAcresModel", "isKept", "Z", false)
  | 6 => ("PenAcresModel", "lines", "[J", true)
  | 7 => ("PenAcresModel", "insides", "[J", true)
  | 8 => ("PenAcresModel", "costs", "[I", true)
  | 9 => ("PenAcresModel", "owned", "[I", true)
  | 10 => ("PenAcresModel", "tape", "[I", true)
  | 11 => ("PenAcresModel", "taped", "I", false)
  | 12 => ("PenAcresModel", "from", "I", false)
  | 13 => ("PenAcresModel", "to", "I", false)
  | 14 => ("PenAcresModel", "value", "I", false)
  | 15 => ("PenAcresModel", "isWrong", "Z", false)
  | 16 => ("PenAcresModel", "bitsOf", "[I", true)
  | 17 => ("PenAcresModel", "sizeOf", "[I", true)
  | 18 => ("PenAcresModel", "numbers", "[J", true)
  | _ => ("PenAcresModel", "moved", "[J", true)
def tyX12 : Nat → FieldType := fun k => match k with
  | 0 => .array .int
  | 1 => .array .int
  | 2 => .array .int
  | 3 => .array .int
  | 4 => .array .int
  | 5 => .boolean
  | 6 => .array .long
  | 7 => .array .long
  | 8 => .array .int
  | 9 => .array .int
  | 10 => .array .int
  | 11 => .int
  | 12 => .int
  | 13 => .int
  | 14 => .int
  | 15 => .boolean
  | 16 => .array .int
  | 17 => .array .int
  | 18 => .array .long
  | _ => .array .long
abbrev wsX120 : List Cond := u_ws RX12 TX12 20
theorem nmX12 : ∀ a, a < 20 → ∀ b, b < 20 → a ≠ b → (TX12 a).2.1 ≠ (TX12 b).2.1 := by decide +kernel
theorem tyX12_ok : ∀ k, k < 20 → parseFieldDescriptor (TX12 k).2.2.1 = some (tyX12 k) := by decide +kernel
abbrev cX12_init : ByteArray := prog_14_method_1_code
def yX12_init : MethodName := ⟨RX12, "<init>", "()V"⟩
abbrev cX12_in : ByteArray := prog_14_method_2_code
def yX12_in : MethodName := ⟨RX12, "in", "(JJJ)Z"⟩
abbrev cX12_finds : ByteArray := prog_14_method_3_code
def yX12_finds : MethodName := ⟨RX12, "finds", "(I)I"⟩
abbrev cX12_saves : ByteArray := prog_14_method_4_code
def yX12_saves : MethodName := ⟨RX12, "saves", "()V"⟩
abbrev cX12_putsBack : ByteArray := prog_14_method_5_code
def yX12_putsBack : MethodName := ⟨RX12, "putsBack", "()V"⟩
abbrev cX12_laysAside : ByteArray := prog_14_method_6_code
def yX12_laysAside : MethodName := ⟨RX12, "laysAside", "()V"⟩
abbrev cX12_takesBack : ByteArray := prog_14_method_7_code
def yX12_takesBack : MethodName := ⟨RX12, "takesBack", "(I)I"⟩
abbrev cX12_becomes : ByteArray := prog_14_method_8_code
def yX12_becomes : MethodName := ⟨RX12, "becomes", "(II)I"⟩
abbrev cX12_isCell : ByteArray := prog_14_method_9_code
def yX12_isCell : MethodName := ⟨RX12, "isCell", "(I)Z"⟩
abbrev cX12_isHand : ByteArray := prog_14_method_10_code
def yX12_isHand : MethodName := ⟨RX12, "isHand", "(I)Z"⟩
abbrev cX12_isKind : ByteArray := prog_14_method_11_code
def yX12_isKind : MethodName := ⟨RX12, "isKind", "(I)Z"⟩
abbrev cX12_isWay : ByteArray := prog_14_method_12_code
def yX12_isWay : MethodName := ⟨RX12, "isWay", "(I)Z"⟩
abbrev cX12_spot : ByteArray := prog_14_method_13_code
def yX12_spot : MethodName := ⟨RX12, "spot", "(II)I"⟩
abbrev cX12_its : ByteArray := prog_14_method_14_code
def yX12_its : MethodName := ⟨RX12, "its", "(II)I"⟩
abbrev cX12_has : ByteArray := prog_14_method_15_code
def yX12_has : MethodName := ⟨RX12, "has", "(JI)Z"⟩
abbrev cX12_ones : ByteArray := prog_14_method_16_code
def yX12_ones : MethodName := ⟨RX12, "ones", "(J)I"⟩
abbrev cX12_stepsOf : ByteArray := prog_14_method_17_code
def yX12_stepsOf : MethodName := ⟨RX12, "stepsOf", "(II)I"⟩
abbrev cX12_turned : ByteArray := prog_14_method_18_code
def yX12_turned : MethodName := ⟨RX12, "turned", "(II)I"⟩
abbrev cX12_cropOf : ByteArray := prog_14_method_19_code
def yX12_cropOf : MethodName := ⟨RX12, "cropOf", "(I)I"⟩
abbrev cX12_beside : ByteArray := prog_14_method_20_code
def yX12_beside : MethodName := ⟨RX12, "beside", "(II)I"⟩
abbrev cX12_isEdge : ByteArray := prog_14_method_21_code
def yX12_isEdge : MethodName := ⟨RX12, "isEdge", "(I)Z"⟩
abbrev cX12_smudges : ByteArray := prog_14_method_22_code
def yX12_smudges : MethodName := ⟨RX12, "smudges", "()J"⟩
abbrev cX12_draws : ByteArray := prog_14_method_23_code
def yX12_draws : MethodName := ⟨RX12, "draws", "(IJ)V"⟩
abbrev cX12_insideOf : ByteArray := prog_14_method_24_code
def yX12_insideOf : MethodName := ⟨RX12, "insideOf", "(J)J"⟩
abbrev cX12_writeAll : ByteArray := prog_14_method_25_code
def yX12_writeAll : MethodName := ⟨RX12, "writeAll", "()V"⟩
abbrev cX12_insideMany : ByteArray := prog_14_method_26_code
def yX12_insideMany : MethodName := ⟨RX12, "insideMany", "(I)I"⟩
abbrev cX12_writes : ByteArray := prog_14_method_27_code
def yX12_writes : MethodName := ⟨RX12, "writes", "(I)Z"⟩
abbrev cX12_ownerOf : ByteArray := prog_14_method_28_code
def yX12_ownerOf : MethodName := ⟨RX12, "ownerOf", "(I)I"⟩
abbrev cX12_ownedBy : ByteArray := prog_14_method_29_code
def yX12_ownedBy : MethodName := ⟨RX12, "ownedBy", "(I)I"⟩
abbrev cX12_smudge : ByteArray := prog_14_method_30_code
def yX12_smudge : MethodName := ⟨RX12, "smudge", "(II)I"⟩
abbrev cX12_thoseWith : ByteArray := prog_14_method_31_code
def yX12_thoseWith : MethodName := ⟨RX12, "thoseWith", "(IZ)I"⟩
abbrev cX12_cell : ByteArray := prog_14_method_32_code
def yX12_cell : MethodName := ⟨RX12, "cell", "(II)I"⟩
abbrev cX12_writersInside : ByteArray := prog_14_method_33_code
def yX12_writersInside : MethodName := ⟨RX12, "writersInside", "(I)I"⟩
abbrev cX12_cells : ByteArray := prog_14_method_34_code
def yX12_cells : MethodName := ⟨RX12, "cells", "(I)J"⟩
abbrev cX12_adds : ByteArray := prog_14_method_35_code
def yX12_adds : MethodName := ⟨RX12, "adds", "(II)I"⟩
abbrev cX12_hand : ByteArray := prog_14_method_36_code
def yX12_hand : MethodName := ⟨RX12, "hand", "(II)I"⟩
abbrev cX12_strokes : ByteArray := prog_14_method_37_code
def yX12_strokes : MethodName := ⟨RX12, "strokes", "(III)I"⟩
abbrev cX12_stroke : ByteArray := prog_14_method_38_code
def yX12_stroke : MethodName := ⟨RX12, "stroke", "(III)I"⟩
abbrev cX12_of : ByteArray := prog_14_method_39_code
def yX12_of : MethodName := ⟨RX12, "of", "(II)I"⟩
abbrev cX12_isStroke : ByteArray := prog_14_method_40_code
def yX12_isStroke : MethodName := ⟨RX12, "isStroke", "(II)Z"⟩
abbrev cX12_told : ByteArray := prog_14_method_41_code
def yX12_told : MethodName := ⟨RX12, "told", "(III)I"⟩
abbrev cX12_set : ByteArray := prog_14_method_42_code
def yX12_set : MethodName := ⟨RX12, "set", "(III)I"⟩
abbrev cX12_alter : ByteArray := prog_14_method_43_code
def yX12_alter : MethodName := ⟨RX12, "alter", "(IIII)I"⟩
abbrev cX12_cut : ByteArray := prog_14_method_44_code
def yX12_cut : MethodName := ⟨RX12, "cut", "(II)I"⟩
abbrev cX12_turn : ByteArray := prog_14_method_45_code
def yX12_turn : MethodName := ⟨RX12, "turn", "(II)I"⟩
abbrev cX12_isUnder : ByteArray := prog_14_method_46_code
def yX12_isUnder : MethodName := ⟨RX12, "isUnder", "(II)Z"⟩
abbrev cX12_as : ByteArray := prog_14_method_47_code
def yX12_as : MethodName := ⟨RX12, "as", "(II)I"⟩
abbrev cX12_line : ByteArray := prog_14_method_48_code
def yX12_line : MethodName := ⟨RX12, "line", "(I)J"⟩
abbrev cX12_inside : ByteArray := prog_14_method_49_code
def yX12_inside : MethodName := ⟨RX12, "inside", "(I)J"⟩
abbrev cX12_year : ByteArray := prog_14_method_50_code
def yX12_year : MethodName := ⟨RX12, "year", "()V"⟩
abbrev cX12_goesOn : ByteArray := prog_14_method_51_code
def yX12_goesOn : MethodName := ⟨RX12, "goesOn", "(I)V"⟩
abbrev cX12_together : ByteArray := prog_14_method_52_code
def yX12_together : MethodName := ⟨RX12, "together", "(I)I"⟩
abbrev cX12_years : ByteArray := prog_14_method_53_code
def yX12_years : MethodName := ⟨RX12, "years", "(I)I"⟩
abbrev cX12_thoseThatWrite : ByteArray := prog_14_method_54_code
def yX12_thoseThatWrite : MethodName := ⟨RX12, "thoseThatWrite", "()I"⟩
abbrev cX12_now : ByteArray := prog_14_method_55_code
def yX12_now : MethodName := ⟨RX12, "now", "(I)I"⟩
abbrev cX12_ownsNow : ByteArray := prog_14_method_56_code
def yX12_ownsNow : MethodName := ⟨RX12, "ownsNow", "(I)I"⟩
abbrev cX12_on : ByteArray := prog_14_method_57_code
def yX12_on : MethodName := ⟨RX12, "on", "(III)I"⟩
abbrev cX12_isDry : ByteArray := prog_14_method_58_code
def yX12_isDry : MethodName := ⟨RX12, "isDry", "(I)Z"⟩
abbrev cX12_dry : ByteArray := prog_14_method_59_code
def yX12_dry : MethodName := ⟨RX12, "dry", "(I)I"⟩
abbrev cX12_richest : ByteArray := prog_14_method_60_code
def yX12_richest : MethodName := ⟨RX12, "richest", "()I"⟩
abbrev cX12_rich : ByteArray := prog_14_method_61_code
def yX12_rich : MethodName := ⟨RX12, "rich", "(I)I"⟩
abbrev cX12_rain : ByteArray := prog_14_method_62_code
def yX12_rain : MethodName := ⟨RX12, "rain", "(I)I"⟩
abbrev cX12_longer : ByteArray := prog_14_method_63_code
def yX12_longer : MethodName := ⟨RX12, "longer", "(I)I"⟩
abbrev cX12_begin : ByteArray := prog_14_method_64_code
def yX12_begin : MethodName := ⟨RX12, "begin", "(I)I"⟩
abbrev cX12_kind : ByteArray := prog_14_method_65_code
def yX12_kind : MethodName := ⟨RX12, "kind", "(I)I"⟩
abbrev cX12_ink : ByteArray := prog_14_method_66_code
def yX12_ink : MethodName := ⟨RX12, "ink", "(I)I"⟩
abbrev cX12_court : ByteArray := prog_14_method_67_code
def yX12_court : MethodName := ⟨RX12, "court", "(II)I"⟩
abbrev cX12_way : ByteArray := prog_14_method_68_code
def yX12_way : MethodName := ⟨RX12, "way", "(III)I"⟩
abbrev cX12_sea : ByteArray := prog_14_method_69_code
def yX12_sea : MethodName := ⟨RX12, "sea", "()I"⟩
abbrev cX12_feed : ByteArray := prog_14_method_70_code
def yX12_feed : MethodName := ⟨RX12, "feed", "(II)I"⟩
abbrev cX12_wipe : ByteArray := prog_14_method_71_code
def yX12_wipe : MethodName := ⟨RX12, "wipe", "()I"⟩
abbrev cX12_byteAt : ByteArray := prog_14_method_72_code
def yX12_byteAt : MethodName := ⟨RX12, "byteAt", "(I)I"⟩
abbrev cX12_isLetter : ByteArray := prog_14_method_73_code
def yX12_isLetter : MethodName := ⟨RX12, "isLetter", "(I)Z"⟩
abbrev cX12_isDigit : ByteArray := prog_14_method_74_code
def yX12_isDigit : MethodName := ⟨RX12, "isDigit", "(I)Z"⟩
abbrev cX12_token : ByteArray := prog_14_method_75_code
def yX12_token : MethodName := ⟨RX12, "token", "()V"⟩
abbrev cX12_must : ByteArray := prog_14_method_76_code
def yX12_must : MethodName := ⟨RX12, "must", "(Z)V"⟩
abbrev cX12_word : ByteArray := prog_14_method_77_code
def yX12_word : MethodName := ⟨RX12, "word", "()J"⟩
abbrev cX12_number : ByteArray := prog_14_method_78_code
def yX12_number : MethodName := ⟨RX12, "number", "(II)V"⟩
abbrev cX12_kindHere : ByteArray := prog_14_method_79_code
def yX12_kindHere : MethodName := ⟨RX12, "kindHere", "()I"⟩
abbrev cX12_wayHere : ByteArray := prog_14_method_80_code
def yX12_wayHere : MethodName := ⟨RX12, "wayHere", "()I"⟩
abbrev cX12_handItem : ByteArray := prog_14_method_81_code
def yX12_handItem : MethodName := ⟨RX12, "handItem", "(I)V"⟩
abbrev cX12_item : ByteArray := prog_14_method_82_code
def yX12_item : MethodName := ⟨RX12, "item", "()V"⟩
abbrev cX12_field : ByteArray := prog_14_method_83_code
def yX12_field : MethodName := ⟨RX12, "field", "()I"⟩
abbrev cX12_isOne : ByteArray := prog_14_method_84_code
def yX12_isOne : MethodName := ⟨RX12, "isOne", "(I)Z"⟩
abbrev cX12_sheet : ByteArray := prog_14_method_85_code
def yX12_sheet : MethodName := ⟨RX12, "sheet", "(III)I"⟩
abbrev cX12_narrowed : ByteArray := prog_14_method_86_code
def yX12_narrowed : MethodName := ⟨RX12, "narrowed", "(IJ)J"⟩
abbrev cX12_wrong : ByteArray := prog_14_method_87_code
def yX12_wrong : MethodName := ⟨RX12, "wrong", "(I)I"⟩
abbrev cX12_write : ByteArray := prog_14_method_88_code
def yX12_write : MethodName := ⟨RX12, "write", "(IIJ)J"⟩
abbrev cX12_copy : ByteArray := prog_14_method_89_code
def yX12_copy : MethodName := ⟨RX12, "copy", "(IIIII)I"⟩
abbrev cX12_lays : ByteArray := prog_14_method_90_code
def yX12_lays : MethodName := ⟨RX12, "lays", "(I)I"⟩
abbrev cX12_book : ByteArray := prog_14_method_91_code
def yX12_book : MethodName := ⟨RX12, "book", "(II)I"⟩
abbrev cX12_isBook : ByteArray := prog_14_method_92_code
def yX12_isBook : MethodName := ⟨RX12, "isBook", "(II)Z"⟩
abbrev cX12_read : ByteArray := prog_14_method_93_code
def yX12_read : MethodName := ⟨RX12, "read", "(II)I"⟩
abbrev cX12_image : ByteArray := prog_14_method_94_code
def yX12_image : MethodName := ⟨RX12, "image", "()I"⟩
abbrev cX12_undo : ByteArray := prog_14_method_95_code
def yX12_undo : MethodName := ⟨RX12, "undo", "()I"⟩
abbrev cX12_tear : ByteArray := prog_14_method_96_code
def yX12_tear : MethodName := ⟨RX12, "tear", "()I"⟩
abbrev cX12_costsAll : ByteArray := prog_14_method_97_code
def yX12_costsAll : MethodName := ⟨RX12, "costsAll", "()I"⟩
abbrev cX12_count : ByteArray := prog_14_method_98_code
def yX12_count : MethodName := ⟨RX12, "count", "(I)I"⟩
abbrev cX12_status : ByteArray := prog_14_method_99_code
def yX12_status : MethodName := ⟨RX12, "status", "(I)I"⟩
def RJ13 : String := "java/lang/Long"
def TJ13 : u_T := fun k => match k with
  | _ => ("", "", "", false)
def tyJ13 : Nat → FieldType := fun k => match k with
  | _ => .int
abbrev wsJ130 : List Cond := u_ws RJ13 TJ13 0
theorem nmJ13 : ∀ a, a < 0 → ∀ b, b < 0 → a ≠ b → (TJ13 a).2.1 ≠ (TJ13 b).2.1 := by decide +kernel
theorem tyJ13_ok : ∀ k, k < 0 → parseFieldDescriptor (TJ13 k).2.2.1 = some (tyJ13 k) := by decide +kernel
abbrev cJ13_bitCount_95d88 : ByteArray := prog_15_method_50_code
def yJ13_bitCount_95d88 : MethodName := ⟨RJ13, "bitCount", "(J)I"⟩
def RJ9 : String := "java/lang/Math"
def TJ9 : u_T := fun k => match k with
  | _ => ("", "", "", false)
def tyJ9 : Nat → FieldType := fun k => match k with
  | _ => .int
abbrev wsJ90 : List Cond := u_ws RJ9 TJ9 0
theorem nmJ9 : ∀ a, a < 0 → ∀ b, b < 0 → a ≠ b → (TJ9 a).2.1 ≠ (TJ9 b).2.1 := by decide +kernel
theorem tyJ9_ok : ∀ k, k < 0 → parseFieldDescriptor (TJ9 k).2.2.1 = some (tyJ9 k) := by decide +kernel
abbrev cJ9_max_7cf53 : ByteArray := prog_16_method_65_code
def yJ9_max_7cf53 : MethodName := ⟨RJ9, "max", "(II)I"⟩
abbrev cJ9_min_7cf53 : ByteArray := prog_16_method_69_code
def yJ9_min_7cf53 : MethodName := ⟨RJ9, "min", "(II)I"⟩
def RJ0 : String := "java/lang/String"
def TJ0 : u_T := fun k => match k with
  | _ => ("", "", "", false)
def tyJ0 : Nat → FieldType := fun k => match k with
  | _ => .int
abbrev wsJ00 : List Cond := u_ws RJ0 TJ0 0
theorem nmJ0 : ∀ a, a < 0 → ∀ b, b < 0 → a ≠ b → (TJ0 a).2.1 ≠ (TJ0 b).2.1 := by decide +kernel
theorem tyJ0_ok : ∀ k, k < 0 → parseFieldDescriptor (TJ0 k).2.2.1 = some (tyJ0 k) := by decide +kernel
abbrev cJ0_length_8abf5 : ByteArray := prog_17_method_54_code
def yJ0_length_8abf5 : MethodName := ⟨RJ0, "length", "()I"⟩
abbrev cJ0_charAt_5068e : ByteArray := prog_17_method_56_code
def yJ0_charAt_5068e : MethodName := ⟨RJ0, "charAt", "(I)C"⟩
abbrev cJ0_coder_7d493 : ByteArray := prog_17_method_152_code
def yJ0_coder_7d493 : MethodName := ⟨RJ0, "coder", "()B"⟩
abbrev cJ0_isLatin1_aae02 : ByteArray := prog_17_method_154_code
def yJ0_isLatin1_aae02 : MethodName := ⟨RJ0, "isLatin1", "()Z"⟩
abbrev cJ0_checkIndex_df160 : ByteArray := prog_17_method_155_code
def yJ0_checkIndex_df160 : MethodName := ⟨RJ0, "checkIndex", "(II)V"⟩
def RJ1 : String := "java/lang/StringLatin1"
def TJ1 : u_T := fun k => match k with
  | _ => ("", "", "", false)
def tyJ1 : Nat → FieldType := fun k => match k with
  | _ => .int
abbrev wsJ10 : List Cond := u_ws RJ1 TJ1 0
theorem nmJ1 : ∀ a, a < 0 → ∀ b, b < 0 → a ≠ b → (TJ1 a).2.1 ≠ (TJ1 b).2.1 := by decide +kernel
theorem tyJ1_ok : ∀ k, k < 0 → parseFieldDescriptor (TJ1 k).2.2.1 = some (tyJ1 k) := by decide +kernel
abbrev cJ1_charAt_3b067 : ByteArray := prog_18_method_2_code
def yJ1_charAt_3b067 : MethodName := ⟨RJ1, "charAt", "([BI)C"⟩
def RJ2 : String := "java/lang/StringUTF16"
def TJ2 : u_T := fun k => match k with
  | _ => ("", "", "", false)
def tyJ2 : Nat → FieldType := fun k => match k with
  | _ => .int
abbrev wsJ20 : List Cond := u_ws RJ2 TJ2 0
theorem nmJ2 : ∀ a, a < 0 → ∀ b, b < 0 → a ≠ b → (TJ2 a).2.1 ≠ (TJ2 b).2.1 := by decide +kernel
theorem tyJ2_ok : ∀ k, k < 0 → parseFieldDescriptor (TJ2 k).2.2.1 = some (tyJ2 k) := by decide +kernel
abbrev cJ2_getChar_3b067 : ByteArray := prog_19_method_5_code
def yJ2_getChar_3b067 : MethodName := ⟨RJ2, "getChar", "([BI)C"⟩
abbrev cJ2_length_9d52b : ByteArray := prog_19_method_6_code
def yJ2_length_9d52b : MethodName := ⟨RJ2, "length", "([B)I"⟩
abbrev cJ2_charAt_3b067 : ByteArray := prog_19_method_83_code
def yJ2_charAt_3b067 : MethodName := ⟨RJ2, "charAt", "([BI)C"⟩
abbrev cJ2_checkIndex_2214a : ByteArray := prog_19_method_91_code
def yJ2_checkIndex_2214a : MethodName := ⟨RJ2, "checkIndex", "(I[B)V"⟩
def RJ10 : String := "java/lang/System"
def TJ10 : u_T := fun k => match k with
  | _ => ("", "", "", false)
def tyJ10 : Nat → FieldType := fun k => match k with
  | _ => .int
abbrev wsJ100 : List Cond := u_ws RJ10 TJ10 0
theorem nmJ10 : ∀ a, a < 0 → ∀ b, b < 0 → a ≠ b → (TJ10 a).2.1 ≠ (TJ10 b).2.1 := by decide +kernel
theorem tyJ10_ok : ∀ k, k < 0 → parseFieldDescriptor (TJ10 k).2.2.1 = some (tyJ10 k) := by decide +kernel
def RJ3 : String := "jdk/internal/util/Preconditions"
def TJ3 : u_T := fun k => match k with
  | _ => ("", "", "", false)
def tyJ3 : Nat → FieldType := fun k => match k with
  | _ => .int
abbrev wsJ30 : List Cond := u_ws RJ3 TJ3 0
theorem nmJ3 : ∀ a, a < 0 → ∀ b, b < 0 → a ≠ b → (TJ3 a).2.1 ≠ (TJ3 b).2.1 := by decide +kernel
theorem tyJ3_ok : ∀ k, k < 0 → parseFieldDescriptor (TJ3 k).2.2.1 = some (tyJ3 k) := by decide +kernel
abbrev cJ3_checkIndex_8e157 : ByteArray := prog_21_method_11_code
def yJ3_checkIndex_8e157 : MethodName := ⟨RJ3, "checkIndex", "(IILjava/util/function/BiFunction;)I"⟩
def RL : String := "PenAcresLaw"
abbrev cL_law : ByteArray := code
def yL_law : MethodName := ⟨RL, "law", "([I)Z"⟩
end
section
/-! memory: ints, longs, references of cells by their numbers; the shape of each cell is fixed ahead -/
abbrev Mm : Type := (Nat → Nat → Int32) × (Nat → Nat → Int64) × (Nat → Nat → Option Nat)
/-- D, array classes, base, addresses of texts, of their bytes -/
abbrev Gl : Type := va_G × (Nat → ClassId) × Nat × (Nat → Nat) × (Nat → Nat)
abbrev kcl : List vw_C := [(RX11, TX11, 8), (RX3, TX3, 2), (RX7, TX7, 2), (RX0, TX0, 2), (RX8, TX8, 2), (RX4, TX4, 2), (RX6, TX6, 2), (RX2, TX2, 11), (RX5, TX5, 6), (RX10, TX10, 6), (RX9, TX9, 3), (RX12, TX12, 20)]
/-- kinds of fields by class: 0 an int, 1 a long, 2 a reference -/
def ftL : List (List Nat) := [[2, 2, 2, 2, 0, 2, 2, 2], [0, 2], [0, 2], [0, 2], [0, 2], [0, 2], [0, 2], [2, 0, 0, 0, 0, 2, 2, 1, 0, 1, 1], [1, 0, 0, 2, 2, 2], [0, 2, 0, 0, 0, 0], [0, 0, 2], [2, 2, 2, 2, 2, 0, 2, 2, 2, 2, 2, 0, 0, 0, 0, 0, 2, 2, 2, 2]]
abbrev gA (G : Gl) : Nat → Prop := fun q => G.2.2.1 ≤ q
/-- where a cell lies: below 1000 ours, else a text's -/
def ad (G : Gl) (c : Nat) : Nat := if c < 1000 then G.2.2.1 + c else G.2.2.2.1 (c - 1000)
abbrev aR (G : Gl) (c : Nat) : Value := .ref (ad G c)
def rO (G : Gl) (r : Option Nat) : Value := va_rf (r.map (ad G))
def fV (G : Gl) (M : Mm) (c : Nat) (q : Nat × Nat) : Value := if q.1 = 0 then .int (M.1 c q.2) else if q.1 = 1 then .long (M.2.1 c q.2) else rO G (M.2.2 c q.2)
def fL (G : Gl) (M : Mm) (ci c : Nat) : List Value := ((ftL.getD ci []).zipIdx).map (fV G M c)
def aE (G : Gl) (M : Mm) (c k n : Nat) : va_E := .inl (G.2.1 k, n, if k = 0 ∨ k = 2 then .inl (M.1 c) else if k = 1 then .inr (.inl (M.2.1 c)) else .inr (.inr (.inr (.inr (fun j => (M.2.2 c j).map (ad G))))))
/-- what a cell holds: shape (20 + k, n): an array of n; (ci, _): an object -/
def cE (G : Gl) (M : Mm) (c : Nat) (sh : Nat × Nat) : va_E := if 20 ≤ sh.1 then aE G M c (sh.1 - 20) sh.2 else .inr (sh.1, fL G M sh.1 c)
def shL : List (Nat × Nat) := [(0, 0), (1, 0), (24, 6), (2, 0), (3, 0), (4, 0), (5, 0), (6, 0), (8, 0), (23, 6), (7, 0), (20, 8), (20, 8), (7, 0), (20, 8), (20, 8), (7, 0), (20, 8), (20, 8), (7, 0), (20, 8), (20, 8), (7, 0), (20, 8), (20, 8), (7, 0), (20, 8), (20, 8), (21, 6), (20, 6), (8, 0), (23, 6), (7, 0), (20, 8), (20, 8), (7, 0), (20, 8), (20, 8), (7, 0), (20, 8), (20, 8), (7, 0), (20, 8), (20, 8), (7, 0), (20, 8), (20, 8), (7, 0), (20, 8), (20, 8), (21, 6), (20, 6), (8, 0), (23, 6), (7, 0), (20, 8), (20, 8), (7, 0), (20, 8), (20, 8), (7, 0), (20, 8), (20, 8), (7, 0), (20, 8), (20, 8), (7, 0), (20, 8), (20, 8), (7, 0), (20, 8), (20, 8), (21, 6), (20, 6), (9, 0), (22, 120), (25, 4), (10, 0), (21, 40), (10, 0), (21, 40), (10, 0), (21, 40), (10, 0), (21, 40), (20, 7), (11, 0), (20, 176), (20, 176), (20, 176), (20, 176), (20, 7), (21, 6), (21, 6), (20, 6), (20, 6), (20, 120), (20, 4), (20, 4), (21, 160), (21, 40)]
def sh (c : Nat) : Nat × Nat := shL.getD c (99, 0)
def WL (G : Gl) (M : Mm) (N : Nat) : va_W := (List.range N).map (fun c => (G.2.2.1 + c, cE G M c (sh c)))
theorem wl_get {G : Gl} {M : Mm} {N c : Nat} (h : c < N) : (WL G M N)[c]? = some (G.2.2.1 + c, cE G M c (sh c)) := by
  simp [WL, h]
theorem wl_at {G : Gl} {M : Mm} {N k : Nat} {q : Nat × va_E} (h : (WL G M N)[k]? = some q) : k < N ∧ q = (G.2.2.1 + k, cE G M k (sh k)) := by
  have hk : k < N := by
    have := (List.getElem?_eq_some_iff.mp h).1
    simpa [WL] using this
  exact ⟨hk, (Option.some.inj ((wl_get hk).symm.trans h)).symm⟩
theorem wl_D (G : Gl) (M : Mm) (N : Nat) : va_D (gA G) (WL G M N) := by
  refine ⟨fun i j p q hi hj e => ?_, fun k q hk => ?_⟩
  · obtain ⟨-, rfl⟩ := wl_at hi
    obtain ⟨-, rfl⟩ := wl_at hj
    have : G.2.2.1 + i = G.2.2.1 + j := e
    omega
  · obtain ⟨-, rfl⟩ := wl_at hk
    exact Nat.le_add_right _ _
theorem wl_set {G : Gl} {M M' : Mm} {N c : Nat} {e : va_E} (he : e = cE G M' c (sh c)) (ho : ∀ c', c' ≠ c → cE G M' c' (sh c') = cE G M c' (sh c')) : (WL G M N).set c (G.2.2.1 + c, e) = WL G M' N := by
  apply List.ext_getElem?
  intro j
  by_cases hj : j < N
  · by_cases hc : j = c
    · subst hc
      rw [List.getElem?_set_self (by simpa [WL] using hj), wl_get hj, he]
    · rw [List.getElem?_set_ne (Ne.symm hc), wl_get hj, wl_get hj, ho j hc]
  · rw [List.getElem?_eq_none (by simp [WL]; omega), List.getElem?_eq_none (by simp [WL]; omega)]
theorem wl_push {G : Gl} {M M' : Mm} {N : Nat} {e : va_E} (he : e = cE G M' N (sh N)) (ho : ∀ c', c' < N → cE G M' c' (sh c') = cE G M c' (sh c')) : WL G M N ++ [(G.2.2.1 + N, e)] = WL G M' (N + 1) := by
  simp only [WL, List.range_succ, List.map_append, List.map_cons, List.map_nil]
  rw [he]
  congr 1
  apply List.map_congr_left
  intro c hc
  rw [ho c (List.mem_range.mp hc)]
/-- ours, in a heap -/
def Rl (G : Gl) (M : Mm) (N : Nat) (H : Heap) : Prop := va_P G.1 kcl (WL G M N) H ∧ (N < 101 → H.size = G.2.2.1 + N)
abbrev tyG (G : Gl) : List (ClassId × FieldType) := [(G.2.1 0, .int), (G.2.1 1, .long), (G.2.1 2, .char), (G.2.1 3, .object RX2), (G.2.1 4, .object RX3), (G.2.1 5, .object RX9)]
end
section
/-! what holds around our cells; the judgement; calls -/
def stL : List (String × Nat × String) := [(RX11, 11, "hand"), (RX11, 18, "miser"), (RX11, 23, "duke"), (RX11, 28, "shaky"), (RX11, 33, "heir"), (RX11, 38, "left"), (RX10, 35, "smudge"), (RX10, 45, "dry"), (RX10, 72, "at"), (RX10, 85, "ink"), (RX10, 104, "up"), (RX10, 106, "right"), (RX10, 108, "down"), (RX10, 110, "back")]
def lenS : List Nat := [4, 5, 4, 5, 4, 4, 6, 3, 2, 3, 2, 5, 4, 4]
def bytS : List (List Int32) := [[104, 97, 110, 100], [109, 105, 115, 101, 114], [100, 117, 107, 101], [115, 104, 97, 107, 121], [104, 101, 105, 114], [108, 101, 102, 116], [115, 109, 117, 100, 103, 101], [100, 114, 121], [97, 116], [105, 110, 107], [117, 112], [114, 105, 103, 104, 116], [100, 111, 119, 110], [98, 97, 99, 107]]
def En (G : Gl) (U : State) : Prop := va_K G.1 kcl (tyG G) U ∧ vk_S 14 lenS bytS G.2.2.2.1 G.2.2.2.2 (gA G) U U.heap ∧ (∀ (i : Nat) (q : String × Nat × String), stL[i]? = some q → vk_R q.1 q.2.1 q.2.2 (G.2.2.2.1 i) U) ∧ va_Z "java/lang/String" "COMPACT_STRINGS" "Z" (.int 1) (gA G) U U.heap ∧ va_Zq "jdk/internal/util/Preconditions" "SIOOBE_FORMATTER" "Ljava/util/function/BiFunction;" (gA G) U U.heap ∧ (∀ C ∈ [RX2, RX3, RX9], va_AO C U) ∧ (∀ C ∈ [RX7, RX0, RX8, RX4, RX6], va_Nw (.castable C RX3) U) ∧ va_Nw (.methodLinkNest RX5 63 yX11_bitOf RX11) U
theorem En.at {G : Gl} {s U : State} {locs : List Loc} (h : En G s) (hW : s.WarmedH U.vm) (hS : va_S (gA G) s.heap U.heap locs) : En G U := by
  obtain ⟨h1, h2, h3, h4, h5, h6, h7, h8⟩ := h
  exact ⟨va_K.moved hW.alike h1, (h2.moved hW.alike).kept hS.2.1, fun i q hq => (h3 i q hq).warm hW, (h4.moved hW.alike).kept hS.2.1, (h5.moved hW.alike).kept hS.2.1, fun C hC => (h6 C hC).moved hW.alike, fun C hC => va_Nw.warmC hW (h7 C hC), va_Nw.warmM hW h8⟩
theorem En.same {G : Gl} {s U : State} (h : En G s) (hv : s.vm = U.vm) (hh : U.heap = s.heap) : En G U := by
  obtain ⟨h1, h2, h3, h4, h5, h6, h7, h8⟩ := h
  have ha : s.vm.Alike U.vm := by rw [hv]; exact Vm.Alike.refl _
  refine ⟨va_K.moved ha h1, ?_, fun i q hq => (h3 i q hq).same hv.symm, ?_, ?_, fun C hC => (h6 C hC).moved ha, fun C hC => (h7 C hC).same rfl hv, h8.same rfl hv⟩
  · rw [hh]; exact h2.moved ha
  · rw [hh]; exact h4.moved ha
  · rw [hh]; exact h5.moved ha
/-- the words that a method may use -/
def wG : List Cond := lw_tbl.filter goodWord
theorem wG_mem {w : Cond} (h : w ∈ tables_1) (hg : goodWord w = true) : w ∈ wG := List.mem_filter.mpr ⟨List.mem_append_right _ h, hg⟩
theorem wG_sel {w : Cond} (h : w ∈ k2_sels lw_privs) (hg : goodWord w = true) : w ∈ wG := List.mem_filter.mpr ⟨List.mem_append_left _ h, hg⟩
theorem wG_good : GoodIn wG wG := fun w h => ⟨h, good_of_word (List.mem_filter.mp h).2⟩
/-- a method: name, bytes, locals, answer -/
abbrev My : Type := MethodName × ByteArray × Nat × Option FieldType
def wsY (Y : My) : List Cond := .code Y.1 Y.2.1 Y.2.2.1 Y.2.2.2 :: wG
theorem wsY_good {Y Z : My} (h : Cond.code Z.1 Z.2.1 Z.2.2.1 Z.2.2.2 ∈ wG) : GoodIn (wsY Y) (wsY Z) := by
  intro w hw
  rcases List.mem_cons.mp hw with rfl | hw
  · exact ⟨List.mem_cons_of_mem _ h, (wG_good _ h).2⟩
  · exact ⟨List.mem_cons_of_mem _ hw, (wG_good _ hw).2⟩
def QQ (G : Gl) (ov : Option Value) (M : Mm) (N : Nat) : Array Value → State → Outcome → State → Prop := fun _ st oc t => oc = .returned ov ∧ Rl G M N t.heap ∧ va_F (gA G) st t
/-- a method's own facts as it runs -/
def CX (G : Gl) (Y : My) (p : Program) (s : State) (m : MethodId) (args : Array Value) (meth : Method) (c : Code) : Prop :=
  p.tables.exec = Jvm.exec ∧ c.code = Y.2.1 ∧ c.maxLocals = Y.2.2.1 ∧ meth.sig.returnType = Y.2.2.2 ∧ s.vm.findClass Y.1.cls = some m.cls ∧ (∀ w ∈ wG, w.before args s = true) ∧ meth.locks = false ∧ meth.name = Y.1.name ∧ En G s
def SJ (l : Launch) (G : Gl) (Y : My) (R : Room) (Nf : Nat) {α μ : Type} (ε : α → Option Value) (vw : μ → Mm) (N cells slots pc : Nat) (lv : List (Nat × Value)) (st : List Value) (M : μ) (t : Option (α × μ)) : Prop :=
  ∀ (a : α) (Mf : μ), t = some (a, Mf) → ∀ (p : Program) (e : Env) (s : State) (m : MethodId) (args : Array Value) (below : List Frame) (meth : Method) (c : Code) (H : Heap) (locs : List Loc) (ls : Array Slot), CX G Y p s m args meth c → lv_has ls Y.2.2.1 lv → Rl G (vw M) N H → va_S (gA G) s.heap H locs →
    W p l e R s m args below meth c H locs cells slots (MQ below (QQ G (ε a) (vw Mf) Nf) args s R.cells R.slots (gA G)) (F0 m pc ls st)
theorem met_of {l : Launch} {G : Gl} {Y : My} {R : Room} {Nf : Nat} {α μ : Type} {ε : α → Option Value} {vw : μ → Mm} {N : Nat} {M Mf : μ} {a : α} {t : Option (α × μ)} (vs : List Value) (hy : plainName Y.1.cls = true) (hl : (lg_sl vs).length ≤ Y.2.2.1) (k : SJ l G Y R Nf ε vw N 0 0 0 (lv_args 0 vs) [] M t) (ht : t = some (a, Mf)) :
    Met l Y.1 (wsY Y) R (va_Pc vs (fun U => En G U ∧ Rl G (vw M) N U.heap)) (QQ G (ε a) (vw Mf) Nf) R.cells R.slots (gA G) := by
  refine Met.ofW (cc := Y.2.1) (maxL := Y.2.2.1) (ret := Y.2.2.2) hy rfl ?_
  intro p e s m args below meth c s₁ B hml hv
  obtain ⟨rfl, hE, hR⟩ := hv
  have hts := atoms_spec (ws := wsY Y) B.pre
  rw [lg_entry_eq]
  exact k a Mf ht p e s m _ below meth c s.heap [] _ ⟨B.exec, B.bytes, hml, B.returns, findClass_of_methodNamed B.named, fun w hw => hts w (List.mem_cons_of_mem _ hw), B.notSynchronized, (name_of_methodNamed B.named B.method).1, hE⟩ (lv_entry vs hl) hR va_S.rf
section SJK
variable {p : Program} {l : Launch} {e : Env} {R : Room} {s : State} {m : MethodId} {args : Array Value} {below : List Frame} {meth : Method} {c : Code} {H : Heap} {locs : List Loc} {cells slots : Nat} {Q : State → Prop}
theorem w_run {G : Gl} {ov : Option Value} {M : Mm} {N mc ms pc : Nat} {ls : Array Slot} {st0 rest : List Value} {a : Array Value} (hr : va_Run p l e R s m args below meth c H locs cells slots mc ms (F0 m pc ls st0) rest (QQ G ov M N a) (gA G)) (hS : va_S (gA G) s.heap H locs)
    (kk : ∀ (H1 : Heap) (locs1 : List Loc), Rl G M N H1 → va_S (gA G) s.heap H1 locs1 → W p l e R s m args below meth c H1 locs1 (cells + mc) (slots + ms) Q (F0 m (pc + 3) ls (ov.toList ++ rest))) : W p l e R s m args below meth c H locs cells slots Q (F0 m pc ls st0) := by
  intro T hT X
  obtain ⟨v, st₀, t, T', L, h0, X', hL, e1, e2, ⟨hv, hR, hz, hk⟩, st⟩ := hr T hT X
  cases hv
  rw [h0] at hz hk
  obtain ⟨t2, a1, b1⟩ := kk T'.heap (locs ++ L) (by rw [e1]; exact hR) ⟨Nat.le_trans hS.1 (by rw [e1]; exact hz), fun q h1 h2 => by rw [e1, hk q (Nat.lt_of_lt_of_le h1 hS.1) h2]; exact hS.2.1 q h1 h2, fun q hq => by
      rcases List.mem_append.mp hq with h | h
      · exact hS.2.2 q h
      · exact hL q h⟩ T' rfl X'
  exact ⟨t2, st t2 a1, b1⟩
theorem pre_blind {G : Gl} {M : Mm} {N : Nat} {vs : List Value} : FrameBlind (va_Pc vs (fun U => En G U ∧ Rl G M N U.heap)) := by
  intro a U g mk h
  obtain ⟨h1, h2, h3⟩ := h
  exact ⟨h1, h2.same rfl rfl, h3⟩
theorem pre_at {G : Gl} {M : Mm} {N : Nat} {vs : List Value} (hE : En G s) (hR : Rl G M N H) (hS : va_S (gA G) s.heap H locs) : ∀ U : State, U.heap = H → s.WarmedH U.vm → va_Pc vs (fun U => En G U ∧ Rl G M N U.heap) vs.toArray U := by
  intro U hU hW
  refine ⟨rfl, hE.at (locs := locs) hW (by rw [hU]; exact hS), by rw [hU]; exact hR⟩
end SJK
def bnd {α β μ : Type} (x : Option (α × μ)) (f : α → μ → Option β) : Option β := match x with
  | none => none
  | some q => f q.1 q.2
theorem bnd_some {α β μ : Type} {x : Option (α × μ)} {f : α → μ → Option β} {r : β} (h : bnd x f = some r) : ∃ a m, x = some (a, m) ∧ f a m = some r := by
  cases x with
  | none => cases h
  | some q => exact ⟨q.1, q.2, rfl, h⟩
def grd {β : Type} (c : Bool) (t : Option β) : Option β := if c then t else none
def bl {α β : Type} (x : α) (f : α → Option β) : Option β := f x
def ifn {β : Type} (r : Option Nat) (t : Option β) (f : Nat → Option β) : Option β := match r with
  | none => t
  | some c => f c
/-- room and words of a call -/
def okR (R Rc : Room) (Z : My) : Bool := decide (Rc.frames + 1 ≤ R.frames) && decide (8 + (Z.2.2.1 + 11) + Rc.locals ≤ R.locals)
theorem okR_1 {R Rc : Room} {Z : My} (h : okR R Rc Z = true) : Rc.frames + 1 ≤ R.frames ∧ 8 + (Z.2.2.1 + 11) + Rc.locals ≤ R.locals := by
  simpa [okR] using h
/-- a method as a callee: a plain class, its code among the words, how many parameters -/
def okY (Z : My) (n : Nat) : Prop := Cond.code Z.1 Z.2.1 Z.2.2.1 Z.2.2.2 ∈ wG ∧ Cond.initialized Z.1.cls ∈ wG ∧ plainName Z.1.cls = true ∧ (Z.1.cls ≠ "java/lang/invoke/MethodHandle" ∧ Z.1.cls ≠ "java/lang/invoke/VarHandle") ∧ (parseMethodDescriptor Z.1.desc).map (fun d => d.parameters.length) = some n
section SJC
variable {l : Launch} {G : Gl} {Y Z : My} {R Rc : Room} {Nf Nc : Nat} {α γ μ : Type} {ε : α → Option Value} {εc : γ → Option Value} {vw : μ → Mm} {N cells slots pc index n : Nat} {lv : List (Nat × Value)} {st st0 vs : List Value} {M : μ} {tc : Option (γ × μ)} {t : γ → μ → Option (α × μ)}
theorem call_B {s : State} {args : Array Value} (hw : ∀ w ∈ wG, w.before args s = true) (hZ : okY Z n) (hR : okR R Rc Z = true) (hlk : Cond.methodLink Y.1.cls index Z.1 ∈ wG) : CallB R s args Y.1.cls index Z.1 Z.2.1 Z.2.2.1 Z.2.2.2 (wsY Z) Rc Rc.cells Rc.slots n := by
  obtain ⟨h1, h2, h3, h4, h5⟩ := hZ
  refine callB_of (Ts := wG) (ws' := wG) n hw (fun w hw => ?_) rfl rfl rfl (hw _ h2) (hw _ hlk) ⟨h4.1, h4.2, h5⟩ (okR_1 hR)
  rcases List.mem_cons.mp hw with rfl | hw
  · exact ⟨h1, (wG_good _ h1).2⟩
  · exact wG_good _ hw
/-- invokestatic -/
theorem s_invS (hd : decode Y.2.1 pc = .ok (.invokestatic index, 3)) (hZ : okY Z n) (hR : okR R Rc Z = true) (hlk : Cond.methodLink Y.1.cls index Z.1 ∈ wG) (hsx : Cond.static Z.1 ∈ wG) (vs : List Value) (hn : vs.length = n) (hl : Nat.ble (lg_sl vs).length Z.2.2.1 = true) (hst : st0 = vs.reverse ++ st) (hcat : Nat.ble (st.map fun v => v.category).sum 8 = true) (hrm : Nat.ble (cells + Rc.cells) R.cells = true ∧ Nat.ble (slots + Rc.slots) R.slots = true)
    (kc : SJ l G Z Rc Nc εc vw N 0 0 0 (lv_args 0 vs) [] M tc) (k : ∀ a M', SJ l G Y R Nf ε vw Nc (cells + Rc.cells) (slots + Rc.slots) (pc + 3) lv ((εc a).toList ++ st) M' (t a M')) : SJ l G Y R Nf ε vw N cells slots pc lv st0 M (bnd tc t) := by
  intro a Mf h p e s m args below meth c H locs ls C hlv hRl hS
  obtain ⟨a1, M1, h1, h2⟩ := bnd_some h
  obtain ⟨hx, hb, hml, hr, ho, hw, hlk2, hnm, hE⟩ := id C
  subst hst
  exact w_run (va_runS (As := vs) (rest := st) (n := n) ⟨hx, hb, hml, ho, hw⟩ (met_of vs hZ.2.2.1 (Nat.le_of_ble_eq_true hl) kc h1) ⟨call_B hw hZ hR hlk, hw _ hsx⟩ ⟨pre_blind, pre_at hE hRl hS⟩ rfl hn hlv.1 rfl (lv_room (Nat.le_of_ble_eq_true hcat)) hd ⟨Nat.le_of_ble_eq_true hrm.1, Nat.le_of_ble_eq_true hrm.2⟩) hS
    (fun H1 locs1 hR1 hS1 => k a1 M1 a Mf h2 p e s m args below meth c H1 locs1 ls C hlv hR1 hS1)
end SJC
end
section
/-! one row an instruction: those that touch no memory -/
abbrev ix (i : Int32) : Nat := i.toNatClampNeg
def inb (i : Int32) (n : Nat) : Bool := decide (0 ≤ i) && decide (ix i < n)
theorem inb_in {i : Int32} {n : Nat} (h : inb i n = true) : vp_in i n := by
  simp only [inb, Bool.and_eq_true, decide_eq_true_eq] at h
  rintro (q | q)
  · exact absurd (Int32.lt_of_lt_of_le q h.1) (fun z => Int32.lt_irrefl z)
  · exact absurd h.2 (Nat.not_lt.mpr q)
theorem grd_some {β : Type} {c : Bool} {t : Option β} {r : β} (h : grd c t = some r) : c = true ∧ t = some r := by
  cases c with
  | true => exact ⟨rfl, h⟩
  | false => cases h
section SR
variable {l : Launch} {G : Gl} {Y : My} {R : Room} {Nf : Nat} {α μ : Type} {ε : α → Option Value} {vw : μ → Mm} {N cells slots pc : Nat} {lv : List (Nat × Value)} {st : List Value} {M : μ} {t t1 t2 : Option (α × μ)}
theorem SJ.stp {pc' : Nat} {st' : List Value} (w : ∀ (p : Program) (e : Env) (s : State) (m : MethodId) (args : Array Value) (below : List Frame) (meth : Method) (c : Code) (H : Heap) (locs : List Loc) (ls : Array Slot) (Q : State → Prop), CX G Y p s m args meth c → lv_has ls Y.2.2.1 lv → W p l e R s m args below meth c H locs cells slots Q (F0 m pc' ls st') → W p l e R s m args below meth c H locs cells slots Q (F0 m pc ls st)) (k : SJ l G Y R Nf ε vw N cells slots pc' lv st' M t) : SJ l G Y R Nf ε vw N cells slots pc lv st M t :=
  fun a Mf h p e s m args below meth c H locs ls C hl hR hS => w p e s m args below meth c H locs ls _ C hl (k a Mf h p e s m args below meth c H locs ls C hl hR hS)
theorem SJ.stpL {pc' : Nat} {st' : List Value} {lv' : List (Nat × Value)} (w : ∀ (p : Program) (e : Env) (s : State) (m : MethodId) (args : Array Value) (below : List Frame) (meth : Method) (c : Code) (H : Heap) (locs : List Loc) (ls : Array Slot) (Q : State → Prop), CX G Y p s m args meth c → lv_has ls Y.2.2.1 lv → (∀ ls' : Array Slot, lv_has ls' Y.2.2.1 lv' → W p l e R s m args below meth c H locs cells slots Q (F0 m pc' ls' st')) → W p l e R s m args below meth c H locs cells slots Q (F0 m pc ls st)) (k : SJ l G Y R Nf ε vw N cells slots pc' lv' st' M t) : SJ l G Y R Nf ε vw N cells slots pc lv st M t :=
  fun a Mf h p e s m args below meth c H locs ls C hl hR hS => w p e s m args below meth c H locs ls _ C hl (fun ls' hl' => k a Mf h p e s m args below meth c H locs ls' C hl' hR hS)
/-- fewer locals, in another order -/
theorem s_lv {lv' : List (Nat × Value)} (ks : List Nat) (h : lv_pick lv ks = lv') (k : SJ l G Y R Nf ε vw N cells slots pc lv' st M t) : SJ l G Y R Nf ε vw N cells slots pc lv st M t :=
  fun a Mf h0 p e s m args below meth c H locs ls C hl hR hS => k a Mf h0 p e s m args below meth c H locs ls C (lv_sub hl ks h) hR hS
theorem s_none : SJ l G Y R Nf ε vw N cells slots pc lv st M none := fun a Mf h => by cases h
theorem s_ite {P : Prop} {d : Decidable P} (k1 : P → SJ l G Y R Nf ε vw N cells slots pc lv st M t1) (k2 : ¬ P → SJ l G Y R Nf ε vw N cells slots pc lv st M t2) : SJ l G Y R Nf ε vw N cells slots pc lv st M (if P then t1 else t2) := by
  by_cases h : P
  · rw [if_pos h]; exact k1 h
  · rw [if_neg h]; exact k2 h
theorem s_grd {b : Bool} (k : b = true → SJ l G Y R Nf ε vw N cells slots pc lv st M t) : SJ l G Y R Nf ε vw N cells slots pc lv st M (grd b t) := by
  cases b with
  | true => exact k rfl
  | false => exact s_none
theorem s_bl {β : Type} {x : β} {f : β → Option (α × μ)} (k : SJ l G Y R Nf ε vw N cells slots pc lv st M (f x)) : SJ l G Y R Nf ε vw N cells slots pc lv st M (bl x f) := k
theorem s_topi {x : Int32} {f : Int32 → Option (α × μ)} (k : ∀ y : Int32, SJ l G Y R Nf ε vw N cells slots pc lv (.int y :: st) M (f y)) : SJ l G Y R Nf ε vw N cells slots pc lv (.int x :: st) M (bl x f) := k x
theorem s_topl {x : Int64} {f : Int64 → Option (α × μ)} (k : ∀ y : Int64, SJ l G Y R Nf ε vw N cells slots pc lv (.long y :: st) M (f y)) : SJ l G Y R Nf ε vw N cells slots pc lv (.long x :: st) M (bl x f) := k x
theorem s_topM {f : μ → Option (α × μ)} (k : ∀ M' : μ, SJ l G Y R Nf ε vw N cells slots pc lv st M' (f M')) : SJ l G Y R Nf ε vw N cells slots pc lv st M (bl M f) := k M
theorem s_iconst {n : Int} {v : Int32} (hd : decode Y.2.1 pc = .ok (.iconst n, 1)) (hv : Int32.ofInt n = v) (k : SJ l G Y R Nf ε vw N cells slots (pc + 1) lv (.int v :: st) M t) : SJ l G Y R Nf ε vw N cells slots pc lv (st) M t :=
  SJ.stp (fun p e s m args below meth c H locs ls Q C hl w => lv_iconst C.1 C.2.1 hd hv w) k
theorem s_bipush {n : Int} {v : Int32} (hd : decode Y.2.1 pc = .ok (.bipush n, 2)) (hv : (Int8.ofInt n).toInt32 = v) (k : SJ l G Y R Nf ε vw N cells slots (pc + 2) lv (.int v :: st) M t) : SJ l G Y R Nf ε vw N cells slots pc lv (st) M t :=
  SJ.stp (fun p e s m args below meth c H locs ls Q C hl w => lv_bipush C.1 C.2.1 hd hv w) k
theorem s_sipush {n : Int} {v : Int32} (hd : decode Y.2.1 pc = .ok (.sipush n, 3)) (hv : (Int16.ofInt n).toInt32 = v) (k : SJ l G Y R Nf ε vw N cells slots (pc + 3) lv (.int v :: st) M t) : SJ l G Y R Nf ε vw N cells slots pc lv (st) M t :=
  SJ.stp (fun p e s m args below meth c H locs ls Q C hl w => lv_sipush C.1 C.2.1 hd hv w) k
theorem s_lconst {n : Fin 2} {v : Int64} (hd : decode Y.2.1 pc = .ok (.lconst n, 1)) (hv : Int64.ofNat (n : Nat) = v) (k : SJ l G Y R Nf ε vw N cells slots (pc + 1) lv (.long v :: st) M t) : SJ l G Y R Nf ε vw N cells slots pc lv (st) M t :=
  SJ.stp (fun p e s m args below meth c H locs ls Q C hl w => lv_lconst C.1 C.2.1 hd hv w) k
theorem s_iadd {x y : Int32} (hd : decode Y.2.1 pc = .ok (.iadd, 1)) (k : SJ l G Y R Nf ε vw N cells slots (pc + 1) lv (.int (x + y) :: st) M t) : SJ l G Y R Nf ε vw N cells slots pc lv (.int y :: .int x :: st) M t :=
  SJ.stp (fun p e s m args below meth c H locs ls Q C hl w => lv_iadd C.1 C.2.1 hd w) k
theorem s_isub {x y : Int32} (hd : decode Y.2.1 pc = .ok (.isub, 1)) (k : SJ l G Y R Nf ε vw N cells slots (pc + 1) lv (.int (x - y) :: st) M t) : SJ l G Y R Nf ε vw N cells slots pc lv (.int y :: .int x :: st) M t :=
  SJ.stp (fun p e s m args below meth c H locs ls Q C hl w => lv_isub C.1 C.2.1 hd w) k
theorem s_imul {x y : Int32} (hd : decode Y.2.1 pc = .ok (.imul, 1)) (k : SJ l G Y R Nf ε vw N cells slots (pc + 1) lv (.int (x * y) :: st) M t) : SJ l G Y R Nf ε vw N cells slots pc lv (.int y :: .int x :: st) M t :=
  SJ.stp (fun p e s m args below meth c H locs ls Q C hl w => lv_imul C.1 C.2.1 hd w) k
theorem s_iand {x y : Int32} (hd : decode Y.2.1 pc = .ok (.iand, 1)) (k : SJ l G Y R Nf ε vw N cells slots (pc + 1) lv (.int (x &&& y) :: st) M t) : SJ l G Y R Nf ε vw N cells slots pc lv (.int y :: .int x :: st) M t :=
  SJ.stp (fun p e s m args below meth c H locs ls Q C hl w => lv_iand C.1 C.2.1 hd w) k
theorem s_ior {x y : Int32} (hd : decode Y.2.1 pc = .ok (.ior, 1)) (k : SJ l G Y R Nf ε vw N cells slots (pc + 1) lv (.int (x ||| y) :: st) M t) : SJ l G Y R Nf ε vw N cells slots pc lv (.int y :: .int x :: st) M t :=
  SJ.stp (fun p e s m args below meth c H locs ls Q C hl w => lv_ior C.1 C.2.1 hd w) k
theorem s_ixor {x y : Int32} (hd : decode Y.2.1 pc = .ok (.ixor, 1)) (k : SJ l G Y R Nf ε vw N cells slots (pc + 1) lv (.int (x ^^^ y) :: st) M t) : SJ l G Y R Nf ε vw N cells slots pc lv (.int y :: .int x :: st) M t :=
  SJ.stp (fun p e s m args below meth c H locs ls Q C hl w => lv_ixor C.1 C.2.1 hd w) k
theorem s_ladd {x y : Int64} (hd : decode Y.2.1 pc = .ok (.ladd, 1)) (k : SJ l G Y R Nf ε vw N cells slots (pc + 1) lv (.long (x + y) :: st) M t) : SJ l G Y R Nf ε vw N cells slots pc lv (.long y :: .long x :: st) M t :=
  SJ.stp (fun p e s m args below meth c H locs ls Q C hl w => lv_ladd C.1 C.2.1 hd w) k
theorem s_lsub {x y : Int64} (hd : decode Y.2.1 pc = .ok (.lsub, 1)) (k : SJ l G Y R Nf ε vw N cells slots (pc + 1) lv (.long (x - y) :: st) M t) : SJ l G Y R Nf ε vw N cells slots pc lv (.long y :: .long x :: st) M t :=
  SJ.stp (fun p e s m args below meth c H locs ls Q C hl w => lv_lsub C.1 C.2.1 hd w) k
theorem s_lmul {x y : Int64} (hd : decode Y.2.1 pc = .ok (.lmul, 1)) (k : SJ l G Y R Nf ε vw N cells slots (pc + 1) lv (.long (x * y) :: st) M t) : SJ l G Y R Nf ε vw N cells slots pc lv (.long y :: .long x :: st) M t :=
  SJ.stp (fun p e s m args below meth c H locs ls Q C hl w => lv_lmul C.1 C.2.1 hd w) k
theorem s_land {x y : Int64} (hd : decode Y.2.1 pc = .ok (.land, 1)) (k : SJ l G Y R Nf ε vw N cells slots (pc + 1) lv (.long (x &&& y) :: st) M t) : SJ l G Y R Nf ε vw N cells slots pc lv (.long y :: .long x :: st) M t :=
  SJ.stp (fun p e s m args below meth c H locs ls Q C hl w => lv_land C.1 C.2.1 hd w) k
theorem s_lor {x y : Int64} (hd : decode Y.2.1 pc = .ok (.lor, 1)) (k : SJ l G Y R Nf ε vw N cells slots (pc + 1) lv (.long (x ||| y) :: st) M t) : SJ l G Y R Nf ε vw N cells slots pc lv (.long y :: .long x :: st) M t :=
  SJ.stp (fun p e s m args below meth c H locs ls Q C hl w => lv_lor C.1 C.2.1 hd w) k
theorem s_lxor {x y : Int64} (hd : decode Y.2.1 pc = .ok (.lxor, 1)) (k : SJ l G Y R Nf ε vw N cells slots (pc + 1) lv (.long (x ^^^ y) :: st) M t) : SJ l G Y R Nf ε vw N cells slots pc lv (.long y :: .long x :: st) M t :=
  SJ.stp (fun p e s m args below meth c H locs ls Q C hl w => lv_lxor C.1 C.2.1 hd w) k
theorem s_idiv {x y : Int32} (hd : decode Y.2.1 pc = .ok (.idiv, 1)) (hne : ¬ y = 0) (k : SJ l G Y R Nf ε vw N cells slots (pc + 1) lv (.int (x / y) :: st) M t) : SJ l G Y R Nf ε vw N cells slots pc lv (.int y :: .int x :: st) M t :=
  SJ.stp (fun p e s m args below meth c H locs ls Q C hl w => lv_idiv C.1 C.2.1 hd hne w) k
theorem s_irem {x y : Int32} (hd : decode Y.2.1 pc = .ok (.irem, 1)) (hne : ¬ y = 0) (k : SJ l G Y R Nf ε vw N cells slots (pc + 1) lv (.int (x - x / y * y) :: st) M t) : SJ l G Y R Nf ε vw N cells slots pc lv (.int y :: .int x :: st) M t :=
  SJ.stp (fun p e s m args below meth c H locs ls Q C hl w => lv_irem C.1 C.2.1 hd hne w) k
theorem s_ishl {x y : Int32} (hd : decode Y.2.1 pc = .ok (.ishl, 1)) (k : SJ l G Y R Nf ε vw N cells slots (pc + 1) lv (.int (x <<< (y &&& 31)) :: st) M t) : SJ l G Y R Nf ε vw N cells slots pc lv (.int y :: .int x :: st) M t :=
  SJ.stp (fun p e s m args below meth c H locs ls Q C hl w => lv_ishl C.1 C.2.1 hd w) k
theorem s_ishr {x y : Int32} (hd : decode Y.2.1 pc = .ok (.ishr, 1)) (k : SJ l G Y R Nf ε vw N cells slots (pc + 1) lv (.int (x >>> (y &&& 31)) :: st) M t) : SJ l G Y R Nf ε vw N cells slots pc lv (.int y :: .int x :: st) M t :=
  SJ.stp (fun p e s m args below meth c H locs ls Q C hl w => lv_ishr C.1 C.2.1 hd w) k
theorem s_iushr {x y : Int32} (hd : decode Y.2.1 pc = .ok (.iushr, 1)) (k : SJ l G Y R Nf ε vw N cells slots (pc + 1) lv (.int (x.toUInt32 >>> (y.toUInt32 &&& Int32.toUInt32 31)).toInt32 :: st) M t) : SJ l G Y R Nf ε vw N cells slots pc lv (.int y :: .int x :: st) M t :=
  SJ.stp (fun p e s m args below meth c H locs ls Q C hl w => lv_iushr C.1 C.2.1 hd rfl w) k
theorem s_lushr {x : Int64} {y : Int32} (hd : decode Y.2.1 pc = .ok (.lushr, 1)) (k : SJ l G Y R Nf ε vw N cells slots (pc + 1) lv (.long ((x.toUInt64 >>> (y.toInt64.toUInt64 &&& Int64.toUInt64 63)).toInt64) :: st) M t) : SJ l G Y R Nf ε vw N cells slots pc lv (.int y :: .long x :: st) M t :=
  SJ.stp (fun p e s m args below meth c H locs ls Q C hl w => lv_lushr C.1 C.2.1 hd rfl w) k
theorem s_lshl {x : Int64} {y : Int32} (hd : decode Y.2.1 pc = .ok (.lshl, 1)) (k : SJ l G Y R Nf ε vw N cells slots (pc + 1) lv (.long (x <<< (y.toInt64 &&& 63)) :: st) M t) : SJ l G Y R Nf ε vw N cells slots pc lv (.int y :: .long x :: st) M t :=
  SJ.stp (fun p e s m args below meth c H locs ls Q C hl w => lv_lshl C.1 C.2.1 hd rfl w) k
theorem s_lshr {x : Int64} {y : Int32} (hd : decode Y.2.1 pc = .ok (.lshr, 1)) (k : SJ l G Y R Nf ε vw N cells slots (pc + 1) lv (.long (x >>> (y.toInt64 &&& 63)) :: st) M t) : SJ l G Y R Nf ε vw N cells slots pc lv (.int y :: .long x :: st) M t :=
  SJ.stp (fun p e s m args below meth c H locs ls Q C hl w => lv_lshr C.1 C.2.1 hd rfl w) k
theorem s_i2l {x : Int32} (hd : decode Y.2.1 pc = .ok (.i2l, 1)) (k : SJ l G Y R Nf ε vw N cells slots (pc + 1) lv (.long (x.toInt64) :: st) M t) : SJ l G Y R Nf ε vw N cells slots pc lv (.int x :: st) M t :=
  SJ.stp (fun p e s m args below meth c H locs ls Q C hl w => lv_i2l C.1 C.2.1 hd rfl w) k
theorem s_l2i {x : Int64} (hd : decode Y.2.1 pc = .ok (.l2i, 1)) (k : SJ l G Y R Nf ε vw N cells slots (pc + 1) lv (.int (x.toInt32) :: st) M t) : SJ l G Y R Nf ε vw N cells slots pc lv (.long x :: st) M t :=
  SJ.stp (fun p e s m args below meth c H locs ls Q C hl w => lv_l2i C.1 C.2.1 hd rfl w) k
theorem s_i2b {x : Int32} (hd : decode Y.2.1 pc = .ok (.i2b, 1)) (k : SJ l G Y R Nf ε vw N cells slots (pc + 1) lv (.int (x.toInt8.toInt32) :: st) M t) : SJ l G Y R Nf ε vw N cells slots pc lv (.int x :: st) M t :=
  SJ.stp (fun p e s m args below meth c H locs ls Q C hl w => lv_i2b C.1 C.2.1 hd rfl w) k
theorem s_i2s {x : Int32} (hd : decode Y.2.1 pc = .ok (.i2s, 1)) (k : SJ l G Y R Nf ε vw N cells slots (pc + 1) lv (.int (x.toInt16.toInt32) :: st) M t) : SJ l G Y R Nf ε vw N cells slots pc lv (.int x :: st) M t :=
  SJ.stp (fun p e s m args below meth c H locs ls Q C hl w => lv_i2s C.1 C.2.1 hd rfl w) k
theorem s_i2c {x : Int32} (hd : decode Y.2.1 pc = .ok (.i2c, 1)) (k : SJ l G Y R Nf ε vw N cells slots (pc + 1) lv (.int ((x.toUInt32 % 65536).toInt32) :: st) M t) : SJ l G Y R Nf ε vw N cells slots pc lv (.int x :: st) M t :=
  SJ.stp (fun p e s m args below meth c H locs ls Q C hl w => lv_i2c C.1 C.2.1 hd rfl w) k
theorem s_dup {va : Value} (hd : decode Y.2.1 pc = .ok (.dup, 1)) (hva : va.category = 1) (k : SJ l G Y R Nf ε vw N cells slots (pc + 1) lv (va :: va :: st) M t) : SJ l G Y R Nf ε vw N cells slots pc lv (va :: st) M t :=
  SJ.stp (fun p e s m args below meth c H locs ls Q C hl w => lv_dup C.1 C.2.1 hd hva w) k
theorem s_pop {va : Value} (hd : decode Y.2.1 pc = .ok (.pop, 1)) (hva : va.category = 1) (k : SJ l G Y R Nf ε vw N cells slots (pc + 1) lv (st) M t) : SJ l G Y R Nf ε vw N cells slots pc lv (va :: st) M t :=
  SJ.stp (fun p e s m args below meth c H locs ls Q C hl w => lv_pop C.1 C.2.1 hd hva w) k
theorem s_dup_x1 {va vb : Value} (hd : decode Y.2.1 pc = .ok (.dup_x1, 1)) (hva : va.category = 1) (hvb : vb.category = 1) (k : SJ l G Y R Nf ε vw N cells slots (pc + 1) lv (va :: vb :: va :: st) M t) : SJ l G Y R Nf ε vw N cells slots pc lv (va :: vb :: st) M t :=
  SJ.stp (fun p e s m args below meth c H locs ls Q C hl w => lv_dup_x1 C.1 C.2.1 hd hva hvb w) k
theorem s_dup2 {va vb : Value} (hd : decode Y.2.1 pc = .ok (.dup2, 1)) (hva : va.category = 1) (hvb : vb.category = 1) (k : SJ l G Y R Nf ε vw N cells slots (pc + 1) lv (va :: vb :: va :: vb :: st) M t) : SJ l G Y R Nf ε vw N cells slots pc lv (va :: vb :: st) M t :=
  SJ.stp (fun p e s m args below meth c H locs ls Q C hl w => lv_dup2_11 C.1 C.2.1 hd hva hvb w) k
theorem s_ldc {index : Nat} {v : Int32} (hd : decode Y.2.1 pc = .ok (.ldc index, 2)) (hw : Cond.constant Y.1.cls index v ∈ wG) (k : SJ l G Y R Nf ε vw N cells slots (pc + 2) lv (.int v :: st) M t) : SJ l G Y R Nf ε vw N cells slots pc lv st M t :=
  SJ.stp (fun p e s m args below meth c H locs ls Q C hl w => lv_ldc C.1 C.2.1 C.2.2.2.2.1 (C.2.2.2.2.2.1 _ hw) hd w) k
theorem s_ldcw {index : Nat} {v : Int32} (hd : decode Y.2.1 pc = .ok (.ldc_w index, 3)) (hw : Cond.constant Y.1.cls index v ∈ wG) (k : SJ l G Y R Nf ε vw N cells slots (pc + 3) lv (.int v :: st) M t) : SJ l G Y R Nf ε vw N cells slots pc lv st M t :=
  SJ.stp (fun p e s m args below meth c H locs ls Q C hl w => lv_ldcw C.1 C.2.1 C.2.2.2.2.1 (C.2.2.2.2.2.1 _ hw) hd w) k
theorem s_ldc2 {index : Nat} {v : Int64} (hd : decode Y.2.1 pc = .ok (.ldc2_w index, 3)) (hw : Cond.constantLong Y.1.cls index v ∈ wG) (k : SJ l G Y R Nf ε vw N cells slots (pc + 3) lv (.long v :: st) M t) : SJ l G Y R Nf ε vw N cells slots pc lv st M t :=
  SJ.stp (fun p e s m args below meth c H locs ls Q C hl w => lv_ldc2 C.1 C.2.1 C.2.2.2.2.1 (C.2.2.2.2.2.1 _ hw) hd w) k
theorem s_ldcS {index : Nat} {tx : String} (i : Nat) (hd : decode Y.2.1 pc = .ok (.ldc index, 2)) (hi : stL[i]? = some (Y.1.cls, index, tx)) (k : SJ l G Y R Nf ε vw N cells slots (pc + 2) lv (aR G (1000 + i) :: st) M t) : SJ l G Y R Nf ε vw N cells slots pc lv st M t :=
  SJ.stp (fun p e s m args below meth c H locs ls Q C hl w => va_ldcS C.1 C.2.1 C.2.2.2.2.1 (C.2.2.2.2.2.2.2.2.2.2.1 i _ hi) hd (by
    have e1 : ad G (1000 + i) = G.2.2.2.1 i := by
      unfold ad
      rw [if_neg (by omega), Nat.add_sub_cancel_left]
    rw [aR, e1] at w
    exact w)) k
theorem s_iload_n {q : Fin 4} {x : Int32} (kk : Nat) (hd : decode Y.2.1 pc = .ok (.iload_n q, 1)) (hk : lv[kk]? = some ((q : Nat), .int x)) (k : SJ l G Y R Nf ε vw N cells slots (pc + 1) lv (.int x :: st) M t) : SJ l G Y R Nf ε vw N cells slots pc lv st M t :=
  SJ.stp (fun p e s m args below meth c H locs ls Q C hl w => lv_iload_n C.1 C.2.1 hd rfl (lv_at hl kk hk) w) k
theorem s_iload {i : Nat} {x : Int32} (kk : Nat) (hd : decode Y.2.1 pc = .ok (.iload i, 2)) (hk : lv[kk]? = some (i, .int x)) (k : SJ l G Y R Nf ε vw N cells slots (pc + 2) lv (.int x :: st) M t) : SJ l G Y R Nf ε vw N cells slots pc lv st M t :=
  SJ.stp (fun p e s m args below meth c H locs ls Q C hl w => lv_iload C.1 C.2.1 hd (lv_at hl kk hk) w) k
theorem s_lload_n {q : Fin 4} {x : Int64} (kk : Nat) (hd : decode Y.2.1 pc = .ok (.lload_n q, 1)) (hk : lv[kk]? = some ((q : Nat), .long x)) (k : SJ l G Y R Nf ε vw N cells slots (pc + 1) lv (.long x :: st) M t) : SJ l G Y R Nf ε vw N cells slots pc lv st M t :=
  SJ.stp (fun p e s m args below meth c H locs ls Q C hl w => lv_lload_n C.1 C.2.1 hd rfl (lv_at hl kk hk) w) k
theorem s_lload {i : Nat} {x : Int64} (kk : Nat) (hd : decode Y.2.1 pc = .ok (.lload i, 2)) (hk : lv[kk]? = some (i, .long x)) (k : SJ l G Y R Nf ε vw N cells slots (pc + 2) lv (.long x :: st) M t) : SJ l G Y R Nf ε vw N cells slots pc lv st M t :=
  SJ.stp (fun p e s m args below meth c H locs ls Q C hl w => lv_lload C.1 C.2.1 hd (lv_at hl kk hk) w) k
theorem s_aload_n {q : Fin 4} {x : Nat} (kk : Nat) (hd : decode Y.2.1 pc = .ok (.aload_n q, 1)) (hk : lv[kk]? = some ((q : Nat), .ref x)) (k : SJ l G Y R Nf ε vw N cells slots (pc + 1) lv (.ref x :: st) M t) : SJ l G Y R Nf ε vw N cells slots pc lv st M t :=
  SJ.stp (fun p e s m args below meth c H locs ls Q C hl w => lv_aload_n C.1 C.2.1 hd rfl (lv_at hl kk hk) w) k
theorem s_aload {i : Nat} {x : Nat} (kk : Nat) (hd : decode Y.2.1 pc = .ok (.aload i, 2)) (hk : lv[kk]? = some (i, .ref x)) (k : SJ l G Y R Nf ε vw N cells slots (pc + 2) lv (.ref x :: st) M t) : SJ l G Y R Nf ε vw N cells slots pc lv st M t :=
  SJ.stp (fun p e s m args below meth c H locs ls Q C hl w => lv_aload C.1 C.2.1 hd (lv_at hl kk hk) w) k
theorem s_aload_nN {q : Fin 4} (kk : Nat) (hd : decode Y.2.1 pc = .ok (.aload_n q, 1)) (hk : lv[kk]? = some ((q : Nat), .null)) (k : SJ l G Y R Nf ε vw N cells slots (pc + 1) lv (.null :: st) M t) : SJ l G Y R Nf ε vw N cells slots pc lv st M t :=
  SJ.stp (fun p e s m args below meth c H locs ls Q C hl w => lv_aload_nN C.1 C.2.1 hd rfl (lv_at hl kk hk) w) k
theorem s_aloadN {i : Nat} (kk : Nat) (hd : decode Y.2.1 pc = .ok (.aload i, 2)) (hk : lv[kk]? = some (i, .null)) (k : SJ l G Y R Nf ε vw N cells slots (pc + 2) lv (.null :: st) M t) : SJ l G Y R Nf ε vw N cells slots pc lv st M t :=
  SJ.stp (fun p e s m args below meth c H locs ls Q C hl w => lv_aloadN C.1 C.2.1 hd (lv_at hl kk hk) w) k
theorem s_istore_n {q : Fin 4} {i : Nat} {x : Int32} {lv' : List (Nat × Value)} (hd : decode Y.2.1 pc = .ok (.istore_n q, 1)) (hi : (q : Nat) = i) (hn : Nat.blt (i) Y.2.2.1 = true) (hl : (i, Value.int x) :: lv.filter (fun q => !(q.1 == i) && !(q.1 + 1 == i && q.2.category == 2)) = lv') (k : SJ l G Y R Nf ε vw N cells slots (pc + 1) lv' st M t) : SJ l G Y R Nf ε vw N cells slots pc lv (.int x :: st) M t :=
  SJ.stpL (fun p e s m args below meth c H locs ls Q C h w => lv_istore_n C.1 C.2.1 hd hi h (Nat.le_of_ble_eq_true hn) hl w) k
theorem s_istore {i : Nat} {x : Int32} {lv' : List (Nat × Value)} (hd : decode Y.2.1 pc = .ok (.istore i, 2)) (hn : Nat.blt (i) Y.2.2.1 = true) (hl : (i, Value.int x) :: lv.filter (fun q => !(q.1 == i) && !(q.1 + 1 == i && q.2.category == 2)) = lv') (k : SJ l G Y R Nf ε vw N cells slots (pc + 2) lv' st M t) : SJ l G Y R Nf ε vw N cells slots pc lv (.int x :: st) M t :=
  SJ.stpL (fun p e s m args below meth c H locs ls Q C h w => lv_istore C.1 C.2.1 hd h (Nat.le_of_ble_eq_true hn) hl w) k
theorem s_lstore_n {q : Fin 4} {i : Nat} {x : Int64} {lv' : List (Nat × Value)} (hd : decode Y.2.1 pc = .ok (.lstore_n q, 1)) (hi : (q : Nat) = i) (hn : Nat.blt (i + 1) Y.2.2.1 = true) (hl : (i, Value.long x) :: lv.filter (fun q => !(q.1 == i) && (!(q.1 == i + 1) && !(q.1 + 1 == i && q.2.category == 2))) = lv') (k : SJ l G Y R Nf ε vw N cells slots (pc + 1) lv' st M t) : SJ l G Y R Nf ε vw N cells slots pc lv (.long x :: st) M t :=
  SJ.stpL (fun p e s m args below meth c H locs ls Q C h w => lv_lstore_n C.1 C.2.1 hd hi h (Nat.le_of_ble_eq_true hn) hl w) k
theorem s_lstore {i : Nat} {x : Int64} {lv' : List (Nat × Value)} (hd : decode Y.2.1 pc = .ok (.lstore i, 2)) (hn : Nat.blt (i + 1) Y.2.2.1 = true) (hl : (i, Value.long x) :: lv.filter (fun q => !(q.1 == i) && (!(q.1 == i + 1) && !(q.1 + 1 == i && q.2.category == 2))) = lv') (k : SJ l G Y R Nf ε vw N cells slots (pc + 2) lv' st M t) : SJ l G Y R Nf ε vw N cells slots pc lv (.long x :: st) M t :=
  SJ.stpL (fun p e s m args below meth c H locs ls Q C h w => lv_lstore C.1 C.2.1 hd h (Nat.le_of_ble_eq_true hn) hl w) k
theorem s_astore_n {q : Fin 4} {i : Nat} {x : Nat} {lv' : List (Nat × Value)} (hd : decode Y.2.1 pc = .ok (.astore_n q, 1)) (hi : (q : Nat) = i) (hn : Nat.blt (i) Y.2.2.1 = true) (hl : (i, Value.ref x) :: lv.filter (fun q => !(q.1 == i) && !(q.1 + 1 == i && q.2.category == 2)) = lv') (k : SJ l G Y R Nf ε vw N cells slots (pc + 1) lv' st M t) : SJ l G Y R Nf ε vw N cells slots pc lv (.ref x :: st) M t :=
  SJ.stpL (fun p e s m args below meth c H locs ls Q C h w => lv_astore_n C.1 C.2.1 hd hi h (Nat.le_of_ble_eq_true hn) hl w) k
theorem s_astore {i : Nat} {x : Nat} {lv' : List (Nat × Value)} (hd : decode Y.2.1 pc = .ok (.astore i, 2)) (hn : Nat.blt (i) Y.2.2.1 = true) (hl : (i, Value.ref x) :: lv.filter (fun q => !(q.1 == i) && !(q.1 + 1 == i && q.2.category == 2)) = lv') (k : SJ l G Y R Nf ε vw N cells slots (pc + 2) lv' st M t) : SJ l G Y R Nf ε vw N cells slots pc lv (.ref x :: st) M t :=
  SJ.stpL (fun p e s m args below meth c H locs ls Q C h w => lv_astore C.1 C.2.1 hd h (Nat.le_of_ble_eq_true hn) hl w) k
theorem s_astore_nN {q : Fin 4} {i : Nat} {lv' : List (Nat × Value)} (hd : decode Y.2.1 pc = .ok (.astore_n q, 1)) (hi : (q : Nat) = i) (hn : Nat.blt (i) Y.2.2.1 = true) (hl : (i, Value.null) :: lv.filter (fun q => !(q.1 == i) && !(q.1 + 1 == i && q.2.category == 2)) = lv') (k : SJ l G Y R Nf ε vw N cells slots (pc + 1) lv' st M t) : SJ l G Y R Nf ε vw N cells slots pc lv (.null :: st) M t :=
  SJ.stpL (fun p e s m args below meth c H locs ls Q C h w => lv_astore_nN C.1 C.2.1 hd hi h (Nat.le_of_ble_eq_true hn) hl w) k
theorem s_astoreN {i : Nat} {lv' : List (Nat × Value)} (hd : decode Y.2.1 pc = .ok (.astore i, 2)) (hn : Nat.blt (i) Y.2.2.1 = true) (hl : (i, Value.null) :: lv.filter (fun q => !(q.1 == i) && !(q.1 + 1 == i && q.2.category == 2)) = lv') (k : SJ l G Y R Nf ε vw N cells slots (pc + 2) lv' st M t) : SJ l G Y R Nf ε vw N cells slots pc lv (.null :: st) M t :=
  SJ.stpL (fun p e s m args below meth c H locs ls Q C h w => lv_astoreN C.1 C.2.1 hd h (Nat.le_of_ble_eq_true hn) hl w) k
theorem s_iinc {i : Nat} {n : Int} {x v : Int32} {lv' : List (Nat × Value)} (kk : Nat) (hd : decode Y.2.1 pc = .ok (.iinc i n, 3)) (hk : lv[kk]? = some (i, .int x)) (hv : Int32.ofInt n = v) (hn : Nat.blt i Y.2.2.1 = true) (hl : (i, Value.int (x + v)) :: lv.filter (fun q => !(q.1 == i) && !(q.1 + 1 == i && q.2.category == 2)) = lv') (k : SJ l G Y R Nf ε vw N cells slots (pc + 3) lv' st M t) : SJ l G Y R Nf ε vw N cells slots pc lv st M t :=
  SJ.stpL (fun p e s m args below meth c H locs ls Q C h w => lv_iinc C.1 C.2.1 hd h hk (by rw [hv]) (Nat.le_of_ble_eq_true hn) hl w) k
theorem s_split {r : Option Nat} {f : Nat → Option (α × μ)} (k1 : SJ l G Y R Nf ε vw N cells slots pc lv (.null :: st) M t) (k2 : ∀ c, SJ l G Y R Nf ε vw N cells slots pc lv (aR G c :: st) M (f c)) : SJ l G Y R Nf ε vw N cells slots pc lv (rO G r :: st) M (ifn r t f) := by
  cases r with
  | none => exact k1
  | some c => exact k2 c
theorem s_goto {off : Int} {tgt : Nat} (hd : decode Y.2.1 pc = .ok (.goto off, 3)) (ht : (pc : Int) + off = (tgt : Int)) (k : SJ l G Y R Nf ε vw N cells slots tgt lv st M t) : SJ l G Y R Nf ε vw N cells slots pc lv st M t :=
  SJ.stp (fun p e s m args below meth c H locs ls Q C hl w => lv_goto C.1 C.2.1 hd ht w) k
theorem s_if_eq {x : Int32} {off : Int} {tgt : Nat} (hd : decode Y.2.1 pc = .ok (.ifCond .eq off, 3)) (ht : (pc : Int) + off = (tgt : Int)) (k1 : x = 0 → SJ l G Y R Nf ε vw N cells slots tgt lv st M t1) (k2 : ¬ x = 0 → SJ l G Y R Nf ε vw N cells slots (pc + 3) lv st M t2) : SJ l G Y R Nf ε vw N cells slots pc lv (.int x :: st) M (if x = 0 then t1 else t2) := by
  refine s_ite (fun h => ?_) (fun h => ?_)
  · exact SJ.stp (fun p e s m args below meth c H locs ls Q C hl w => lv_if_eq C.1 C.2.1 hd ht (fun _ => w) (fun q => absurd h q)) (k1 h)
  · exact SJ.stp (fun p e s m args below meth c H locs ls Q C hl w => lv_if_eq C.1 C.2.1 hd ht (fun q => absurd q h) (fun _ => w)) (k2 h)
theorem s_icmp_eq {x y : Int32} {off : Int} {tgt : Nat} (hd : decode Y.2.1 pc = .ok (.if_icmp .eq off, 3)) (ht : (pc : Int) + off = (tgt : Int)) (k1 : x = y → SJ l G Y R Nf ε vw N cells slots tgt lv st M t1) (k2 : ¬ x = y → SJ l G Y R Nf ε vw N cells slots (pc + 3) lv st M t2) : SJ l G Y R Nf ε vw N cells slots pc lv (.int y :: .int x :: st) M (if x = y then t1 else t2) := by
  refine s_ite (fun h => ?_) (fun h => ?_)
  · exact SJ.stp (fun p e s m args below meth c H locs ls Q C hl w => lv_icmp_eq C.1 C.2.1 hd ht (fun _ => w) (fun q => absurd h q)) (k1 h)
  · exact SJ.stp (fun p e s m args below meth c H locs ls Q C hl w => lv_icmp_eq C.1 C.2.1 hd ht (fun q => absurd q h) (fun _ => w)) (k2 h)
theorem s_if_ne {x : Int32} {off : Int} {tgt : Nat} (hd : decode Y.2.1 pc = .ok (.ifCond .ne off, 3)) (ht : (pc : Int) + off = (tgt : Int)) (k1 : x = 0 → SJ l G Y R Nf ε vw N cells slots (pc + 3) lv st M t1) (k2 : ¬ x = 0 → SJ l G Y R Nf ε vw N cells slots tgt lv st M t2) : SJ l G Y R Nf ε vw N cells slots pc lv (.int x :: st) M (if x = 0 then t1 else t2) := by
  refine s_ite (fun h => ?_) (fun h => ?_)
  · exact SJ.stp (fun p e s m args below meth c H locs ls Q C hl w => lv_if_ne C.1 C.2.1 hd ht (fun q => absurd h q) (fun _ => w)) (k1 h)
  · exact SJ.stp (fun p e s m args below meth c H locs ls Q C hl w => lv_if_ne C.1 C.2.1 hd ht (fun _ => w) (fun q => absurd q h)) (k2 h)
theorem s_icmp_ne {x y : Int32} {off : Int} {tgt : Nat} (hd : decode Y.2.1 pc = .ok (.if_icmp .ne off, 3)) (ht : (pc : Int) + off = (tgt : Int)) (k1 : x = y → SJ l G Y R Nf ε vw N cells slots (pc + 3) lv st M t1) (k2 : ¬ x = y → SJ l G Y R Nf ε vw N cells slots tgt lv st M t2) : SJ l G Y R Nf ε vw N cells slots pc lv (.int y :: .int x :: st) M (if x = y then t1 else t2) := by
  refine s_ite (fun h => ?_) (fun h => ?_)
  · exact SJ.stp (fun p e s m args below meth c H locs ls Q C hl w => lv_icmp_ne C.1 C.2.1 hd ht (fun q => absurd h q) (fun _ => w)) (k1 h)
  · exact SJ.stp (fun p e s m args below meth c H locs ls Q C hl w => lv_icmp_ne C.1 C.2.1 hd ht (fun _ => w) (fun q => absurd q h)) (k2 h)
theorem s_if_lt {x : Int32} {off : Int} {tgt : Nat} (hd : decode Y.2.1 pc = .ok (.ifCond .lt off, 3)) (ht : (pc : Int) + off = (tgt : Int)) (k1 : x < 0 → SJ l G Y R Nf ε vw N cells slots tgt lv st M t1) (k2 : ¬ x < 0 → SJ l G Y R Nf ε vw N cells slots (pc + 3) lv st M t2) : SJ l G Y R Nf ε vw N cells slots pc lv (.int x :: st) M (if x < 0 then t1 else t2) := by
  refine s_ite (fun h => ?_) (fun h => ?_)
  · exact SJ.stp (fun p e s m args below meth c H locs ls Q C hl w => lv_if_lt C.1 C.2.1 hd ht (fun _ => w) (fun q => absurd h q)) (k1 h)
  · exact SJ.stp (fun p e s m args below meth c H locs ls Q C hl w => lv_if_lt C.1 C.2.1 hd ht (fun q => absurd q h) (fun _ => w)) (k2 h)
theorem s_icmp_lt {x y : Int32} {off : Int} {tgt : Nat} (hd : decode Y.2.1 pc = .ok (.if_icmp .lt off, 3)) (ht : (pc : Int) + off = (tgt : Int)) (k1 : x < y → SJ l G Y R Nf ε vw N cells slots tgt lv st M t1) (k2 : ¬ x < y → SJ l G Y R Nf ε vw N cells slots (pc + 3) lv st M t2) : SJ l G Y R Nf ε vw N cells slots pc lv (.int y :: .int x :: st) M (if x < y then t1 else t2) := by
  refine s_ite (fun h => ?_) (fun h => ?_)
  · exact SJ.stp (fun p e s m args below meth c H locs ls Q C hl w => lv_icmp_lt C.1 C.2.1 hd ht (fun _ => w) (fun q => absurd h q)) (k1 h)
  · exact SJ.stp (fun p e s m args below meth c H locs ls Q C hl w => lv_icmp_lt C.1 C.2.1 hd ht (fun q => absurd q h) (fun _ => w)) (k2 h)
theorem s_if_ge {x : Int32} {off : Int} {tgt : Nat} (hd : decode Y.2.1 pc = .ok (.ifCond .ge off, 3)) (ht : (pc : Int) + off = (tgt : Int)) (k1 : 0 ≤ x → SJ l G Y R Nf ε vw N cells slots tgt lv st M t1) (k2 : ¬ 0 ≤ x → SJ l G Y R Nf ε vw N cells slots (pc + 3) lv st M t2) : SJ l G Y R Nf ε vw N cells slots pc lv (.int x :: st) M (if 0 ≤ x then t1 else t2) := by
  refine s_ite (fun h => ?_) (fun h => ?_)
  · exact SJ.stp (fun p e s m args below meth c H locs ls Q C hl w => lv_if_ge C.1 C.2.1 hd ht (fun _ => w) (fun q => absurd h q)) (k1 h)
  · exact SJ.stp (fun p e s m args below meth c H locs ls Q C hl w => lv_if_ge C.1 C.2.1 hd ht (fun q => absurd q h) (fun _ => w)) (k2 h)
theorem s_icmp_ge {x y : Int32} {off : Int} {tgt : Nat} (hd : decode Y.2.1 pc = .ok (.if_icmp .ge off, 3)) (ht : (pc : Int) + off = (tgt : Int)) (k1 : y ≤ x → SJ l G Y R Nf ε vw N cells slots tgt lv st M t1) (k2 : ¬ y ≤ x → SJ l G Y R Nf ε vw N cells slots (pc + 3) lv st M t2) : SJ l G Y R Nf ε vw N cells slots pc lv (.int y :: .int x :: st) M (if y ≤ x then t1 else t2) := by
  refine s_ite (fun h => ?_) (fun h => ?_)
  · exact SJ.stp (fun p e s m args below meth c H locs ls Q C hl w => lv_icmp_ge C.1 C.2.1 hd ht (fun _ => w) (fun q => absurd h q)) (k1 h)
  · exact SJ.stp (fun p e s m args below meth c H locs ls Q C hl w => lv_icmp_ge C.1 C.2.1 hd ht (fun q => absurd q h) (fun _ => w)) (k2 h)
theorem s_if_gt {x : Int32} {off : Int} {tgt : Nat} (hd : decode Y.2.1 pc = .ok (.ifCond .gt off, 3)) (ht : (pc : Int) + off = (tgt : Int)) (k1 : 0 < x → SJ l G Y R Nf ε vw N cells slots tgt lv st M t1) (k2 : ¬ 0 < x → SJ l G Y R Nf ε vw N cells slots (pc + 3) lv st M t2) : SJ l G Y R Nf ε vw N cells slots pc lv (.int x :: st) M (if 0 < x then t1 else t2) := by
  refine s_ite (fun h => ?_) (fun h => ?_)
  · exact SJ.stp (fun p e s m args below meth c H locs ls Q C hl w => lv_if_gt C.1 C.2.1 hd ht (fun _ => w) (fun q => absurd h q)) (k1 h)
  · exact SJ.stp (fun p e s m args below meth c H locs ls Q C hl w => lv_if_gt C.1 C.2.1 hd ht (fun q => absurd q h) (fun _ => w)) (k2 h)
theorem s_icmp_gt {x y : Int32} {off : Int} {tgt : Nat} (hd : decode Y.2.1 pc = .ok (.if_icmp .gt off, 3)) (ht : (pc : Int) + off = (tgt : Int)) (k1 : y < x → SJ l G Y R Nf ε vw N cells slots tgt lv st M t1) (k2 : ¬ y < x → SJ l G Y R Nf ε vw N cells slots (pc + 3) lv st M t2) : SJ l G Y R Nf ε vw N cells slots pc lv (.int y :: .int x :: st) M (if y < x then t1 else t2) := by
  refine s_ite (fun h => ?_) (fun h => ?_)
  · exact SJ.stp (fun p e s m args below meth c H locs ls Q C hl w => lv_icmp_gt C.1 C.2.1 hd ht (fun _ => w) (fun q => absurd h q)) (k1 h)
  · exact SJ.stp (fun p e s m args below meth c H locs ls Q C hl w => lv_icmp_gt C.1 C.2.1 hd ht (fun q => absurd q h) (fun _ => w)) (k2 h)
theorem s_if_le {x : Int32} {off : Int} {tgt : Nat} (hd : decode Y.2.1 pc = .ok (.ifCond .le off, 3)) (ht : (pc : Int) + off = (tgt : Int)) (k1 : x ≤ 0 → SJ l G Y R Nf ε vw N cells slots tgt lv st M t1) (k2 : ¬ x ≤ 0 → SJ l G Y R Nf ε vw N cells slots (pc + 3) lv st M t2) : SJ l G Y R Nf ε vw N cells slots pc lv (.int x :: st) M (if x ≤ 0 then t1 else t2) := by
  refine s_ite (fun h => ?_) (fun h => ?_)
  · exact SJ.stp (fun p e s m args below meth c H locs ls Q C hl w => lv_if_le C.1 C.2.1 hd ht (fun _ => w) (fun q => absurd h q)) (k1 h)
  · exact SJ.stp (fun p e s m args below meth c H locs ls Q C hl w => lv_if_le C.1 C.2.1 hd ht (fun q => absurd q h) (fun _ => w)) (k2 h)
theorem s_icmp_le {x y : Int32} {off : Int} {tgt : Nat} (hd : decode Y.2.1 pc = .ok (.if_icmp .le off, 3)) (ht : (pc : Int) + off = (tgt : Int)) (k1 : x ≤ y → SJ l G Y R Nf ε vw N cells slots tgt lv st M t1) (k2 : ¬ x ≤ y → SJ l G Y R Nf ε vw N cells slots (pc + 3) lv st M t2) : SJ l G Y R Nf ε vw N cells slots pc lv (.int y :: .int x :: st) M (if x ≤ y then t1 else t2) := by
  refine s_ite (fun h => ?_) (fun h => ?_)
  · exact SJ.stp (fun p e s m args below meth c H locs ls Q C hl w => lv_icmp_le C.1 C.2.1 hd ht (fun _ => w) (fun q => absurd h q)) (k1 h)
  · exact SJ.stp (fun p e s m args below meth c H locs ls Q C hl w => lv_icmp_le C.1 C.2.1 hd ht (fun q => absurd q h) (fun _ => w)) (k2 h)
theorem s_ifnullN {off : Int} {tgt : Nat} (hd : decode Y.2.1 pc = .ok (.ifnull off, 3)) (ht : (pc : Int) + off = (tgt : Int)) (k : SJ l G Y R Nf ε vw N cells slots tgt lv st M t) : SJ l G Y R Nf ε vw N cells slots pc lv (.null :: st) M t :=
  SJ.stp (fun p e s m args below meth c' H locs ls Q C hl w => lv_ifnullN C.1 C.2.1 hd ht w) k
theorem s_ifnonnullN {off : Int} (hd : decode Y.2.1 pc = .ok (.ifnonnull off, 3)) (k : SJ l G Y R Nf ε vw N cells slots (pc + 3) lv st M t) : SJ l G Y R Nf ε vw N cells slots pc lv (.null :: st) M t :=
  SJ.stp (fun p e s m args below meth c' H locs ls Q C hl w => lv_ifnonnullN C.1 C.2.1 hd w) k
theorem s_ifnullS {off : Int} {c : Nat} (hd : decode Y.2.1 pc = .ok (.ifnull off, 3)) (k : SJ l G Y R Nf ε vw N cells slots (pc + 3) lv st M t) : SJ l G Y R Nf ε vw N cells slots pc lv (aR G c :: st) M t :=
  SJ.stp (fun p e s m args below meth c' H locs ls Q C hl w => lv_ifnull (x := ad G c) C.1 C.2.1 hd w) k
theorem s_ifnonnullS {off : Int} {tgt c : Nat} (hd : decode Y.2.1 pc = .ok (.ifnonnull off, 3)) (ht : (pc : Int) + off = (tgt : Int)) (k : SJ l G Y R Nf ε vw N cells slots tgt lv st M t) : SJ l G Y R Nf ε vw N cells slots pc lv (aR G c :: st) M t :=
  SJ.stp (fun p e s m args below meth c' H locs ls Q C hl w => lv_ifnonnull (x := ad G c) C.1 C.2.1 hd ht w) k
theorem s_tin {dflt lo hi off : Int} {offs : Array Int} {len tgt : Nat} {x : Int32} (hd : decode Y.2.1 pc = .ok (.tableswitch dflt lo hi offs, len)) (h1 : ¬ x.toInt < lo) (h2 : ¬ hi < x.toInt) (ho : offs[(x.toInt - lo).toNat]? = some off) (ht : (pc : Int) + off = (tgt : Int)) (k : SJ l G Y R Nf ε vw N cells slots tgt lv st M t) : SJ l G Y R Nf ε vw N cells slots pc lv (.int x :: st) M t :=
  SJ.stp (fun p e s m args below meth c H locs ls Q C hl w => lv_tableIn C.1 C.2.1 hd h1 h2 ho ht w) k
theorem s_tout {dflt lo hi : Int} {offs : Array Int} {len tgt : Nat} {x : Int32} (hd : decode Y.2.1 pc = .ok (.tableswitch dflt lo hi offs, len)) (h : x.toInt < lo ∨ hi < x.toInt) (ht : (pc : Int) + dflt = (tgt : Int)) (k : SJ l G Y R Nf ε vw N cells slots tgt lv st M t) : SJ l G Y R Nf ε vw N cells slots pc lv (.int x :: st) M t :=
  SJ.stp (fun p e s m args below meth c H locs ls Q C hl w => lv_tableOut C.1 C.2.1 hd h ht w) k
theorem s_lcmp {x y : Int64} (hd : decode Y.2.1 pc = .ok (.lcmp, 1)) (k : SJ l G Y R Nf ε vw N cells slots (pc + 1) lv (.int (lg_cmp x y) :: st) M t) : SJ l G Y R Nf ε vw N cells slots pc lv (.long y :: .long x :: st) M t :=
  SJ.stp (fun p e s m args below meth c H locs ls Q C hl w => W.lcmp C.1 C.2.1 hd w) k
theorem s_null (hd : decode Y.2.1 pc = .ok (.aconst_null, 1)) (k : SJ l G Y R Nf ε vw N cells slots (pc + 1) lv (.null :: st) M t) : SJ l G Y R Nf ε vw N cells slots pc lv st M t :=
  SJ.stp (fun p e s m args below meth c H locs ls Q C hl w => lv_null C.1 C.2.1 hd w) k
end SR
/-! the answers -/
section SE
variable {l : Launch} {G : Gl} {Y : My} {R : Room} {μ : Type} {vw : μ → Mm} {N pc : Nat} {lv : List (Nat × Value)} {M : μ}
abbrev eI : Int32 → Option Value := fun x => some (.int x)
abbrev eL : Int64 → Option Value := fun x => some (.long x)
abbrev eU : Unit → Option Value := fun _ => none
def eR (G : Gl) : Option Nat → Option Value := fun r => some (rO G r)
theorem s_iret {v : Int32} (hd : decode Y.2.1 pc = .ok (.ireturn, 1)) (hr : Y.2.2.2 = some .int) : SJ l G Y R N eI vw N R.cells R.slots pc lv [.int v] M (some (v, M)) := by
  intro a Mf h p e s m args below meth c H locs ls C hl hR hS
  cases h
  exact W.iret C.1 C.2.1 (C.2.2.2.1.trans hr) (fun t ht hW => ⟨rfl, by rw [ht]; exact hR, hS.F ht⟩) hS.2.2 hd C.2.2.2.2.2.2.1
theorem s_zret {v : Int32} {ty : FieldType} (hd : decode Y.2.1 pc = .ok (.ireturn, 1)) (hr : Y.2.2.2 = some ty) (hn : narrow ty (.int v) = .int v) : SJ l G Y R N eI vw N R.cells R.slots pc lv [.int v] M (some (v, M)) := by
  intro a Mf h p e s m args below meth c H locs ls C hl hR hS
  cases h
  exact W.zret C.1 C.2.1 (C.2.2.2.1.trans hr) hn (fun t ht hW => ⟨rfl, by rw [ht]; exact hR, hS.F ht⟩) hS.2.2 hd C.2.2.2.2.2.2.1
theorem s_lret {v : Int64} (hd : decode Y.2.1 pc = .ok (.lreturn, 1)) (hr : Y.2.2.2 = some .long) : SJ l G Y R N eL vw N R.cells R.slots pc lv [.long v] M (some (v, M)) := by
  intro a Mf h p e s m args below meth c H locs ls C hl hR hS
  cases h
  exact W.lret C.1 C.2.1 (C.2.2.2.1.trans hr) (fun t ht hW => ⟨rfl, by rw [ht]; exact hR, hS.F ht⟩) hS.2.2 hd C.2.2.2.2.2.2.1
theorem s_vret (hd : decode Y.2.1 pc = .ok (.return_, 1)) (hr : Y.2.2.2 = none) : SJ l G Y R N eU vw N R.cells R.slots pc lv [] M (some ((), M)) := by
  intro a Mf h p e s m args below meth c H locs ls C hl hR hS
  cases h
  exact W.vret C.1 C.2.1 (C.2.2.2.1.trans hr) (fun t ht hW => ⟨rfl, by rw [ht]; exact hR, hS.F ht⟩) hS.2.2 hd C.2.2.2.2.2.2.1
theorem s_aret {r : Option Nat} {cn : String} (hd : decode Y.2.1 pc = .ok (.areturn, 1)) (hr : Y.2.2.2 = some (.object cn)) : SJ l G Y R N (eR G) vw N R.cells R.slots pc lv [rO G r] M (some (r, M)) := by
  intro a Mf h p e s m args below meth c H locs ls C hl hR hS
  cases h
  exact W.aret C.1 C.2.1 (C.2.2.2.1.trans hr) (Or.inl ⟨cn, rfl⟩) (va_rf_or _) (fun t ht hW => ⟨rfl, by rw [ht]; exact hR, hS.F ht⟩) hS.2.2 hd C.2.2.2.2.2.2.1
end SE
end
section
/-! rows that touch memory -/
def setI (M : Mm) (c k : Nat) (v : Int32) : Mm := (va_up M.1 c (va_up (M.1 c) k v), M.2.1, M.2.2)
def setL (M : Mm) (c k : Nat) (v : Int64) : Mm := (M.1, va_up M.2.1 c (va_up (M.2.1 c) k v), M.2.2)
def setR (M : Mm) (c k : Nat) (v : Option Nat) : Mm := (M.1, M.2.1, va_up M.2.2 c (va_up (M.2.2 c) k v))
theorem nb99 {n : Nat} (h : n ≠ 99) : Nat.beq n 99 = false := by
  cases q : Nat.beq n 99 with
  | false => rfl
  | true => exact absurd (Nat.eq_of_beq_eq_true q) h
theorem sh_lt {c ci : Nat} (h : (sh c).1 = ci) (hc : Nat.beq ci 99 = false) : c < 101 := by
  rcases Nat.lt_or_ge c 101 with q | q
  · exact q
  · have : sh c = (99, 0) := by
      unfold sh
      rw [List.getD_eq_getElem?_getD, List.getElem?_eq_none (by exact q)]
      rfl
    rw [this] at h
    subst h
    cases hc
theorem ad_lt {G : Gl} {c : Nat} (h : c < 1000) : ad G c = G.2.2.1 + c := by unfold ad; rw [if_pos h]
theorem fV_get {G : Gl} {M : Mm} {ci c k f : Nat} (h : (ftL.getD ci [])[k]? = some f) : (fL G M ci c)[k]? = some (fV G M c (f, k)) := by
  unfold fL
  rw [List.getElem?_map, List.getElem?_zipIdx, h]
  simp
theorem fL_len {G : Gl} {M : Mm} {ci c : Nat} : (fL G M ci c).length = (ftL.getD ci []).length := by
  unfold fL
  rw [List.length_map, List.length_zipIdx]
theorem fL_set {G : Gl} {M M' : Mm} {ci c k : Nat} {v : Value} (hv : ∀ f, (ftL.getD ci [])[k]? = some f → fV G M' c (f, k) = v) (ho : ∀ j f, j ≠ k → (ftL.getD ci [])[j]? = some f → fV G M' c (f, j) = fV G M c (f, j)) : (fL G M ci c).set k v = fL G M' ci c := by
  apply List.ext_getElem?
  intro j
  by_cases hj : j < (ftL.getD ci []).length
  · have hf : (ftL.getD ci [])[j]? = some (ftL.getD ci [])[j] := List.getElem?_eq_getElem hj
    by_cases hk : j = k
    · subst hk
      rw [List.getElem?_set_self (by rw [fL_len]; exact hj), fV_get hf, hv _ hf]
    · rw [List.getElem?_set_ne (Ne.symm hk), fV_get hf, fV_get hf, ho j _ hk hf]
  · rw [List.getElem?_eq_none (by rw [List.length_set, fL_len]; omega), List.getElem?_eq_none (by rw [fL_len]; omega)]
theorem cE_row {G : Gl} {M M' : Mm} {c : Nat} (h1 : M'.1 c = M.1 c) (h2 : M'.2.1 c = M.2.1 c) (h3 : M'.2.2 c = M.2.2 c) (s : Nat × Nat) : cE G M' c s = cE G M c s := by
  have hf : ∀ q, fV G M' c q = fV G M c q := fun q => by simp only [fV, h1, h2, h3]
  simp only [cE, aE, fL, h1, h2, h3]
  split
  · rfl
  · congr 2
    exact List.map_congr_left (fun q _ => hf q)
theorem setI_o {G : Gl} {M : Mm} {c k : Nat} {v : Int32} : ∀ c', c' ≠ c → cE G (setI M c k v) c' (sh c') = cE G M c' (sh c') := fun c' h => cE_row (M := M) (show (setI M c k v).1 c' = M.1 c' by simp [setI, va_up, h]) rfl rfl _
theorem setL_o {G : Gl} {M : Mm} {c k : Nat} {v : Int64} : ∀ c', c' ≠ c → cE G (setL M c k v) c' (sh c') = cE G M c' (sh c') := fun c' h => cE_row (M := M) (M' := setL M c k v) rfl (show (setL M c k v).2.1 c' = M.2.1 c' by simp [setL, va_up, h]) rfl _
theorem setR_o {G : Gl} {M : Mm} {c k : Nat} {v : Option Nat} : ∀ c', c' ≠ c → cE G (setR M c k v) c' (sh c') = cE G M c' (sh c') := fun c' h => cE_row (M := M) (M' := setR M c k v) rfl rfl (show (setR M c k v).2.2 c' = M.2.2 c' by simp [setR, va_up, h]) _
theorem cE_obj {G : Gl} {M : Mm} {c ci : Nat} (hs : (sh c).1 = ci) (hci : Nat.blt ci 20 = true) : cE G M c (sh c) = .inr (ci, fL G M ci c) := by
  have h : ci < 20 := Nat.le_of_ble_eq_true hci
  unfold cE
  rw [hs, if_neg (by omega)]
theorem rl_obj {G : Gl} {M : Mm} {N c ci : Nat} (hc : c < N) (hs : (sh c).1 = ci) (hci : Nat.blt ci 20 = true) : (WL G M N)[c]? = some (ad G c, .inr (ci, fL G M ci c)) := by
  have h : ci < 20 := Nat.le_of_ble_eq_true hci
  have h1 : c < 101 := sh_lt hs (nb99 (by omega))
  rw [wl_get hc, cE_obj hs hci, ad_lt (by omega)]
theorem rl_arr {G : Gl} {M : Mm} {N c k n : Nat} (hc : c < N) (hs : sh c = (20 + k, n)) (hk : Nat.blt k 10 = true) : (WL G M N)[c]? = some (ad G c, aE G M c k n) := by
  have h : k < 10 := Nat.le_of_ble_eq_true hk
  have h1 : c < 101 := sh_lt (ci := 20 + k) (by rw [hs]) (nb99 (by omega))
  rw [wl_get hc, ad_lt (by omega), hs]
  simp [cE]
/-- a field by its link; a field that may be written; a final one in its constructor -/
def okF (own : String) (idx ci k : Nat) : Prop := ∃ (C : String) (T : u_T) (n : Nat), kcl[ci]? = some (C, T, n) ∧ k < n ∧ (∀ w ∈ u_ws C T n, w ∈ wG) ∧ Cond.fieldLink own idx (T k).1 (T k).2.1 (T k).2.2.1 ∈ wG
def okP (own : String) (idx ci k : Nat) (ty : FieldType) (fin : Bool) : Prop := ∃ (C : String) (T : u_T) (n : Nat) (ty0 : Nat → FieldType), kcl[ci]? = some (C, T, n) ∧ k < n ∧ (∀ w ∈ u_ws C T n, w ∈ wG) ∧ Cond.fieldLink own idx (T k).1 (T k).2.1 (T k).2.2.1 ∈ wG ∧ (∀ j, j < n → parseFieldDescriptor (T j).2.2.1 = some (ty0 j)) ∧ (∀ a, a < n → ∀ b, b < n → a ≠ b → (T a).2.1 ≠ (T b).2.1) ∧ (T k).2.2.2 = fin ∧ parseFieldDescriptor (T k).2.2.1 = some ty ∧ (fin = true → (T k).1 = own)
section SM
variable {l : Launch} {G : Gl} {Y : My} {R : Room} {Nf : Nat} {α μ : Type} {ε : α → Option Value} {vw : μ → Mm} {N cells slots pc : Nat} {lv : List (Nat × Value)} {st : List Value} {M M' : μ} {t : Option (α × μ)} {c ci k n idx : Nat}
theorem s_get {f : Nat} {v : Value} (hd : decode Y.2.1 pc = .ok (.getfield idx, 3)) (hF : okF Y.1.cls idx ci k) (hf : (ftL.getD ci [])[k]? = some f) (hci : Nat.blt ci 20 = true) (hs : (sh c).1 = ci) (hc : c < N) (hv : fV G (vw M) c (f, k) = v) (kk : SJ l G Y R Nf ε vw N cells slots (pc + 3) lv (v :: st) M t) : SJ l G Y R Nf ε vw N cells slots pc lv (aR G c :: st) M t := by
  intro a Mf h p e s m args below meth co H locs ls C hl hR hS
  obtain ⟨Cn, T, n, h1, h2, h3, h4⟩ := hF
  refine va_get (D := G.1) (cl := kcl) (tys := tyG G) (C := Cn) (T := T) (N := n) (ci := ci) C.1 C.2.1 C.2.2.2.2.2.1 h3 C.2.2.2.2.1 C.2.2.2.2.2.2.2.2.1 hR.1 c (rl_obj hc hs hci) h1 k h2 (C.2.2.2.2.2.1 _ h4) (fun _ h9 => h9) (v := v) ?_ hd (kk a Mf h p e s m args below meth co H locs ls C hl hR hS)
  rw [fV_get hf, hv]
end SM
section WM
variable {p : Program} {l : Launch} {e : Env} {R : Room} {s : State} {m : MethodId} {args : Array Value} {below : List Frame} {meth : Method} {c : Code} {H : Heap} {locs : List Loc} {cells slots : Nat} {Q : State → Prop}
variable {cc : ByteArray} {pc : Nat} {ls : Array Slot} {rest : List Value} {D : va_G} {cl : List vw_C} {A : Nat → Prop} {a : Nat} {tys : List (ClassId × FieldType)} {ws : va_W} {H0 : Heap}
/-- a field is written (fin: a final one, in its constructor); how large the heap is stays -/
theorem w_put (hexec : p.tables.exec = Jvm.exec) (hb : c.code = cc) {own C : String} {T : u_T} {N ci index : Nat} {Ts : List Cond} (hts : ∀ w ∈ Ts, w.before args s = true) (hin : ∀ w ∈ u_ws C T N, w ∈ Ts) (ty0 : Nat → FieldType) (hty : ∀ k, k < N → parseFieldDescriptor (T k).2.2.1 = some (ty0 k)) (hnm : ∀ a, a < N → ∀ b, b < N → a ≠ b → (T a).2.1 ≠ (T b).2.1) (hown : s.vm.findClass own = some m.cls) (hK : va_K D cl tys s) (hP : va_P D cl ws H) (hD : va_D A ws) (hS0 : va_S A H0 H locs) (q0 : Nat) {fs : List Value} (he : ws[q0]? = some (a, .inr (ci, fs))) (hc : cl[ci]? = some (C, T, N)) (k : Nat) (hk : k < N) (hlink : (Cond.fieldLink own index (T k).1 (T k).2.1 (T k).2.2.1).before args s = true) (hfin : (T k).2.2.2 = false ∨ ((T k).2.2.2 = true ∧ meth.name = "<init>" ∧ (T k).1 = own)) {ty : FieldType} {v : Value} (hd : parseFieldDescriptor (T k).2.2.1 = some ty) (hn : narrow ty v = v) (hfit : fits ty v = true) (hl : k < fs.length)
    (hdg : decode cc pc = .ok (.putfield index, 3)) (kk : ∀ (H1 : Heap) (locs1 : List Loc), va_P D cl (ws.set q0 (a, .inr (ci, fs.set k v))) H1 → va_S A H0 H1 locs1 → H1.size = H.size → W p l e R s m args below meth c H1 locs1 cells slots Q (F0 m (pc + 3) ls rest)) : W p l e R s m args below meth c H locs cells slots Q (F0 m pc ls (v :: .ref a :: rest)) := by
  have hap := va_apart (own := own) hts hin ty0 hty hnm hK hc
  obtain ⟨r, h1, cell, q1, q2, q3, q4⟩ := hP q0 _ he
  have hr : r = (C, T, N) := Option.some.inj (h1.symm.trans hc)
  subst hr
  obtain ⟨hS, hfc, kC, hkC, hkind⟩ := hK.1 ci _ hc
  obtain ⟨cf, kf, fi, f, hi, hsl⟩ := hS k hk
  have hlay := hts _ (hin _ (u_in_lay hk))
  have hst := (u_facts hfc hkC (u_lays hts hin hk) hi).1
  unfold u_lay at hlay
  rcases hfin with hfin | ⟨hfin, hin2, hdecl⟩
  · rw [if_neg (by rw [hfin]; decide)] at hlay
    have h6 := u_store hfc hkC hkind hlay hi hd hn hfit
    refine W.putK hexec hb (f := f) ⟨hown, hlink, ⟨_, _, _, hi⟩, hst⟩ (by rw [q2]; exact h6) q1 q3 (by rw [hsl]; exact k2_hasslot (q4 k hk)) rfl rfl hdg fun H' e1 e2 e3 => ?_
    rw [hsl] at e1 ⊢
    exact kk H' _ (hP.set hD he ⟨_, hc, t_OB.to (V := updV (vp_V fs) k v) ⟨_, e1, q2, q3, t_set q4 hap hk v⟩ (fun j _ => vp_updV_set hl v j)⟩ e3) (hS0.put e2 e3 (hD.2 q0 _ he)) e2
  · rw [if_pos hfin] at hlay
    have hcf : m.cls = cf := by
      obtain ⟨_, _, c', _, _, _, -, -, hf', -, -, -, hown2, -⟩ := Cond.laysFinal_spec hlay
      have e1 : c' = cf := by have := hi.symm.trans hf'; simp at this; exact this.1.symm
      rw [hdecl] at hown2
      rw [← e1]; exact Option.some.inj (hown.symm.trans hown2)
    have h6 := u_fits hfc hkC hkind (Or.inr hlay) hi hd hn hfit
    refine W.putFinK hexec hb hown hlink hi hst hcf hin2 (by rw [q2]; exact h6) q1 q3 (by rw [hsl]; exact k2_hasslot (q4 k hk)) rfl rfl hdg fun H' e1 e2 e3 => ?_
    rw [hsl] at e1 ⊢
    exact kk H' _ (hP.set hD he ⟨_, hc, t_OB.to (V := updV (vp_V fs) k v) ⟨_, e1, q2, q3, t_set q4 hap hk v⟩ (fun j _ => vp_updV_set hl v j)⟩ e3) (hS0.put e2 e3 (hD.2 q0 _ he)) e2
end WM
section SN
variable {l : Launch} {G : Gl} {Y : My} {R : Room} {Nf : Nat} {α μ : Type} {ε : α → Option Value} {vw : μ → Mm} {N cells slots pc : Nat} {lv : List (Nat × Value)} {st : List Value} {M M' : μ} {t : Option (α × μ)} {c ci k n idx : Nat}
theorem lt_k {ci c : Nat} (hci : Nat.blt ci 20 = true) (hs : (sh c).1 = ci) : c < 1000 := by
  have h9 : ci < 20 := Nat.le_of_ble_eq_true hci
  have := sh_lt hs (nb99 (by omega))
  omega
theorem s_put {f : Nat} {v : Value} {ty : FieldType} {fin : Bool} (hd : decode Y.2.1 pc = .ok (.putfield idx, 3)) (hP : okP Y.1.cls idx ci k ty fin) (hfi : fin = true → Y.1.name = "<init>") (hf : (ftL.getD ci [])[k]? = some f) (hci : Nat.blt ci 20 = true) (hs : (sh c).1 = ci) (hc : c < N) (hn : narrow ty v = v) (hft : fits ty v = true) (h1 : (fL G (vw M) ci c).set k v = fL G (vw M') ci c) (h2 : ∀ c', c' ≠ c → cE G (vw M') c' (sh c') = cE G (vw M) c' (sh c'))
    (kk : SJ l G Y R Nf ε vw N cells slots (pc + 3) lv st M' t) : SJ l G Y R Nf ε vw N cells slots pc lv (v :: aR G c :: st) M t := by
  intro a Mf h p e s m args below meth co H locs ls C hl hR hS
  obtain ⟨Cn, T, n, ty0, g1, g2, g3, g4, g5, g6, g7, g8, g9⟩ := hP
  have hk : k < (fL G (vw M) ci c).length := by
    rw [fL_len]; exact (List.getElem?_eq_some_iff.mp hf).1
  have hfin : (T k).2.2.2 = false ∨ ((T k).2.2.2 = true ∧ meth.name = "<init>" ∧ (T k).1 = Y.1.cls) := by
    cases fin with
    | false => exact Or.inl g7
    | true => exact Or.inr ⟨g7, C.2.2.2.2.2.2.2.1.trans (hfi rfl), g9 rfl⟩
  refine w_put (D := G.1) (cl := kcl) (tys := tyG G) (C := Cn) (T := T) (N := n) (ci := ci) (A := gA G) C.1 C.2.1 C.2.2.2.2.2.1 g3 ty0 g5 g6 C.2.2.2.2.1 C.2.2.2.2.2.2.2.2.1 hR.1 (wl_D _ _ _) hS c (rl_obj hc hs hci) g1 k g2 (C.2.2.2.2.2.1 _ g4) hfin g8 hn hft hk hd (fun H1 locs1 hP1 hS1 hz => ?_)
  rw [ad_lt (lt_k hci hs), wl_set (M' := vw M') (by rw [cE_obj hs hci, h1]) h2] at hP1
  exact kk a Mf h p e s m args below meth co H1 locs1 ls C hl ⟨hP1, fun hN => by rw [hz]; exact hR.2 hN⟩ hS1
theorem s_getI (hd : decode Y.2.1 pc = .ok (.getfield idx, 3)) (hF : okF Y.1.cls idx ci k) (hf : (ftL.getD ci [])[k]? = some 0) (hci : Nat.blt ci 20 = true) (hs : (sh c).1 = ci) (hc : c < N) {x : Int32} (hx : (vw M).1 c k = x) (kk : SJ l G Y R Nf ε vw N cells slots (pc + 3) lv (.int x :: st) M t) : SJ l G Y R Nf ε vw N cells slots pc lv (aR G c :: st) M t :=
  s_get hd hF hf hci hs hc (by rw [← hx]; rfl) kk
theorem s_getL (hd : decode Y.2.1 pc = .ok (.getfield idx, 3)) (hF : okF Y.1.cls idx ci k) (hf : (ftL.getD ci [])[k]? = some 1) (hci : Nat.blt ci 20 = true) (hs : (sh c).1 = ci) (hc : c < N) {x : Int64} (hx : (vw M).2.1 c k = x) (kk : SJ l G Y R Nf ε vw N cells slots (pc + 3) lv (.long x :: st) M t) : SJ l G Y R Nf ε vw N cells slots pc lv (aR G c :: st) M t :=
  s_get hd hF hf hci hs hc (by rw [← hx]; rfl) kk
theorem s_getR (hd : decode Y.2.1 pc = .ok (.getfield idx, 3)) (hF : okF Y.1.cls idx ci k) (hf : (ftL.getD ci [])[k]? = some 2) (hci : Nat.blt ci 20 = true) (hs : (sh c).1 = ci) (hc : c < N) {x : Nat} (hx : (vw M).2.2 c k = some x) (kk : SJ l G Y R Nf ε vw N cells slots (pc + 3) lv (aR G x :: st) M t) : SJ l G Y R Nf ε vw N cells slots pc lv (aR G c :: st) M t :=
  s_get hd hF hf hci hs hc (v := aR G x) (by show rO G ((vw M).2.2 c k) = _; rw [hx]; rfl) kk
theorem s_putI {v : Int32} {ty : FieldType} {fin : Bool} (hd : decode Y.2.1 pc = .ok (.putfield idx, 3)) (hP : okP Y.1.cls idx ci k ty fin) (hfi : fin = true → Y.1.name = "<init>") (hf : (ftL.getD ci [])[k]? = some 0) (hci : Nat.blt ci 20 = true) (hs : (sh c).1 = ci) (hc : c < N) (hn : narrow ty (.int v) = .int v) (hft : fits ty (.int v) = true) (hM : vw M' = setI (vw M) c k v)
    (kk : SJ l G Y R Nf ε vw N cells slots (pc + 3) lv st M' t) : SJ l G Y R Nf ε vw N cells slots pc lv (.int v :: aR G c :: st) M t :=
  s_put (M' := M') hd hP hfi hf hci hs hc hn hft (by
    rw [hM]
    refine fL_set (fun f h => ?_) (fun j f hj h => ?_)
    · have e : f = 0 := Option.some.inj (h.symm.trans hf)
      subst e
      simp [fV, setI, va_up]
    · simp [fV, setI, va_up, hj]) (by rw [hM]; exact setI_o) kk
theorem s_putL {v : Int64} {ty : FieldType} {fin : Bool} (hd : decode Y.2.1 pc = .ok (.putfield idx, 3)) (hP : okP Y.1.cls idx ci k ty fin) (hfi : fin = true → Y.1.name = "<init>") (hf : (ftL.getD ci [])[k]? = some 1) (hci : Nat.blt ci 20 = true) (hs : (sh c).1 = ci) (hc : c < N) (hn : narrow ty (.long v) = .long v) (hft : fits ty (.long v) = true) (hM : vw M' = setL (vw M) c k v)
    (kk : SJ l G Y R Nf ε vw N cells slots (pc + 3) lv st M' t) : SJ l G Y R Nf ε vw N cells slots pc lv (.long v :: aR G c :: st) M t :=
  s_put (M' := M') hd hP hfi hf hci hs hc hn hft (by
    rw [hM]
    refine fL_set (fun f h => ?_) (fun j f hj h => ?_)
    · have e : f = 1 := Option.some.inj (h.symm.trans hf)
      subst e
      simp [fV, setL, va_up]
    · simp [fV, setL, va_up, hj]) (by rw [hM]; exact setL_o) kk
theorem s_putR {v : Nat} {ty : FieldType} {fin : Bool} (hd : decode Y.2.1 pc = .ok (.putfield idx, 3)) (hP : okP Y.1.cls idx ci k ty fin) (hfi : fin = true → Y.1.name = "<init>") (hf : (ftL.getD ci [])[k]? = some 2) (hci : Nat.blt ci 20 = true) (hs : (sh c).1 = ci) (hc : c < N) (hn : narrow ty (aR G v) = aR G v) (hft : fits ty (aR G v) = true) (hM : vw M' = setR (vw M) c k (some v))
    (kk : SJ l G Y R Nf ε vw N cells slots (pc + 3) lv st M' t) : SJ l G Y R Nf ε vw N cells slots pc lv (aR G v :: aR G c :: st) M t :=
  s_put (M' := M') hd hP hfi hf hci hs hc hn hft (by
    rw [hM]
    refine fL_set (fun f h => ?_) (fun j f hj h => ?_)
    · have e : f = 2 := Option.some.inj (h.symm.trans hf)
      subst e
      simp [fV, setR, va_up, rO, va_rf]
    · simp [fV, setR, va_up, hj]) (by rw [hM]; exact setR_o) kk
end SN
end
section
/-! arrays; calls on objects -/
theorem aE_i {G : Gl} {M : Mm} {c n : Nat} : aE G M c 0 n = .inl (G.2.1 0, n, .inl (M.1 c)) := rfl
theorem aE_l {G : Gl} {M : Mm} {c n : Nat} : aE G M c 1 n = .inl (G.2.1 1, n, .inr (.inl (M.2.1 c))) := rfl
theorem aE_c {G : Gl} {M : Mm} {c n : Nat} : aE G M c 2 n = .inl (G.2.1 2, n, .inl (M.1 c)) := rfl
theorem aE_q {G : Gl} {M : Mm} {c k n : Nat} (h : 3 ≤ k) : aE G M c k n = .inl (G.2.1 k, n, .inr (.inr (.inr (.inr (fun j => (M.2.2 c j).map (ad G)))))) := by
  unfold aE
  rw [if_neg (by omega), if_neg (by omega)]
theorem ar_k {k n c : Nat} (hk : Nat.blt k 10 = true) (hs : sh c = (20 + k, n)) : c < 1000 := by
  have h9 : k < 10 := Nat.le_of_ble_eq_true hk
  have := sh_lt (c := c) (ci := 20 + k) (by rw [hs]) (nb99 (by omega))
  omega
theorem ar_n {k n c : Nat} (hk : Nat.blt k 10 = true) (hs : sh c = (20 + k, n)) : c < 101 := by
  have h9 : k < 10 := Nat.le_of_ble_eq_true hk
  exact sh_lt (c := c) (ci := 20 + k) (by rw [hs]) (nb99 (by omega))
section SA
variable {l : Launch} {G : Gl} {Y : My} {R : Room} {Nf : Nat} {α μ : Type} {ε : α → Option Value} {vw : μ → Mm} {N cells slots pc : Nat} {lv : List (Nat × Value)} {st : List Value} {M M' : μ} {t : Option (α × μ)} {c ci k n idx : Nat}
theorem s_ial {i : Int32} {x : Int32} (hd : decode Y.2.1 pc = .ok (.iaload, 1)) (hs : sh c = (20, n)) (hc : c < N) (hx : (vw M).1 c (ix i) = x) (kk : SJ l G Y R Nf ε vw N cells slots (pc + 1) lv (.int x :: st) M t) : SJ l G Y R Nf ε vw N cells slots pc lv (.int i :: aR G c :: st) M (grd (inb i n) t) := by
  subst hx
  refine s_grd (fun hi => ?_)
  intro a Mf h p e s m args below meth co H locs ls C hl hR hS
  exact va_iald (tys := tyG G) C.1 C.2.1 C.2.2.2.2.2.2.2.2.1 hR.1 c 0 (rl_arr (k := 0) hc hs rfl) rfl (inb_in hi) hd (kk a Mf h p e s m args below meth co H locs ls C hl hR hS)
theorem s_cal {i : Int32} {x : Int32} (hd : decode Y.2.1 pc = .ok (.caload, 1)) (hs : sh c = (22, n)) (hc : c < N) (hx : (vw M).1 c (ix i) = x) (kk : SJ l G Y R Nf ε vw N cells slots (pc + 1) lv (.int x :: st) M t) : SJ l G Y R Nf ε vw N cells slots pc lv (.int i :: aR G c :: st) M (grd (inb i n) t) := by
  subst hx
  refine s_grd (fun hi => ?_)
  intro a Mf h p e s m args below meth co H locs ls C hl hR hS
  exact va_cald (tys := tyG G) C.1 C.2.1 C.2.2.2.2.2.2.2.2.1 hR.1 c 2 (rl_arr (k := 2) hc hs rfl) rfl (inb_in hi) hd (kk a Mf h p e s m args below meth co H locs ls C hl hR hS)
theorem s_lal {i : Int32} {x : Int64} (hd : decode Y.2.1 pc = .ok (.laload, 1)) (hs : sh c = (21, n)) (hc : c < N) (hx : (vw M).2.1 c (ix i) = x) (kk : SJ l G Y R Nf ε vw N cells slots (pc + 1) lv (.long x :: st) M t) : SJ l G Y R Nf ε vw N cells slots pc lv (.int i :: aR G c :: st) M (grd (inb i n) t) := by
  subst hx
  refine s_grd (fun hi => ?_)
  intro a Mf h p e s m args below meth co H locs ls C hl hR hS
  exact va_lald (tys := tyG G) C.1 C.2.1 C.2.2.2.2.2.2.2.2.1 hR.1 c 1 (rl_arr (k := 1) hc hs rfl) rfl (inb_in hi) hd (kk a Mf h p e s m args below meth co H locs ls C hl hR hS)
theorem s_aal {i : Int32} {x : Nat} (hd : decode Y.2.1 pc = .ok (.aaload, 1)) (hk : Nat.ble 3 k = true ∧ Nat.blt k 6 = true) (hs : sh c = (20 + k, n)) (hc : c < N) (hx : inb i n = true → (vw M).2.2 c (ix i) = some x) (kk : SJ l G Y R Nf ε vw N cells slots (pc + 1) lv (aR G x :: st) M t) : SJ l G Y R Nf ε vw N cells slots pc lv (.int i :: aR G c :: st) M (grd (inb i n) t) := by
  refine s_grd (fun hi => ?_)
  intro a Mf h p e s m args below meth co H locs ls C hl hR hS
  have h3 : 3 ≤ k := Nat.le_of_ble_eq_true hk.1
  have h6 : k < 6 := Nat.le_of_ble_eq_true hk.2
  have hget := rl_arr (G := G) (M := vw M) (N := N) (k := k) hc hs (by rcases (show k = 3 ∨ k = 4 ∨ k = 5 by omega) with rfl | rfl | rfl <;> rfl)
  rw [aE_q h3] at hget
  have key : ∃ Cn : String, (tyG G)[k]? = some (G.2.1 k, .object Cn) := by
    rcases (show k = 3 ∨ k = 4 ∨ k = 5 by omega) with rfl | rfl | rfl
    · exact ⟨_, rfl⟩
    · exact ⟨_, rfl⟩
    · exact ⟨_, rfl⟩
  obtain ⟨Cn, hCn⟩ := key
  refine va_aldq (tys := tyG G) (C := Cn) C.1 C.2.1 C.2.2.2.2.2.2.2.2.1 hR.1 c k hget hCn (inb_in hi) hd ?_
  have e1 : (vw M).2.2 c (Int32.toNatClampNeg i) = some x := hx hi
  show W _ _ _ _ _ _ _ _ _ _ _ _ _ _ _ (F0 m (pc + 1) ls (va_rf (((vw M).2.2 c (Int32.toNatClampNeg i)).map (ad G)) :: st))
  rw [e1]
  exact kk a Mf h p e s m args below meth co H locs ls C hl hR hS
theorem s_len (hd : decode Y.2.1 pc = .ok (.arraylength, 1)) (hk : Nat.blt k 6 = true) (hs : sh c = (20 + k, n)) (hc : c < N) (kk : SJ l G Y R Nf ε vw N cells slots (pc + 1) lv (.int (nI n) :: st) M t) : SJ l G Y R Nf ε vw N cells slots pc lv (aR G c :: st) M t := by
  intro a Mf h p e s m args below meth co H locs ls C hl hR hS
  have h6 : k < 6 := Nat.le_of_ble_eq_true hk
  have hget := rl_arr (G := G) (M := vw M) (N := N) (k := k) hc hs (by rcases (show k = 0 ∨ k = 1 ∨ k = 2 ∨ k = 3 ∨ k = 4 ∨ k = 5 by omega) with rfl | rfl | rfl | rfl | rfl | rfl <;> rfl)
  have key : ∃ ty, (tyG G)[k]? = some (G.2.1 k, ty) := by
    rcases (show k = 0 ∨ k = 1 ∨ k = 2 ∨ k = 3 ∨ k = 4 ∨ k = 5 by omega) with rfl | rfl | rfl | rfl | rfl | rfl <;> exact ⟨_, rfl⟩
  obtain ⟨ty, hty⟩ := key
  exact va_alen (tys := tyG G) C.1 C.2.1 C.2.2.2.2.2.2.2.2.1 hR.1 c k hget hty rfl hd (kk a Mf h p e s m args below meth co H locs ls C hl hR hS)
theorem s_ias {i v : Int32} (hd : decode Y.2.1 pc = .ok (.iastore, 1)) (hs : sh c = (20, n)) (hM : vw M' = setI (vw M) c (ix i) v) (kk : SJ l G Y R Nf ε vw 101 cells slots (pc + 1) lv st M' t) : SJ l G Y R Nf ε vw 101 cells slots pc lv (.int v :: .int i :: aR G c :: st) M (grd (inb i n) t) := by
  refine s_grd (fun hi => ?_)
  intro a Mf h p e s m args below meth co H locs ls C hl hR hS
  refine va_iast (tys := tyG G) C.1 C.2.1 C.2.2.2.2.2.2.2.2.1 hR.1 (wl_D _ _ _) hS c 0 (rl_arr (k := 0) (ar_n (k := 0) rfl hs) hs rfl) rfl (inb_in hi) hd (fun H1 locs1 hP1 hD1 hS1 => ?_)
  rw [ad_lt (ar_k (k := 0) rfl hs), wl_set (M' := vw M') (by rw [hM, hs]; simp [cE, aE, setI, va_up_self]; rfl) (by rw [hM]; exact setI_o)] at hP1
  exact kk a Mf h p e s m args below meth co H1 locs1 ls C hl ⟨hP1, fun h => absurd h (Nat.lt_irrefl _)⟩ hS1
theorem s_cas {i v : Int32} (hd : decode Y.2.1 pc = .ok (.castore, 1)) (hs : sh c = (22, n)) (hM : vw M' = setI (vw M) c (ix i) (vp_nar .char v)) (kk : SJ l G Y R Nf ε vw 101 cells slots (pc + 1) lv st M' t) : SJ l G Y R Nf ε vw 101 cells slots pc lv (.int v :: .int i :: aR G c :: st) M (grd (inb i n) t) := by
  refine s_grd (fun hi => ?_)
  intro a Mf h p e s m args below meth co H locs ls C hl hR hS
  refine va_cast (tys := tyG G) C.1 C.2.1 C.2.2.2.2.2.2.2.2.1 hR.1 (wl_D _ _ _) hS c 2 (rl_arr (k := 2) (ar_n (k := 2) rfl hs) hs rfl) rfl (inb_in hi) hd (fun H1 locs1 hP1 hD1 hS1 => ?_)
  rw [ad_lt (ar_k (k := 2) rfl hs), wl_set (M' := vw M') (by rw [hM, hs]; simp [cE, aE, setI, va_up_self]; rfl) (by rw [hM]; exact setI_o)] at hP1
  exact kk a Mf h p e s m args below meth co H1 locs1 ls C hl ⟨hP1, fun h => absurd h (Nat.lt_irrefl _)⟩ hS1
theorem s_las {i : Int32} {v : Int64} (hd : decode Y.2.1 pc = .ok (.lastore, 1)) (hs : sh c = (21, n)) (hM : vw M' = setL (vw M) c (ix i) v) (kk : SJ l G Y R Nf ε vw 101 cells slots (pc + 1) lv st M' t) : SJ l G Y R Nf ε vw 101 cells slots pc lv (.long v :: .int i :: aR G c :: st) M (grd (inb i n) t) := by
  refine s_grd (fun hi => ?_)
  intro a Mf h p e s m args below meth co H locs ls C hl hR hS
  refine va_last (tys := tyG G) C.1 C.2.1 C.2.2.2.2.2.2.2.2.1 hR.1 (wl_D _ _ _) hS c 1 (rl_arr (k := 1) (ar_n (k := 1) rfl hs) hs rfl) rfl (inb_in hi) hd (fun H1 locs1 hP1 hD1 hS1 => ?_)
  rw [ad_lt (ar_k (k := 1) rfl hs), wl_set (M' := vw M') (by rw [hM, hs]; simp [cE, aE, setL, va_up_self]; rfl) (by rw [hM]; exact setL_o)] at hP1
  exact kk a Mf h p e s m args below meth co H1 locs1 ls C hl ⟨hP1, fun h => absurd h (Nat.lt_irrefl _)⟩ hS1
end SA
section SV
variable {l : Launch} {G : Gl} {Y Z : My} {R Rc : Room} {Nf Nc : Nat} {α γ μ : Type} {ε : α → Option Value} {εc : γ → Option Value} {vw : μ → Mm} {N cells slots pc index n c ci : Nat} {lv : List (Nat × Value)} {st st0 : List Value} {M : μ} {tc : Option (γ × μ)} {t : γ → μ → Option (α × μ)}
theorem rcv {s : State} {H : Heap} {M : Mm} {C : String} {T : u_T} {nf : Nat} (hE : En G s) (hR : Rl G M N H) (hc : c < N) (hs : (sh c).1 = ci) (hci : Nat.blt ci 20 = true) (hk : kcl[ci]? = some (C, T, nf)) : ∃ cell : Cell, H[ad G c]? = some cell ∧ cell.vm.isStatics = false ∧ s.vm.findClass C = some cell.cls :=
  va_recv hE.1 hR.1 hk (rl_obj hc hs hci)
/-- invokevirtual of a method that the receiver's own class declares, by that class's name -/
theorem s_invV {C : String} {T : u_T} {nf : Nat} (hd : decode Y.2.1 pc = .ok (.invokevirtual index, 3)) (hZ : okY Z n) (hR : okR R Rc Z = true) (hlk : Cond.methodLink Y.1.cls index Z.1 ∈ wG) (hin : Cond.instanceMethod Z.1 ∈ wG) (hse : Cond.selects C Z.1 Z.1 ∈ wG) (hk : kcl[ci]? = some (C, T, nf)) (hci : Nat.blt ci 20 = true) (hs : (sh c).1 = ci) (hc : c < N) (vs : List Value) (hn : vs.length = n) (hl : Nat.ble (lg_sl (aR G c :: vs)).length Z.2.2.1 = true) (hst : st0 = vs.reverse ++ aR G c :: st) (hcat : Nat.ble (st.map fun v => v.category).sum 8 = true) (hrm : Nat.ble (cells + Rc.cells) R.cells = true ∧ Nat.ble (slots + Rc.slots) R.slots = true)
    (kc : SJ l G Z Rc Nc εc vw N 0 0 0 (lv_args 0 (aR G c :: vs)) [] M tc) (k : ∀ a M', SJ l G Y R Nf ε vw Nc (cells + Rc.cells) (slots + Rc.slots) (pc + 3) lv ((εc a).toList ++ st) M' (t a M')) : SJ l G Y R Nf ε vw N cells slots pc lv st0 M (bnd tc t) := by
  intro a Mf h p e s m args below meth co H locs ls C hlv hRl hS
  obtain ⟨a1, M1, h1, h2⟩ := bnd_some h
  obtain ⟨hx, hb, hml, hr, ho, hw, hlk2, hnm, hE⟩ := id C
  subst hst
  exact w_run (va_runV (As := vs) (rest := st) (n := n) ⟨hx, hb, hml, ho, hw⟩ (met_of (aR G c :: vs) hZ.2.2.1 (Nat.le_of_ble_eq_true hl) kc h1) ⟨call_B hw hZ hR hlk, hw _ hin, hw _ hse⟩ ⟨pre_blind, rcv hE hRl hc hs hci hk, pre_at hE hRl hS⟩ rfl hn hlv.1 rfl (lv_room (Nat.le_of_ble_eq_true hcat)) hd ⟨Nat.le_of_ble_eq_true hrm.1, Nat.le_of_ble_eq_true hrm.2⟩) hS
    (fun H1 locs1 hR1 hS1 => k a1 M1 a Mf h2 p e s m args below meth co H1 locs1 ls C hlv hR1 hS1)
/-- invokespecial of a constructor -/
theorem s_invI (hd : decode Y.2.1 pc = .ok (.invokespecial index, 3)) (hZ : okY Z n) (hR : okR R Rc Z = true) (hlk : Cond.methodLink Y.1.cls index Z.1 ∈ wG) (hin : Cond.instanceMethod Z.1 ∈ wG) (hinit : Z.1.name = "<init>") (hret : Z.2.2.2 = none) (vs : List Value) (hn : vs.length = n) (hl : Nat.ble (lg_sl (aR G c :: vs)).length Z.2.2.1 = true) (hst : st0 = vs.reverse ++ aR G c :: st) (hcat : Nat.ble (st.map fun v => v.category).sum 8 = true) (hrm : Nat.ble (cells + Rc.cells) R.cells = true ∧ Nat.ble (slots + Rc.slots) R.slots = true)
    (kc : SJ l G Z Rc Nc εc vw N 0 0 0 (lv_args 0 (aR G c :: vs)) [] M tc) (k : ∀ a M', SJ l G Y R Nf ε vw Nc (cells + Rc.cells) (slots + Rc.slots) (pc + 3) lv ((εc a).toList ++ st) M' (t a M')) : SJ l G Y R Nf ε vw N cells slots pc lv st0 M (bnd tc t) := by
  intro a Mf h p e s m args below meth co H locs ls C hlv hRl hS
  obtain ⟨a1, M1, h1, h2⟩ := bnd_some h
  obtain ⟨hx, hb, hml, hr, ho, hw, hlk2, hnm, hE⟩ := id C
  subst hst
  have hB := call_B (R := R) (Rc := Rc) hw hZ hR hlk
  rw [hret] at hB
  exact w_run (va_runI (As := vs) (rest := st) (n := n) ⟨hx, hb, hml, ho, hw⟩ (met_of (aR G c :: vs) hZ.2.2.1 (Nat.le_of_ble_eq_true hl) kc h1) ⟨hB, hinit, hw _ hin⟩ ⟨pre_blind, pre_at hE hRl hS⟩ rfl hn hlv.1 rfl (lv_room (Nat.le_of_ble_eq_true hcat)) hd ⟨Nat.le_of_ble_eq_true hrm.1, Nat.le_of_ble_eq_true hrm.2⟩) hS
    (fun H1 locs1 hR1 hS1 => k a1 M1 a Mf h2 p e s m args below meth co H1 locs1 ls C hlv hR1 hS1)
/-- invokestatic of a nest mate's private method -/
theorem s_invSN (hown : Y.1.cls = RX5) (hidx : index = 63) (hZy : Z.1 = yX11_bitOf) (hd : decode Y.2.1 pc = .ok (.invokestatic index, 3)) (hZ : okY Z n) (hR : okR R Rc Z = true) (hsx : Cond.static Z.1 ∈ wG) (vs : List Value) (hn : vs.length = n) (hl : Nat.ble (lg_sl vs).length Z.2.2.1 = true) (hst : st0 = vs.reverse ++ st) (hcat : Nat.ble (st.map fun v => v.category).sum 8 = true) (hrm : Nat.ble (cells + Rc.cells) R.cells = true ∧ Nat.ble (slots + Rc.slots) R.slots = true)
    (kc : SJ l G Z Rc Nc εc vw N 0 0 0 (lv_args 0 vs) [] M tc) (k : ∀ a M', SJ l G Y R Nf ε vw Nc (cells + Rc.cells) (slots + Rc.slots) (pc + 3) lv ((εc a).toList ++ st) M' (t a M')) : SJ l G Y R Nf ε vw N cells slots pc lv st0 M (bnd tc t) := by
  intro a Mf h p e s m args below meth co H locs ls C hlv hRl hS
  obtain ⟨a1, M1, h1, h2⟩ := bnd_some h
  obtain ⟨hx, hb, hml, hr, ho, hw, hlk2, hnm, hE⟩ := id C
  subst hst
  have hN : va_Nw (.methodLinkNest Y.1.cls index Z.1 RX11) s := by
    rw [hown, hidx, hZy]; exact hE.2.2.2.2.2.2.2
  obtain ⟨z1, z2, z3, z4, z5⟩ := id hZ
  have hB : va_CN R s args Y.1.cls index Z.1 RX11 Z.2.1 Z.2.2.1 Z.2.2.2 (wsY Z) Rc Rc.cells Rc.slots n := va_cnB (Ts := wG) (ws' := wG) n hw (fun w hw => by
    rcases List.mem_cons.mp hw with rfl | hw
    · exact ⟨z1, (wG_good _ z1).2⟩
    · exact wG_good _ hw) rfl rfl rfl hN (hw _ z2) ⟨z4.1, z4.2, z5⟩ (okR_1 hR)
  exact w_run (va_runSN (As := vs) (rest := st) (n := n) ⟨hx, hb, hml, ho, hw⟩ (met_of vs hZ.2.2.1 (Nat.le_of_ble_eq_true hl) kc h1) ⟨hB, hw _ hsx, trivial⟩ ⟨pre_blind, pre_at hE hRl hS⟩ rfl hn hlv.1 rfl (lv_room (Nat.le_of_ble_eq_true hcat)) hd ⟨Nat.le_of_ble_eq_true hrm.1, Nat.le_of_ble_eq_true hrm.2⟩) hS
    (fun H1 locs1 hR1 hS1 => k a1 M1 a Mf h2 p e s m args below meth co H1 locs1 ls C hlv hR1 hS1)
/-- invokespecial of the class above's method -/
theorem s_invSU {C : String} {T : u_T} {nf : Nat} (hd : decode Y.2.1 pc = .ok (.invokespecial index, 3)) (hZ : okY Z n) (hR : okR R Rc Z = true) (hlk : Cond.methodLink Y.1.cls index Z.1 ∈ wG) (hin : Cond.instanceMethod Z.1 ∈ wG) (hsm : Cond.sameMethod Z.1.cls Z.1.cls Z.1.name Z.1.desc ∈ wG) (hsu : Cond.superclass Y.1.cls Z.1.cls ∈ wG) (hni : Z.1.name ≠ "<init>") (hk : kcl[ci]? = some (C, T, nf)) (hci : Nat.blt ci 20 = true) (hs : (sh c).1 = ci) (hc : c < N) (vs : List Value) (hn : vs.length = n) (hl : Nat.ble (lg_sl (aR G c :: vs)).length Z.2.2.1 = true) (hst : st0 = vs.reverse ++ aR G c :: st) (hcat : Nat.ble (st.map fun v => v.category).sum 8 = true) (hrm : Nat.ble (cells + Rc.cells) R.cells = true ∧ Nat.ble (slots + Rc.slots) R.slots = true)
    (kc : SJ l G Z Rc Nc εc vw N 0 0 0 (lv_args 0 (aR G c :: vs)) [] M tc) (k : ∀ a M', SJ l G Y R Nf ε vw Nc (cells + Rc.cells) (slots + Rc.slots) (pc + 3) lv ((εc a).toList ++ st) M' (t a M')) : SJ l G Y R Nf ε vw N cells slots pc lv st0 M (bnd tc t) := by
  intro a Mf h p e s m args below meth co H locs ls C hlv hRl hS
  obtain ⟨a1, M1, h1, h2⟩ := bnd_some h
  obtain ⟨hx, hb, hml, hr, ho, hw, hlk2, hnm, hE⟩ := id C
  subst hst
  obtain ⟨z1, z2, z3, z4, z5⟩ := id hZ
  have hat := (hE.1.1 ci _ hk).2
  have hr1 := okR_1 hR
  have hB := call_B (R := R) (Rc := Rc) hw hZ hR hlk
  have hB2 : va_CS R s args Y.1.cls index Z.1 Z.2.1 Z.2.2.1 Z.2.2.2 (wsY Z) Rc Rc.cells Rc.slots n := ⟨⟨hB.1, hB.2.1, hB.2.2.1, hB.2.2.2.1, hB.2.2.2.2.1, hB.2.2.2.2.2.1⟩, hw _ hlk, hw _ hsm, hw _ hsu, hw _ hin, hw _ z2, hB.2.2.2.2.2.2.1, hni, hB.2.2.2.2.2.2.2.2.2.1⟩
  exact w_run (va_runSU hat (As := vs) (rest := st) (n := n) ⟨hx, hb, hml, ho, hw⟩ (met_of (aR G c :: vs) hZ.2.2.1 (Nat.le_of_ble_eq_true hl) kc h1) hB2 ⟨pre_blind, rcv hE hRl hc hs hci hk, pre_at hE hRl hS⟩ rfl hn hlv.1 rfl (lv_room (Nat.le_of_ble_eq_true hcat)) hd ⟨Nat.le_of_ble_eq_true hrm.1, Nat.le_of_ble_eq_true hrm.2⟩) hS
    (fun H1 locs1 hR1 hS1 => k a1 M1 a Mf h2 p e s m args below meth co H1 locs1 ls C hlv hR1 hS1)
/-- invokevirtual that comes to a method of another class: x is the link's, y what the receiver's class C has (owner: where x stands) -/
theorem s_invU {C owner : String} {x : MethodName} {T : u_T} {nf : Nat} (hd : decode Y.2.1 pc = .ok (.invokevirtual index, 3)) (hZ : okY Z n) (hR : okR R Rc Z = true) (hlk : Cond.methodLink Y.1.cls index x ∈ wG) (hsm : Cond.sameMethod x.cls owner x.name x.desc ∈ wG) (hio : Cond.instanceMethod ⟨owner, x.name, x.desc⟩ ∈ wG) (hco : ∃ b mx rt, Cond.code ⟨owner, x.name, x.desc⟩ b mx rt ∈ wG) (hmh : owner ≠ "java/lang/invoke/MethodHandle" ∧ owner ≠ "java/lang/invoke/VarHandle") (hpd : (parseMethodDescriptor x.desc).map (fun d => d.parameters.length) = some n) (hse : Cond.selects C x Z.1 ∈ wG) (hin : Cond.instanceMethod Z.1 ∈ wG) (hk : kcl[ci]? = some (C, T, nf)) (hci : Nat.blt ci 20 = true) (hs : (sh c).1 = ci) (hc : c < N) (vs : List Value) (hn : vs.length = n) (hl : Nat.ble (lg_sl (aR G c :: vs)).length Z.2.2.1 = true) (hst : st0 = vs.reverse ++ aR G c :: st) (hcat : Nat.ble (st.map fun v => v.category).sum 8 = true) (hrm : Nat.ble (cells + Rc.cells) R.cells = true ∧ Nat.ble (slots + Rc.slots) R.slots = true)
    (kc : SJ l G Z Rc Nc εc vw N 0 0 0 (lv_args 0 (aR G c :: vs)) [] M tc) (k : ∀ a M', SJ l G Y R Nf ε vw Nc (cells + Rc.cells) (slots + Rc.slots) (pc + 3) lv ((εc a).toList ++ st) M' (t a M')) : SJ l G Y R Nf ε vw N cells slots pc lv st0 M (bnd tc t) := by
  intro a Mf h p e s m args below meth co H locs ls C hlv hRl hS
  obtain ⟨a1, M1, h1, h2⟩ := bnd_some h
  obtain ⟨hx, hb, hml, hr, ho, hw, hlk2, hnm, hE⟩ := id C
  subst hst
  obtain ⟨z1, z2, z3, z4, z5⟩ := id hZ
  obtain ⟨b9, mx9, rt9, hco⟩ := hco
  have hr1 := okR_1 hR
  have hpay : ∀ w ∈ wsY Z, ∀ (a' : Array Value) (U : State), s.WarmedH U.vm → w.before a' U = true := pay_in hw (fun w hw => by
    rcases List.mem_cons.mp hw with rfl | hw
    · exact ⟨z1, (wG_good _ z1).2⟩
    · exact wG_good _ hw)
  have hlen : ∀ sig, parseMethodDescriptor x.desc = some sig → n = sig.parameters.length := fun sig hs => by
    rw [hs] at hpd
    exact (Option.some.inj hpd).symm
  exact w_run (va_runU (owner := owner) (x := x) (As := vs) (rest := st) (n := n) ⟨hx, hb, hml, ho, hw⟩ (met_of (aR G c :: vs) hZ.2.2.1 (Nat.le_of_ble_eq_true hl) kc h1) ⟨⟨rfl, rfl, hr1.1, hr1.2, hpay, List.mem_cons_self⟩, hw _ z1, hw _ z2, hmh, hlen, hw _ hlk, hw _ hsm, va_Decl.of (hw _ hio) (hw _ hco), hw _ hse, hw _ hin⟩ ⟨pre_blind, rcv hE hRl hc hs hci hk, pre_at hE hRl hS⟩ rfl hn hlv.1 rfl (lv_room (Nat.le_of_ble_eq_true hcat)) hd ⟨Nat.le_of_ble_eq_true hrm.1, Nat.le_of_ble_eq_true hrm.2⟩) hS
    (fun H1 locs1 hR1 hS1 => k a1 M1 a Mf h2 p e s m args below meth co H1 locs1 ls C hlv hR1 hS1)
end SV
end
section
/-! the memory once all is made: ints, longs, each hand's kind; all other references stand fast -/
abbrev Nm : Type := (Nat → Nat → Int32) × (Nat → Nat → Int64) × (Nat → Nat)
/-- the cell of a kind by its number -/
def kc (j : Nat) : Nat := if j = 0 then 1 else j + 2
def R0 (c k : Nat) : Option Nat :=
  if (sh c).1 = 0 then ([some 2, some 8, some 30, some 52, none, some 74, some 76, some 85] : List (Option Nat)).getD k none
  else if (sh c).1 ≤ 6 then some (1000 + ((sh c).1 - 1))
  else if (sh c).1 = 7 then some (if k = 5 then c + 1 else c + 2)
  else if (sh c).1 = 8 then some (if k = 3 then c + 1 else if k = 4 then c + 20 else c + 21)
  else if (sh c).1 = 9 then some 75
  else if (sh c).1 = 10 then some (c + 1)
  else if (sh c).1 = 11 then ([some 87, some 88, some 89, some 90, some 91, none, some 92, some 93, some 94, some 95, some 96, none, none, none, none, none, some 97, some 98, some 99, some 100] : List (Option Nat)).getD k none
  else if (sh c).1 = 23 then some (c + 1 + 3 * k)
  else if (sh c).1 = 24 then some (kc k)
  else some (77 + 2 * k)
def toM (M : Nm) : Mm := (M.1, M.2.1, fun c k => if (sh c).1 = 7 ∧ k = 0 then some (M.2.2 c) else R0 c k)
def mI (M : Nm) (c k : Nat) (v : Int32) : Nm := (va_up M.1 c (va_up (M.1 c) k v), M.2.1, M.2.2)
def mL (M : Nm) (c k : Nat) (v : Int64) : Nm := (M.1, va_up M.2.1 c (va_up (M.2.1 c) k v), M.2.2)
def mK (M : Nm) (c v : Nat) : Nm := (M.1, M.2.1, va_up M.2.2 c v)
theorem to_I {M : Nm} {c k : Nat} {v : Int32} : toM (mI M c k v) = setI (toM M) c k v := rfl
theorem to_L {M : Nm} {c k : Nat} {v : Int64} : toM (mL M c k v) = setL (toM M) c k v := rfl
theorem to_K {M : Nm} {c v : Nat} (h : (sh c).1 = 7) : toM (mK M c v) = setR (toM M) c 0 (some v) := by
  simp only [toM, mK, setR]
  congr 2
  funext c' k'
  by_cases e : c' = c
  · subst e
    by_cases e2 : k' = 0
    · subst e2
      simp [va_up, h]
    · simp [va_up, e2]
  · simp [va_up, e]
/-- where things lie -/
def isK (k : Nat) : Prop := 1 ≤ (sh k).1 ∧ (sh k).1 ≤ 6
def isKb (k : Nat) : Bool := Nat.ble 1 (sh k).1 && Nat.ble (sh k).1 6
def isb (n c : Nat) : Bool := Nat.beq (sh c).1 n
theorem isKb_1 {k : Nat} (h : isKb k = true) : isK k := by
  simp only [isKb, Bool.and_eq_true] at h
  exact ⟨Nat.le_of_ble_eq_true h.1, Nat.le_of_ble_eq_true h.2⟩
theorem isb_1 {n c : Nat} (h : isb n c = true) : (sh c).1 = n := Nat.eq_of_beq_eq_true h
theorem ly_hand0 : ∀ c, c < 101 → (sh c).1 = 7 → sh (c + 1) = (20, 8) ∧ sh (c + 2) = (20, 8) := by decide +kernel
theorem ly_land0 : ∀ c, c < 101 → (sh c).1 = 8 → sh (c + 1) = (23, 6) ∧ sh (c + 20) = (21, 6) ∧ sh (c + 21) = (20, 6) := by decide +kernel
theorem ly_row0 : ∀ c, c < 101 → (sh c).1 = 8 → ∀ j, j < 6 → (sh (c + 1 + 1 + 3 * j)).1 = 7 := by decide +kernel
theorem ly_sheet0 : ∀ c, c < 101 → (sh c).1 = 10 → sh (c + 1) = (21, 40) := by decide +kernel
theorem ly_kind0 : ∀ j, j < 6 → (sh (kc j)).1 = j + 1 := by decide +kernel
theorem ly_shc0 : ∀ j, j < 4 → (sh (77 + 2 * j)).1 = 10 := by decide +kernel
theorem ly_ways {c : Nat} (h : (sh c).1 = 7) : sh (c + 1) = (20, 8) := (ly_hand0 c (sh_lt h rfl) h).1
theorem ly_lens {c : Nat} (h : (sh c).1 = 7) : sh (c + 2) = (20, 8) := (ly_hand0 c (sh_lt h rfl) h).2
theorem ly_rows {c : Nat} (h : (sh c).1 = 8) : sh (c + 1) = (23, 6) := (ly_land0 c (sh_lt h rfl) h).1
theorem ly_clms {c : Nat} (h : (sh c).1 = 8) : sh (c + 20) = (21, 6) := (ly_land0 c (sh_lt h rfl) h).2.1
theorem ly_ownd {c : Nat} (h : (sh c).1 = 8) : sh (c + 21) = (20, 6) := (ly_land0 c (sh_lt h rfl) h).2.2
theorem ly_nums {c : Nat} (h : (sh c).1 = 10) : sh (c + 1) = (21, 40) := ly_sheet0 c (sh_lt h rfl) h
theorem inb_lt {i : Int32} {n : Nat} (h : inb i n = true) : ix i < n := by
  simp only [inb, Bool.and_eq_true, decide_eq_true_eq] at h
  exact h.2
/-- hand i of a land; sheet i; kind i -/
def hnd (d : Nat) (i : Int32) : Nat := d + 1 + 1 + 3 * ix i
def shc (i : Int32) : Nat := 77 + 2 * ix i
def knd (i : Int32) : Nat := kc (ix i)
theorem ly_hnd {d : Nat} {i : Int32} (h : (sh d).1 = 8) (hi : inb i 6 = true) : (sh (hnd d i)).1 = 7 := ly_row0 d (sh_lt h rfl) h _ (inb_lt hi)
theorem ly_shc {i : Int32} (hi : inb i 4 = true) : (sh (shc i)).1 = 10 := ly_shc0 _ (inb_lt hi)
theorem ly_knd {i : Int32} (hi : inb i 6 = true) : isK (knd i) := by
  have h1 := ly_kind0 _ (inb_lt hi)
  have h2 := inb_lt hi
  unfold isK knd
  rw [h1]
  omega
theorem r_hnd {M : Nm} {d : Nat} {i : Int32} (h : (sh d).1 = 8) : (toM M).2.2 (d + 1) (ix i) = some (hnd d i) := by
  have e := ly_rows h
  simp [toM, R0, e, hnd]
theorem r_shc {M : Nm} {i : Int32} : (toM M).2.2 76 (ix i) = some (shc i) := rfl
theorem r_knd {M : Nm} {i : Int32} : (toM M).2.2 2 (ix i) = some (knd i) := rfl
theorem r_kind {M : Nm} {c : Nat} (h : (sh c).1 = 7) : (toM M).2.2 c 0 = some (M.2.2 c) := by simp [toM, h]
theorem r_ways {M : Nm} {c : Nat} (h : (sh c).1 = 7) : (toM M).2.2 c 5 = some (c + 1) := by simp [toM, R0, h]
theorem r_lens {M : Nm} {c : Nat} (h : (sh c).1 = 7) : (toM M).2.2 c 6 = some (c + 2) := by simp [toM, R0, h]
theorem r_rows {M : Nm} {c : Nat} (h : (sh c).1 = 8) : (toM M).2.2 c 3 = some (c + 1) := by simp [toM, R0, h]
theorem r_clms {M : Nm} {c : Nat} (h : (sh c).1 = 8) : (toM M).2.2 c 4 = some (c + 20) := by simp [toM, R0, h]
theorem r_ownd {M : Nm} {c : Nat} (h : (sh c).1 = 8) : (toM M).2.2 c 5 = some (c + 21) := by simp [toM, R0, h]
theorem r_nums {M : Nm} {c : Nat} (h : (sh c).1 = 10) : (toM M).2.2 c 2 = some (c + 1) := by simp [toM, R0, h]
theorem r_word {M : Nm} {c : Nat} (h : isK c) : (toM M).2.2 c 1 = some (1000 + ((sh c).1 - 1)) := by
  obtain ⟨h1, h2⟩ := h
  have e0 : ¬ (sh c).1 = 0 := by omega
  simp [toM, R0, e0, h2]
theorem isK_kcl {k : Nat} (h : isK k) : ∃ (C : String) (T : u_T) (n : Nat), kcl[(sh k).1]? = some (C, T, n) := by
  obtain ⟨h1, h2⟩ := h
  rcases (show (sh k).1 = 1 ∨ (sh k).1 = 2 ∨ (sh k).1 = 3 ∨ (sh k).1 = 4 ∨ (sh k).1 = 5 ∨ (sh k).1 = 6 by omega) with e | e | e | e | e | e <;> rw [e] <;> exact ⟨_, _, _, rfl⟩
theorem isK_blt {k : Nat} (h : isK k) : Nat.blt (sh k).1 20 = true := by
  obtain ⟨h1, h2⟩ := h
  rcases (show (sh k).1 = 1 ∨ (sh k).1 = 2 ∨ (sh k).1 = 3 ∨ (sh k).1 = 4 ∨ (sh k).1 = 5 ∨ (sh k).1 = 6 by omega) with e | e | e | e | e | e <;> rw [e] <;> rfl
theorem isK_n {k : Nat} (h : isK k) : k < 101 := by
  obtain ⟨h1, h2⟩ := h
  exact sh_lt rfl (nb99 (by omega))
def FU : Nat := 1000000
def R9 (f q : Nat) : Room := { frames := f, cells := 0, slots := 0, locals := q }
abbrev zR (f q : Nat) : Room := { frames := f, cells := 0, slots := 0, locals := q }
section NR
variable {l : Launch} {G : Gl} {Y : My} {R : Room} {α : Type} {ε : α → Option Value} {pc : Nat} {lv : List (Nat × Value)} {st : List Value} {M : Nm} {t : Option (α × Nm)} {c ci k n idx : Nat}
abbrev NJ (l : Launch) (G : Gl) (Y : My) (R : Room) {α : Type} (ε : α → Option Value) (pc : Nat) (lv : List (Nat × Value)) (st : List Value) (M : Nm) (t : Option (α × Nm)) : Prop := SJ l G Y R 101 ε toM 101 0 0 pc lv st M t
theorem n_getI (hd : decode Y.2.1 pc = .ok (.getfield idx, 3)) (hF : okF Y.1.cls idx ci k) (hf : (ftL.getD ci [])[k]? = some 0) (hci : Nat.blt ci 20 = true) (hs : (sh c).1 = ci) (hc : c < 101) (kk : NJ l G Y R ε (pc + 3) lv (.int (M.1 c k) :: st) M t) : NJ l G Y R ε pc lv (aR G c :: st) M t := s_getI hd hF hf hci hs hc rfl kk
theorem n_getL (hd : decode Y.2.1 pc = .ok (.getfield idx, 3)) (hF : okF Y.1.cls idx ci k) (hf : (ftL.getD ci [])[k]? = some 1) (hci : Nat.blt ci 20 = true) (hs : (sh c).1 = ci) (hc : c < 101) (kk : NJ l G Y R ε (pc + 3) lv (.long (M.2.1 c k) :: st) M t) : NJ l G Y R ε pc lv (aR G c :: st) M t := s_getL hd hF hf hci hs hc rfl kk
theorem n_getR {x : Nat} (hd : decode Y.2.1 pc = .ok (.getfield idx, 3)) (hF : okF Y.1.cls idx ci k) (hf : (ftL.getD ci [])[k]? = some 2) (hci : Nat.blt ci 20 = true) (hs : (sh c).1 = ci) (hc : c < 101) (hx : (toM M).2.2 c k = some x) (kk : NJ l G Y R ε (pc + 3) lv (aR G x :: st) M t) : NJ l G Y R ε pc lv (aR G c :: st) M t := s_getR hd hF hf hci hs hc hx kk
theorem n_putI {v : Int32} (hd : decode Y.2.1 pc = .ok (.putfield idx, 3)) (hP : okP Y.1.cls idx ci k .int false) (hf : (ftL.getD ci [])[k]? = some 0) (hci : Nat.blt ci 20 = true) (hs : (sh c).1 = ci) (hc : c < 101) (kk : NJ l G Y R ε (pc + 3) lv st (mI M c k v) t) : NJ l G Y R ε pc lv (.int v :: aR G c :: st) M t := s_putI hd hP (fun h => by cases h) hf hci hs hc rfl rfl to_I kk
theorem n_putZ {v : Int32} (hd : decode Y.2.1 pc = .ok (.putfield idx, 3)) (hP : okP Y.1.cls idx ci k .boolean false) (hf : (ftL.getD ci [])[k]? = some 0) (hci : Nat.blt ci 20 = true) (hs : (sh c).1 = ci) (hc : c < 101) (kk : NJ l G Y R ε (pc + 3) lv st (mI M c k v) t) : NJ l G Y R ε pc lv (.int v :: aR G c :: st) M (grd (decide (v = 0) || decide (v = 1)) t) := by
  refine s_grd (fun hv => ?_)
  have h2 : v = 0 ∨ v = 1 := by simpa using hv
  exact s_putI hd hP (fun h => by cases h) hf hci hs hc (by rcases h2 with rfl | rfl <;> rfl) (by rcases h2 with rfl | rfl <;> rfl) to_I kk
theorem n_putL {v : Int64} (hd : decode Y.2.1 pc = .ok (.putfield idx, 3)) (hP : okP Y.1.cls idx ci k .long false) (hf : (ftL.getD ci [])[k]? = some 1) (hci : Nat.blt ci 20 = true) (hs : (sh c).1 = ci) (hc : c < 101) (kk : NJ l G Y R ε (pc + 3) lv st (mL M c k v) t) : NJ l G Y R ε pc lv (.long v :: aR G c :: st) M t := s_putL hd hP (fun h => by cases h) hf hci hs hc rfl rfl to_L kk
theorem n_putK {v : Nat} {cn : String} (hd : decode Y.2.1 pc = .ok (.putfield idx, 3)) (hP : okP Y.1.cls idx 7 0 (.object cn) false) (hs : (sh c).1 = 7) (kk : NJ l G Y R ε (pc + 3) lv st (mK M c v) t) : NJ l G Y R ε pc lv (aR G v :: aR G c :: st) M t := s_putR hd hP (fun h => by cases h) rfl rfl hs (sh_lt hs rfl) rfl rfl (to_K hs) kk
theorem n_ial {i : Int32} (hd : decode Y.2.1 pc = .ok (.iaload, 1)) (hs : sh c = (20, n)) (kk : NJ l G Y R ε (pc + 1) lv (.int (M.1 c (ix i)) :: st) M t) : NJ l G Y R ε pc lv (.int i :: aR G c :: st) M (grd (inb i n) t) := s_ial hd hs (ar_n (k := 0) rfl hs) rfl kk
theorem n_cal {i : Int32} (hd : decode Y.2.1 pc = .ok (.caload, 1)) (hs : sh c = (22, n)) (kk : NJ l G Y R ε (pc + 1) lv (.int (M.1 c (ix i)) :: st) M t) : NJ l G Y R ε pc lv (.int i :: aR G c :: st) M (grd (inb i n) t) := s_cal hd hs (ar_n (k := 2) rfl hs) rfl kk
theorem n_lal {i : Int32} (hd : decode Y.2.1 pc = .ok (.laload, 1)) (hs : sh c = (21, n)) (kk : NJ l G Y R ε (pc + 1) lv (.long (M.2.1 c (ix i)) :: st) M t) : NJ l G Y R ε pc lv (.int i :: aR G c :: st) M (grd (inb i n) t) := s_lal hd hs (ar_n (k := 1) rfl hs) rfl kk
theorem n_aal {i : Int32} {x : Nat} (kq : Nat) (hk : Nat.ble 3 kq = true ∧ Nat.blt kq 6 = true) (hd : decode Y.2.1 pc = .ok (.aaload, 1)) (hs : sh c = (20 + kq, n)) (hx : (toM M).2.2 c (ix i) = some x) (kk : inb i n = true → NJ l G Y R ε (pc + 1) lv (aR G x :: st) M t) : NJ l G Y R ε pc lv (.int i :: aR G c :: st) M (grd (inb i n) t) := by
  refine s_grd (fun hi => ?_)
  have h := s_aal (t := t) hd hk hs (ar_n (k := kq) (by have := Nat.le_of_ble_eq_true hk.2; exact Nat.ble_eq_true_of_le (by omega)) hs) (fun _ => hx) (kk hi)
  rw [grd, if_pos hi] at h
  exact h
theorem n_ias {i v : Int32} (hd : decode Y.2.1 pc = .ok (.iastore, 1)) (hs : sh c = (20, n)) (kk : NJ l G Y R ε (pc + 1) lv st (mI M c (ix i) v) t) : NJ l G Y R ε pc lv (.int v :: .int i :: aR G c :: st) M (grd (inb i n) t) := s_ias hd hs to_I kk
theorem n_cas {i v : Int32} (hd : decode Y.2.1 pc = .ok (.castore, 1)) (hs : sh c = (22, n)) (kk : NJ l G Y R ε (pc + 1) lv st (mI M c (ix i) (vp_nar .char v)) t) : NJ l G Y R ε pc lv (.int v :: .int i :: aR G c :: st) M (grd (inb i n) t) := s_cas hd hs to_I kk
theorem n_las {i : Int32} {v : Int64} (hd : decode Y.2.1 pc = .ok (.lastore, 1)) (hs : sh c = (21, n)) (kk : NJ l G Y R ε (pc + 1) lv st (mL M c (ix i) v) t) : NJ l G Y R ε pc lv (.long v :: .int i :: aR G c :: st) M (grd (inb i n) t) := s_las hd hs to_L kk
theorem n_len (kq : Nat) (hd : decode Y.2.1 pc = .ok (.arraylength, 1)) (hk : Nat.blt kq 6 = true) (hs : sh c = (20 + kq, n)) (kk : NJ l G Y R ε (pc + 1) lv (.int (nI n) :: st) M t) : NJ l G Y R ε pc lv (aR G c :: st) M t := s_len hd hk hs (ar_n (k := kq) (by have := Nat.le_of_ble_eq_true hk; exact Nat.ble_eq_true_of_le (by omega)) hs) kk
theorem s_bite {P : Prop} {d : Decidable P} {γ μ : Type} {vw : μ → Mm} {Nf N cells slots : Nat} {M : μ} {a b : Option (γ × μ)} {t : γ → μ → Option (α × μ)} (k1 : P → SJ l G Y R Nf ε vw N cells slots pc lv st M (bnd a t)) (k2 : ¬ P → SJ l G Y R Nf ε vw N cells slots pc lv st M (bnd b t)) : SJ l G Y R Nf ε vw N cells slots pc lv st M (bnd (if P then a else b) t) := by
  by_cases h : P
  · rw [if_pos h]; exact k1 h
  · rw [if_neg h]; exact k2 h
end NR
end
section
/-! calls once all is made, by what they answer -/
section NC
variable {l : Launch} {G : Gl} {Y Z : My} {f q f1 q1 : Nat} {α : Type} {ε : α → Option Value} {pc index n c ci : Nat} {lv : List (Nat × Value)} {st st0 : List Value} {M : Nm}
theorem n_invS_i {tc : Option (Int32 × Nm)} {t : Int32 → Nm → Option (α × Nm)} (hd : decode Y.2.1 pc = .ok (.invokestatic index, 3)) (hZ : okY Z n) (hR : okR (zR f q) (zR f1 q1) Z = true) (hlk : Cond.methodLink Y.1.cls index Z.1 ∈ wG) (hsx : Cond.static Z.1 ∈ wG) (vs : List Value) (hn : vs.length = n) (hl : Nat.ble (lg_sl vs).length Z.2.2.1 = true) (hst : st0 = vs.reverse ++ st) (hcat : Nat.ble (st.map fun v => v.category).sum 8 = true)
    (kc : NJ l G Z (zR f1 q1) eI 0 (lv_args 0 vs) [] M tc) (k : ∀ a M', NJ l G Y (zR f q) ε (pc + 3) lv (.int a :: st) M' (t a M')) : NJ l G Y (zR f q) ε pc lv st0 M (bnd tc t) := s_invS hd hZ hR hlk hsx vs hn hl hst hcat ⟨rfl, rfl⟩ kc k
theorem n_invS_l {tc : Option (Int64 × Nm)} {t : Int64 → Nm → Option (α × Nm)} (hd : decode Y.2.1 pc = .ok (.invokestatic index, 3)) (hZ : okY Z n) (hR : okR (zR f q) (zR f1 q1) Z = true) (hlk : Cond.methodLink Y.1.cls index Z.1 ∈ wG) (hsx : Cond.static Z.1 ∈ wG) (vs : List Value) (hn : vs.length = n) (hl : Nat.ble (lg_sl vs).length Z.2.2.1 = true) (hst : st0 = vs.reverse ++ st) (hcat : Nat.ble (st.map fun v => v.category).sum 8 = true)
    (kc : NJ l G Z (zR f1 q1) eL 0 (lv_args 0 vs) [] M tc) (k : ∀ a M', NJ l G Y (zR f q) ε (pc + 3) lv (.long a :: st) M' (t a M')) : NJ l G Y (zR f q) ε pc lv st0 M (bnd tc t) := s_invS hd hZ hR hlk hsx vs hn hl hst hcat ⟨rfl, rfl⟩ kc k
theorem n_invS_r {tc : Option ((Option Nat) × Nm)} {t : (Option Nat) → Nm → Option (α × Nm)} (hd : decode Y.2.1 pc = .ok (.invokestatic index, 3)) (hZ : okY Z n) (hR : okR (zR f q) (zR f1 q1) Z = true) (hlk : Cond.methodLink Y.1.cls index Z.1 ∈ wG) (hsx : Cond.static Z.1 ∈ wG) (vs : List Value) (hn : vs.length = n) (hl : Nat.ble (lg_sl vs).length Z.2.2.1 = true) (hst : st0 = vs.reverse ++ st) (hcat : Nat.ble (st.map fun v => v.category).sum 8 = true)
    (kc : NJ l G Z (zR f1 q1) (eR G) 0 (lv_args 0 vs) [] M tc) (k : ∀ a M', NJ l G Y (zR f q) ε (pc + 3) lv (rO G a :: st) M' (t a M')) : NJ l G Y (zR f q) ε pc lv st0 M (bnd tc t) := s_invS hd hZ hR hlk hsx vs hn hl hst hcat ⟨rfl, rfl⟩ kc k
theorem n_invS_u {tc : Option (Unit × Nm)} {t : Unit → Nm → Option (α × Nm)} (hd : decode Y.2.1 pc = .ok (.invokestatic index, 3)) (hZ : okY Z n) (hR : okR (zR f q) (zR f1 q1) Z = true) (hlk : Cond.methodLink Y.1.cls index Z.1 ∈ wG) (hsx : Cond.static Z.1 ∈ wG) (vs : List Value) (hn : vs.length = n) (hl : Nat.ble (lg_sl vs).length Z.2.2.1 = true) (hst : st0 = vs.reverse ++ st) (hcat : Nat.ble (st.map fun v => v.category).sum 8 = true)
    (kc : NJ l G Z (zR f1 q1) eU 0 (lv_args 0 vs) [] M tc) (k : ∀ a M', NJ l G Y (zR f q) ε (pc + 3) lv st M' (t a M')) : NJ l G Y (zR f q) ε pc lv st0 M (bnd tc t) := s_invS hd hZ hR hlk hsx vs hn hl hst hcat ⟨rfl, rfl⟩ kc k
theorem n_invV_i {tc : Option (Int32 × Nm)} {t : Int32 → Nm → Option (α × Nm)} {C : String} {T : u_T} {nf : Nat} (hd : decode Y.2.1 pc = .ok (.invokevirtual index, 3)) (hZ : okY Z n) (hR : okR (zR f q) (zR f1 q1) Z = true) (hlk : Cond.methodLink Y.1.cls index Z.1 ∈ wG) (hin : Cond.instanceMethod Z.1 ∈ wG) (hse : Cond.selects C Z.1 Z.1 ∈ wG) (hk : kcl[ci]? = some (C, T, nf)) (hci : Nat.blt ci 20 = true) (hs : (sh c).1 = ci) (hc : c < 101) (vs : List Value) (hn : vs.length = n) (hl : Nat.ble (lg_sl (aR G c :: vs)).length Z.2.2.1 = true) (hst : st0 = vs.reverse ++ aR G c :: st) (hcat : Nat.ble (st.map fun v => v.category).sum 8 = true)
    (kc : NJ l G Z (zR f1 q1) eI 0 (lv_args 0 (aR G c :: vs)) [] M tc) (k : ∀ a M', NJ l G Y (zR f q) ε (pc + 3) lv (.int a :: st) M' (t a M')) : NJ l G Y (zR f q) ε pc lv st0 M (bnd tc t) := s_invV hd hZ hR hlk hin hse hk hci hs hc vs hn hl hst hcat ⟨rfl, rfl⟩ kc k
theorem n_invV_l {tc : Option (Int64 × Nm)} {t : Int64 → Nm → Option (α × Nm)} {C : String} {T : u_T} {nf : Nat} (hd : decode Y.2.1 pc = .ok (.invokevirtual index, 3)) (hZ : okY Z n) (hR : okR (zR f q) (zR f1 q1) Z = true) (hlk : Cond.methodLink Y.1.cls index Z.1 ∈ wG) (hin : Cond.instanceMethod Z.1 ∈ wG) (hse : Cond.selects C Z.1 Z.1 ∈ wG) (hk : kcl[ci]? = some (C, T, nf)) (hci : Nat.blt ci 20 = true) (hs : (sh c).1 = ci) (hc : c < 101) (vs : List Value) (hn : vs.length = n) (hl : Nat.ble (lg_sl (aR G c :: vs)).length Z.2.2.1 = true) (hst : st0 = vs.reverse ++ aR G c :: st) (hcat : Nat.ble (st.map fun v => v.category).sum 8 = true)
    (kc : NJ l G Z (zR f1 q1) eL 0 (lv_args 0 (aR G c :: vs)) [] M tc) (k : ∀ a M', NJ l G Y (zR f q) ε (pc + 3) lv (.long a :: st) M' (t a M')) : NJ l G Y (zR f q) ε pc lv st0 M (bnd tc t) := s_invV hd hZ hR hlk hin hse hk hci hs hc vs hn hl hst hcat ⟨rfl, rfl⟩ kc k
theorem n_invV_r {tc : Option ((Option Nat) × Nm)} {t : (Option Nat) → Nm → Option (α × Nm)} {C : String} {T : u_T} {nf : Nat} (hd : decode Y.2.1 pc = .ok (.invokevirtual index, 3)) (hZ : okY Z n) (hR : okR (zR f q) (zR f1 q1) Z = true) (hlk : Cond.methodLink Y.1.cls index Z.1 ∈ wG) (hin : Cond.instanceMethod Z.1 ∈ wG) (hse : Cond.selects C Z.1 Z.1 ∈ wG) (hk : kcl[ci]? = some (C, T, nf)) (hci : Nat.blt ci 20 = true) (hs : (sh c).1 = ci) (hc : c < 101) (vs : List Value) (hn : vs.length = n) (hl : Nat.ble (lg_sl (aR G c :: vs)).length Z.2.2.1 = true) (hst : st0 = vs.reverse ++ aR G c :: st) (hcat : Nat.ble (st.map fun v => v.category).sum 8 = true)
    (kc : NJ l G Z (zR f1 q1) (eR G) 0 (lv_args 0 (aR G c :: vs)) [] M tc) (k : ∀ a M', NJ l G Y (zR f q) ε (pc + 3) lv (rO G a :: st) M' (t a M')) : NJ l G Y (zR f q) ε pc lv st0 M (bnd tc t) := s_invV hd hZ hR hlk hin hse hk hci hs hc vs hn hl hst hcat ⟨rfl, rfl⟩ kc k
theorem n_invV_u {tc : Option (Unit × Nm)} {t : Unit → Nm → Option (α × Nm)} {C : String} {T : u_T} {nf : Nat} (hd : decode Y.2.1 pc = .ok (.invokevirtual index, 3)) (hZ : okY Z n) (hR : okR (zR f q) (zR f1 q1) Z = true) (hlk : Cond.methodLink Y.1.cls index Z.1 ∈ wG) (hin : Cond.instanceMethod Z.1 ∈ wG) (hse : Cond.selects C Z.1 Z.1 ∈ wG) (hk : kcl[ci]? = some (C, T, nf)) (hci : Nat.blt ci 20 = true) (hs : (sh c).1 = ci) (hc : c < 101) (vs : List Value) (hn : vs.length = n) (hl : Nat.ble (lg_sl (aR G c :: vs)).length Z.2.2.1 = true) (hst : st0 = vs.reverse ++ aR G c :: st) (hcat : Nat.ble (st.map fun v => v.category).sum 8 = true)
    (kc : NJ l G Z (zR f1 q1) eU 0 (lv_args 0 (aR G c :: vs)) [] M tc) (k : ∀ a M', NJ l G Y (zR f q) ε (pc + 3) lv st M' (t a M')) : NJ l G Y (zR f q) ε pc lv st0 M (bnd tc t) := s_invV hd hZ hR hlk hin hse hk hci hs hc vs hn hl hst hcat ⟨rfl, rfl⟩ kc k
theorem n_invSN_i {tc : Option (Int32 × Nm)} {t : Int32 → Nm → Option (α × Nm)} (hown : Y.1.cls = RX5) (hidx : index = 63) (hZy : Z.1 = yX11_bitOf) (hd : decode Y.2.1 pc = .ok (.invokestatic index, 3)) (hZ : okY Z n) (hR : okR (zR f q) (zR f1 q1) Z = true) (hsx : Cond.static Z.1 ∈ wG) (vs : List Value) (hn : vs.length = n) (hl : Nat.ble (lg_sl vs).length Z.2.2.1 = true) (hst : st0 = vs.reverse ++ st) (hcat : Nat.ble (st.map fun v => v.category).sum 8 = true)
    (kc : NJ l G Z (zR f1 q1) eI 0 (lv_args 0 vs) [] M tc) (k : ∀ a M', NJ l G Y (zR f q) ε (pc + 3) lv (.int a :: st) M' (t a M')) : NJ l G Y (zR f q) ε pc lv st0 M (bnd tc t) := s_invSN hown hidx hZy hd hZ hR hsx vs hn hl hst hcat ⟨rfl, rfl⟩ kc k
theorem n_invSN_l {tc : Option (Int64 × Nm)} {t : Int64 → Nm → Option (α × Nm)} (hown : Y.1.cls = RX5) (hidx : index = 63) (hZy : Z.1 = yX11_bitOf) (hd : decode Y.2.1 pc = .ok (.invokestatic index, 3)) (hZ : okY Z n) (hR : okR (zR f q) (zR f1 q1) Z = true) (hsx : Cond.static Z.1 ∈ wG) (vs : List Value) (hn : vs.length = n) (hl : Nat.ble (lg_sl vs).length Z.2.2.1 = true) (hst : st0 = vs.reverse ++ st) (hcat : Nat.ble (st.map fun v => v.category).sum 8 = true)
    (kc : NJ l G Z (zR f1 q1) eL 0 (lv_args 0 vs) [] M tc) (k : ∀ a M', NJ l G Y (zR f q) ε (pc + 3) lv (.long a :: st) M' (t a M')) : NJ l G Y (zR f q) ε pc lv st0 M (bnd tc t) := s_invSN hown hidx hZy hd hZ hR hsx vs hn hl hst hcat ⟨rfl, rfl⟩ kc k
theorem n_invSN_r {tc : Option ((Option Nat) × Nm)} {t : (Option Nat) → Nm → Option (α × Nm)} (hown : Y.1.cls = RX5) (hidx : index = 63) (hZy : Z.1 = yX11_bitOf) (hd : decode Y.2.1 pc = .ok (.invokestatic index, 3)) (hZ : okY Z n) (hR : okR (zR f q) (zR f1 q1) Z = true) (hsx : Cond.static Z.1 ∈ wG) (vs : List Value) (hn : vs.length = n) (hl : Nat.ble (lg_sl vs).length Z.2.2.1 = true) (hst : st0 = vs.reverse ++ st) (hcat : Nat.ble (st.map fun v => v.category).sum 8 = true)
    (kc : NJ l G Z (zR f1 q1) (eR G) 0 (lv_args 0 vs) [] M tc) (k : ∀ a M', NJ l G Y (zR f q) ε (pc + 3) lv (rO G a :: st) M' (t a M')) : NJ l G Y (zR f q) ε pc lv st0 M (bnd tc t) := s_invSN hown hidx hZy hd hZ hR hsx vs hn hl hst hcat ⟨rfl, rfl⟩ kc k
theorem n_invSN_u {tc : Option (Unit × Nm)} {t : Unit → Nm → Option (α × Nm)} (hown : Y.1.cls = RX5) (hidx : index = 63) (hZy : Z.1 = yX11_bitOf) (hd : decode Y.2.1 pc = .ok (.invokestatic index, 3)) (hZ : okY Z n) (hR : okR (zR f q) (zR f1 q1) Z = true) (hsx : Cond.static Z.1 ∈ wG) (vs : List Value) (hn : vs.length = n) (hl : Nat.ble (lg_sl vs).length Z.2.2.1 = true) (hst : st0 = vs.reverse ++ st) (hcat : Nat.ble (st.map fun v => v.category).sum 8 = true)
    (kc : NJ l G Z (zR f1 q1) eU 0 (lv_args 0 vs) [] M tc) (k : ∀ a M', NJ l G Y (zR f q) ε (pc + 3) lv st M' (t a M')) : NJ l G Y (zR f q) ε pc lv st0 M (bnd tc t) := s_invSN hown hidx hZy hd hZ hR hsx vs hn hl hst hcat ⟨rfl, rfl⟩ kc k
theorem n_invSU_i {tc : Option (Int32 × Nm)} {t : Int32 → Nm → Option (α × Nm)} {C : String} {T : u_T} {nf : Nat} (hd : decode Y.2.1 pc = .ok (.invokespecial index, 3)) (hZ : okY Z n) (hR : okR (zR f q) (zR f1 q1) Z = true) (hlk : Cond.methodLink Y.1.cls index Z.1 ∈ wG) (hin : Cond.instanceMethod Z.1 ∈ wG) (hsm : Cond.sameMethod Z.1.cls Z.1.cls Z.1.name Z.1.desc ∈ wG) (hsu : Cond.superclass Y.1.cls Z.1.cls ∈ wG) (hni : Z.1.name ≠ "<init>") (hk : kcl[ci]? = some (C, T, nf)) (hci : Nat.blt ci 20 = true) (hs : (sh c).1 = ci) (hc : c < 101) (vs : List Value) (hn : vs.length = n) (hl : Nat.ble (lg_sl (aR G c :: vs)).length Z.2.2.1 = true) (hst : st0 = vs.reverse ++ aR G c :: st) (hcat : Nat.ble (st.map fun v => v.category).sum 8 = true)
    (kc : NJ l G Z (zR f1 q1) eI 0 (lv_args 0 (aR G c :: vs)) [] M tc) (k : ∀ a M', NJ l G Y (zR f q) ε (pc + 3) lv (.int a :: st) M' (t a M')) : NJ l G Y (zR f q) ε pc lv st0 M (bnd tc t) := s_invSU hd hZ hR hlk hin hsm hsu hni hk hci hs hc vs hn hl hst hcat ⟨rfl, rfl⟩ kc k
theorem n_invSU_l {tc : Option (Int64 × Nm)} {t : Int64 → Nm → Option (α × Nm)} {C : String} {T : u_T} {nf : Nat} (hd : decode Y.2.1 pc = .ok (.invokespecial index, 3)) (hZ : okY Z n) (hR : okR (zR f q) (zR f1 q1) Z = true) (hlk : Cond.methodLink Y.1.cls index Z.1 ∈ wG) (hin : Cond.instanceMethod Z.1 ∈ wG) (hsm : Cond.sameMethod Z.1.cls Z.1.cls Z.1.name Z.1.desc ∈ wG) (hsu : Cond.superclass Y.1.cls Z.1.cls ∈ wG) (hni : Z.1.name ≠ "<init>") (hk : kcl[ci]? = some (C, T, nf)) (hci : Nat.blt ci 20 = true) (hs : (sh c).1 = ci) (hc : c < 101) (vs : List Value) (hn : vs.length = n) (hl : Nat.ble (lg_sl (aR G c :: vs)).length Z.2.2.1 = true) (hst : st0 = vs.reverse ++ aR G c :: st) (hcat : Nat.ble (st.map fun v => v.category).sum 8 = true)
    (kc : NJ l G Z (zR f1 q1) eL 0 (lv_args 0 (aR G c :: vs)) [] M tc) (k : ∀ a M', NJ l G Y (zR f q) ε (pc + 3) lv (.long a :: st) M' (t a M')) : NJ l G Y (zR f q) ε pc lv st0 M (bnd tc t) := s_invSU hd hZ hR hlk hin hsm hsu hni hk hci hs hc vs hn hl hst hcat ⟨rfl, rfl⟩ kc k
theorem n_invSU_r {tc : Option ((Option Nat) × Nm)} {t : (Option Nat) → Nm → Option (α × Nm)} {C : String} {T : u_T} {nf : Nat} (hd : decode Y.2.1 pc = .ok (.invokespecial index, 3)) (hZ : okY Z n) (hR : okR (zR f q) (zR f1 q1) Z = true) (hlk : Cond.methodLink Y.1.cls index Z.1 ∈ wG) (hin : Cond.instanceMethod Z.1 ∈ wG) (hsm : Cond.sameMethod Z.1.cls Z.1.cls Z.1.name Z.1.desc ∈ wG) (hsu : Cond.superclass Y.1.cls Z.1.cls ∈ wG) (hni : Z.1.name ≠ "<init>") (hk : kcl[ci]? = some (C, T, nf)) (hci : Nat.blt ci 20 = true) (hs : (sh c).1 = ci) (hc : c < 101) (vs : List Value) (hn : vs.length = n) (hl : Nat.ble (lg_sl (aR G c :: vs)).length Z.2.2.1 = true) (hst : st0 = vs.reverse ++ aR G c :: st) (hcat : Nat.ble (st.map fun v => v.category).sum 8 = true)
    (kc : NJ l G Z (zR f1 q1) (eR G) 0 (lv_args 0 (aR G c :: vs)) [] M tc) (k : ∀ a M', NJ l G Y (zR f q) ε (pc + 3) lv (rO G a :: st) M' (t a M')) : NJ l G Y (zR f q) ε pc lv st0 M (bnd tc t) := s_invSU hd hZ hR hlk hin hsm hsu hni hk hci hs hc vs hn hl hst hcat ⟨rfl, rfl⟩ kc k
theorem n_invSU_u {tc : Option (Unit × Nm)} {t : Unit → Nm → Option (α × Nm)} {C : String} {T : u_T} {nf : Nat} (hd : decode Y.2.1 pc = .ok (.invokespecial index, 3)) (hZ : okY Z n) (hR : okR (zR f q) (zR f1 q1) Z = true) (hlk : Cond.methodLink Y.1.cls index Z.1 ∈ wG) (hin : Cond.instanceMethod Z.1 ∈ wG) (hsm : Cond.sameMethod Z.1.cls Z.1.cls Z.1.name Z.1.desc ∈ wG) (hsu : Cond.superclass Y.1.cls Z.1.cls ∈ wG) (hni : Z.1.name ≠ "<init>") (hk : kcl[ci]? = some (C, T, nf)) (hci : Nat.blt ci 20 = true) (hs : (sh c).1 = ci) (hc : c < 101) (vs : List Value) (hn : vs.length = n) (hl : Nat.ble (lg_sl (aR G c :: vs)).length Z.2.2.1 = true) (hst : st0 = vs.reverse ++ aR G c :: st) (hcat : Nat.ble (st.map fun v => v.category).sum 8 = true)
    (kc : NJ l G Z (zR f1 q1) eU 0 (lv_args 0 (aR G c :: vs)) [] M tc) (k : ∀ a M', NJ l G Y (zR f q) ε (pc + 3) lv st M' (t a M')) : NJ l G Y (zR f q) ε pc lv st0 M (bnd tc t) := s_invSU hd hZ hR hlk hin hsm hsu hni hk hci hs hc vs hn hl hst hcat ⟨rfl, rfl⟩ kc k
theorem n_invU_i {tc : Option (Int32 × Nm)} {t : Int32 → Nm → Option (α × Nm)} {C owner : String} {x : MethodName} {T : u_T} {nf : Nat} (hd : decode Y.2.1 pc = .ok (.invokevirtual index, 3)) (hZ : okY Z n) (hR : okR (zR f q) (zR f1 q1) Z = true) (hlk : Cond.methodLink Y.1.cls index x ∈ wG) (hsm : Cond.sameMethod x.cls owner x.name x.desc ∈ wG) (hio : Cond.instanceMethod ⟨owner, x.name, x.desc⟩ ∈ wG) (hco : ∃ b mx rt, Cond.code ⟨owner, x.name, x.desc⟩ b mx rt ∈ wG) (hmh : owner ≠ "java/lang/invoke/MethodHandle" ∧ owner ≠ "java/lang/invoke/VarHandle") (hpd : (parseMethodDescriptor x.desc).map (fun d => d.parameters.length) = some n) (hse : Cond.selects C x Z.1 ∈ wG) (hin : Cond.instanceMethod Z.1 ∈ wG) (hk : kcl[ci]? = some (C, T, nf)) (hci : Nat.blt ci 20 = true) (hs : (sh c).1 = ci) (hc : c < 101) (vs : List Value) (hn : vs.length = n) (hl : Nat.ble (lg_sl (aR G c :: vs)).length Z.2.2.1 = true) (hst : st0 = vs.reverse ++ aR G c :: st) (hcat : Nat.ble (st.map fun v => v.category).sum 8 = true)
    (kc : NJ l G Z (zR f1 q1) eI 0 (lv_args 0 (aR G c :: vs)) [] M tc) (k : ∀ a M', NJ l G Y (zR f q) ε (pc + 3) lv (.int a :: st) M' (t a M')) : NJ l G Y (zR f q) ε pc lv st0 M (bnd tc t) := s_invU hd hZ hR hlk hsm hio hco hmh hpd hse hin hk hci hs hc vs hn hl hst hcat ⟨rfl, rfl⟩ kc k
theorem n_invU_l {tc : Option (Int64 × Nm)} {t : Int64 → Nm → Option (α × Nm)} {C owner : String} {x : MethodName} {T : u_T} {nf : Nat} (hd : decode Y.2.1 pc = .ok (.invokevirtual index, 3)) (hZ : okY Z n) (hR : okR (zR f q) (zR f1 q1) Z = true) (hlk : Cond.methodLink Y.1.cls index x ∈ wG) (hsm : Cond.sameMethod x.cls owner x.name x.desc ∈ wG) (hio : Cond.instanceMethod ⟨owner, x.name, x.desc⟩ ∈ wG) (hco : ∃ b mx rt, Cond.code ⟨owner, x.name, x.desc⟩ b mx rt ∈ wG) (hmh : owner ≠ "java/lang/invoke/MethodHandle" ∧ owner ≠ "java/lang/invoke/VarHandle") (hpd : (parseMethodDescriptor x.desc).map (fun d => d.parameters.length) = some n) (hse : Cond.selects C x Z.1 ∈ wG) (hin : Cond.instanceMethod Z.1 ∈ wG) (hk : kcl[ci]? = some (C, T, nf)) (hci : Nat.blt ci 20 = true) (hs : (sh c).1 = ci) (hc : c < 101) (vs : List Value) (hn : vs.length = n) (hl : Nat.ble (lg_sl (aR G c :: vs)).length Z.2.2.1 = true) (hst : st0 = vs.reverse ++ aR G c :: st) (hcat : Nat.ble (st.map fun v => v.category).sum 8 = true)
    (kc : NJ l G Z (zR f1 q1) eL 0 (lv_args 0 (aR G c :: vs)) [] M tc) (k : ∀ a M', NJ l G Y (zR f q) ε (pc + 3) lv (.long a :: st) M' (t a M')) : NJ l G Y (zR f q) ε pc lv st0 M (bnd tc t) := s_invU hd hZ hR hlk hsm hio hco hmh hpd hse hin hk hci hs hc vs hn hl hst hcat ⟨rfl, rfl⟩ kc k
theorem n_invU_r {tc : Option ((Option Nat) × Nm)} {t : (Option Nat) → Nm → Option (α × Nm)} {C owner : String} {x : MethodName} {T : u_T} {nf : Nat} (hd : decode Y.2.1 pc = .ok (.invokevirtual index, 3)) (hZ : okY Z n) (hR : okR (zR f q) (zR f1 q1) Z = true) (hlk : Cond.methodLink Y.1.cls index x ∈ wG) (hsm : Cond.sameMethod x.cls owner x.name x.desc ∈ wG) (hio : Cond.instanceMethod ⟨owner, x.name, x.desc⟩ ∈ wG) (hco : ∃ b mx rt, Cond.code ⟨owner, x.name, x.desc⟩ b mx rt ∈ wG) (hmh : owner ≠ "java/lang/invoke/MethodHandle" ∧ owner ≠ "java/lang/invoke/VarHandle") (hpd : (parseMethodDescriptor x.desc).map (fun d => d.parameters.length) = some n) (hse : Cond.selects C x Z.1 ∈ wG) (hin : Cond.instanceMethod Z.1 ∈ wG) (hk : kcl[ci]? = some (C, T, nf)) (hci : Nat.blt ci 20 = true) (hs : (sh c).1 = ci) (hc : c < 101) (vs : List Value) (hn : vs.length = n) (hl : Nat.ble (lg_sl (aR G c :: vs)).length Z.2.2.1 = true) (hst : st0 = vs.reverse ++ aR G c :: st) (hcat : Nat.ble (st.map fun v => v.category).sum 8 = true)
    (kc : NJ l G Z (zR f1 q1) (eR G) 0 (lv_args 0 (aR G c :: vs)) [] M tc) (k : ∀ a M', NJ l G Y (zR f q) ε (pc + 3) lv (rO G a :: st) M' (t a M')) : NJ l G Y (zR f q) ε pc lv st0 M (bnd tc t) := s_invU hd hZ hR hlk hsm hio hco hmh hpd hse hin hk hci hs hc vs hn hl hst hcat ⟨rfl, rfl⟩ kc k
theorem n_invU_u {tc : Option (Unit × Nm)} {t : Unit → Nm → Option (α × Nm)} {C owner : String} {x : MethodName} {T : u_T} {nf : Nat} (hd : decode Y.2.1 pc = .ok (.invokevirtual index, 3)) (hZ : okY Z n) (hR : okR (zR f q) (zR f1 q1) Z = true) (hlk : Cond.methodLink Y.1.cls index x ∈ wG) (hsm : Cond.sameMethod x.cls owner x.name x.desc ∈ wG) (hio : Cond.instanceMethod ⟨owner, x.name, x.desc⟩ ∈ wG) (hco : ∃ b mx rt, Cond.code ⟨owner, x.name, x.desc⟩ b mx rt ∈ wG) (hmh : owner ≠ "java/lang/invoke/MethodHandle" ∧ owner ≠ "java/lang/invoke/VarHandle") (hpd : (parseMethodDescriptor x.desc).map (fun d => d.parameters.length) = some n) (hse : Cond.selects C x Z.1 ∈ wG) (hin : Cond.instanceMethod Z.1 ∈ wG) (hk : kcl[ci]? = some (C, T, nf)) (hci : Nat.blt ci 20 = true) (hs : (sh c).1 = ci) (hc : c < 101) (vs : List Value) (hn : vs.length = n) (hl : Nat.ble (lg_sl (aR G c :: vs)).length Z.2.2.1 = true) (hst : st0 = vs.reverse ++ aR G c :: st) (hcat : Nat.ble (st.map fun v => v.category).sum 8 = true)
    (kc : NJ l G Z (zR f1 q1) eU 0 (lv_args 0 (aR G c :: vs)) [] M tc) (k : ∀ a M', NJ l G Y (zR f q) ε (pc + 3) lv st M' (t a M')) : NJ l G Y (zR f q) ε pc lv st0 M (bnd tc t) := s_invU hd hZ hR hlk hsm hio hco hmh hpd hse hin hk hci hs hc vs hn hl hst hcat ⟨rfl, rfl⟩ kc k
theorem n_zretB {v : Int32} (hd : decode Y.2.1 pc = .ok (.ireturn, 1)) (hr : Y.2.2.2 = some .boolean) : NJ l G Y (zR f q) eI pc lv [.int v] M (grd (decide (v = 0) || decide (v = 1)) (some (v, M))) := by
  refine s_grd (fun hv => ?_)
  have h2 : v = 0 ∨ v = 1 := by simpa using hv
  exact s_zret (R := zR f q) hd hr (by rcases h2 with rfl | rfl <;> rfl)
theorem n_zret0 (hd : decode Y.2.1 pc = .ok (.ireturn, 1)) (hr : Y.2.2.2 = some .boolean) : NJ l G Y (zR f q) eI pc lv [.int 0] M (some (0, M)) := s_zret (R := zR f q) hd hr rfl
theorem n_zret1 (hd : decode Y.2.1 pc = .ok (.ireturn, 1)) (hr : Y.2.2.2 = some .boolean) : NJ l G Y (zR f q) eI pc lv [.int 1] M (some (1, M)) := s_zret (R := zR f q) hd hr rfl
theorem n_zretC {v : Int32} (hd : decode Y.2.1 pc = .ok (.ireturn, 1)) (hr : Y.2.2.2 = some .char) : NJ l G Y (zR f q) eI pc lv [.int v] M (grd (decide (narrow .char (.int v) = .int v)) (some (v, M))) := by
  refine s_grd (fun hv => ?_)
  exact s_zret (R := zR f q) hd hr (by simpa using hv)
theorem n_iret {v : Int32} (hd : decode Y.2.1 pc = .ok (.ireturn, 1)) (hr : Y.2.2.2 = some .int) : NJ l G Y (zR f q) eI pc lv [.int v] M (some (v, M)) := s_iret (R := zR f q) hd hr
theorem n_lret {v : Int64} (hd : decode Y.2.1 pc = .ok (.lreturn, 1)) (hr : Y.2.2.2 = some .long) : NJ l G Y (zR f q) eL pc lv [.long v] M (some (v, M)) := s_lret (R := zR f q) hd hr
theorem n_vret (hd : decode Y.2.1 pc = .ok (.return_, 1)) (hr : Y.2.2.2 = none) : NJ l G Y (zR f q) eU pc lv [] M (some ((), M)) := s_vret (R := zR f q) hd hr
theorem n_aretN {cn : String} (hd : decode Y.2.1 pc = .ok (.areturn, 1)) (hr : Y.2.2.2 = some (.object cn)) : NJ l G Y (zR f q) (eR G) pc lv [.null] M (some (none, M)) := s_aret (R := zR f q) (r := none) hd hr
theorem n_aret {x : Nat} {cn : String} (hd : decode Y.2.1 pc = .ok (.areturn, 1)) (hr : Y.2.2.2 = some (.object cn)) : NJ l G Y (zR f q) (eR G) pc lv [aR G x] M (some (some x, M)) := s_aret (R := zR f q) (r := some x) hd hr
end NC
theorem sw_out {x : Int32} {lo hi : Int} (h : ∀ k : Int, lo ≤ k → k ≤ hi → ¬ x = Int32.ofInt k) : x.toInt < lo ∨ hi < x.toInt := by
  rcases Int.lt_or_le x.toInt lo with q | q
  · exact Or.inl q
  · rcases Int.lt_or_le hi x.toInt with r | r
    · exact Or.inr r
    · exact absurd (Int32.ofInt_toInt x).symm (h _ q r)
end
section
/-! words of the tables by their places; methods; fields -/
abbrev Y_X12_in : My := (yX12_in, cX12_in, 6, (some .boolean))
abbrev Y_X12_finds : My := (yX12_finds, cX12_finds, 2, (some .int))
abbrev Y_X12_saves : My := (yX12_saves, cX12_saves, 2, none)
abbrev Y_X12_putsBack : My := (yX12_putsBack, cX12_putsBack, 2, none)
abbrev Y_X12_laysAside : My := (yX12_laysAside, cX12_laysAside, 2, none)
abbrev Y_X12_takesBack : My := (yX12_takesBack, cX12_takesBack, 3, (some .int))
abbrev Y_X12_becomes : My := (yX12_becomes, cX12_becomes, 4, (some .int))
abbrev Y_X12_isCell : My := (yX12_isCell, cX12_isCell, 1, (some .boolean))
abbrev Y_X12_isHand : My := (yX12_isHand, cX12_isHand, 2, (some .boolean))
abbrev Y_X12_isKind : My := (yX12_isKind, cX12_isKind, 1, (some .boolean))
abbrev Y_X12_isWay : My := (yX12_isWay, cX12_isWay, 1, (some .boolean))
abbrev Y_X12_spot : My := (yX12_spot, cX12_spot, 2, (some .int))
abbrev Y_X12_its : My := (yX12_its, cX12_its, 3, (some .int))
abbrev Y_X12_has : My := (yX12_has, cX12_has, 3, (some .boolean))
abbrev Y_X12_ones : My := (yX12_ones, cX12_ones, 5, (some .int))
abbrev Y_X12_stepsOf : My := (yX12_stepsOf, cX12_stepsOf, 5, (some .int))
abbrev Y_X12_turned : My := (yX12_turned, cX12_turned, 4, (some .int))
abbrev Y_X12_cropOf : My := (yX12_cropOf, cX12_cropOf, 2, (some .int))
abbrev Y_X12_beside : My := (yX12_beside, cX12_beside, 4, (some .int))
abbrev Y_X12_isEdge : My := (yX12_isEdge, cX12_isEdge, 3, (some .boolean))
abbrev Y_X12_smudges : My := (yX12_smudges, cX12_smudges, 4, (some .long))
abbrev Y_X12_draws : My := (yX12_draws, cX12_draws, 12, none)
abbrev Y_X12_insideOf : My := (yX12_insideOf, cX12_insideOf, 9, (some .long))
abbrev Y_X12_writeAll : My := (yX12_writeAll, cX12_writeAll, 4, none)
abbrev Y_X12_insideMany : My := (yX12_insideMany, cX12_insideMany, 2, (some .int))
abbrev Y_X12_writes : My := (yX12_writes, cX12_writes, 2, (some .boolean))
abbrev Y_X12_ownerOf : My := (yX12_ownerOf, cX12_ownerOf, 5, (some .int))
abbrev Y_X12_ownedBy : My := (yX12_ownedBy, cX12_ownedBy, 4, (some .int))
abbrev Y_X12_smudge : My := (yX12_smudge, cX12_smudge, 3, (some .int))
abbrev Y_X12_thoseWith : My := (yX12_thoseWith, cX12_thoseWith, 5, (some .int))
abbrev Y_X12_cell : My := (yX12_cell, cX12_cell, 3, (some .int))
abbrev Y_X12_writersInside : My := (yX12_writersInside, cX12_writersInside, 4, (some .int))
abbrev Y_X12_cells : My := (yX12_cells, cX12_cells, 5, (some .long))
abbrev Y_X12_adds : My := (yX12_adds, cX12_adds, 5, (some .int))
abbrev Y_X12_hand : My := (yX12_hand, cX12_hand, 3, (some .int))
abbrev Y_X12_strokes : My := (yX12_strokes, cX12_strokes, 5, (some .int))
abbrev Y_X12_stroke : My := (yX12_stroke, cX12_stroke, 4, (some .int))
abbrev Y_X12_of : My := (yX12_of, cX12_of, 3, (some .int))
abbrev Y_X12_isStroke : My := (yX12_isStroke, cX12_isStroke, 3, (some .boolean))
abbrev Y_X12_told : My := (yX12_told, cX12_told, 4, (some .int))
abbrev Y_X12_set : My := (yX12_set, cX12_set, 5, (some .int))
abbrev Y_X12_alter : My := (yX12_alter, cX12_alter, 6, (some .int))
abbrev Y_X12_cut : My := (yX12_cut, cX12_cut, 3, (some .int))
abbrev Y_X12_turn : My := (yX12_turn, cX12_turn, 3, (some .int))
abbrev Y_X12_isUnder : My := (yX12_isUnder, cX12_isUnder, 2, (some .boolean))
abbrev Y_X12_as : My := (yX12_as, cX12_as, 3, (some .int))
abbrev Y_X12_line : My := (yX12_line, cX12_line, 2, (some .long))
abbrev Y_X12_inside : My := (yX12_inside, cX12_inside, 2, (some .long))
abbrev Y_X12_year : My := (yX12_year, cX12_year, 4, none)
abbrev Y_X12_goesOn : My := (yX12_goesOn, cX12_goesOn, 3, none)
abbrev Y_X12_together : My := (yX12_together, cX12_together, 4, (some .int))
abbrev Y_X12_years : My := (yX12_years, cX12_years, 2, (some .int))
abbrev Y_X12_thoseThatWrite : My := (yX12_thoseThatWrite, cX12_thoseThatWrite, 3, (some .int))
abbrev Y_X12_now : My := (yX12_now, cX12_now, 2, (some .int))
abbrev Y_X12_ownsNow : My := (yX12_ownsNow, cX12_ownsNow, 2, (some .int))
abbrev Y_X12_on : My := (yX12_on, cX12_on, 4, (some .int))
abbrev Y_X12_isDry : My := (yX12_isDry, cX12_isDry, 2, (some .boolean))
abbrev Y_X12_dry : My := (yX12_dry, cX12_dry, 4, (some .int))
abbrev Y_X12_richest : My := (yX12_richest, cX12_richest, 3, (some .int))
abbrev Y_X12_rich : My := (yX12_rich, cX12_rich, 2, (some .int))
abbrev Y_X12_rain : My := (yX12_rain, cX12_rain, 8, (some .int))
abbrev Y_X12_longer : My := (yX12_longer, cX12_longer, 7, (some .int))
abbrev Y_X12_begin : My := (yX12_begin, cX12_begin, 7, (some .int))
abbrev Y_X12_kind : My := (yX12_kind, cX12_kind, 7, (some .int))
abbrev Y_X12_ink : My := (yX12_ink, cX12_ink, 7, (some .int))
abbrev Y_X12_court : My := (yX12_court, cX12_court, 3, (some .int))
abbrev Y_X12_way : My := (yX12_way, cX12_way, 14, (some .int))
abbrev Y_X12_sea : My := (yX12_sea, cX12_sea, 4, (some .int))
abbrev Y_X12_feed : My := (yX12_feed, cX12_feed, 4, (some .int))
abbrev Y_X12_wipe : My := (yX12_wipe, cX12_wipe, 2, (some .int))
abbrev Y_X12_byteAt : My := (yX12_byteAt, cX12_byteAt, 2, (some .int))
abbrev Y_X12_isLetter : My := (yX12_isLetter, cX12_isLetter, 1, (some .boolean))
abbrev Y_X12_isDigit : My := (yX12_isDigit, cX12_isDigit, 1, (some .boolean))
abbrev Y_X12_token : My := (yX12_token, cX12_token, 3, none)
abbrev Y_X12_must : My := (yX12_must, cX12_must, 2, none)
abbrev Y_X12_word : My := (yX12_word, cX12_word, 4, (some .long))
abbrev Y_X12_number : My := (yX12_number, cX12_number, 6, none)
abbrev Y_X12_kindHere : My := (yX12_kindHere, cX12_kindHere, 3, (some .int))
abbrev Y_X12_wayHere : My := (yX12_wayHere, cX12_wayHere, 3, (some .int))
abbrev Y_X12_handItem : My := (yX12_handItem, cX12_handItem, 5, none)
abbrev Y_X12_item : My := (yX12_item, cX12_item, 4, none)
abbrev Y_X12_field : My := (yX12_field, cX12_field, 2, (some .int))
abbrev Y_X12_isOne : My := (yX12_isOne, cX12_isOne, 1, (some .boolean))
abbrev Y_X12_sheet : My := (yX12_sheet, cX12_sheet, 5, (some .int))
abbrev Y_X12_narrowed : My := (yX12_narrowed, cX12_narrowed, 3, (some .long))
abbrev Y_X12_wrong : My := (yX12_wrong, cX12_wrong, 2, (some .int))
abbrev Y_X12_write : My := (yX12_write, cX12_write, 8, (some .long))
abbrev Y_X12_copy : My := (yX12_copy, cX12_copy, 7, (some .int))
abbrev Y_X12_lays : My := (yX12_lays, cX12_lays, 6, (some .int))
abbrev Y_X12_book : My := (yX12_book, cX12_book, 5, (some .int))
abbrev Y_X12_isBook : My := (yX12_isBook, cX12_isBook, 4, (some .boolean))
abbrev Y_X12_read : My := (yX12_read, cX12_read, 6, (some .int))
abbrev Y_X12_image : My := (yX12_image, cX12_image, 2, (some .int))
abbrev Y_X12_undo : My := (yX12_undo, cX12_undo, 2, (some .int))
abbrev Y_X12_tear : My := (yX12_tear, cX12_tear, 2, (some .int))
abbrev Y_X12_costsAll : My := (yX12_costsAll, cX12_costsAll, 3, (some .int))
abbrev Y_X12_count : My := (yX12_count, cX12_count, 2, (some .int))
abbrev Y_X12_status : My := (yX12_status, cX12_status, 4, (some .int))
theorem wt_12 : (Cond.initialized "PenAcresModel") ∈ wG := wG_mem (List.mem_of_getElem? (i := 12) (by decide +kernel)) rfl
theorem wt_910 : (Cond.fieldLink "PenAcresModel" 7 "PenAcresModel" "s" "[I") ∈ wG := wG_mem (List.mem_of_getElem? (i := 910) (by decide +kernel)) rfl
theorem wt_911 : (Cond.fieldLink "PenAcresModel" 13 "PenAcresModel" "keptS" "[I") ∈ wG := wG_mem (List.mem_of_getElem? (i := 911) (by decide +kernel)) rfl
theorem wt_912 : (Cond.fieldLink "PenAcresModel" 16 "PenAcresModel" "other" "[I") ∈ wG := wG_mem (List.mem_of_getElem? (i := 912) (by decide +kernel)) rfl
theorem wt_913 : (Cond.fieldLink "PenAcresModel" 19 "PenAcresModel" "aside" "[I") ∈ wG := wG_mem (List.mem_of_getElem? (i := 913) (by decide +kernel)) rfl
theorem wt_914 : (Cond.fieldLink "PenAcresModel" 22 "PenAcresModel" "statuses" "[I") ∈ wG := wG_mem (List.mem_of_getElem? (i := 914) (by decide +kernel)) rfl
theorem wt_915 : (Cond.fieldLink "PenAcresModel" 325 "PenAcresModel" "isKept" "Z") ∈ wG := wG_mem (List.mem_of_getElem? (i := 915) (by decide +kernel)) rfl
theorem wt_916 : (Cond.fieldLink "PenAcresModel" 25 "PenAcresModel" "lines" "[J") ∈ wG := wG_mem (List.mem_of_getElem? (i := 916) (by decide +kernel)) rfl
theorem wt_917 : (Cond.fieldLink "PenAcresModel" 29 "PenAcresModel" "insides" "[J") ∈ wG := wG_mem (List.mem_of_getElem? (i := 917) (by decide +kernel)) rfl
theorem wt_918 : (Cond.fieldLink "PenAcresModel" 32 "PenAcresModel" "costs" "[I") ∈ wG := wG_mem (List.mem_of_getElem? (i := 918) (by decide +kernel)) rfl
theorem wt_919 : (Cond.fieldLink "PenAcresModel" 35 "PenAcresModel" "owned" "[I") ∈ wG := wG_mem (List.mem_of_getElem? (i := 919) (by decide +kernel)) rfl
theorem wt_920 : (Cond.fieldLink "PenAcresModel" 38 "PenAcresModel" "tape" "[I") ∈ wG := wG_mem (List.mem_of_getElem? (i := 920) (by decide +kernel)) rfl
theorem wt_921 : (Cond.fieldLink "PenAcresModel" 212 "PenAcresModel" "taped" "I") ∈ wG := wG_mem (List.mem_of_getElem? (i := 921) (by decide +kernel)) rfl
theorem wt_922 : (Cond.fieldLink "PenAcresModel" 227 "PenAcresModel" "from" "I") ∈ wG := wG_mem (List.mem_of_getElem? (i := 922) (by decide +kernel)) rfl
theorem wt_923 : (Cond.fieldLink "PenAcresModel" 224 "PenAcresModel" "to" "I") ∈ wG := wG_mem (List.mem_of_getElem? (i := 923) (by decide +kernel)) rfl
theorem wt_924 : (Cond.fieldLink "PenAcresModel" 250 "PenAcresModel" "value" "I") ∈ wG := wG_mem (List.mem_of_getElem? (i := 924) (by decide +kernel)) rfl
theorem wt_925 : (Cond.fieldLink "PenAcresModel" 239 "PenAcresModel" "isWrong" "Z") ∈ wG := wG_mem (List.mem_of_getElem? (i := 925) (by decide +kernel)) rfl
theorem wt_926 : (Cond.fieldLink "PenAcresModel" 41 "PenAcresModel" "bitsOf" "[I") ∈ wG := wG_mem (List.mem_of_getElem? (i := 926) (by decide +kernel)) rfl
theorem wt_927 : (Cond.fieldLink "PenAcresModel" 44 "PenAcresModel" "sizeOf" "[I") ∈ wG := wG_mem (List.mem_of_getElem? (i := 927) (by decide +kernel)) rfl
theorem wt_928 : (Cond.fieldLink "PenAcresModel" 47 "PenAcresModel" "numbers" "[J") ∈ wG := wG_mem (List.mem_of_getElem? (i := 928) (by decide +kernel)) rfl
theorem wt_929 : (Cond.fieldLink "PenAcresModel" 50 "PenAcresModel" "moved" "[J") ∈ wG := wG_mem (List.mem_of_getElem? (i := 929) (by decide +kernel)) rfl
theorem wt_974 : (Cond.code ⟨"PenAcresModel", "smudge", "(II)I"⟩ prog_14_method_30_code 3 (Option.some Jvm.ClassFile.FieldType.int)) ∈ wG := wG_mem (List.mem_of_getElem? (i := 974) (by decide +kernel)) rfl
theorem wt_975 : (Cond.methodLink "PenAcresModel" 115 ⟨"PenAcresModel", "isCell", "(I)Z"⟩) ∈ wG := wG_mem (List.mem_of_getElem? (i := 975) (by decide +kernel)) rfl
theorem wt_976 : (Cond.static ⟨"PenAcresModel", "isCell", "(I)Z"⟩) ∈ wG := wG_mem (List.mem_of_getElem? (i := 976) (by decide +kernel)) rfl
theorem wt_977 : (Cond.code ⟨"PenAcresModel", "isCell", "(I)Z"⟩ prog_14_method_9_code 1 (Option.some Jvm.ClassFile.FieldType.boolean)) ∈ wG := wG_mem (List.mem_of_getElem? (i := 977) (by decide +kernel)) rfl
theorem wt_978 : (Cond.constantLong "PenAcresModel" 54 (47 : Int64)) ∈ wG := wG_mem (List.mem_of_getElem? (i := 978) (by decide +kernel)) rfl
theorem wt_979 : (Cond.methodLink "PenAcresModel" 56 ⟨"PenAcresModel", "in", "(JJJ)Z"⟩) ∈ wG := wG_mem (List.mem_of_getElem? (i := 979) (by decide +kernel)) rfl
theorem wt_980 : (Cond.static ⟨"PenAcresModel", "in", "(JJJ)Z"⟩) ∈ wG := wG_mem (List.mem_of_getElem? (i := 980) (by decide +kernel)) rfl
theorem wt_981 : (Cond.code ⟨"PenAcresModel", "in", "(JJJ)Z"⟩ prog_14_method_2_code 6 (Option.some Jvm.ClassFile.FieldType.boolean)) ∈ wG := wG_mem (List.mem_of_getElem? (i := 981) (by decide +kernel)) rfl
theorem wt_982 : (Cond.methodLink "PenAcresModel" 118 ⟨"PenAcresModel", "becomes", "(II)I"⟩) ∈ wG := wG_mem (List.mem_of_getElem? (i := 982) (by decide +kernel)) rfl
theorem wt_984 : (Cond.instanceMethod ⟨"PenAcresModel", "becomes", "(II)I"⟩) ∈ wG := wG_mem (List.mem_of_getElem? (i := 984) (by decide +kernel)) rfl
theorem wt_985 : (Cond.code ⟨"PenAcresModel", "becomes", "(II)I"⟩ prog_14_method_8_code 4 (Option.some Jvm.ClassFile.FieldType.int)) ∈ wG := wG_mem (List.mem_of_getElem? (i := 985) (by decide +kernel)) rfl
theorem wt_986 : (Cond.constant "PenAcresModel" 53 (-1000000001 : Int32)) ∈ wG := wG_mem (List.mem_of_getElem? (i := 986) (by decide +kernel)) rfl
theorem wt_987 : (Cond.methodLink "PenAcresModel" 121 ⟨"PenAcresModel", "finds", "(I)I"⟩) ∈ wG := wG_mem (List.mem_of_getElem? (i := 987) (by decide +kernel)) rfl
theorem wt_989 : (Cond.instanceMethod ⟨"PenAcresModel", "finds", "(I)I"⟩) ∈ wG := wG_mem (List.mem_of_getElem? (i := 989) (by decide +kernel)) rfl
theorem wt_990 : (Cond.code ⟨"PenAcresModel", "finds", "(I)I"⟩ prog_14_method_3_code 2 (Option.some Jvm.ClassFile.FieldType.int)) ∈ wG := wG_mem (List.mem_of_getElem? (i := 990) (by decide +kernel)) rfl
theorem wt_994 : (Cond.code ⟨"PenAcresModel", "cell", "(II)I"⟩ prog_14_method_32_code 3 (Option.some Jvm.ClassFile.FieldType.int)) ∈ wG := wG_mem (List.mem_of_getElem? (i := 994) (by decide +kernel)) rfl
theorem wt_995 : (Cond.constantLong "PenAcresModel" 62 (3 : Int64)) ∈ wG := wG_mem (List.mem_of_getElem? (i := 995) (by decide +kernel)) rfl
theorem wt_996 : (Cond.methodLink "PenAcresModel" 124 ⟨"PenAcresModel", "writeAll", "()V"⟩) ∈ wG := wG_mem (List.mem_of_getElem? (i := 996) (by decide +kernel)) rfl
theorem wt_998 : (Cond.instanceMethod ⟨"PenAcresModel", "writeAll", "()V"⟩) ∈ wG := wG_mem (List.mem_of_getElem? (i := 998) (by decide +kernel)) rfl
theorem wt_999 : (Cond.code ⟨"PenAcresModel", "writeAll", "()V"⟩ prog_14_method_25_code 4 (Option.none : Option Jvm.ClassFile.FieldType)) ∈ wG := wG_mem (List.mem_of_getElem? (i := 999) (by decide +kernel)) rfl
theorem wt_1000 : (Cond.methodLink "PenAcresModel" 92 ⟨"PenAcresModel", "smudges", "()J"⟩) ∈ wG := wG_mem (List.mem_of_getElem? (i := 1000) (by decide +kernel)) rfl
theorem wt_1002 : (Cond.instanceMethod ⟨"PenAcresModel", "smudges", "()J"⟩) ∈ wG := wG_mem (List.mem_of_getElem? (i := 1002) (by decide +kernel)) rfl
theorem wt_1003 : (Cond.code ⟨"PenAcresModel", "smudges", "()J"⟩ prog_14_method_22_code 4 (Option.some Jvm.ClassFile.FieldType.long)) ∈ wG := wG_mem (List.mem_of_getElem? (i := 1003) (by decide +kernel)) rfl
theorem wt_1004 : (Cond.methodLink "PenAcresModel" 96 ⟨"PenAcresModel", "draws", "(IJ)V"⟩) ∈ wG := wG_mem (List.mem_of_getElem? (i := 1004) (by decide +kernel)) rfl
theorem wt_1006 : (Cond.instanceMethod ⟨"PenAcresModel", "draws", "(IJ)V"⟩) ∈ wG := wG_mem (List.mem_of_getElem? (i := 1006) (by decide +kernel)) rfl
theorem wt_1007 : (Cond.code ⟨"PenAcresModel", "draws", "(IJ)V"⟩ prog_14_method_23_code 12 (Option.none : Option Jvm.ClassFile.FieldType)) ∈ wG := wG_mem (List.mem_of_getElem? (i := 1007) (by decide +kernel)) rfl
theorem wt_1008 : (Cond.methodLink "PenAcresModel" 68 ⟨"PenAcresModel", "its", "(II)I"⟩) ∈ wG := wG_mem (List.mem_of_getElem? (i := 1008) (by decide +kernel)) rfl
theorem wt_1010 : (Cond.instanceMethod ⟨"PenAcresModel", "its", "(II)I"⟩) ∈ wG := wG_mem (List.mem_of_getElem? (i := 1010) (by decide +kernel)) rfl
theorem wt_1011 : (Cond.code ⟨"PenAcresModel", "its", "(II)I"⟩ prog_14_method_14_code 3 (Option.some Jvm.ClassFile.FieldType.int)) ∈ wG := wG_mem (List.mem_of_getElem? (i := 1011) (by decide +kernel)) rfl
theorem wt_1012 : (Cond.methodLink "PenAcresModel" 64 ⟨"PenAcresModel", "spot", "(II)I"⟩) ∈ wG := wG_mem (List.mem_of_getElem? (i := 1012) (by decide +kernel)) rfl
theorem wt_1013 : (Cond.static ⟨"PenAcresModel", "spot", "(II)I"⟩) ∈ wG := wG_mem (List.mem_of_getElem? (i := 1013) (by decide +kernel)) rfl
theorem wt_1014 : (Cond.code ⟨"PenAcresModel", "spot", "(II)I"⟩ prog_14_method_13_code 2 (Option.some Jvm.ClassFile.FieldType.int)) ∈ wG := wG_mem (List.mem_of_getElem? (i := 1014) (by decide +kernel)) rfl
theorem wt_1015 : (Cond.methodLink "PenAcresModel" 71 ⟨"PenAcresModel", "turned", "(II)I"⟩) ∈ wG := wG_mem (List.mem_of_getElem? (i := 1015) (by decide +kernel)) rfl
theorem wt_1017 : (Cond.instanceMethod ⟨"PenAcresModel", "turned", "(II)I"⟩) ∈ wG := wG_mem (List.mem_of_getElem? (i := 1017) (by decide +kernel)) rfl
theorem wt_1018 : (Cond.code ⟨"PenAcresModel", "turned", "(II)I"⟩ prog_14_method_18_code 4 (Option.some Jvm.ClassFile.FieldType.int)) ∈ wG := wG_mem (List.mem_of_getElem? (i := 1018) (by decide +kernel)) rfl
theorem wt_1019 : (Cond.methodLink "PenAcresModel" 74 ⟨"PenAcresModel", "stepsOf", "(II)I"⟩) ∈ wG := wG_mem (List.mem_of_getElem? (i := 1019) (by decide +kernel)) rfl
theorem wt_1021 : (Cond.instanceMethod ⟨"PenAcresModel", "stepsOf", "(II)I"⟩) ∈ wG := wG_mem (List.mem_of_getElem? (i := 1021) (by decide +kernel)) rfl
theorem wt_1022 : (Cond.code ⟨"PenAcresModel", "stepsOf", "(II)I"⟩ prog_14_method_17_code 5 (Option.some Jvm.ClassFile.FieldType.int)) ∈ wG := wG_mem (List.mem_of_getElem? (i := 1022) (by decide +kernel)) rfl
theorem wt_1023 : (Cond.methodLink "PenAcresModel" 77 ⟨"PenAcresModel", "beside", "(II)I"⟩) ∈ wG := wG_mem (List.mem_of_getElem? (i := 1023) (by decide +kernel)) rfl
theorem wt_1024 : (Cond.static ⟨"PenAcresModel", "beside", "(II)I"⟩) ∈ wG := wG_mem (List.mem_of_getElem? (i := 1024) (by decide +kernel)) rfl
theorem wt_1025 : (Cond.code ⟨"PenAcresModel", "beside", "(II)I"⟩ prog_14_method_20_code 4 (Option.some Jvm.ClassFile.FieldType.int)) ∈ wG := wG_mem (List.mem_of_getElem? (i := 1025) (by decide +kernel)) rfl
theorem wt_1026 : (Cond.constantLong "PenAcresModel" 80 (-1 : Int64)) ∈ wG := wG_mem (List.mem_of_getElem? (i := 1026) (by decide +kernel)) rfl
theorem wt_1027 : (Cond.methodLink "PenAcresModel" 100 ⟨"PenAcresModel", "insideOf", "(J)J"⟩) ∈ wG := wG_mem (List.mem_of_getElem? (i := 1027) (by decide +kernel)) rfl
theorem wt_1028 : (Cond.static ⟨"PenAcresModel", "insideOf", "(J)J"⟩) ∈ wG := wG_mem (List.mem_of_getElem? (i := 1028) (by decide +kernel)) rfl
theorem wt_1029 : (Cond.code ⟨"PenAcresModel", "insideOf", "(J)J"⟩ prog_14_method_24_code 9 (Option.some Jvm.ClassFile.FieldType.long)) ∈ wG := wG_mem (List.mem_of_getElem? (i := 1029) (by decide +kernel)) rfl
theorem wt_1030 : (Cond.methodLink "PenAcresModel" 82 ⟨"PenAcresModel", "isEdge", "(I)Z"⟩) ∈ wG := wG_mem (List.mem_of_getElem? (i := 1030) (by decide +kernel)) rfl
theorem wt_1031 : (Cond.static ⟨"PenAcresModel", "isEdge", "(I)Z"⟩) ∈ wG := wG_mem (List.mem_of_getElem? (i := 1031) (by decide +kernel)) rfl
theorem wt_1032 : (Cond.code ⟨"PenAcresModel", "isEdge", "(I)Z"⟩ prog_14_method_21_code 3 (Option.some Jvm.ClassFile.FieldType.boolean)) ∈ wG := wG_mem (List.mem_of_getElem? (i := 1032) (by decide +kernel)) rfl
theorem wt_1033 : (Cond.methodLink "PenAcresModel" 86 ⟨"PenAcresModel", "has", "(JI)Z"⟩) ∈ wG := wG_mem (List.mem_of_getElem? (i := 1033) (by decide +kernel)) rfl
theorem wt_1034 : (Cond.static ⟨"PenAcresModel", "has", "(JI)Z"⟩) ∈ wG := wG_mem (List.mem_of_getElem? (i := 1034) (by decide +kernel)) rfl
theorem wt_1035 : (Cond.code ⟨"PenAcresModel", "has", "(JI)Z"⟩ prog_14_method_15_code 3 (Option.some Jvm.ClassFile.FieldType.boolean)) ∈ wG := wG_mem (List.mem_of_getElem? (i := 1035) (by decide +kernel)) rfl
theorem wt_1036 : (Cond.constantLong "PenAcresModel" 90 (281474976710655 : Int64)) ∈ wG := wG_mem (List.mem_of_getElem? (i := 1036) (by decide +kernel)) rfl
theorem wt_1037 : (Cond.methodLink "PenAcresModel" 111 ⟨"PenAcresModel", "ownerOf", "(I)I"⟩) ∈ wG := wG_mem (List.mem_of_getElem? (i := 1037) (by decide +kernel)) rfl
theorem wt_1039 : (Cond.instanceMethod ⟨"PenAcresModel", "ownerOf", "(I)I"⟩) ∈ wG := wG_mem (List.mem_of_getElem? (i := 1039) (by decide +kernel)) rfl
theorem wt_1040 : (Cond.code ⟨"PenAcresModel", "ownerOf", "(I)I"⟩ prog_14_method_28_code 5 (Option.some Jvm.ClassFile.FieldType.int)) ∈ wG := wG_mem (List.mem_of_getElem? (i := 1040) (by decide +kernel)) rfl
theorem wt_1041 : (Cond.methodLink "PenAcresModel" 108 ⟨"PenAcresModel", "writes", "(I)Z"⟩) ∈ wG := wG_mem (List.mem_of_getElem? (i := 1041) (by decide +kernel)) rfl
theorem wt_1043 : (Cond.instanceMethod ⟨"PenAcresModel", "writes", "(I)Z"⟩) ∈ wG := wG_mem (List.mem_of_getElem? (i := 1043) (by decide +kernel)) rfl
theorem wt_1044 : (Cond.code ⟨"PenAcresModel", "writes", "(I)Z"⟩ prog_14_method_27_code 2 (Option.some Jvm.ClassFile.FieldType.boolean)) ∈ wG := wG_mem (List.mem_of_getElem? (i := 1044) (by decide +kernel)) rfl
theorem wt_1045 : (Cond.methodLink "PenAcresModel" 127 ⟨"PenAcresModel", "thoseWith", "(IZ)I"⟩) ∈ wG := wG_mem (List.mem_of_getElem? (i := 1045) (by decide +kernel)) rfl
theorem wt_1047 : (Cond.instanceMethod ⟨"PenAcresModel", "thoseWith", "(IZ)I"⟩) ∈ wG := wG_mem (List.mem_of_getElem? (i := 1047) (by decide +kernel)) rfl
theorem wt_1048 : (Cond.code ⟨"PenAcresModel", "thoseWith", "(IZ)I"⟩ prog_14_method_31_code 5 (Option.some Jvm.ClassFile.FieldType.int)) ∈ wG := wG_mem (List.mem_of_getElem? (i := 1048) (by decide +kernel)) rfl
theorem wt_1052 : (Cond.code ⟨"PenAcresModel", "cells", "(I)J"⟩ prog_14_method_34_code 5 (Option.some Jvm.ClassFile.FieldType.long)) ∈ wG := wG_mem (List.mem_of_getElem? (i := 1052) (by decide +kernel)) rfl
theorem wt_1053 : (Cond.constantLong "PenAcresModel" 131 (2 : Int64)) ∈ wG := wG_mem (List.mem_of_getElem? (i := 1053) (by decide +kernel)) rfl
theorem wt_1054 : (Cond.methodLink "PenAcresModel" 133 ⟨"PenAcresModel", "writersInside", "(I)I"⟩) ∈ wG := wG_mem (List.mem_of_getElem? (i := 1054) (by decide +kernel)) rfl
theorem wt_1056 : (Cond.instanceMethod ⟨"PenAcresModel", "writersInside", "(I)I"⟩) ∈ wG := wG_mem (List.mem_of_getElem? (i := 1056) (by decide +kernel)) rfl
theorem wt_1057 : (Cond.code ⟨"PenAcresModel", "writersInside", "(I)I"⟩ prog_14_method_33_code 4 (Option.some Jvm.ClassFile.FieldType.int)) ∈ wG := wG_mem (List.mem_of_getElem? (i := 1057) (by decide +kernel)) rfl
theorem wt_1061 : (Cond.code ⟨"PenAcresModel", "hand", "(II)I"⟩ prog_14_method_36_code 3 (Option.some Jvm.ClassFile.FieldType.int)) ∈ wG := wG_mem (List.mem_of_getElem? (i := 1061) (by decide +kernel)) rfl
theorem wt_1062 : (Cond.methodLink "PenAcresModel" 136 ⟨"PenAcresModel", "isKind", "(I)Z"⟩) ∈ wG := wG_mem (List.mem_of_getElem? (i := 1062) (by decide +kernel)) rfl
theorem wt_1063 : (Cond.static ⟨"PenAcresModel", "isKind", "(I)Z"⟩) ∈ wG := wG_mem (List.mem_of_getElem? (i := 1063) (by decide +kernel)) rfl
theorem wt_1064 : (Cond.code ⟨"PenAcresModel", "isKind", "(I)Z"⟩ prog_14_method_11_code 1 (Option.some Jvm.ClassFile.FieldType.boolean)) ∈ wG := wG_mem (List.mem_of_getElem? (i := 1064) (by decide +kernel)) rfl
theorem wt_1065 : (Cond.constantLong "PenAcresModel" 60 (5 : Int64)) ∈ wG := wG_mem (List.mem_of_getElem? (i := 1065) (by decide +kernel)) rfl
theorem wt_1066 : (Cond.constant "PenAcresModel" 139 (-1000000002 : Int32)) ∈ wG := wG_mem (List.mem_of_getElem? (i := 1066) (by decide +kernel)) rfl
theorem wt_1067 : (Cond.methodLink "PenAcresModel" 140 ⟨"PenAcresModel", "adds", "(II)I"⟩) ∈ wG := wG_mem (List.mem_of_getElem? (i := 1067) (by decide +kernel)) rfl
theorem wt_1069 : (Cond.instanceMethod ⟨"PenAcresModel", "adds", "(II)I"⟩) ∈ wG := wG_mem (List.mem_of_getElem? (i := 1069) (by decide +kernel)) rfl
theorem wt_1070 : (Cond.code ⟨"PenAcresModel", "adds", "(II)I"⟩ prog_14_method_35_code 5 (Option.some Jvm.ClassFile.FieldType.int)) ∈ wG := wG_mem (List.mem_of_getElem? (i := 1070) (by decide +kernel)) rfl
theorem wt_1074 : (Cond.code ⟨"PenAcresModel", "stroke", "(III)I"⟩ prog_14_method_38_code 4 (Option.some Jvm.ClassFile.FieldType.int)) ∈ wG := wG_mem (List.mem_of_getElem? (i := 1074) (by decide +kernel)) rfl
theorem wt_1075 : (Cond.methodLink "PenAcresModel" 143 ⟨"PenAcresModel", "isHand", "(I)Z"⟩) ∈ wG := wG_mem (List.mem_of_getElem? (i := 1075) (by decide +kernel)) rfl
theorem wt_1077 : (Cond.instanceMethod ⟨"PenAcresModel", "isHand", "(I)Z"⟩) ∈ wG := wG_mem (List.mem_of_getElem? (i := 1077) (by decide +kernel)) rfl
theorem wt_1078 : (Cond.code ⟨"PenAcresModel", "isHand", "(I)Z"⟩ prog_14_method_10_code 2 (Option.some Jvm.ClassFile.FieldType.boolean)) ∈ wG := wG_mem (List.mem_of_getElem? (i := 1078) (by decide +kernel)) rfl
theorem wt_1079 : (Cond.methodLink "PenAcresModel" 146 ⟨"PenAcresModel", "isWay", "(I)Z"⟩) ∈ wG := wG_mem (List.mem_of_getElem? (i := 1079) (by decide +kernel)) rfl
theorem wt_1080 : (Cond.static ⟨"PenAcresModel", "isWay", "(I)Z"⟩) ∈ wG := wG_mem (List.mem_of_getElem? (i := 1080) (by decide +kernel)) rfl
theorem wt_1081 : (Cond.code ⟨"PenAcresModel", "isWay", "(I)Z"⟩ prog_14_method_12_code 1 (Option.some Jvm.ClassFile.FieldType.boolean)) ∈ wG := wG_mem (List.mem_of_getElem? (i := 1081) (by decide +kernel)) rfl
theorem wt_1082 : (Cond.constantLong "PenAcresModel" 149 (7 : Int64)) ∈ wG := wG_mem (List.mem_of_getElem? (i := 1082) (by decide +kernel)) rfl
theorem wt_1083 : (Cond.methodLink "PenAcresModel" 151 ⟨"PenAcresModel", "strokes", "(III)I"⟩) ∈ wG := wG_mem (List.mem_of_getElem? (i := 1083) (by decide +kernel)) rfl
theorem wt_1085 : (Cond.instanceMethod ⟨"PenAcresModel", "strokes", "(III)I"⟩) ∈ wG := wG_mem (List.mem_of_getElem? (i := 1085) (by decide +kernel)) rfl
theorem wt_1086 : (Cond.code ⟨"PenAcresModel", "strokes", "(III)I"⟩ prog_14_method_37_code 5 (Option.some Jvm.ClassFile.FieldType.int)) ∈ wG := wG_mem (List.mem_of_getElem? (i := 1086) (by decide +kernel)) rfl
theorem wt_1090 : (Cond.code ⟨"PenAcresModel", "of", "(II)I"⟩ prog_14_method_39_code 3 (Option.some Jvm.ClassFile.FieldType.int)) ∈ wG := wG_mem (List.mem_of_getElem? (i := 1090) (by decide +kernel)) rfl
theorem wt_1091 : (Cond.constantLong "PenAcresModel" 155 (9 : Int64)) ∈ wG := wG_mem (List.mem_of_getElem? (i := 1091) (by decide +kernel)) rfl
theorem wt_1092 : (Cond.methodLink "PenAcresModel" 104 ⟨"PenAcresModel", "ones", "(J)I"⟩) ∈ wG := wG_mem (List.mem_of_getElem? (i := 1092) (by decide +kernel)) rfl
theorem wt_1093 : (Cond.static ⟨"PenAcresModel", "ones", "(J)I"⟩) ∈ wG := wG_mem (List.mem_of_getElem? (i := 1093) (by decide +kernel)) rfl
theorem wt_1094 : (Cond.code ⟨"PenAcresModel", "ones", "(J)I"⟩ prog_14_method_16_code 5 (Option.some Jvm.ClassFile.FieldType.int)) ∈ wG := wG_mem (List.mem_of_getElem? (i := 1094) (by decide +kernel)) rfl
theorem wt_1095 : (Cond.methodLink "PenAcresModel" 157 ⟨"PenAcresModel", "ownedBy", "(I)I"⟩) ∈ wG := wG_mem (List.mem_of_getElem? (i := 1095) (by decide +kernel)) rfl
theorem wt_1097 : (Cond.instanceMethod ⟨"PenAcresModel", "ownedBy", "(I)I"⟩) ∈ wG := wG_mem (List.mem_of_getElem? (i := 1097) (by decide +kernel)) rfl
theorem wt_1098 : (Cond.code ⟨"PenAcresModel", "ownedBy", "(I)I"⟩ prog_14_method_29_code 4 (Option.some Jvm.ClassFile.FieldType.int)) ∈ wG := wG_mem (List.mem_of_getElem? (i := 1098) (by decide +kernel)) rfl
theorem wt_1099 : (Cond.methodLink "PenAcresModel" 160 ⟨"PenAcresModel", "cropOf", "(I)I"⟩) ∈ wG := wG_mem (List.mem_of_getElem? (i := 1099) (by decide +kernel)) rfl
theorem wt_1101 : (Cond.instanceMethod ⟨"PenAcresModel", "cropOf", "(I)I"⟩) ∈ wG := wG_mem (List.mem_of_getElem? (i := 1101) (by decide +kernel)) rfl
theorem wt_1102 : (Cond.code ⟨"PenAcresModel", "cropOf", "(I)I"⟩ prog_14_method_19_code 2 (Option.some Jvm.ClassFile.FieldType.int)) ∈ wG := wG_mem (List.mem_of_getElem? (i := 1102) (by decide +kernel)) rfl
theorem wt_1106 : (Cond.code ⟨"PenAcresModel", "told", "(III)I"⟩ prog_14_method_41_code 4 (Option.some Jvm.ClassFile.FieldType.int)) ∈ wG := wG_mem (List.mem_of_getElem? (i := 1106) (by decide +kernel)) rfl
theorem wt_1107 : (Cond.methodLink "PenAcresModel" 163 ⟨"PenAcresModel", "isStroke", "(II)Z"⟩) ∈ wG := wG_mem (List.mem_of_getElem? (i := 1107) (by decide +kernel)) rfl
theorem wt_1109 : (Cond.instanceMethod ⟨"PenAcresModel", "isStroke", "(II)Z"⟩) ∈ wG := wG_mem (List.mem_of_getElem? (i := 1109) (by decide +kernel)) rfl
theorem wt_1110 : (Cond.code ⟨"PenAcresModel", "isStroke", "(II)Z"⟩ prog_14_method_40_code 3 (Option.some Jvm.ClassFile.FieldType.boolean)) ∈ wG := wG_mem (List.mem_of_getElem? (i := 1110) (by decide +kernel)) rfl
theorem wt_1114 : (Cond.code ⟨"PenAcresModel", "set", "(III)I"⟩ prog_14_method_42_code 5 (Option.some Jvm.ClassFile.FieldType.int)) ∈ wG := wG_mem (List.mem_of_getElem? (i := 1114) (by decide +kernel)) rfl
theorem wt_1115 : (Cond.constantLong "PenAcresModel" 167 (999 : Int64)) ∈ wG := wG_mem (List.mem_of_getElem? (i := 1115) (by decide +kernel)) rfl
theorem wt_1119 : (Cond.code ⟨"PenAcresModel", "alter", "(IIII)I"⟩ prog_14_method_43_code 6 (Option.some Jvm.ClassFile.FieldType.int)) ∈ wG := wG_mem (List.mem_of_getElem? (i := 1119) (by decide +kernel)) rfl
theorem wt_1123 : (Cond.code ⟨"PenAcresModel", "cut", "(II)I"⟩ prog_14_method_44_code 3 (Option.some Jvm.ClassFile.FieldType.int)) ∈ wG := wG_mem (List.mem_of_getElem? (i := 1123) (by decide +kernel)) rfl
theorem wt_1127 : (Cond.code ⟨"PenAcresModel", "turn", "(II)I"⟩ prog_14_method_45_code 3 (Option.some Jvm.ClassFile.FieldType.int)) ∈ wG := wG_mem (List.mem_of_getElem? (i := 1127) (by decide +kernel)) rfl
theorem wt_1131 : (Cond.code ⟨"PenAcresModel", "as", "(II)I"⟩ prog_14_method_47_code 3 (Option.some Jvm.ClassFile.FieldType.int)) ∈ wG := wG_mem (List.mem_of_getElem? (i := 1131) (by decide +kernel)) rfl
theorem wt_1132 : (Cond.methodLink "PenAcresModel" 169 ⟨"PenAcresModel", "isUnder", "(II)Z"⟩) ∈ wG := wG_mem (List.mem_of_getElem? (i := 1132) (by decide +kernel)) rfl
theorem wt_1133 : (Cond.static ⟨"PenAcresModel", "isUnder", "(II)Z"⟩) ∈ wG := wG_mem (List.mem_of_getElem? (i := 1133) (by decide +kernel)) rfl
theorem wt_1134 : (Cond.code ⟨"PenAcresModel", "isUnder", "(II)Z"⟩ prog_14_method_46_code 2 (Option.some Jvm.ClassFile.FieldType.boolean)) ∈ wG := wG_mem (List.mem_of_getElem? (i := 1134) (by decide +kernel)) rfl
theorem wt_1135 : (Cond.constant "PenAcresModel" 172 (-1000000003 : Int32)) ∈ wG := wG_mem (List.mem_of_getElem? (i := 1135) (by decide +kernel)) rfl
theorem wt_1139 : (Cond.code ⟨"PenAcresModel", "line", "(I)J"⟩ prog_14_method_48_code 2 (Option.some Jvm.ClassFile.FieldType.long)) ∈ wG := wG_mem (List.mem_of_getElem? (i := 1139) (by decide +kernel)) rfl
theorem wt_1143 : (Cond.code ⟨"PenAcresModel", "inside", "(I)J"⟩ prog_14_method_49_code 2 (Option.some Jvm.ClassFile.FieldType.long)) ∈ wG := wG_mem (List.mem_of_getElem? (i := 1143) (by decide +kernel)) rfl
theorem wt_1147 : (Cond.code ⟨"PenAcresModel", "years", "(I)I"⟩ prog_14_method_53_code 2 (Option.some Jvm.ClassFile.FieldType.int)) ∈ wG := wG_mem (List.mem_of_getElem? (i := 1147) (by decide +kernel)) rfl
theorem wt_1148 : (Cond.constantLong "PenAcresModel" 177 (60 : Int64)) ∈ wG := wG_mem (List.mem_of_getElem? (i := 1148) (by decide +kernel)) rfl
theorem wt_1149 : (Cond.constant "PenAcresModel" 179 (-1000000005 : Int32)) ∈ wG := wG_mem (List.mem_of_getElem? (i := 1149) (by decide +kernel)) rfl
theorem wt_1150 : (Cond.methodLink "PenAcresModel" 180 ⟨"PenAcresModel", "goesOn", "(I)V"⟩) ∈ wG := wG_mem (List.mem_of_getElem? (i := 1150) (by decide +kernel)) rfl
theorem wt_1152 : (Cond.instanceMethod ⟨"PenAcresModel", "goesOn", "(I)V"⟩) ∈ wG := wG_mem (List.mem_of_getElem? (i := 1152) (by decide +kernel)) rfl
theorem wt_1153 : (Cond.code ⟨"PenAcresModel", "goesOn", "(I)V"⟩ prog_14_method_51_code 3 (Option.none : Option Jvm.ClassFile.FieldType)) ∈ wG := wG_mem (List.mem_of_getElem? (i := 1153) (by decide +kernel)) rfl
theorem wt_1154 : (Cond.methodLink "PenAcresModel" 174 ⟨"PenAcresModel", "year", "()V"⟩) ∈ wG := wG_mem (List.mem_of_getElem? (i := 1154) (by decide +kernel)) rfl
theorem wt_1156 : (Cond.instanceMethod ⟨"PenAcresModel", "year", "()V"⟩) ∈ wG := wG_mem (List.mem_of_getElem? (i := 1156) (by decide +kernel)) rfl
theorem wt_1157 : (Cond.code ⟨"PenAcresModel", "year", "()V"⟩ prog_14_method_50_code 4 (Option.none : Option Jvm.ClassFile.FieldType)) ∈ wG := wG_mem (List.mem_of_getElem? (i := 1157) (by decide +kernel)) rfl
theorem wt_1158 : (Cond.constant "PenAcresModel" 173 (99999 : Int32)) ∈ wG := wG_mem (List.mem_of_getElem? (i := 1158) (by decide +kernel)) rfl
theorem wt_1159 : (Cond.methodLink "PenAcresModel" 184 ⟨"PenAcresModel", "together", "(I)I"⟩) ∈ wG := wG_mem (List.mem_of_getElem? (i := 1159) (by decide +kernel)) rfl
theorem wt_1161 : (Cond.instanceMethod ⟨"PenAcresModel", "together", "(I)I"⟩) ∈ wG := wG_mem (List.mem_of_getElem? (i := 1161) (by decide +kernel)) rfl
theorem wt_1162 : (Cond.code ⟨"PenAcresModel", "together", "(I)I"⟩ prog_14_method_52_code 4 (Option.some Jvm.ClassFile.FieldType.int)) ∈ wG := wG_mem (List.mem_of_getElem? (i := 1162) (by decide +kernel)) rfl
theorem wt_1166 : (Cond.code ⟨"PenAcresModel", "now", "(I)I"⟩ prog_14_method_55_code 2 (Option.some Jvm.ClassFile.FieldType.int)) ∈ wG := wG_mem (List.mem_of_getElem? (i := 1166) (by decide +kernel)) rfl
theorem wt_1167 : (Cond.methodLink "PenAcresModel" 187 ⟨"PenAcresModel", "thoseThatWrite", "()I"⟩) ∈ wG := wG_mem (List.mem_of_getElem? (i := 1167) (by decide +kernel)) rfl
theorem wt_1169 : (Cond.instanceMethod ⟨"PenAcresModel", "thoseThatWrite", "()I"⟩) ∈ wG := wG_mem (List.mem_of_getElem? (i := 1169) (by decide +kernel)) rfl
theorem wt_1170 : (Cond.code ⟨"PenAcresModel", "thoseThatWrite", "()I"⟩ prog_14_method_54_code 3 (Option.some Jvm.ClassFile.FieldType.int)) ∈ wG := wG_mem (List.mem_of_getElem? (i := 1170) (by decide +kernel)) rfl
theorem wt_1174 : (Cond.code ⟨"PenAcresModel", "on", "(III)I"⟩ prog_14_method_57_code 4 (Option.some Jvm.ClassFile.FieldType.int)) ∈ wG := wG_mem (List.mem_of_getElem? (i := 1174) (by decide +kernel)) rfl
theorem wt_1175 : (Cond.methodLink "PenAcresModel" 191 ⟨"PenAcresModel", "laysAside", "()V"⟩) ∈ wG := wG_mem (List.mem_of_getElem? (i := 1175) (by decide +kernel)) rfl
theorem wt_1177 : (Cond.instanceMethod ⟨"PenAcresModel", "laysAside", "()V"⟩) ∈ wG := wG_mem (List.mem_of_getElem? (i := 1177) (by decide +kernel)) rfl
theorem wt_1178 : (Cond.code ⟨"PenAcresModel", "laysAside", "()V"⟩ prog_14_method_6_code 2 (Option.none : Option Jvm.ClassFile.FieldType)) ∈ wG := wG_mem (List.mem_of_getElem? (i := 1178) (by decide +kernel)) rfl
theorem wt_1179 : (Cond.methodLink "PenAcresModel" 194 ⟨"PenAcresModel", "ownsNow", "(I)I"⟩) ∈ wG := wG_mem (List.mem_of_getElem? (i := 1179) (by decide +kernel)) rfl
theorem wt_1181 : (Cond.instanceMethod ⟨"PenAcresModel", "ownsNow", "(I)I"⟩) ∈ wG := wG_mem (List.mem_of_getElem? (i := 1181) (by decide +kernel)) rfl
theorem wt_1182 : (Cond.code ⟨"PenAcresModel", "ownsNow", "(I)I"⟩ prog_14_method_56_code 2 (Option.some Jvm.ClassFile.FieldType.int)) ∈ wG := wG_mem (List.mem_of_getElem? (i := 1182) (by decide +kernel)) rfl
theorem wt_1183 : (Cond.methodLink "PenAcresModel" 197 ⟨"PenAcresModel", "takesBack", "(I)I"⟩) ∈ wG := wG_mem (List.mem_of_getElem? (i := 1183) (by decide +kernel)) rfl
theorem wt_1185 : (Cond.instanceMethod ⟨"PenAcresModel", "takesBack", "(I)I"⟩) ∈ wG := wG_mem (List.mem_of_getElem? (i := 1185) (by decide +kernel)) rfl
theorem wt_1186 : (Cond.code ⟨"PenAcresModel", "takesBack", "(I)I"⟩ prog_14_method_7_code 3 (Option.some Jvm.ClassFile.FieldType.int)) ∈ wG := wG_mem (List.mem_of_getElem? (i := 1186) (by decide +kernel)) rfl
theorem wt_1190 : (Cond.code ⟨"PenAcresModel", "dry", "(I)I"⟩ prog_14_method_59_code 4 (Option.some Jvm.ClassFile.FieldType.int)) ∈ wG := wG_mem (List.mem_of_getElem? (i := 1190) (by decide +kernel)) rfl
theorem wt_1191 : (Cond.methodLink "PenAcresModel" 200 ⟨"PenAcresModel", "isDry", "(I)Z"⟩) ∈ wG := wG_mem (List.mem_of_getElem? (i := 1191) (by decide +kernel)) rfl
theorem wt_1193 : (Cond.instanceMethod ⟨"PenAcresModel", "isDry", "(I)Z"⟩) ∈ wG := wG_mem (List.mem_of_getElem? (i := 1193) (by decide +kernel)) rfl
theorem wt_1194 : (Cond.code ⟨"PenAcresModel", "isDry", "(I)Z"⟩ prog_14_method_58_code 2 (Option.some Jvm.ClassFile.FieldType.boolean)) ∈ wG := wG_mem (List.mem_of_getElem? (i := 1194) (by decide +kernel)) rfl
theorem wt_1195 : (Cond.constant "PenAcresModel" 203 (-1000000004 : Int32)) ∈ wG := wG_mem (List.mem_of_getElem? (i := 1195) (by decide +kernel)) rfl
theorem wt_1199 : (Cond.code ⟨"PenAcresModel", "rich", "(I)I"⟩ prog_14_method_61_code 2 (Option.some Jvm.ClassFile.FieldType.int)) ∈ wG := wG_mem (List.mem_of_getElem? (i := 1199) (by decide +kernel)) rfl
theorem wt_1200 : (Cond.methodLink "PenAcresModel" 204 ⟨"PenAcresModel", "richest", "()I"⟩) ∈ wG := wG_mem (List.mem_of_getElem? (i := 1200) (by decide +kernel)) rfl
theorem wt_1202 : (Cond.instanceMethod ⟨"PenAcresModel", "richest", "()I"⟩) ∈ wG := wG_mem (List.mem_of_getElem? (i := 1202) (by decide +kernel)) rfl
theorem wt_1203 : (Cond.code ⟨"PenAcresModel", "richest", "()I"⟩ prog_14_method_60_code 3 (Option.some Jvm.ClassFile.FieldType.int)) ∈ wG := wG_mem (List.mem_of_getElem? (i := 1203) (by decide +kernel)) rfl
theorem wt_1207 : (Cond.code ⟨"PenAcresModel", "rain", "(I)I"⟩ prog_14_method_62_code 8 (Option.some Jvm.ClassFile.FieldType.int)) ∈ wG := wG_mem (List.mem_of_getElem? (i := 1207) (by decide +kernel)) rfl
theorem wt_1208 : (Cond.methodLink "PenAcresModel" 207 ⟨"PenAcresModel", "insideMany", "(I)I"⟩) ∈ wG := wG_mem (List.mem_of_getElem? (i := 1208) (by decide +kernel)) rfl
theorem wt_1210 : (Cond.instanceMethod ⟨"PenAcresModel", "insideMany", "(I)I"⟩) ∈ wG := wG_mem (List.mem_of_getElem? (i := 1210) (by decide +kernel)) rfl
theorem wt_1211 : (Cond.code ⟨"PenAcresModel", "insideMany", "(I)I"⟩ prog_14_method_26_code 2 (Option.some Jvm.ClassFile.FieldType.int)) ∈ wG := wG_mem (List.mem_of_getElem? (i := 1211) (by decide +kernel)) rfl
theorem wt_1215 : (Cond.code ⟨"PenAcresModel", "longer", "(I)I"⟩ prog_14_method_63_code 7 (Option.some Jvm.ClassFile.FieldType.int)) ∈ wG := wG_mem (List.mem_of_getElem? (i := 1215) (by decide +kernel)) rfl
theorem wt_1219 : (Cond.code ⟨"PenAcresModel", "begin", "(I)I"⟩ prog_14_method_64_code 7 (Option.some Jvm.ClassFile.FieldType.int)) ∈ wG := wG_mem (List.mem_of_getElem? (i := 1219) (by decide +kernel)) rfl
theorem wt_1223 : (Cond.code ⟨"PenAcresModel", "kind", "(I)I"⟩ prog_14_method_65_code 7 (Option.some Jvm.ClassFile.FieldType.int)) ∈ wG := wG_mem (List.mem_of_getElem? (i := 1223) (by decide +kernel)) rfl
theorem wt_1227 : (Cond.code ⟨"PenAcresModel", "ink", "(I)I"⟩ prog_14_method_66_code 7 (Option.some Jvm.ClassFile.FieldType.int)) ∈ wG := wG_mem (List.mem_of_getElem? (i := 1227) (by decide +kernel)) rfl
theorem wt_1231 : (Cond.code ⟨"PenAcresModel", "court", "(II)I"⟩ prog_14_method_67_code 3 (Option.some Jvm.ClassFile.FieldType.int)) ∈ wG := wG_mem (List.mem_of_getElem? (i := 1231) (by decide +kernel)) rfl
theorem wt_1235 : (Cond.code ⟨"PenAcresModel", "way", "(III)I"⟩ prog_14_method_68_code 14 (Option.some Jvm.ClassFile.FieldType.int)) ∈ wG := wG_mem (List.mem_of_getElem? (i := 1235) (by decide +kernel)) rfl
theorem wt_1239 : (Cond.code ⟨"PenAcresModel", "sea", "()I"⟩ prog_14_method_69_code 4 (Option.some Jvm.ClassFile.FieldType.int)) ∈ wG := wG_mem (List.mem_of_getElem? (i := 1239) (by decide +kernel)) rfl
theorem wt_1243 : (Cond.code ⟨"PenAcresModel", "feed", "(II)I"⟩ prog_14_method_70_code 4 (Option.some Jvm.ClassFile.FieldType.int)) ∈ wG := wG_mem (List.mem_of_getElem? (i := 1243) (by decide +kernel)) rfl
theorem wt_1244 : (Cond.constantLong "PenAcresModel" 210 (4 : Int64)) ∈ wG := wG_mem (List.mem_of_getElem? (i := 1244) (by decide +kernel)) rfl
theorem wt_1248 : (Cond.code ⟨"PenAcresModel", "wipe", "()I"⟩ prog_14_method_71_code 2 (Option.some Jvm.ClassFile.FieldType.int)) ∈ wG := wG_mem (List.mem_of_getElem? (i := 1248) (by decide +kernel)) rfl
theorem wt_1252 : (Cond.code ⟨"PenAcresModel", "field", "()I"⟩ prog_14_method_83_code 2 (Option.some Jvm.ClassFile.FieldType.int)) ∈ wG := wG_mem (List.mem_of_getElem? (i := 1252) (by decide +kernel)) rfl
theorem wt_1253 : (Cond.methodLink "PenAcresModel" 301 ⟨"PenAcresModel", "saves", "()V"⟩) ∈ wG := wG_mem (List.mem_of_getElem? (i := 1253) (by decide +kernel)) rfl
theorem wt_1255 : (Cond.instanceMethod ⟨"PenAcresModel", "saves", "()V"⟩) ∈ wG := wG_mem (List.mem_of_getElem? (i := 1255) (by decide +kernel)) rfl
theorem wt_1256 : (Cond.code ⟨"PenAcresModel", "saves", "()V"⟩ prog_14_method_4_code 2 (Option.none : Option Jvm.ClassFile.FieldType)) ∈ wG := wG_mem (List.mem_of_getElem? (i := 1256) (by decide +kernel)) rfl
theorem wt_1257 : (Cond.methodLink "PenAcresModel" 243 ⟨"PenAcresModel", "token", "()V"⟩) ∈ wG := wG_mem (List.mem_of_getElem? (i := 1257) (by decide +kernel)) rfl
theorem wt_1259 : (Cond.instanceMethod ⟨"PenAcresModel", "token", "()V"⟩) ∈ wG := wG_mem (List.mem_of_getElem? (i := 1259) (by decide +kernel)) rfl
theorem wt_1260 : (Cond.code ⟨"PenAcresModel", "token", "()V"⟩ prog_14_method_75_code 3 (Option.none : Option Jvm.ClassFile.FieldType)) ∈ wG := wG_mem (List.mem_of_getElem? (i := 1260) (by decide +kernel)) rfl
theorem wt_1261 : (Cond.methodLink "PenAcresModel" 230 ⟨"PenAcresModel", "byteAt", "(I)I"⟩) ∈ wG := wG_mem (List.mem_of_getElem? (i := 1261) (by decide +kernel)) rfl
theorem wt_1263 : (Cond.instanceMethod ⟨"PenAcresModel", "byteAt", "(I)I"⟩) ∈ wG := wG_mem (List.mem_of_getElem? (i := 1263) (by decide +kernel)) rfl
theorem wt_1264 : (Cond.code ⟨"PenAcresModel", "byteAt", "(I)I"⟩ prog_14_method_72_code 2 (Option.some Jvm.ClassFile.FieldType.int)) ∈ wG := wG_mem (List.mem_of_getElem? (i := 1264) (by decide +kernel)) rfl
theorem wt_1265 : (Cond.methodLink "PenAcresModel" 233 ⟨"PenAcresModel", "isLetter", "(I)Z"⟩) ∈ wG := wG_mem (List.mem_of_getElem? (i := 1265) (by decide +kernel)) rfl
theorem wt_1266 : (Cond.static ⟨"PenAcresModel", "isLetter", "(I)Z"⟩) ∈ wG := wG_mem (List.mem_of_getElem? (i := 1266) (by decide +kernel)) rfl
theorem wt_1267 : (Cond.code ⟨"PenAcresModel", "isLetter", "(I)Z"⟩ prog_14_method_73_code 1 (Option.some Jvm.ClassFile.FieldType.boolean)) ∈ wG := wG_mem (List.mem_of_getElem? (i := 1267) (by decide +kernel)) rfl
theorem wt_1268 : (Cond.constantLong "PenAcresModel" 216 (97 : Int64)) ∈ wG := wG_mem (List.mem_of_getElem? (i := 1268) (by decide +kernel)) rfl
theorem wt_1269 : (Cond.constantLong "PenAcresModel" 218 (122 : Int64)) ∈ wG := wG_mem (List.mem_of_getElem? (i := 1269) (by decide +kernel)) rfl
theorem wt_1270 : (Cond.methodLink "PenAcresModel" 236 ⟨"PenAcresModel", "isDigit", "(I)Z"⟩) ∈ wG := wG_mem (List.mem_of_getElem? (i := 1270) (by decide +kernel)) rfl
theorem wt_1271 : (Cond.static ⟨"PenAcresModel", "isDigit", "(I)Z"⟩) ∈ wG := wG_mem (List.mem_of_getElem? (i := 1271) (by decide +kernel)) rfl
theorem wt_1272 : (Cond.code ⟨"PenAcresModel", "isDigit", "(I)Z"⟩ prog_14_method_74_code 1 (Option.some Jvm.ClassFile.FieldType.boolean)) ∈ wG := wG_mem (List.mem_of_getElem? (i := 1272) (by decide +kernel)) rfl
theorem wt_1273 : (Cond.constantLong "PenAcresModel" 220 (48 : Int64)) ∈ wG := wG_mem (List.mem_of_getElem? (i := 1273) (by decide +kernel)) rfl
theorem wt_1274 : (Cond.constantLong "PenAcresModel" 222 (57 : Int64)) ∈ wG := wG_mem (List.mem_of_getElem? (i := 1274) (by decide +kernel)) rfl
theorem wt_1275 : (Cond.methodLink "PenAcresModel" 304 ⟨"PenAcresModel", "item", "()V"⟩) ∈ wG := wG_mem (List.mem_of_getElem? (i := 1275) (by decide +kernel)) rfl
theorem wt_1277 : (Cond.instanceMethod ⟨"PenAcresModel", "item", "()V"⟩) ∈ wG := wG_mem (List.mem_of_getElem? (i := 1277) (by decide +kernel)) rfl
theorem wt_1278 : (Cond.code ⟨"PenAcresModel", "item", "()V"⟩ prog_14_method_82_code 4 (Option.none : Option Jvm.ClassFile.FieldType)) ∈ wG := wG_mem (List.mem_of_getElem? (i := 1278) (by decide +kernel)) rfl
theorem wt_1279 : (Cond.methodLink "PenAcresModel" 291 ⟨"PenAcresModel", "kindHere", "()I"⟩) ∈ wG := wG_mem (List.mem_of_getElem? (i := 1279) (by decide +kernel)) rfl
theorem wt_1281 : (Cond.instanceMethod ⟨"PenAcresModel", "kindHere", "()I"⟩) ∈ wG := wG_mem (List.mem_of_getElem? (i := 1281) (by decide +kernel)) rfl
theorem wt_1282 : (Cond.code ⟨"PenAcresModel", "kindHere", "()I"⟩ prog_14_method_79_code 3 (Option.some Jvm.ClassFile.FieldType.int)) ∈ wG := wG_mem (List.mem_of_getElem? (i := 1282) (by decide +kernel)) rfl
theorem wt_1283 : (Cond.methodLink "PenAcresModel" 257 ⟨"PenAcresModel", "word", "()J"⟩) ∈ wG := wG_mem (List.mem_of_getElem? (i := 1283) (by decide +kernel)) rfl
theorem wt_1285 : (Cond.instanceMethod ⟨"PenAcresModel", "word", "()J"⟩) ∈ wG := wG_mem (List.mem_of_getElem? (i := 1285) (by decide +kernel)) rfl
theorem wt_1286 : (Cond.code ⟨"PenAcresModel", "word", "()J"⟩ prog_14_method_77_code 4 (Option.some Jvm.ClassFile.FieldType.long)) ∈ wG := wG_mem (List.mem_of_getElem? (i := 1286) (by decide +kernel)) rfl
theorem wt_1287 : (Cond.constantLong "PenAcresModel" 246 (36028797018963967 : Int64)) ∈ wG := wG_mem (List.mem_of_getElem? (i := 1287) (by decide +kernel)) rfl
theorem wt_1288 : (Cond.constantLong "PenAcresModel" 248 (32 : Int64)) ∈ wG := wG_mem (List.mem_of_getElem? (i := 1288) (by decide +kernel)) rfl
theorem wt_1289 : (Cond.constantLong "PenAcresModel" 260 (263620 : Int64)) ∈ wG := wG_mem (List.mem_of_getElem? (i := 1289) (by decide +kernel)) rfl
theorem wt_1290 : (Cond.constantLong "PenAcresModel" 262 (13946034 : Int64)) ∈ wG := wG_mem (List.mem_of_getElem? (i := 1290) (by decide +kernel)) rfl
theorem wt_1291 : (Cond.constantLong "PenAcresModel" 264 (152933 : Int64)) ∈ wG := wG_mem (List.mem_of_getElem? (i := 1291) (by decide +kernel)) rfl
theorem wt_1292 : (Cond.constantLong "PenAcresModel" 266 (20186489 : Int64)) ∈ wG := wG_mem (List.mem_of_getElem? (i := 1292) (by decide +kernel)) rfl
theorem wt_1293 : (Cond.constantLong "PenAcresModel" 268 (267570 : Int64)) ∈ wG := wG_mem (List.mem_of_getElem? (i := 1293) (by decide +kernel)) rfl
theorem wt_1294 : (Cond.constantLong "PenAcresModel" 270 (398548 : Int64)) ∈ wG := wG_mem (List.mem_of_getElem? (i := 1294) (by decide +kernel)) rfl
theorem wt_1295 : (Cond.methodLink "PenAcresModel" 294 ⟨"PenAcresModel", "handItem", "(I)V"⟩) ∈ wG := wG_mem (List.mem_of_getElem? (i := 1295) (by decide +kernel)) rfl
theorem wt_1297 : (Cond.instanceMethod ⟨"PenAcresModel", "handItem", "(I)V"⟩) ∈ wG := wG_mem (List.mem_of_getElem? (i := 1297) (by decide +kernel)) rfl
theorem wt_1298 : (Cond.code ⟨"PenAcresModel", "handItem", "(I)V"⟩ prog_14_method_81_code 5 (Option.none : Option Jvm.ClassFile.FieldType)) ∈ wG := wG_mem (List.mem_of_getElem? (i := 1298) (by decide +kernel)) rfl
theorem wt_1299 : (Cond.methodLink "PenAcresModel" 253 ⟨"PenAcresModel", "must", "(Z)V"⟩) ∈ wG := wG_mem (List.mem_of_getElem? (i := 1299) (by decide +kernel)) rfl
theorem wt_1301 : (Cond.instanceMethod ⟨"PenAcresModel", "must", "(Z)V"⟩) ∈ wG := wG_mem (List.mem_of_getElem? (i := 1301) (by decide +kernel)) rfl
theorem wt_1302 : (Cond.code ⟨"PenAcresModel", "must", "(Z)V"⟩ prog_14_method_76_code 2 (Option.none : Option Jvm.ClassFile.FieldType)) ∈ wG := wG_mem (List.mem_of_getElem? (i := 1302) (by decide +kernel)) rfl
theorem wt_1303 : (Cond.constantLong "PenAcresModel" 280 (52 : Int64)) ∈ wG := wG_mem (List.mem_of_getElem? (i := 1303) (by decide +kernel)) rfl
theorem wt_1304 : (Cond.methodLink "PenAcresModel" 282 ⟨"PenAcresModel", "number", "(II)V"⟩) ∈ wG := wG_mem (List.mem_of_getElem? (i := 1304) (by decide +kernel)) rfl
theorem wt_1306 : (Cond.instanceMethod ⟨"PenAcresModel", "number", "(II)V"⟩) ∈ wG := wG_mem (List.mem_of_getElem? (i := 1306) (by decide +kernel)) rfl
theorem wt_1307 : (Cond.code ⟨"PenAcresModel", "number", "(II)V"⟩ prog_14_method_78_code 6 (Option.none : Option Jvm.ClassFile.FieldType)) ∈ wG := wG_mem (List.mem_of_getElem? (i := 1307) (by decide +kernel)) rfl
theorem wt_1308 : (Cond.constantLong "PenAcresModel" 286 (9675 : Int64)) ∈ wG := wG_mem (List.mem_of_getElem? (i := 1308) (by decide +kernel)) rfl
theorem wt_1309 : (Cond.methodLink "PenAcresModel" 288 ⟨"PenAcresModel", "wayHere", "()I"⟩) ∈ wG := wG_mem (List.mem_of_getElem? (i := 1309) (by decide +kernel)) rfl
theorem wt_1311 : (Cond.instanceMethod ⟨"PenAcresModel", "wayHere", "()I"⟩) ∈ wG := wG_mem (List.mem_of_getElem? (i := 1311) (by decide +kernel)) rfl
theorem wt_1312 : (Cond.code ⟨"PenAcresModel", "wayHere", "()I"⟩ prog_14_method_80_code 3 (Option.some Jvm.ClassFile.FieldType.int)) ∈ wG := wG_mem (List.mem_of_getElem? (i := 1312) (by decide +kernel)) rfl
theorem wt_1313 : (Cond.constantLong "PenAcresModel" 272 (688 : Int64)) ∈ wG := wG_mem (List.mem_of_getElem? (i := 1313) (by decide +kernel)) rfl
theorem wt_1314 : (Cond.constantLong "PenAcresModel" 274 (19176724 : Int64)) ∈ wG := wG_mem (List.mem_of_getElem? (i := 1314) (by decide +kernel)) rfl
theorem wt_1315 : (Cond.constantLong "PenAcresModel" 276 (147182 : Int64)) ∈ wG := wG_mem (List.mem_of_getElem? (i := 1315) (by decide +kernel)) rfl
theorem wt_1316 : (Cond.constantLong "PenAcresModel" 278 (66667 : Int64)) ∈ wG := wG_mem (List.mem_of_getElem? (i := 1316) (by decide +kernel)) rfl
theorem wt_1317 : (Cond.constantLong "PenAcresModel" 297 (651858149 : Int64)) ∈ wG := wG_mem (List.mem_of_getElem? (i := 1317) (by decide +kernel)) rfl
theorem wt_1318 : (Cond.constantLong "PenAcresModel" 299 (4697 : Int64)) ∈ wG := wG_mem (List.mem_of_getElem? (i := 1318) (by decide +kernel)) rfl
theorem wt_1319 : (Cond.methodLink "PenAcresModel" 307 ⟨"PenAcresModel", "putsBack", "()V"⟩) ∈ wG := wG_mem (List.mem_of_getElem? (i := 1319) (by decide +kernel)) rfl
theorem wt_1321 : (Cond.instanceMethod ⟨"PenAcresModel", "putsBack", "()V"⟩) ∈ wG := wG_mem (List.mem_of_getElem? (i := 1321) (by decide +kernel)) rfl
theorem wt_1322 : (Cond.code ⟨"PenAcresModel", "putsBack", "()V"⟩ prog_14_method_5_code 2 (Option.none : Option Jvm.ClassFile.FieldType)) ∈ wG := wG_mem (List.mem_of_getElem? (i := 1322) (by decide +kernel)) rfl
theorem wt_1326 : (Cond.code ⟨"PenAcresModel", "sheet", "(III)I"⟩ prog_14_method_85_code 5 (Option.some Jvm.ClassFile.FieldType.int)) ∈ wG := wG_mem (List.mem_of_getElem? (i := 1326) (by decide +kernel)) rfl
theorem wt_1327 : (Cond.methodLink "PenAcresModel" 310 ⟨"PenAcresModel", "isOne", "(I)Z"⟩) ∈ wG := wG_mem (List.mem_of_getElem? (i := 1327) (by decide +kernel)) rfl
theorem wt_1328 : (Cond.static ⟨"PenAcresModel", "isOne", "(I)Z"⟩) ∈ wG := wG_mem (List.mem_of_getElem? (i := 1328) (by decide +kernel)) rfl
theorem wt_1329 : (Cond.code ⟨"PenAcresModel", "isOne", "(I)Z"⟩ prog_14_method_84_code 1 (Option.some Jvm.ClassFile.FieldType.boolean)) ∈ wG := wG_mem (List.mem_of_getElem? (i := 1329) (by decide +kernel)) rfl
theorem wt_1330 : (Cond.constant "PenAcresModel" 313 (-1000000007 : Int32)) ∈ wG := wG_mem (List.mem_of_getElem? (i := 1330) (by decide +kernel)) rfl
theorem wt_1334 : (Cond.code ⟨"PenAcresModel", "write", "(IIJ)J"⟩ prog_14_method_88_code 8 (Option.some Jvm.ClassFile.FieldType.long)) ∈ wG := wG_mem (List.mem_of_getElem? (i := 1334) (by decide +kernel)) rfl
theorem wt_1335 : (Cond.methodLink "PenAcresModel" 315 ⟨"PenAcresModel", "wrong", "(I)I"⟩) ∈ wG := wG_mem (List.mem_of_getElem? (i := 1335) (by decide +kernel)) rfl
theorem wt_1337 : (Cond.instanceMethod ⟨"PenAcresModel", "wrong", "(I)I"⟩) ∈ wG := wG_mem (List.mem_of_getElem? (i := 1337) (by decide +kernel)) rfl
theorem wt_1338 : (Cond.code ⟨"PenAcresModel", "wrong", "(I)I"⟩ prog_14_method_87_code 2 (Option.some Jvm.ClassFile.FieldType.int)) ∈ wG := wG_mem (List.mem_of_getElem? (i := 1338) (by decide +kernel)) rfl
theorem wt_1339 : (Cond.constant "PenAcresModel" 314 (-1000000006 : Int32)) ∈ wG := wG_mem (List.mem_of_getElem? (i := 1339) (by decide +kernel)) rfl
theorem wt_1340 : (Cond.methodLink "PenAcresModel" 318 ⟨"PenAcresModel", "narrowed", "(IJ)J"⟩) ∈ wG := wG_mem (List.mem_of_getElem? (i := 1340) (by decide +kernel)) rfl
theorem wt_1341 : (Cond.static ⟨"PenAcresModel", "narrowed", "(IJ)J"⟩) ∈ wG := wG_mem (List.mem_of_getElem? (i := 1341) (by decide +kernel)) rfl
theorem wt_1342 : (Cond.code ⟨"PenAcresModel", "narrowed", "(IJ)J"⟩ prog_14_method_86_code 3 (Option.some Jvm.ClassFile.FieldType.long)) ∈ wG := wG_mem (List.mem_of_getElem? (i := 1342) (by decide +kernel)) rfl
theorem wt_1346 : (Cond.code ⟨"PenAcresModel", "copy", "(IIIII)I"⟩ prog_14_method_89_code 7 (Option.some Jvm.ClassFile.FieldType.int)) ∈ wG := wG_mem (List.mem_of_getElem? (i := 1346) (by decide +kernel)) rfl
theorem wt_1350 : (Cond.code ⟨"PenAcresModel", "lays", "(I)I"⟩ prog_14_method_90_code 6 (Option.some Jvm.ClassFile.FieldType.int)) ∈ wG := wG_mem (List.mem_of_getElem? (i := 1350) (by decide +kernel)) rfl
theorem wt_1354 : (Cond.code ⟨"PenAcresModel", "book", "(II)I"⟩ prog_14_method_91_code 5 (Option.some Jvm.ClassFile.FieldType.int)) ∈ wG := wG_mem (List.mem_of_getElem? (i := 1354) (by decide +kernel)) rfl
theorem wt_1358 : (Cond.code ⟨"PenAcresModel", "read", "(II)I"⟩ prog_14_method_93_code 6 (Option.some Jvm.ClassFile.FieldType.int)) ∈ wG := wG_mem (List.mem_of_getElem? (i := 1358) (by decide +kernel)) rfl
theorem wt_1359 : (Cond.methodLink "PenAcresModel" 322 ⟨"PenAcresModel", "isBook", "(II)Z"⟩) ∈ wG := wG_mem (List.mem_of_getElem? (i := 1359) (by decide +kernel)) rfl
theorem wt_1361 : (Cond.instanceMethod ⟨"PenAcresModel", "isBook", "(II)Z"⟩) ∈ wG := wG_mem (List.mem_of_getElem? (i := 1361) (by decide +kernel)) rfl
theorem wt_1362 : (Cond.code ⟨"PenAcresModel", "isBook", "(II)Z"⟩ prog_14_method_92_code 4 (Option.some Jvm.ClassFile.FieldType.boolean)) ∈ wG := wG_mem (List.mem_of_getElem? (i := 1362) (by decide +kernel)) rfl
theorem wt_1366 : (Cond.code ⟨"PenAcresModel", "image", "()I"⟩ prog_14_method_94_code 2 (Option.some Jvm.ClassFile.FieldType.int)) ∈ wG := wG_mem (List.mem_of_getElem? (i := 1366) (by decide +kernel)) rfl
theorem wt_1370 : (Cond.code ⟨"PenAcresModel", "undo", "()I"⟩ prog_14_method_95_code 2 (Option.some Jvm.ClassFile.FieldType.int)) ∈ wG := wG_mem (List.mem_of_getElem? (i := 1370) (by decide +kernel)) rfl
theorem wt_1374 : (Cond.code ⟨"PenAcresModel", "tear", "()I"⟩ prog_14_method_96_code 2 (Option.some Jvm.ClassFile.FieldType.int)) ∈ wG := wG_mem (List.mem_of_getElem? (i := 1374) (by decide +kernel)) rfl
theorem wt_1378 : (Cond.code ⟨"PenAcresModel", "count", "(I)I"⟩ prog_14_method_98_code 2 (Option.some Jvm.ClassFile.FieldType.int)) ∈ wG := wG_mem (List.mem_of_getElem? (i := 1378) (by decide +kernel)) rfl
theorem wt_1379 : (Cond.methodLink "PenAcresModel" 328 ⟨"PenAcresModel", "costsAll", "()I"⟩) ∈ wG := wG_mem (List.mem_of_getElem? (i := 1379) (by decide +kernel)) rfl
theorem wt_1381 : (Cond.instanceMethod ⟨"PenAcresModel", "costsAll", "()I"⟩) ∈ wG := wG_mem (List.mem_of_getElem? (i := 1381) (by decide +kernel)) rfl
theorem wt_1382 : (Cond.code ⟨"PenAcresModel", "costsAll", "()I"⟩ prog_14_method_97_code 3 (Option.some Jvm.ClassFile.FieldType.int)) ∈ wG := wG_mem (List.mem_of_getElem? (i := 1382) (by decide +kernel)) rfl
theorem wt_1386 : (Cond.code ⟨"PenAcresModel", "status", "(I)I"⟩ prog_14_method_99_code 4 (Option.some Jvm.ClassFile.FieldType.int)) ∈ wG := wG_mem (List.mem_of_getElem? (i := 1386) (by decide +kernel)) rfl
theorem wt_1387 : (Cond.constantLong "PenAcresModel" 331 (6 : Int64)) ∈ wG := wG_mem (List.mem_of_getElem? (i := 1387) (by decide +kernel)) rfl
theorem ws_21 : (Cond.selects "PenAcresModel" ⟨"PenAcresModel", "becomes", "(II)I"⟩ ⟨"PenAcresModel", "becomes", "(II)I"⟩) ∈ wG := wG_sel (List.mem_of_getElem? (i := 21) (by decide +kernel)) rfl
theorem ws_22 : (Cond.selects "PenAcresModel" ⟨"PenAcresModel", "finds", "(I)I"⟩ ⟨"PenAcresModel", "finds", "(I)I"⟩) ∈ wG := wG_sel (List.mem_of_getElem? (i := 22) (by decide +kernel)) rfl
theorem ws_23 : (Cond.selects "PenAcresModel" ⟨"PenAcresModel", "writeAll", "()V"⟩ ⟨"PenAcresModel", "writeAll", "()V"⟩) ∈ wG := wG_sel (List.mem_of_getElem? (i := 23) (by decide +kernel)) rfl
theorem ws_24 : (Cond.selects "PenAcresModel" ⟨"PenAcresModel", "smudges", "()J"⟩ ⟨"PenAcresModel", "smudges", "()J"⟩) ∈ wG := wG_sel (List.mem_of_getElem? (i := 24) (by decide +kernel)) rfl
theorem ws_25 : (Cond.selects "PenAcresModel" ⟨"PenAcresModel", "draws", "(IJ)V"⟩ ⟨"PenAcresModel", "draws", "(IJ)V"⟩) ∈ wG := wG_sel (List.mem_of_getElem? (i := 25) (by decide +kernel)) rfl
theorem ws_26 : (Cond.selects "PenAcresModel" ⟨"PenAcresModel", "its", "(II)I"⟩ ⟨"PenAcresModel", "its", "(II)I"⟩) ∈ wG := wG_sel (List.mem_of_getElem? (i := 26) (by decide +kernel)) rfl
theorem ws_27 : (Cond.selects "PenAcresModel" ⟨"PenAcresModel", "turned", "(II)I"⟩ ⟨"PenAcresModel", "turned", "(II)I"⟩) ∈ wG := wG_sel (List.mem_of_getElem? (i := 27) (by decide +kernel)) rfl
theorem ws_28 : (Cond.selects "PenAcresModel" ⟨"PenAcresModel", "stepsOf", "(II)I"⟩ ⟨"PenAcresModel", "stepsOf", "(II)I"⟩) ∈ wG := wG_sel (List.mem_of_getElem? (i := 28) (by decide +kernel)) rfl
theorem ws_29 : (Cond.selects "PenAcresModel" ⟨"PenAcresModel", "ownerOf", "(I)I"⟩ ⟨"PenAcresModel", "ownerOf", "(I)I"⟩) ∈ wG := wG_sel (List.mem_of_getElem? (i := 29) (by decide +kernel)) rfl
theorem ws_30 : (Cond.selects "PenAcresModel" ⟨"PenAcresModel", "writes", "(I)Z"⟩ ⟨"PenAcresModel", "writes", "(I)Z"⟩) ∈ wG := wG_sel (List.mem_of_getElem? (i := 30) (by decide +kernel)) rfl
theorem ws_31 : (Cond.selects "PenAcresModel" ⟨"PenAcresModel", "thoseWith", "(IZ)I"⟩ ⟨"PenAcresModel", "thoseWith", "(IZ)I"⟩) ∈ wG := wG_sel (List.mem_of_getElem? (i := 31) (by decide +kernel)) rfl
theorem ws_32 : (Cond.selects "PenAcresModel" ⟨"PenAcresModel", "writersInside", "(I)I"⟩ ⟨"PenAcresModel", "writersInside", "(I)I"⟩) ∈ wG := wG_sel (List.mem_of_getElem? (i := 32) (by decide +kernel)) rfl
theorem ws_33 : (Cond.selects "PenAcresModel" ⟨"PenAcresModel", "adds", "(II)I"⟩ ⟨"PenAcresModel", "adds", "(II)I"⟩) ∈ wG := wG_sel (List.mem_of_getElem? (i := 33) (by decide +kernel)) rfl
theorem ws_34 : (Cond.selects "PenAcresModel" ⟨"PenAcresModel", "isHand", "(I)Z"⟩ ⟨"PenAcresModel", "isHand", "(I)Z"⟩) ∈ wG := wG_sel (List.mem_of_getElem? (i := 34) (by decide +kernel)) rfl
theorem ws_35 : (Cond.selects "PenAcresModel" ⟨"PenAcresModel", "strokes", "(III)I"⟩ ⟨"PenAcresModel", "strokes", "(III)I"⟩) ∈ wG := wG_sel (List.mem_of_getElem? (i := 35) (by decide +kernel)) rfl
theorem ws_36 : (Cond.selects "PenAcresModel" ⟨"PenAcresModel", "ownedBy", "(I)I"⟩ ⟨"PenAcresModel", "ownedBy", "(I)I"⟩) ∈ wG := wG_sel (List.mem_of_getElem? (i := 36) (by decide +kernel)) rfl
theorem ws_37 : (Cond.selects "PenAcresModel" ⟨"PenAcresModel", "cropOf", "(I)I"⟩ ⟨"PenAcresModel", "cropOf", "(I)I"⟩) ∈ wG := wG_sel (List.mem_of_getElem? (i := 37) (by decide +kernel)) rfl
theorem ws_38 : (Cond.selects "PenAcresModel" ⟨"PenAcresModel", "isStroke", "(II)Z"⟩ ⟨"PenAcresModel", "isStroke", "(II)Z"⟩) ∈ wG := wG_sel (List.mem_of_getElem? (i := 38) (by decide +kernel)) rfl
theorem ws_39 : (Cond.selects "PenAcresModel" ⟨"PenAcresModel", "goesOn", "(I)V"⟩ ⟨"PenAcresModel", "goesOn", "(I)V"⟩) ∈ wG := wG_sel (List.mem_of_getElem? (i := 39) (by decide +kernel)) rfl
theorem ws_40 : (Cond.selects "PenAcresModel" ⟨"PenAcresModel", "year", "()V"⟩ ⟨"PenAcresModel", "year", "()V"⟩) ∈ wG := wG_sel (List.mem_of_getElem? (i := 40) (by decide +kernel)) rfl
theorem ws_41 : (Cond.selects "PenAcresModel" ⟨"PenAcresModel", "together", "(I)I"⟩ ⟨"PenAcresModel", "together", "(I)I"⟩) ∈ wG := wG_sel (List.mem_of_getElem? (i := 41) (by decide +kernel)) rfl
theorem ws_42 : (Cond.selects "PenAcresModel" ⟨"PenAcresModel", "thoseThatWrite", "()I"⟩ ⟨"PenAcresModel", "thoseThatWrite", "()I"⟩) ∈ wG := wG_sel (List.mem_of_getElem? (i := 42) (by decide +kernel)) rfl
theorem ws_43 : (Cond.selects "PenAcresModel" ⟨"PenAcresModel", "laysAside", "()V"⟩ ⟨"PenAcresModel", "laysAside", "()V"⟩) ∈ wG := wG_sel (List.mem_of_getElem? (i := 43) (by decide +kernel)) rfl
theorem ws_44 : (Cond.selects "PenAcresModel" ⟨"PenAcresModel", "ownsNow", "(I)I"⟩ ⟨"PenAcresModel", "ownsNow", "(I)I"⟩) ∈ wG := wG_sel (List.mem_of_getElem? (i := 44) (by decide +kernel)) rfl
theorem ws_45 : (Cond.selects "PenAcresModel" ⟨"PenAcresModel", "takesBack", "(I)I"⟩ ⟨"PenAcresModel", "takesBack", "(I)I"⟩) ∈ wG := wG_sel (List.mem_of_getElem? (i := 45) (by decide +kernel)) rfl
theorem ws_46 : (Cond.selects "PenAcresModel" ⟨"PenAcresModel", "isDry", "(I)Z"⟩ ⟨"PenAcresModel", "isDry", "(I)Z"⟩) ∈ wG := wG_sel (List.mem_of_getElem? (i := 46) (by decide +kernel)) rfl
theorem ws_47 : (Cond.selects "PenAcresModel" ⟨"PenAcresModel", "richest", "()I"⟩ ⟨"PenAcresModel", "richest", "()I"⟩) ∈ wG := wG_sel (List.mem_of_getElem? (i := 47) (by decide +kernel)) rfl
theorem ws_48 : (Cond.selects "PenAcresModel" ⟨"PenAcresModel", "insideMany", "(I)I"⟩ ⟨"PenAcresModel", "insideMany", "(I)I"⟩) ∈ wG := wG_sel (List.mem_of_getElem? (i := 48) (by decide +kernel)) rfl
theorem ws_49 : (Cond.selects "PenAcresModel" ⟨"PenAcresModel", "saves", "()V"⟩ ⟨"PenAcresModel", "saves", "()V"⟩) ∈ wG := wG_sel (List.mem_of_getElem? (i := 49) (by decide +kernel)) rfl
theorem ws_50 : (Cond.selects "PenAcresModel" ⟨"PenAcresModel", "token", "()V"⟩ ⟨"PenAcresModel", "token", "()V"⟩) ∈ wG := wG_sel (List.mem_of_getElem? (i := 50) (by decide +kernel)) rfl
theorem ws_51 : (Cond.selects "PenAcresModel" ⟨"PenAcresModel", "byteAt", "(I)I"⟩ ⟨"PenAcresModel", "byteAt", "(I)I"⟩) ∈ wG := wG_sel (List.mem_of_getElem? (i := 51) (by decide +kernel)) rfl
theorem ws_52 : (Cond.selects "PenAcresModel" ⟨"PenAcresModel", "item", "()V"⟩ ⟨"PenAcresModel", "item", "()V"⟩) ∈ wG := wG_sel (List.mem_of_getElem? (i := 52) (by decide +kernel)) rfl
theorem ws_53 : (Cond.selects "PenAcresModel" ⟨"PenAcresModel", "kindHere", "()I"⟩ ⟨"PenAcresModel", "kindHere", "()I"⟩) ∈ wG := wG_sel (List.mem_of_getElem? (i := 53) (by decide +kernel)) rfl
theorem ws_54 : (Cond.selects "PenAcresModel" ⟨"PenAcresModel", "word", "()J"⟩ ⟨"PenAcresModel", "word", "()J"⟩) ∈ wG := wG_sel (List.mem_of_getElem? (i := 54) (by decide +kernel)) rfl
theorem ws_55 : (Cond.selects "PenAcresModel" ⟨"PenAcresModel", "handItem", "(I)V"⟩ ⟨"PenAcresModel", "handItem", "(I)V"⟩) ∈ wG := wG_sel (List.mem_of_getElem? (i := 55) (by decide +kernel)) rfl
theorem ws_56 : (Cond.selects "PenAcresModel" ⟨"PenAcresModel", "must", "(Z)V"⟩ ⟨"PenAcresModel", "must", "(Z)V"⟩) ∈ wG := wG_sel (List.mem_of_getElem? (i := 56) (by decide +kernel)) rfl
theorem ws_57 : (Cond.selects "PenAcresModel" ⟨"PenAcresModel", "number", "(II)V"⟩ ⟨"PenAcresModel", "number", "(II)V"⟩) ∈ wG := wG_sel (List.mem_of_getElem? (i := 57) (by decide +kernel)) rfl
theorem ws_58 : (Cond.selects "PenAcresModel" ⟨"PenAcresModel", "wayHere", "()I"⟩ ⟨"PenAcresModel", "wayHere", "()I"⟩) ∈ wG := wG_sel (List.mem_of_getElem? (i := 58) (by decide +kernel)) rfl
theorem ws_59 : (Cond.selects "PenAcresModel" ⟨"PenAcresModel", "putsBack", "()V"⟩ ⟨"PenAcresModel", "putsBack", "()V"⟩) ∈ wG := wG_sel (List.mem_of_getElem? (i := 59) (by decide +kernel)) rfl
theorem ws_60 : (Cond.selects "PenAcresModel" ⟨"PenAcresModel", "wrong", "(I)I"⟩ ⟨"PenAcresModel", "wrong", "(I)I"⟩) ∈ wG := wG_sel (List.mem_of_getElem? (i := 60) (by decide +kernel)) rfl
theorem ws_61 : (Cond.selects "PenAcresModel" ⟨"PenAcresModel", "isBook", "(II)Z"⟩ ⟨"PenAcresModel", "isBook", "(II)Z"⟩) ∈ wG := wG_sel (List.mem_of_getElem? (i := 61) (by decide +kernel)) rfl
theorem ws_62 : (Cond.selects "PenAcresModel" ⟨"PenAcresModel", "costsAll", "()I"⟩ ⟨"PenAcresModel", "costsAll", "()I"⟩) ∈ wG := wG_sel (List.mem_of_getElem? (i := 62) (by decide +kernel)) rfl
theorem ok_X12_in : okY Y_X12_in 3 := ⟨wt_981, wt_12, by decide, ⟨by decide, by decide⟩, by decide +kernel⟩
theorem ok_X12_finds : okY Y_X12_finds 1 := ⟨wt_990, wt_12, by decide, ⟨by decide, by decide⟩, by decide +kernel⟩
theorem ok_X12_saves : okY Y_X12_saves 0 := ⟨wt_1256, wt_12, by decide, ⟨by decide, by decide⟩, by decide +kernel⟩
theorem ok_X12_putsBack : okY Y_X12_putsBack 0 := ⟨wt_1322, wt_12, by decide, ⟨by decide, by decide⟩, by decide +kernel⟩
theorem ok_X12_laysAside : okY Y_X12_laysAside 0 := ⟨wt_1178, wt_12, by decide, ⟨by decide, by decide⟩, by decide +kernel⟩
theorem ok_X12_takesBack : okY Y_X12_takesBack 1 := ⟨wt_1186, wt_12, by decide, ⟨by decide, by decide⟩, by decide +kernel⟩
theorem ok_X12_becomes : okY Y_X12_becomes 2 := ⟨wt_985, wt_12, by decide, ⟨by decide, by decide⟩, by decide +kernel⟩
theorem ok_X12_isCell : okY Y_X12_isCell 1 := ⟨wt_977, wt_12, by decide, ⟨by decide, by decide⟩, by decide +kernel⟩
theorem ok_X12_isHand : okY Y_X12_isHand 1 := ⟨wt_1078, wt_12, by decide, ⟨by decide, by decide⟩, by decide +kernel⟩
theorem ok_X12_isKind : okY Y_X12_isKind 1 := ⟨wt_1064, wt_12, by decide, ⟨by decide, by decide⟩, by decide +kernel⟩
theorem ok_X12_isWay : okY Y_X12_isWay 1 := ⟨wt_1081, wt_12, by decide, ⟨by decide, by decide⟩, by decide +kernel⟩
theorem ok_X12_spot : okY Y_X12_spot 2 := ⟨wt_1014, wt_12, by decide, ⟨by decide, by decide⟩, by decide +kernel⟩
theorem ok_X12_its : okY Y_X12_its 2 := ⟨wt_1011, wt_12, by decide, ⟨by decide, by decide⟩, by decide +kernel⟩
theorem ok_X12_has : okY Y_X12_has 2 := ⟨wt_1035, wt_12, by decide, ⟨by decide, by decide⟩, by decide +kernel⟩
theorem ok_X12_ones : okY Y_X12_ones 1 := ⟨wt_1094, wt_12, by decide, ⟨by decide, by decide⟩, by decide +kernel⟩
theorem ok_X12_stepsOf : okY Y_X12_stepsOf 2 := ⟨wt_1022, wt_12, by decide, ⟨by decide, by decide⟩, by decide +kernel⟩
theorem ok_X12_turned : okY Y_X12_turned 2 := ⟨wt_1018, wt_12, by decide, ⟨by decide, by decide⟩, by decide +kernel⟩
theorem ok_X12_cropOf : okY Y_X12_cropOf 1 := ⟨wt_1102, wt_12, by decide, ⟨by decide, by decide⟩, by decide +kernel⟩
theorem ok_X12_beside : okY Y_X12_beside 2 := ⟨wt_1025, wt_12, by decide, ⟨by decide, by decide⟩, by decide +kernel⟩
theorem ok_X12_isEdge : okY Y_X12_isEdge 1 := ⟨wt_1032, wt_12, by decide, ⟨by decide, by decide⟩, by decide +kernel⟩
theorem ok_X12_smudges : okY Y_X12_smudges 0 := ⟨wt_1003, wt_12, by decide, ⟨by decide, by decide⟩, by decide +kernel⟩
theorem ok_X12_draws : okY Y_X12_draws 2 := ⟨wt_1007, wt_12, by decide, ⟨by decide, by decide⟩, by decide +kernel⟩
theorem ok_X12_insideOf : okY Y_X12_insideOf 1 := ⟨wt_1029, wt_12, by decide, ⟨by decide, by decide⟩, by decide +kernel⟩
theorem ok_X12_writeAll : okY Y_X12_writeAll 0 := ⟨wt_999, wt_12, by decide, ⟨by decide, by decide⟩, by decide +kernel⟩
theorem ok_X12_insideMany : okY Y_X12_insideMany 1 := ⟨wt_1211, wt_12, by decide, ⟨by decide, by decide⟩, by decide +kernel⟩
theorem ok_X12_writes : okY Y_X12_writes 1 := ⟨wt_1044, wt_12, by decide, ⟨by decide, by decide⟩, by decide +kernel⟩
theorem ok_X12_ownerOf : okY Y_X12_ownerOf 1 := ⟨wt_1040, wt_12, by decide, ⟨by decide, by decide⟩, by decide +kernel⟩
theorem ok_X12_ownedBy : okY Y_X12_ownedBy 1 := ⟨wt_1098, wt_12, by decide, ⟨by decide, by decide⟩, by decide +kernel⟩
theorem ok_X12_smudge : okY Y_X12_smudge 2 := ⟨wt_974, wt_12, by decide, ⟨by decide, by decide⟩, by decide +kernel⟩
theorem ok_X12_thoseWith : okY Y_X12_thoseWith 2 := ⟨wt_1048, wt_12, by decide, ⟨by decide, by decide⟩, by decide +kernel⟩
theorem ok_X12_cell : okY Y_X12_cell 2 := ⟨wt_994, wt_12, by decide, ⟨by decide, by decide⟩, by decide +kernel⟩
theorem ok_X12_writersInside : okY Y_X12_writersInside 1 := ⟨wt_1057, wt_12, by decide, ⟨by decide, by decide⟩, by decide +kernel⟩
theorem ok_X12_cells : okY Y_X12_cells 1 := ⟨wt_1052, wt_12, by decide, ⟨by decide, by decide⟩, by decide +kernel⟩
theorem ok_X12_adds : okY Y_X12_adds 2 := ⟨wt_1070, wt_12, by decide, ⟨by decide, by decide⟩, by decide +kernel⟩
theorem ok_X12_hand : okY Y_X12_hand 2 := ⟨wt_1061, wt_12, by decide, ⟨by decide, by decide⟩, by decide +kernel⟩
theorem ok_X12_strokes : okY Y_X12_strokes 3 := ⟨wt_1086, wt_12, by decide, ⟨by decide, by decide⟩, by decide +kernel⟩
theorem ok_X12_stroke : okY Y_X12_stroke 3 := ⟨wt_1074, wt_12, by decide, ⟨by decide, by decide⟩, by decide +kernel⟩
theorem ok_X12_of : okY Y_X12_of 2 := ⟨wt_1090, wt_12, by decide, ⟨by decide, by decide⟩, by decide +kernel⟩
theorem ok_X12_isStroke : okY Y_X12_isStroke 2 := ⟨wt_1110, wt_12, by decide, ⟨by decide, by decide⟩, by decide +kernel⟩
theorem ok_X12_told : okY Y_X12_told 3 := ⟨wt_1106, wt_12, by decide, ⟨by decide, by decide⟩, by decide +kernel⟩
theorem ok_X12_set : okY Y_X12_set 3 := ⟨wt_1114, wt_12, by decide, ⟨by decide, by decide⟩, by decide +kernel⟩
theorem ok_X12_alter : okY Y_X12_alter 4 := ⟨wt_1119, wt_12, by decide, ⟨by decide, by decide⟩, by decide +kernel⟩
theorem ok_X12_cut : okY Y_X12_cut 2 := ⟨wt_1123, wt_12, by decide, ⟨by decide, by decide⟩, by decide +kernel⟩
theorem ok_X12_turn : okY Y_X12_turn 2 := ⟨wt_1127, wt_12, by decide, ⟨by decide, by decide⟩, by decide +kernel⟩
theorem ok_X12_isUnder : okY Y_X12_isUnder 2 := ⟨wt_1134, wt_12, by decide, ⟨by decide, by decide⟩, by decide +kernel⟩
theorem ok_X12_as : okY Y_X12_as 2 := ⟨wt_1131, wt_12, by decide, ⟨by decide, by decide⟩, by decide +kernel⟩
theorem ok_X12_line : okY Y_X12_line 1 := ⟨wt_1139, wt_12, by decide, ⟨by decide, by decide⟩, by decide +kernel⟩
theorem ok_X12_inside : okY Y_X12_inside 1 := ⟨wt_1143, wt_12, by decide, ⟨by decide, by decide⟩, by decide +kernel⟩
theorem ok_X12_year : okY Y_X12_year 0 := ⟨wt_1157, wt_12, by decide, ⟨by decide, by decide⟩, by decide +kernel⟩
theorem ok_X12_goesOn : okY Y_X12_goesOn 1 := ⟨wt_1153, wt_12, by decide, ⟨by decide, by decide⟩, by decide +kernel⟩
theorem ok_X12_together : okY Y_X12_together 1 := ⟨wt_1162, wt_12, by decide, ⟨by decide, by decide⟩, by decide +kernel⟩
theorem ok_X12_years : okY Y_X12_years 1 := ⟨wt_1147, wt_12, by decide, ⟨by decide, by decide⟩, by decide +kernel⟩
theorem ok_X12_thoseThatWrite : okY Y_X12_thoseThatWrite 0 := ⟨wt_1170, wt_12, by decide, ⟨by decide, by decide⟩, by decide +kernel⟩
theorem ok_X12_now : okY Y_X12_now 1 := ⟨wt_1166, wt_12, by decide, ⟨by decide, by decide⟩, by decide +kernel⟩
theorem ok_X12_ownsNow : okY Y_X12_ownsNow 1 := ⟨wt_1182, wt_12, by decide, ⟨by decide, by decide⟩, by decide +kernel⟩
theorem ok_X12_on : okY Y_X12_on 3 := ⟨wt_1174, wt_12, by decide, ⟨by decide, by decide⟩, by decide +kernel⟩
theorem ok_X12_isDry : okY Y_X12_isDry 1 := ⟨wt_1194, wt_12, by decide, ⟨by decide, by decide⟩, by decide +kernel⟩
theorem ok_X12_dry : okY Y_X12_dry 1 := ⟨wt_1190, wt_12, by decide, ⟨by decide, by decide⟩, by decide +kernel⟩
theorem ok_X12_richest : okY Y_X12_richest 0 := ⟨wt_1203, wt_12, by decide, ⟨by decide, by decide⟩, by decide +kernel⟩
theorem ok_X12_rich : okY Y_X12_rich 1 := ⟨wt_1199, wt_12, by decide, ⟨by decide, by decide⟩, by decide +kernel⟩
theorem ok_X12_rain : okY Y_X12_rain 1 := ⟨wt_1207, wt_12, by decide, ⟨by decide, by decide⟩, by decide +kernel⟩
theorem ok_X12_longer : okY Y_X12_longer 1 := ⟨wt_1215, wt_12, by decide, ⟨by decide, by decide⟩, by decide +kernel⟩
theorem ok_X12_begin : okY Y_X12_begin 1 := ⟨wt_1219, wt_12, by decide, ⟨by decide, by decide⟩, by decide +kernel⟩
theorem ok_X12_kind : okY Y_X12_kind 1 := ⟨wt_1223, wt_12, by decide, ⟨by decide, by decide⟩, by decide +kernel⟩
theorem ok_X12_ink : okY Y_X12_ink 1 := ⟨wt_1227, wt_12, by decide, ⟨by decide, by decide⟩, by decide +kernel⟩
theorem ok_X12_court : okY Y_X12_court 2 := ⟨wt_1231, wt_12, by decide, ⟨by decide, by decide⟩, by decide +kernel⟩
theorem ok_X12_way : okY Y_X12_way 3 := ⟨wt_1235, wt_12, by decide, ⟨by decide, by decide⟩, by decide +kernel⟩
theorem ok_X12_sea : okY Y_X12_sea 0 := ⟨wt_1239, wt_12, by decide, ⟨by decide, by decide⟩, by decide +kernel⟩
theorem ok_X12_feed : okY Y_X12_feed 2 := ⟨wt_1243, wt_12, by decide, ⟨by decide, by decide⟩, by decide +kernel⟩
theorem ok_X12_wipe : okY Y_X12_wipe 0 := ⟨wt_1248, wt_12, by decide, ⟨by decide, by decide⟩, by decide +kernel⟩
theorem ok_X12_byteAt : okY Y_X12_byteAt 1 := ⟨wt_1264, wt_12, by decide, ⟨by decide, by decide⟩, by decide +kernel⟩
theorem ok_X12_isLetter : okY Y_X12_isLetter 1 := ⟨wt_1267, wt_12, by decide, ⟨by decide, by decide⟩, by decide +kernel⟩
theorem ok_X12_isDigit : okY Y_X12_isDigit 1 := ⟨wt_1272, wt_12, by decide, ⟨by decide, by decide⟩, by decide +kernel⟩
theorem ok_X12_token : okY Y_X12_token 0 := ⟨wt_1260, wt_12, by decide, ⟨by decide, by decide⟩, by decide +kernel⟩
theorem ok_X12_must : okY Y_X12_must 1 := ⟨wt_1302, wt_12, by decide, ⟨by decide, by decide⟩, by decide +kernel⟩
theorem ok_X12_word : okY Y_X12_word 0 := ⟨wt_1286, wt_12, by decide, ⟨by decide, by decide⟩, by decide +kernel⟩
theorem ok_X12_number : okY Y_X12_number 2 := ⟨wt_1307, wt_12, by decide, ⟨by decide, by decide⟩, by decide +kernel⟩
theorem ok_X12_kindHere : okY Y_X12_kindHere 0 := ⟨wt_1282, wt_12, by decide, ⟨by decide, by decide⟩, by decide +kernel⟩
theorem ok_X12_wayHere : okY Y_X12_wayHere 0 := ⟨wt_1312, wt_12, by decide, ⟨by decide, by decide⟩, by decide +kernel⟩
theorem ok_X12_handItem : okY Y_X12_handItem 1 := ⟨wt_1298, wt_12, by decide, ⟨by decide, by decide⟩, by decide +kernel⟩
theorem ok_X12_item : okY Y_X12_item 0 := ⟨wt_1278, wt_12, by decide, ⟨by decide, by decide⟩, by decide +kernel⟩
theorem ok_X12_field : okY Y_X12_field 0 := ⟨wt_1252, wt_12, by decide, ⟨by decide, by decide⟩, by decide +kernel⟩
theorem ok_X12_isOne : okY Y_X12_isOne 1 := ⟨wt_1329, wt_12, by decide, ⟨by decide, by decide⟩, by decide +kernel⟩
theorem ok_X12_sheet : okY Y_X12_sheet 3 := ⟨wt_1326, wt_12, by decide, ⟨by decide, by decide⟩, by decide +kernel⟩
theorem ok_X12_narrowed : okY Y_X12_narrowed 2 := ⟨wt_1342, wt_12, by decide, ⟨by decide, by decide⟩, by decide +kernel⟩
theorem ok_X12_wrong : okY Y_X12_wrong 1 := ⟨wt_1338, wt_12, by decide, ⟨by decide, by decide⟩, by decide +kernel⟩
theorem ok_X12_write : okY Y_X12_write 3 := ⟨wt_1334, wt_12, by decide, ⟨by decide, by decide⟩, by decide +kernel⟩
theorem ok_X12_copy : okY Y_X12_copy 5 := ⟨wt_1346, wt_12, by decide, ⟨by decide, by decide⟩, by decide +kernel⟩
theorem ok_X12_lays : okY Y_X12_lays 1 := ⟨wt_1350, wt_12, by decide, ⟨by decide, by decide⟩, by decide +kernel⟩
theorem ok_X12_book : okY Y_X12_book 2 := ⟨wt_1354, wt_12, by decide, ⟨by decide, by decide⟩, by decide +kernel⟩
theorem ok_X12_isBook : okY Y_X12_isBook 2 := ⟨wt_1362, wt_12, by decide, ⟨by decide, by decide⟩, by decide +kernel⟩
theorem ok_X12_read : okY Y_X12_read 2 := ⟨wt_1358, wt_12, by decide, ⟨by decide, by decide⟩, by decide +kernel⟩
theorem ok_X12_image : okY Y_X12_image 0 := ⟨wt_1366, wt_12, by decide, ⟨by decide, by decide⟩, by decide +kernel⟩
theorem ok_X12_undo : okY Y_X12_undo 0 := ⟨wt_1370, wt_12, by decide, ⟨by decide, by decide⟩, by decide +kernel⟩
theorem ok_X12_tear : okY Y_X12_tear 0 := ⟨wt_1374, wt_12, by decide, ⟨by decide, by decide⟩, by decide +kernel⟩
theorem ok_X12_costsAll : okY Y_X12_costsAll 0 := ⟨wt_1382, wt_12, by decide, ⟨by decide, by decide⟩, by decide +kernel⟩
theorem ok_X12_count : okY Y_X12_count 1 := ⟨wt_1378, wt_12, by decide, ⟨by decide, by decide⟩, by decide +kernel⟩
theorem ok_X12_status : okY Y_X12_status 1 := ⟨wt_1386, wt_12, by decide, ⟨by decide, by decide⟩, by decide +kernel⟩
theorem uw_11 : ∀ w ∈ u_ws RX12 TX12 20, w ∈ wG := by
  intro w hw
  refine List.mem_filter.mpr ⟨List.mem_append_right _ ?_, ?_⟩
  · revert w; decide +kernel
  · revert w; decide +kernel
theorem okf_M_22_11 : okF "PenAcresModel" 22 11 4 := ⟨RX12, TX12, 20, rfl, by decide, uw_11, wt_914⟩
theorem okf_M_16_11 : okF "PenAcresModel" 16 11 2 := ⟨RX12, TX12, 20, rfl, by decide, uw_11, wt_912⟩
theorem okf_M_7_11 : okF "PenAcresModel" 7 11 0 := ⟨RX12, TX12, 20, rfl, by decide, uw_11, wt_910⟩
theorem okf_M_19_11 : okF "PenAcresModel" 19 11 3 := ⟨RX12, TX12, 20, rfl, by decide, uw_11, wt_913⟩
theorem okf_M_25_11 : okF "PenAcresModel" 25 11 6 := ⟨RX12, TX12, 20, rfl, by decide, uw_11, wt_916⟩
theorem okf_M_32_11 : okF "PenAcresModel" 32 11 8 := ⟨RX12, TX12, 20, rfl, by decide, uw_11, wt_918⟩
theorem okf_M_29_11 : okF "PenAcresModel" 29 11 7 := ⟨RX12, TX12, 20, rfl, by decide, uw_11, wt_917⟩
theorem okf_M_35_11 : okF "PenAcresModel" 35 11 9 := ⟨RX12, TX12, 20, rfl, by decide, uw_11, wt_919⟩
theorem okf_M_212_11 : okF "PenAcresModel" 212 11 11 := ⟨RX12, TX12, 20, rfl, by decide, uw_11, wt_921⟩
theorem okf_M_38_11 : okF "PenAcresModel" 38 11 10 := ⟨RX12, TX12, 20, rfl, by decide, uw_11, wt_920⟩
theorem okf_M_224_11 : okF "PenAcresModel" 224 11 13 := ⟨RX12, TX12, 20, rfl, by decide, uw_11, wt_923⟩
theorem okf_M_227_11 : okF "PenAcresModel" 227 11 12 := ⟨RX12, TX12, 20, rfl, by decide, uw_11, wt_922⟩
theorem okf_M_239_11 : okF "PenAcresModel" 239 11 15 := ⟨RX12, TX12, 20, rfl, by decide, uw_11, wt_925⟩
theorem okf_M_250_11 : okF "PenAcresModel" 250 11 14 := ⟨RX12, TX12, 20, rfl, by decide, uw_11, wt_924⟩
theorem okf_M_41_11 : okF "PenAcresModel" 41 11 16 := ⟨RX12, TX12, 20, rfl, by decide, uw_11, wt_926⟩
theorem okf_M_44_11 : okF "PenAcresModel" 44 11 17 := ⟨RX12, TX12, 20, rfl, by decide, uw_11, wt_927⟩
theorem okf_M_47_11 : okF "PenAcresModel" 47 11 18 := ⟨RX12, TX12, 20, rfl, by decide, uw_11, wt_928⟩
theorem okf_M_50_11 : okF "PenAcresModel" 50 11 19 := ⟨RX12, TX12, 20, rfl, by decide, uw_11, wt_929⟩
theorem okf_M_13_11 : okF "PenAcresModel" 13 11 1 := ⟨RX12, TX12, 20, rfl, by decide, uw_11, wt_911⟩
theorem okf_M_325_11 : okF "PenAcresModel" 325 11 5 := ⟨RX12, TX12, 20, rfl, by decide, uw_11, wt_915⟩
theorem okp_M_212_11 : okP "PenAcresModel" 212 11 11 .int false := ⟨RX12, TX12, 20, tyX12, rfl, by decide, uw_11, wt_921, tyX12_ok, nmX12, rfl, by decide +kernel, fun h => by cases h⟩
theorem okp_M_227_11 : okP "PenAcresModel" 227 11 12 .int false := ⟨RX12, TX12, 20, tyX12, rfl, by decide, uw_11, wt_922, tyX12_ok, nmX12, rfl, by decide +kernel, fun h => by cases h⟩
theorem okp_M_224_11 : okP "PenAcresModel" 224 11 13 .int false := ⟨RX12, TX12, 20, tyX12, rfl, by decide, uw_11, wt_923, tyX12_ok, nmX12, rfl, by decide +kernel, fun h => by cases h⟩
theorem okp_M_239_11 : okP "PenAcresModel" 239 11 15 .boolean false := ⟨RX12, TX12, 20, tyX12, rfl, by decide, uw_11, wt_925, tyX12_ok, nmX12, rfl, by decide +kernel, fun h => by cases h⟩
theorem okp_M_250_11 : okP "PenAcresModel" 250 11 14 .int false := ⟨RX12, TX12, 20, tyX12, rfl, by decide, uw_11, wt_924, tyX12_ok, nmX12, rfl, by decide +kernel, fun h => by cases h⟩
theorem okp_M_325_11 : okP "PenAcresModel" 325 11 5 .boolean false := ⟨RX12, TX12, 20, tyX12, rfl, by decide, uw_11, wt_915, tyX12_ok, nmX12, rfl, by decide +kernel, fun h => by cases h⟩
theorem so_86 : (sh 86).1 = 11 := rfl
theorem sa_87 : sh 87 = (20, 176) := rfl
theorem sa_88 : sh 88 = (20, 176) := rfl
theorem sa_89 : sh 89 = (20, 176) := rfl
theorem sa_90 : sh 90 = (20, 176) := rfl
theorem sa_91 : sh 91 = (20, 7) := rfl
theorem sa_92 : sh 92 = (21, 6) := rfl
theorem sa_93 : sh 93 = (21, 6) := rfl
theorem sa_94 : sh 94 = (20, 6) := rfl
theorem sa_95 : sh 95 = (20, 6) := rfl
theorem sa_96 : sh 96 = (20, 120) := rfl
theorem sa_97 : sh 97 = (20, 4) := rfl
theorem sa_98 : sh 98 = (20, 4) := rfl
theorem sa_99 : sh 99 = (21, 160) := rfl
theorem sa_100 : sh 100 = (21, 40) := rfl
end
section
/-! kinds' fields; super calls that come higher up; texts; array copies -/
theorem isK_6 {k : Nat} (h : isK k) : (sh k).1 = 1 ∨ (sh k).1 = 2 ∨ (sh k).1 = 3 ∨ (sh k).1 = 4 ∨ (sh k).1 = 5 ∨ (sh k).1 = 6 := by
  obtain ⟨h1, h2⟩ := h
  omega
theorem isK_str {k : Nat} (h : isK k) : (sh k).1 - 1 < 14 := by
  obtain ⟨h1, h2⟩ := h
  omega
section XK
variable {l : Launch} {G : Gl} {Y : My} {R : Room} {α : Type} {ε : α → Option Value} {pc : Nat} {lv : List (Nat × Value)} {st : List Value} {M : Nm} {t : Option (α × Nm)} {c idx : Nat}
theorem n_getNum (hd : decode Y.2.1 pc = .ok (.getfield idx, 3)) (hF : ∀ ci, 1 ≤ ci → ci ≤ 6 → okF Y.1.cls idx ci 0) (h : isK c) (kk : NJ l G Y R ε (pc + 3) lv (.int (M.1 c 0) :: st) M t) : NJ l G Y R ε pc lv (aR G c :: st) M t :=
  s_getI hd (hF _ h.1 h.2) (by rcases isK_6 h with e | e | e | e | e | e <;> rw [e] <;> rfl) (isK_blt h) rfl (isK_n h) rfl kk
theorem n_getWord (hd : decode Y.2.1 pc = .ok (.getfield idx, 3)) (hF : ∀ ci, 1 ≤ ci → ci ≤ 6 → okF Y.1.cls idx ci 1) (h : isK c) (kk : NJ l G Y R ε (pc + 3) lv (aR G (1000 + ((sh c).1 - 1)) :: st) M t) : NJ l G Y R ε pc lv (aR G c :: st) M t :=
  s_getR hd (hF _ h.1 h.2) (by rcases isK_6 h with e | e | e | e | e | e <;> rw [e] <;> rfl) (isK_blt h) rfl (isK_n h) (r_word h) kk
end XK
section XU
variable {p : Program} {l : Launch} {e : Env} {R : Room} {s : State} {m : MethodId} {args : Array Value} {below : List Frame} {meth : Method} {c : Code}
/-- super.m() where the class above inherits m from the one above it -/
theorem w_callSU2 {T : State} {locs : List Loc} {cells slots : Nat} (X : Stand p l e R s m args below meth c T locs cells slots) (hexec : p.tables.exec = Jvm.exec) {own : String} {index : Nat} {x y : MethodName} {bytes : ByteArray} {maxL : Nat} {ret : Option FieldType}
    (hown : s.vm.findClass own = some m.cls) (hlink : (Cond.methodLink own index x).before args s = true) (hsame : (Cond.sameMethod x.cls y.cls x.name x.desc).before args s = true) (hsup : (Cond.superclass own x.cls).before args s = true) (hsup2 : (Cond.superclass x.cls y.cls).before args s = true) (hxn : x.name = y.name) (hxd : x.desc = y.desc)
    (hinst : (Cond.instanceMethod y).before args s = true) (hcode : (Cond.code y bytes maxL ret).before args s = true) (hno : y.name ≠ "<init>")
    {W : Nat} {Pre : Pt → Array Value → Prop} {Post : Pt → Array Value → Option Value → Pt → Prop} (hK : Back l R p e below s args y 3 W Pre Post)
    {b : Addr} {cellB : Cell} {kB : Class} (hcell : T.heap[b]? = some cellB) (hobj : cellB.vm.isStatics = false) (hkB : s.vm.classes[cellB.cls]? = some kB)
    {g : JFrame} (hg : g.method = m) (hsize : g.locals.size = c.maxLocals) {argsL rest : List Value} (hlen : ∀ sig, parseMethodDescriptor y.desc = some sig → argsL.length = sig.parameters.length)
    (hstack : g.stack = argsL.reverse ++ .ref b :: rest) (hW : 2 * g.monitorRoom + (rest.map fun v => v.category).sum ≤ W) (hdg : decode c.code g.pc = .ok (.invokespecial index, 3))
    (hpre : ∀ vm₁, s.WarmedH vm₁ → Pre ⟨T.setVm vm₁, locs, cells, slots⟩ (Value.ref b :: argsL).toArray) :
    ∃ (v : Option Value) (vm₁ : Vm) (B : Pt), s.WarmedH vm₁ ∧ Stand p l e R s m args below meth c B.U B.locs B.cells B.slots ∧ Post ⟨T.setVm vm₁, locs, cells, slots⟩ (Value.ref b :: argsL).toArray v B ∧
      ∀ target, Steps p.tables e below (B.U.setTop { g with pc := g.pc + 3, stack := v.toList ++ rest }) target → Steps p.tables e below (T.setTop g) target := by
  obtain ⟨mk, methM, hnamed, hmethM, hstM, habM⟩ := Cond.instanceMethod_spec hinst
  obtain ⟨methM', cM, hmethM', -, -, -, -, -, -, hsigM⟩ := Cond.code_spec hnamed hcode
  cases hmethM.symm.trans hmethM'
  obtain ⟨ps, dk, kp, hps, hdk, hkp, hsuper, -, -, hnid⟩ := Cond.superclass_spec hown hsup
  obtain ⟨ps2, dk2, kp2, hps2, hdk2, hkp2, hsuper2, -, -, -⟩ := Cond.superclass_spec hps hsup2
  have hn : s.methodNamed? ⟨y.cls, x.name, x.desc⟩ = some mk := by rw [hxn, hxd]; exact hnamed
  have hpm : ps2 = mk.cls := Option.some.inj (hps2.symm.trans (findClass_of_methodNamed hnamed))
  have hsub : s.vm.isSubclass ps mk.cls = true := by
    have hz : 0 < s.vm.classes.size := Nat.lt_of_le_of_lt (Nat.zero_le _) (Array.getElem?_eq_some_iff.mp hdk2).1
    obtain ⟨n, hn'⟩ : ∃ n, s.vm.classes.size = n + 1 := ⟨s.vm.classes.size - 1, by omega⟩
    rw [← hpm]
    simp [Vm.isSubclass, hn', Vm.isSubclassAux, hdk2, hsuper2]
  obtain ⟨vm₁, X₁, hstep₁⟩ := X.invokespecialUp hexec hown hlink hsame hn hmethM hstM habM (by rw [hxn]; exact hno) hdk hnid hps hsuper hsub (a := b) (cell := cellB) hcell
    (fun z h => by rw [h] at hobj; cases hobj) hkB (g := g) hg (argsL := argsL) (rest := rest) (hlen _ hsigM) hstack hdg
  obtain ⟨v, B, X', hpost, hsteps⟩ := hK m meth c ⟨T.setVm vm₁, locs, cells, slots⟩ { g with stack := rest } (.invokespecial index) mk (Value.ref b :: argsL).toArray X₁ hg hsize hdg hW (X₁.named hnamed) (hpre vm₁ X₁.warmed)
  exact ⟨v, vm₁, B, X₁.warmed, X', hpost, fun target h => hstep₁ _ (by rw [doInvoke_state]; exact hsteps.trans h)⟩
variable {H : Heap} {locs : List Loc} {cells slots : Nat}
theorem w_runSU2 {x y : MethodName} {bytes cc : ByteArray} {maxL nL mc ms n index : Nat} {ret : Option FieldType} {ws : List Cond} {rm : Room} {Pc : Array Value → State → Prop} {Qc : Array Value → State → Outcome → State → Prop} {free : Addr → Prop} {Ts : List Cond} {own C : String} {cC : ClassId} {b : Addr} {As rest : List Value} {g : JFrame}
    (hat : ClassAt s C cC) (S : CallFix p m c cc nL s args Ts own) (hM : Met l y ws rm Pc Qc mc ms free) (hbk : rm.cells = mc ∧ rm.slots = ms ∧ rm.frames + 1 ≤ R.frames ∧ 8 + (maxL + 11) + rm.locals ≤ R.locals ∧ (∀ w ∈ ws, ∀ (a' : Array Value) (U : State), s.WarmedH U.vm → w.before a' U = true) ∧ Cond.code y bytes maxL ret ∈ ws)
    (hl1 : (Cond.methodLink own index x).before args s = true) (hl2 : (Cond.sameMethod x.cls y.cls x.name x.desc).before args s = true) (hl3 : (Cond.superclass own x.cls).before args s = true) (hl3b : (Cond.superclass x.cls y.cls).before args s = true) (hxn : x.name = y.name) (hxd : x.desc = y.desc) (hl4 : (Cond.instanceMethod y).before args s = true) (hini : (Cond.initialized y.cls).before args s = true) (hcode : (Cond.code y bytes maxL ret).before args s = true) (hno : y.name ≠ "<init>") (hlen : ∀ sig, parseMethodDescriptor y.desc = some sig → n = sig.parameters.length) (hp : PreV s H C b Pc As)
    (hg : g.method = m) (hn : As.length = n) (hsize : g.locals.size = nL) (hstack : g.stack = As.reverse ++ .ref b :: rest) (hW : 2 * g.monitorRoom + (rest.map fun v => v.category).sum ≤ 8) (hdg : decode cc g.pc = .ok (.invokespecial index, 3)) (hf : cells + mc ≤ R.cells ∧ slots + ms ≤ R.slots) :
    va_Run p l e R s m args below meth c H locs cells slots mc ms g rest (Qc (Value.ref b :: As).toArray) (free) := by
  obtain ⟨hrc, hrs, hfr, hlo, hws, hcw⟩ := hbk
  have hK : Back l R p e below s args y 3 8 (PreOf R mc ms Pc) (PostOf Qc mc ms free) := back_of (bytes := bytes) (maxL := maxL) (ret := ret) hM hp.1 hrc hrs hfr hlo hws hcw (fun a' U hW => word_at hW (Or.inl (by first | rfl | simp [Cond.onTables, Cond.keeps, Cond.steady])) hini)
  obtain ⟨hx, hb, hml, ho, -⟩ := S
  obtain ⟨-, ⟨cellB, hcB, hoB, hclB⟩, hPc⟩ := hp
  obtain ⟨hfc, kB, hkB, -⟩ := hat
  cases hfc.symm.trans hclB
  intro T hT X
  obtain ⟨v, vm₁, ⟨U', l2, c2, s2⟩, hW₁, X', ⟨g', mk, t, L, e1, e2, hq, h1, hL, h2, h3⟩, st⟩ := w_callSU2 X hx (bytes := bytes) (maxL := maxL) (ret := ret) ho hl1 hl2 hl3 hl3b hxn hxd hl4 hcode hno hK (by rw [hT]; exact hcB) hoB hkB hg (hsize.trans hml.symm) (argsL := As) (rest := rest) (fun sig h => hn.trans (hlen sig h)) hstack hW (by rw [hb]; exact hdg)
    (fun vm₁ hW₁ => ⟨hf.1, hf.2, hPc (T.setVm vm₁) hT hW₁⟩)
  dsimp only [Pt.U, Pt.locs, Pt.cells, Pt.slots] at X' e1 e2 h1 h2 h3 st
  subst h1; subst h2; subst h3
  exact ⟨v, (T.setVm vm₁).calling g' mk (Value.ref b :: As).toArray, t, U', L, hT, X', hL, e1, e2, hq, st⟩
end XU
section XN
variable {l : Launch} {G : Gl} {Y Z : My} {f q f1 q1 : Nat} {α : Type} {ε : α → Option Value} {pc index n c ci : Nat} {lv : List (Nat × Value)} {st st0 : List Value} {M : Nm}
theorem n_invSU2_i {tc : Option (Int32 × Nm)} {t : Int32 → Nm → Option (α × Nm)} {C : String} {T : u_T} {nf : Nat} {x : MethodName} (hd : decode Y.2.1 pc = .ok (.invokespecial index, 3)) (hZ : okY Z n) (hR : okR (zR f q) (zR f1 q1) Z = true) (hlk : Cond.methodLink Y.1.cls index x ∈ wG) (hin : Cond.instanceMethod Z.1 ∈ wG) (hsm : Cond.sameMethod x.cls Z.1.cls x.name x.desc ∈ wG) (hsu : Cond.superclass Y.1.cls x.cls ∈ wG) (hsu2 : Cond.superclass x.cls Z.1.cls ∈ wG) (hxn : x.name = Z.1.name) (hxd : x.desc = Z.1.desc) (hni : Z.1.name ≠ "<init>") (hk : kcl[ci]? = some (C, T, nf)) (hci : Nat.blt ci 20 = true) (hs : (sh c).1 = ci) (hc : c < 101) (vs : List Value) (hn : vs.length = n) (hl : Nat.ble (lg_sl (aR G c :: vs)).length Z.2.2.1 = true) (hst : st0 = vs.reverse ++ aR G c :: st) (hcat : Nat.ble (st.map fun v => v.category).sum 8 = true)
    (kc : NJ l G Z (zR f1 q1) eI 0 (lv_args 0 (aR G c :: vs)) [] M tc) (k : ∀ a M', NJ l G Y (zR f q) ε (pc + 3) lv (.int a :: st) M' (t a M')) : NJ l G Y (zR f q) ε pc lv st0 M (bnd tc t) := by
  intro a Mf h p e s m args below meth co H locs ls C hlv hRl hS
  obtain ⟨a1, M1, h1, h2⟩ := bnd_some h
  obtain ⟨hx, hb, hml, hr, ho, hw, hlk2, hnm, hE⟩ := id C
  subst hst
  obtain ⟨z1, z2, z3, z4, z5⟩ := id hZ
  have hat := (hE.1.1 ci _ hk).2
  have hr1 := okR_1 hR
  have hpay : ∀ w ∈ wsY Z, ∀ (a' : Array Value) (U : State), s.WarmedH U.vm → w.before a' U = true := pay_in hw (fun w hw => by
    rcases List.mem_cons.mp hw with rfl | hw
    · exact ⟨z1, (wG_good _ z1).2⟩
    · exact wG_good _ hw)
  have hlen : ∀ sig, parseMethodDescriptor Z.1.desc = some sig → n = sig.parameters.length := fun sig hs => by
    rw [hs] at z5
    exact (Option.some.inj z5).symm
  exact w_run (w_runSU2 hat (As := vs) (rest := st) (n := n) ⟨hx, hb, hml, ho, hw⟩ (met_of (aR G c :: vs) hZ.2.2.1 (Nat.le_of_ble_eq_true hl) kc h1) ⟨rfl, rfl, hr1.1, hr1.2, hpay, List.mem_cons_self⟩ (hw _ hlk) (hw _ hsm) (hw _ hsu) (hw _ hsu2) hxn hxd (hw _ hin) (hw _ z2) (hw _ z1) hni hlen ⟨pre_blind, rcv hE hRl hc hs hci hk, pre_at hE hRl hS⟩ rfl hn hlv.1 rfl (lv_room (Nat.le_of_ble_eq_true hcat)) hd ⟨Nat.le_refl _, Nat.le_refl _⟩) hS
    (fun H1 locs1 hR1 hS1 => k a1 M1 a Mf h2 p e s m args below meth co H1 locs1 ls C hlv hR1 hS1)
/-- invokevirtual on a receiver that isn't ours -/
theorem n_invVr_i {tc : Option (Int32 × Nm)} {t : Int32 → Nm → Option (α × Nm)} {C : String} {b : Nat} (hd : decode Y.2.1 pc = .ok (.invokevirtual index, 3)) (hZ : okY Z n) (hR : okR (zR f q) (zR f1 q1) Z = true) (hlk : Cond.methodLink Y.1.cls index Z.1 ∈ wG) (hin : Cond.instanceMethod Z.1 ∈ wG) (hse : Cond.selects C Z.1 Z.1 ∈ wG) (hrc : ∀ (s : State) (H : Heap) (locs : List Loc), En G s → va_S (gA G) s.heap H locs → ∃ cell : Cell, H[b]? = some cell ∧ cell.vm.isStatics = false ∧ s.vm.findClass C = some cell.cls) (vs : List Value) (hn : vs.length = n) (hl : Nat.ble (lg_sl (.ref b :: vs)).length Z.2.2.1 = true) (hst : st0 = vs.reverse ++ .ref b :: st) (hcat : Nat.ble (st.map fun v => v.category).sum 8 = true)
    (kc : NJ l G Z (zR f1 q1) eI 0 (lv_args 0 (.ref b :: vs)) [] M tc) (k : ∀ a M', NJ l G Y (zR f q) ε (pc + 3) lv (.int a :: st) M' (t a M')) : NJ l G Y (zR f q) ε pc lv st0 M (bnd tc t) := by
  intro a Mf h p e s m args below meth co H locs ls C hlv hRl hS
  obtain ⟨a1, M1, h1, h2⟩ := bnd_some h
  obtain ⟨hx, hb, hml, hr, ho, hw, hlk2, hnm, hE⟩ := id C
  subst hst
  exact w_run (va_runV (As := vs) (rest := st) (n := n) ⟨hx, hb, hml, ho, hw⟩ (met_of (.ref b :: vs) hZ.2.2.1 (Nat.le_of_ble_eq_true hl) kc h1) ⟨call_B hw hZ hR hlk, hw _ hin, hw _ hse⟩ ⟨pre_blind, hrc s H locs hE hS, pre_at hE hRl hS⟩ rfl hn hlv.1 rfl (lv_room (Nat.le_of_ble_eq_true hcat)) hd ⟨Nat.le_refl _, Nat.le_refl _⟩) hS
    (fun H1 locs1 hR1 hS1 => k a1 M1 a Mf h2 p e s m args below meth co H1 locs1 ls C hlv hR1 hS1)
end XN
/-! array copies -/
def inc (sp n : Int32) (len : Nat) : Bool := decide (0 ≤ sp) && decide (0 ≤ n) && decide (ix sp + ix n ≤ len)
def mCi (M : Nm) (a : Nat) (sp : Int32) (b : Nat) (dp n : Int32) : Nm := (va_up M.1 b (va_cpy (M.1 a) (M.1 b) (ix sp) (ix dp) (ix n)), M.2.1, M.2.2)
def mCl (M : Nm) (a : Nat) (sp : Int32) (b : Nat) (dp n : Int32) : Nm := (M.1, va_up M.2.1 b (va_cpy (M.2.1 a) (M.2.1 b) (ix sp) (ix dp) (ix n)), M.2.2)
theorem inc_1 {sp n : Int32} {len : Nat} (h : inc sp n len = true) : ¬ sp < 0 ∧ ¬ n < 0 ∧ ix sp + ix n ≤ len := by
  simp only [inc, Bool.and_eq_true, decide_eq_true_eq] at h
  exact ⟨fun q => Int32.lt_irrefl (Int32.lt_of_lt_of_le q h.1.1), fun q => Int32.lt_irrefl (Int32.lt_of_lt_of_le q h.1.2), h.2⟩
section XC
variable {l : Launch} {G : Gl} {Y : My} {f q : Nat} {α : Type} {ε : α → Option Value} {pc index n0 n1 a b : Nat} {lv : List (Nat × Value)} {st : List Value} {M : Nm} {t : Option (α × Nm)} {sp dp n : Int32}
theorem n_copyi (hd : decode Y.2.1 pc = .ok (.invokestatic index, 3)) (hlk : Cond.methodLink Y.1.cls index arraycopyName ∈ wG) (hnt : Cond.native arraycopyName ∈ wG) (hsx : Cond.static arraycopyName ∈ wG) (hi : Cond.initialized "java/lang/System" ∈ wG) (hs0 : sh a = (20, n0)) (hs1 : sh b = (20, n1)) (hcat : Nat.ble (st.map fun v => v.category).sum 8 = true) (hrm : 1 ≤ f ∧ 40 ≤ q) (kk : NJ l G Y (zR f q) ε (pc + 3) lv st (mCi M a sp b dp n) t) : NJ l G Y (zR f q) ε pc lv (.int n :: .int dp :: aR G b :: .int sp :: aR G a :: st) M (grd (inc sp n n0 && inc dp n n1) t) := by
  refine s_grd (fun hg => ?_)
  rw [Bool.and_eq_true] at hg
  obtain ⟨g1, g2, g3⟩ := inc_1 hg.1
  obtain ⟨g4, g5, g6⟩ := inc_1 hg.2
  intro a' Mf h p e s m args below meth co H locs ls C hl hR hS
  have hc1 := Nat.le_of_ble_eq_true hcat
  have hnw : nativeFrameWords "java/lang/System" "arraycopy" 5 + 11 ≤ 32 := by decide
  refine va_copyi (tys := tyG G) C.1 C.2.1 (C.2.2.1.trans hl.1.symm) C.2.2.2.2.1 (C.2.2.2.2.2.1 _ hlk) (C.2.2.2.2.2.1 _ hnt) (C.2.2.2.2.2.1 _ hsx) (C.2.2.2.2.2.1 _ hi) C.2.2.2.2.2.2.2.2.1 hR.1 (wl_D _ _ _) hS a b 0 0 (rl_arr (k := 0) (ar_n (k := 0) rfl hs0) hs0 rfl) (rl_arr (k := 0) (ar_n (k := 0) rfl hs1) hs1 rfl) rfl rfl rfl g1 g4 g2 g3 g6 (fun i _ => rfl) hrm.1 (show _ ≤ q by have := hrm.2; omega) hd (fun H1 locs1 hP1 hD1 hS1 => ?_)
  rw [ad_lt (ar_k (k := 0) rfl hs1), wl_set (M' := toM (mCi M a sp b dp n)) (by rw [hs1]; simp [cE, aE, mCi, toM, va_up_self]) (fun c' hc' => cE_row (M := toM M) (M' := toM (mCi M a sp b dp n)) (by simp [toM, mCi, va_up, hc']) rfl rfl _)] at hP1
  exact kk a' Mf h p e s m args below meth co H1 locs1 ls C hl ⟨hP1, fun h => absurd h (Nat.lt_irrefl _)⟩ hS1
theorem n_copyl (hd : decode Y.2.1 pc = .ok (.invokestatic index, 3)) (hlk : Cond.methodLink Y.1.cls index arraycopyName ∈ wG) (hnt : Cond.native arraycopyName ∈ wG) (hsx : Cond.static arraycopyName ∈ wG) (hi : Cond.initialized "java/lang/System" ∈ wG) (hs0 : sh a = (21, n0)) (hs1 : sh b = (21, n1)) (hcat : Nat.ble (st.map fun v => v.category).sum 8 = true) (hrm : 1 ≤ f ∧ 40 ≤ q) (kk : NJ l G Y (zR f q) ε (pc + 3) lv st (mCl M a sp b dp n) t) : NJ l G Y (zR f q) ε pc lv (.int n :: .int dp :: aR G b :: .int sp :: aR G a :: st) M (grd (inc sp n n0 && inc dp n n1) t) := by
  refine s_grd (fun hg => ?_)
  rw [Bool.and_eq_true] at hg
  obtain ⟨g1, g2, g3⟩ := inc_1 hg.1
  obtain ⟨g4, g5, g6⟩ := inc_1 hg.2
  intro a' Mf h p e s m args below meth co H locs ls C hl hR hS
  have hc1 := Nat.le_of_ble_eq_true hcat
  have hnw : nativeFrameWords "java/lang/System" "arraycopy" 5 + 11 ≤ 32 := by decide
  refine va_copyl (tys := tyG G) C.1 C.2.1 (C.2.2.1.trans hl.1.symm) C.2.2.2.2.1 (C.2.2.2.2.2.1 _ hlk) (C.2.2.2.2.2.1 _ hnt) (C.2.2.2.2.2.1 _ hsx) (C.2.2.2.2.2.1 _ hi) C.2.2.2.2.2.2.2.2.1 hR.1 (wl_D _ _ _) hS a b 1 1 (rl_arr (k := 1) (ar_n (k := 1) rfl hs0) hs0 rfl) (rl_arr (k := 1) (ar_n (k := 1) rfl hs1) hs1 rfl) rfl rfl rfl g1 g4 g2 g3 g6 (fun i _ => rfl) hrm.1 (show _ ≤ q by have := hrm.2; omega) hd (fun H1 locs1 hP1 hD1 hS1 => ?_)
  rw [ad_lt (ar_k (k := 1) rfl hs1), wl_set (M' := toM (mCl M a sp b dp n)) (by rw [hs1]; simp [cE, aE, mCl, toM, va_up_self]) (fun c' hc' => cE_row (M := toM M) (M' := toM (mCl M a sp b dp n)) rfl (by simp [toM, mCl, va_up, hc']) rfl _)] at hP1
  exact kk a' Mf h p e s m args below meth co H1 locs1 ls C hl ⟨hP1, fun h => absurd h (Nat.lt_irrefl _)⟩ hS1
end XC
end
