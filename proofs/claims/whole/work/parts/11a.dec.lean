theorem dX12_in_0 : decode cX12_in 0 = .ok (.lload_n 0, 1) := by decide +kernel
theorem dX12_in_1 : decode cX12_in 1 = .ok (.lload_n 2, 1) := by decide +kernel
theorem dX12_in_2 : decode cX12_in 2 = .ok (.lcmp, 1) := by decide +kernel
theorem dX12_in_3 : decode cX12_in 3 = .ok (.ifCond .lt 14, 3) := by decide +kernel
theorem dX12_in_6 : decode cX12_in 6 = .ok (.lload_n 0, 1) := by decide +kernel
theorem dX12_in_7 : decode cX12_in 7 = .ok (.lload 4, 2) := by decide +kernel
theorem dX12_in_9 : decode cX12_in 9 = .ok (.lcmp, 1) := by decide +kernel
theorem dX12_in_10 : decode cX12_in 10 = .ok (.ifCond .gt 7, 3) := by decide +kernel
theorem dX12_in_13 : decode cX12_in 13 = .ok (.iconst 1, 1) := by decide +kernel
theorem dX12_in_14 : decode cX12_in 14 = .ok (.goto 4, 3) := by decide +kernel
theorem dX12_in_17 : decode cX12_in 17 = .ok (.iconst 0, 1) := by decide +kernel
theorem dX12_in_18 : decode cX12_in 18 = .ok (.ireturn, 1) := by decide +kernel
theorem dX12_finds_0 : decode cX12_finds 0 = .ok (.aload_n 0, 1) := by decide +kernel
theorem dX12_finds_1 : decode cX12_finds 1 = .ok (.getfield 22, 3) := by decide +kernel
theorem dX12_finds_4 : decode cX12_finds 4 = .ok (.ldc 53, 2) := by decide +kernel
theorem dX12_finds_6 : decode cX12_finds 6 = .ok (.iload_n 1, 1) := by decide +kernel
theorem dX12_finds_7 : decode cX12_finds 7 = .ok (.isub, 1) := by decide +kernel
theorem dX12_finds_8 : decode cX12_finds 8 = .ok (.dup2, 1) := by decide +kernel
theorem dX12_finds_9 : decode cX12_finds 9 = .ok (.iaload, 1) := by decide +kernel
theorem dX12_finds_10 : decode cX12_finds 10 = .ok (.iconst 1, 1) := by decide +kernel
theorem dX12_finds_11 : decode cX12_finds 11 = .ok (.iadd, 1) := by decide +kernel
theorem dX12_finds_12 : decode cX12_finds 12 = .ok (.iastore, 1) := by decide +kernel
theorem dX12_finds_13 : decode cX12_finds 13 = .ok (.iload_n 1, 1) := by decide +kernel
theorem dX12_finds_14 : decode cX12_finds 14 = .ok (.ireturn, 1) := by decide +kernel
theorem dX12_saves_0 : decode cX12_saves 0 = .ok (.iconst 0, 1) := by decide +kernel
theorem dX12_saves_1 : decode cX12_saves 1 = .ok (.istore_n 1, 1) := by decide +kernel
theorem dX12_saves_2 : decode cX12_saves 2 = .ok (.iload_n 1, 1) := by decide +kernel
theorem dX12_saves_3 : decode cX12_saves 3 = .ok (.sipush 176, 3) := by decide +kernel
theorem dX12_saves_6 : decode cX12_saves 6 = .ok (.if_icmp .ge 21, 3) := by decide +kernel
theorem dX12_saves_9 : decode cX12_saves 9 = .ok (.aload_n 0, 1) := by decide +kernel
theorem dX12_saves_10 : decode cX12_saves 10 = .ok (.getfield 16, 3) := by decide +kernel
theorem dX12_saves_13 : decode cX12_saves 13 = .ok (.iload_n 1, 1) := by decide +kernel
theorem dX12_saves_14 : decode cX12_saves 14 = .ok (.aload_n 0, 1) := by decide +kernel
theorem dX12_saves_15 : decode cX12_saves 15 = .ok (.getfield 7, 3) := by decide +kernel
theorem dX12_saves_18 : decode cX12_saves 18 = .ok (.iload_n 1, 1) := by decide +kernel
theorem dX12_saves_19 : decode cX12_saves 19 = .ok (.iaload, 1) := by decide +kernel
theorem dX12_saves_20 : decode cX12_saves 20 = .ok (.iastore, 1) := by decide +kernel
theorem dX12_saves_21 : decode cX12_saves 21 = .ok (.iinc 1 1, 3) := by decide +kernel
theorem dX12_saves_24 : decode cX12_saves 24 = .ok (.goto (-22), 3) := by decide +kernel
theorem dX12_saves_27 : decode cX12_saves 27 = .ok (.return_, 1) := by decide +kernel
theorem dX12_putsBack_0 : decode cX12_putsBack 0 = .ok (.iconst 0, 1) := by decide +kernel
theorem dX12_putsBack_1 : decode cX12_putsBack 1 = .ok (.istore_n 1, 1) := by decide +kernel
theorem dX12_putsBack_2 : decode cX12_putsBack 2 = .ok (.iload_n 1, 1) := by decide +kernel
theorem dX12_putsBack_3 : decode cX12_putsBack 3 = .ok (.sipush 176, 3) := by decide +kernel
theorem dX12_putsBack_6 : decode cX12_putsBack 6 = .ok (.if_icmp .ge 21, 3) := by decide +kernel
theorem dX12_putsBack_9 : decode cX12_putsBack 9 = .ok (.aload_n 0, 1) := by decide +kernel
theorem dX12_putsBack_10 : decode cX12_putsBack 10 = .ok (.getfield 7, 3) := by decide +kernel
theorem dX12_putsBack_13 : decode cX12_putsBack 13 = .ok (.iload_n 1, 1) := by decide +kernel
theorem dX12_putsBack_14 : decode cX12_putsBack 14 = .ok (.aload_n 0, 1) := by decide +kernel
theorem dX12_putsBack_15 : decode cX12_putsBack 15 = .ok (.getfield 16, 3) := by decide +kernel
theorem dX12_putsBack_18 : decode cX12_putsBack 18 = .ok (.iload_n 1, 1) := by decide +kernel
theorem dX12_putsBack_19 : decode cX12_putsBack 19 = .ok (.iaload, 1) := by decide +kernel
theorem dX12_putsBack_20 : decode cX12_putsBack 20 = .ok (.iastore, 1) := by decide +kernel
theorem dX12_putsBack_21 : decode cX12_putsBack 21 = .ok (.iinc 1 1, 3) := by decide +kernel
theorem dX12_putsBack_24 : decode cX12_putsBack 24 = .ok (.goto (-22), 3) := by decide +kernel
theorem dX12_putsBack_27 : decode cX12_putsBack 27 = .ok (.return_, 1) := by decide +kernel
theorem dX12_laysAside_0 : decode cX12_laysAside 0 = .ok (.iconst 0, 1) := by decide +kernel
theorem dX12_laysAside_1 : decode cX12_laysAside 1 = .ok (.istore_n 1, 1) := by decide +kernel
theorem dX12_laysAside_2 : decode cX12_laysAside 2 = .ok (.iload_n 1, 1) := by decide +kernel
theorem dX12_laysAside_3 : decode cX12_laysAside 3 = .ok (.sipush 176, 3) := by decide +kernel
theorem dX12_laysAside_6 : decode cX12_laysAside 6 = .ok (.if_icmp .ge 21, 3) := by decide +kernel
theorem dX12_laysAside_9 : decode cX12_laysAside 9 = .ok (.aload_n 0, 1) := by decide +kernel
theorem dX12_laysAside_10 : decode cX12_laysAside 10 = .ok (.getfield 19, 3) := by decide +kernel
theorem dX12_laysAside_13 : decode cX12_laysAside 13 = .ok (.iload_n 1, 1) := by decide +kernel
theorem dX12_laysAside_14 : decode cX12_laysAside 14 = .ok (.aload_n 0, 1) := by decide +kernel
theorem dX12_laysAside_15 : decode cX12_laysAside 15 = .ok (.getfield 7, 3) := by decide +kernel
theorem dX12_laysAside_18 : decode cX12_laysAside 18 = .ok (.iload_n 1, 1) := by decide +kernel
theorem dX12_laysAside_19 : decode cX12_laysAside 19 = .ok (.iaload, 1) := by decide +kernel
theorem dX12_laysAside_20 : decode cX12_laysAside 20 = .ok (.iastore, 1) := by decide +kernel
theorem dX12_laysAside_21 : decode cX12_laysAside 21 = .ok (.iinc 1 1, 3) := by decide +kernel
theorem dX12_laysAside_24 : decode cX12_laysAside 24 = .ok (.goto (-22), 3) := by decide +kernel
theorem dX12_laysAside_27 : decode cX12_laysAside 27 = .ok (.return_, 1) := by decide +kernel
theorem dX12_takesBack_0 : decode cX12_takesBack 0 = .ok (.iconst 0, 1) := by decide +kernel
theorem dX12_takesBack_1 : decode cX12_takesBack 1 = .ok (.istore_n 2, 1) := by decide +kernel
theorem dX12_takesBack_2 : decode cX12_takesBack 2 = .ok (.iload_n 2, 1) := by decide +kernel
theorem dX12_takesBack_3 : decode cX12_takesBack 3 = .ok (.sipush 176, 3) := by decide +kernel
theorem dX12_takesBack_6 : decode cX12_takesBack 6 = .ok (.if_icmp .ge 21, 3) := by decide +kernel
theorem dX12_takesBack_9 : decode cX12_takesBack 9 = .ok (.aload_n 0, 1) := by decide +kernel
theorem dX12_takesBack_10 : decode cX12_takesBack 10 = .ok (.getfield 7, 3) := by decide +kernel
theorem dX12_takesBack_13 : decode cX12_takesBack 13 = .ok (.iload_n 2, 1) := by decide +kernel
theorem dX12_takesBack_14 : decode cX12_takesBack 14 = .ok (.aload_n 0, 1) := by decide +kernel
theorem dX12_takesBack_15 : decode cX12_takesBack 15 = .ok (.getfield 19, 3) := by decide +kernel
theorem dX12_takesBack_18 : decode cX12_takesBack 18 = .ok (.iload_n 2, 1) := by decide +kernel
theorem dX12_takesBack_19 : decode cX12_takesBack 19 = .ok (.iaload, 1) := by decide +kernel
theorem dX12_takesBack_20 : decode cX12_takesBack 20 = .ok (.iastore, 1) := by decide +kernel
theorem dX12_takesBack_21 : decode cX12_takesBack 21 = .ok (.iinc 2 1, 3) := by decide +kernel
theorem dX12_takesBack_24 : decode cX12_takesBack 24 = .ok (.goto (-22), 3) := by decide +kernel
theorem dX12_takesBack_27 : decode cX12_takesBack 27 = .ok (.iload_n 1, 1) := by decide +kernel
theorem dX12_takesBack_28 : decode cX12_takesBack 28 = .ok (.ireturn, 1) := by decide +kernel
theorem dX12_becomes_0 : decode cX12_becomes 0 = .ok (.aload_n 0, 1) := by decide +kernel
theorem dX12_becomes_1 : decode cX12_becomes 1 = .ok (.getfield 7, 3) := by decide +kernel
theorem dX12_becomes_4 : decode cX12_becomes 4 = .ok (.iload_n 1, 1) := by decide +kernel
theorem dX12_becomes_5 : decode cX12_becomes 5 = .ok (.iaload, 1) := by decide +kernel
theorem dX12_becomes_6 : decode cX12_becomes 6 = .ok (.istore_n 3, 1) := by decide +kernel
theorem dX12_becomes_7 : decode cX12_becomes 7 = .ok (.aload_n 0, 1) := by decide +kernel
theorem dX12_becomes_8 : decode cX12_becomes 8 = .ok (.getfield 7, 3) := by decide +kernel
theorem dX12_becomes_11 : decode cX12_becomes 11 = .ok (.iload_n 1, 1) := by decide +kernel
theorem dX12_becomes_12 : decode cX12_becomes 12 = .ok (.iload_n 2, 1) := by decide +kernel
theorem dX12_becomes_13 : decode cX12_becomes 13 = .ok (.iastore, 1) := by decide +kernel
theorem dX12_becomes_14 : decode cX12_becomes 14 = .ok (.iload_n 3, 1) := by decide +kernel
theorem dX12_becomes_15 : decode cX12_becomes 15 = .ok (.ireturn, 1) := by decide +kernel
theorem dX12_isCell_0 : decode cX12_isCell 0 = .ok (.iload_n 0, 1) := by decide +kernel
theorem dX12_isCell_1 : decode cX12_isCell 1 = .ok (.i2l, 1) := by decide +kernel
theorem dX12_isCell_2 : decode cX12_isCell 2 = .ok (.lconst 0, 1) := by decide +kernel
theorem dX12_isCell_3 : decode cX12_isCell 3 = .ok (.ldc2_w 54, 3) := by decide +kernel
theorem dX12_isCell_6 : decode cX12_isCell 6 = .ok (.invokestatic 56, 3) := by decide +kernel
theorem dX12_isCell_9 : decode cX12_isCell 9 = .ok (.ireturn, 1) := by decide +kernel
theorem dX12_isHand_0 : decode cX12_isHand 0 = .ok (.iload_n 1, 1) := by decide +kernel
theorem dX12_isHand_1 : decode cX12_isHand 1 = .ok (.i2l, 1) := by decide +kernel
theorem dX12_isHand_2 : decode cX12_isHand 2 = .ok (.lconst 0, 1) := by decide +kernel
theorem dX12_isHand_3 : decode cX12_isHand 3 = .ok (.aload_n 0, 1) := by decide +kernel
theorem dX12_isHand_4 : decode cX12_isHand 4 = .ok (.getfield 7, 3) := by decide +kernel
theorem dX12_isHand_7 : decode cX12_isHand 7 = .ok (.iconst 0, 1) := by decide +kernel
theorem dX12_isHand_8 : decode cX12_isHand 8 = .ok (.iaload, 1) := by decide +kernel
theorem dX12_isHand_9 : decode cX12_isHand 9 = .ok (.iconst 1, 1) := by decide +kernel
theorem dX12_isHand_10 : decode cX12_isHand 10 = .ok (.isub, 1) := by decide +kernel
theorem dX12_isHand_11 : decode cX12_isHand 11 = .ok (.i2l, 1) := by decide +kernel
theorem dX12_isHand_12 : decode cX12_isHand 12 = .ok (.invokestatic 56, 3) := by decide +kernel
theorem dX12_isHand_15 : decode cX12_isHand 15 = .ok (.ireturn, 1) := by decide +kernel
theorem dX12_isKind_0 : decode cX12_isKind 0 = .ok (.iload_n 0, 1) := by decide +kernel
theorem dX12_isKind_1 : decode cX12_isKind 1 = .ok (.i2l, 1) := by decide +kernel
theorem dX12_isKind_2 : decode cX12_isKind 2 = .ok (.lconst 0, 1) := by decide +kernel
theorem dX12_isKind_3 : decode cX12_isKind 3 = .ok (.ldc2_w 60, 3) := by decide +kernel
theorem dX12_isKind_6 : decode cX12_isKind 6 = .ok (.invokestatic 56, 3) := by decide +kernel
theorem dX12_isKind_9 : decode cX12_isKind 9 = .ok (.ireturn, 1) := by decide +kernel
theorem dX12_isWay_0 : decode cX12_isWay 0 = .ok (.iload_n 0, 1) := by decide +kernel
theorem dX12_isWay_1 : decode cX12_isWay 1 = .ok (.i2l, 1) := by decide +kernel
theorem dX12_isWay_2 : decode cX12_isWay 2 = .ok (.lconst 0, 1) := by decide +kernel
theorem dX12_isWay_3 : decode cX12_isWay 3 = .ok (.ldc2_w 62, 3) := by decide +kernel
theorem dX12_isWay_6 : decode cX12_isWay 6 = .ok (.invokestatic 56, 3) := by decide +kernel
theorem dX12_isWay_9 : decode cX12_isWay 9 = .ok (.ireturn, 1) := by decide +kernel
theorem dX12_spot_0 : decode cX12_spot 0 = .ok (.bipush 50, 2) := by decide +kernel
theorem dX12_spot_2 : decode cX12_spot 2 = .ok (.bipush 21, 2) := by decide +kernel
theorem dX12_spot_4 : decode cX12_spot 4 = .ok (.iload_n 0, 1) := by decide +kernel
theorem dX12_spot_5 : decode cX12_spot 5 = .ok (.imul, 1) := by decide +kernel
theorem dX12_spot_6 : decode cX12_spot 6 = .ok (.iadd, 1) := by decide +kernel
theorem dX12_spot_7 : decode cX12_spot 7 = .ok (.iload_n 1, 1) := by decide +kernel
theorem dX12_spot_8 : decode cX12_spot 8 = .ok (.iadd, 1) := by decide +kernel
theorem dX12_spot_9 : decode cX12_spot 9 = .ok (.ireturn, 1) := by decide +kernel
theorem dX12_its_0 : decode cX12_its 0 = .ok (.aload_n 0, 1) := by decide +kernel
theorem dX12_its_1 : decode cX12_its 1 = .ok (.getfield 7, 3) := by decide +kernel
theorem dX12_its_4 : decode cX12_its 4 = .ok (.iload_n 1, 1) := by decide +kernel
theorem dX12_its_5 : decode cX12_its 5 = .ok (.iload_n 2, 1) := by decide +kernel
theorem dX12_its_6 : decode cX12_its 6 = .ok (.invokestatic 64, 3) := by decide +kernel
theorem dX12_its_9 : decode cX12_its 9 = .ok (.iaload, 1) := by decide +kernel
theorem dX12_its_10 : decode cX12_its 10 = .ok (.ireturn, 1) := by decide +kernel
theorem dX12_has_0 : decode cX12_has 0 = .ok (.lload_n 0, 1) := by decide +kernel
theorem dX12_has_1 : decode cX12_has 1 = .ok (.iload_n 2, 1) := by decide +kernel
theorem dX12_has_2 : decode cX12_has 2 = .ok (.lshr, 1) := by decide +kernel
theorem dX12_has_3 : decode cX12_has 3 = .ok (.lconst 1, 1) := by decide +kernel
theorem dX12_has_4 : decode cX12_has 4 = .ok (.land, 1) := by decide +kernel
theorem dX12_has_5 : decode cX12_has 5 = .ok (.lconst 1, 1) := by decide +kernel
theorem dX12_has_6 : decode cX12_has 6 = .ok (.lcmp, 1) := by decide +kernel
theorem dX12_has_7 : decode cX12_has 7 = .ok (.ifCond .ne 7, 3) := by decide +kernel
theorem dX12_has_10 : decode cX12_has 10 = .ok (.iconst 1, 1) := by decide +kernel
theorem dX12_has_11 : decode cX12_has 11 = .ok (.goto 4, 3) := by decide +kernel
theorem dX12_has_14 : decode cX12_has 14 = .ok (.iconst 0, 1) := by decide +kernel
theorem dX12_has_15 : decode cX12_has 15 = .ok (.ireturn, 1) := by decide +kernel
theorem dX12_ones_0 : decode cX12_ones 0 = .ok (.iconst 0, 1) := by decide +kernel
theorem dX12_ones_1 : decode cX12_ones 1 = .ok (.istore_n 2, 1) := by decide +kernel
theorem dX12_ones_2 : decode cX12_ones 2 = .ok (.lload_n 0, 1) := by decide +kernel
theorem dX12_ones_3 : decode cX12_ones 3 = .ok (.lstore_n 3, 1) := by decide +kernel
theorem dX12_ones_4 : decode cX12_ones 4 = .ok (.lload_n 3, 1) := by decide +kernel
theorem dX12_ones_5 : decode cX12_ones 5 = .ok (.lconst 0, 1) := by decide +kernel
theorem dX12_ones_6 : decode cX12_ones 6 = .ok (.lcmp, 1) := by decide +kernel
theorem dX12_ones_7 : decode cX12_ones 7 = .ok (.ifCond .eq 15, 3) := by decide +kernel
theorem dX12_ones_10 : decode cX12_ones 10 = .ok (.iinc 2 1, 3) := by decide +kernel
theorem dX12_ones_13 : decode cX12_ones 13 = .ok (.lload_n 3, 1) := by decide +kernel
theorem dX12_ones_14 : decode cX12_ones 14 = .ok (.lload_n 3, 1) := by decide +kernel
theorem dX12_ones_15 : decode cX12_ones 15 = .ok (.lconst 1, 1) := by decide +kernel
theorem dX12_ones_16 : decode cX12_ones 16 = .ok (.lsub, 1) := by decide +kernel
theorem dX12_ones_17 : decode cX12_ones 17 = .ok (.land, 1) := by decide +kernel
theorem dX12_ones_18 : decode cX12_ones 18 = .ok (.lstore_n 3, 1) := by decide +kernel
theorem dX12_ones_19 : decode cX12_ones 19 = .ok (.goto (-15), 3) := by decide +kernel
theorem dX12_ones_22 : decode cX12_ones 22 = .ok (.iload_n 2, 1) := by decide +kernel
theorem dX12_ones_23 : decode cX12_ones 23 = .ok (.ireturn, 1) := by decide +kernel
theorem dX12_stepsOf_0 : decode cX12_stepsOf 0 = .ok (.aload_n 0, 1) := by decide +kernel
theorem dX12_stepsOf_1 : decode cX12_stepsOf 1 = .ok (.iload_n 1, 1) := by decide +kernel
theorem dX12_stepsOf_2 : decode cX12_stepsOf 2 = .ok (.bipush 13, 2) := by decide +kernel
theorem dX12_stepsOf_4 : decode cX12_stepsOf 4 = .ok (.iload_n 2, 1) := by decide +kernel
theorem dX12_stepsOf_5 : decode cX12_stepsOf 5 = .ok (.iadd, 1) := by decide +kernel
theorem dX12_stepsOf_6 : decode cX12_stepsOf 6 = .ok (.invokevirtual 68, 3) := by decide +kernel
theorem dX12_stepsOf_9 : decode cX12_stepsOf 9 = .ok (.istore_n 3, 1) := by decide +kernel
theorem dX12_stepsOf_10 : decode cX12_stepsOf 10 = .ok (.iload_n 3, 1) := by decide +kernel
theorem dX12_stepsOf_11 : decode cX12_stepsOf 11 = .ok (.iconst 2, 1) := by decide +kernel
theorem dX12_stepsOf_12 : decode cX12_stepsOf 12 = .ok (.if_icmp .ge 7, 3) := by decide +kernel
theorem dX12_stepsOf_15 : decode cX12_stepsOf 15 = .ok (.iconst 1, 1) := by decide +kernel
theorem dX12_stepsOf_16 : decode cX12_stepsOf 16 = .ok (.goto 6, 3) := by decide +kernel
theorem dX12_stepsOf_19 : decode cX12_stepsOf 19 = .ok (.iload_n 3, 1) := by decide +kernel
theorem dX12_stepsOf_20 : decode cX12_stepsOf 20 = .ok (.iconst 2, 1) := by decide +kernel
theorem dX12_stepsOf_21 : decode cX12_stepsOf 21 = .ok (.idiv, 1) := by decide +kernel
theorem dX12_stepsOf_22 : decode cX12_stepsOf 22 = .ok (.istore 4, 2) := by decide +kernel
theorem dX12_stepsOf_24 : decode cX12_stepsOf 24 = .ok (.aload_n 0, 1) := by decide +kernel
theorem dX12_stepsOf_25 : decode cX12_stepsOf 25 = .ok (.iload_n 1, 1) := by decide +kernel
theorem dX12_stepsOf_26 : decode cX12_stepsOf 26 = .ok (.iconst 0, 1) := by decide +kernel
theorem dX12_stepsOf_27 : decode cX12_stepsOf 27 = .ok (.invokevirtual 68, 3) := by decide +kernel
theorem dX12_stepsOf_30 : decode cX12_stepsOf 30 = .ok (.tableswitch 74 1 5 #[34, 37, 41, 60, 37], 34) := by decide +kernel
theorem dX12_stepsOf_64 : decode cX12_stepsOf 64 = .ok (.iload 4, 2) := by decide +kernel
theorem dX12_stepsOf_66 : decode cX12_stepsOf 66 = .ok (.ireturn, 1) := by decide +kernel
theorem dX12_stepsOf_67 : decode cX12_stepsOf 67 = .ok (.iload_n 3, 1) := by decide +kernel
theorem dX12_stepsOf_68 : decode cX12_stepsOf 68 = .ok (.iconst 1, 1) := by decide +kernel
theorem dX12_stepsOf_69 : decode cX12_stepsOf 69 = .ok (.iadd, 1) := by decide +kernel
theorem dX12_stepsOf_70 : decode cX12_stepsOf 70 = .ok (.ireturn, 1) := by decide +kernel
theorem dX12_stepsOf_71 : decode cX12_stepsOf 71 = .ok (.iload_n 3, 1) := by decide +kernel
theorem dX12_stepsOf_72 : decode cX12_stepsOf 72 = .ok (.iload_n 2, 1) := by decide +kernel
theorem dX12_stepsOf_73 : decode cX12_stepsOf 73 = .ok (.iconst 2, 1) := by decide +kernel
theorem dX12_stepsOf_74 : decode cX12_stepsOf 74 = .ok (.irem, 1) := by decide +kernel
theorem dX12_stepsOf_75 : decode cX12_stepsOf 75 = .ok (.isub, 1) := by decide +kernel
theorem dX12_stepsOf_76 : decode cX12_stepsOf 76 = .ok (.iconst 1, 1) := by decide +kernel
theorem dX12_stepsOf_77 : decode cX12_stepsOf 77 = .ok (.if_icmp .ge 7, 3) := by decide +kernel
theorem dX12_stepsOf_80 : decode cX12_stepsOf 80 = .ok (.iconst 1, 1) := by decide +kernel
theorem dX12_stepsOf_81 : decode cX12_stepsOf 81 = .ok (.goto 8, 3) := by decide +kernel
theorem dX12_stepsOf_84 : decode cX12_stepsOf 84 = .ok (.iload_n 3, 1) := by decide +kernel
theorem dX12_stepsOf_85 : decode cX12_stepsOf 85 = .ok (.iload_n 2, 1) := by decide +kernel
theorem dX12_stepsOf_86 : decode cX12_stepsOf 86 = .ok (.iconst 2, 1) := by decide +kernel
theorem dX12_stepsOf_87 : decode cX12_stepsOf 87 = .ok (.irem, 1) := by decide +kernel
theorem dX12_stepsOf_88 : decode cX12_stepsOf 88 = .ok (.isub, 1) := by decide +kernel
theorem dX12_stepsOf_89 : decode cX12_stepsOf 89 = .ok (.ireturn, 1) := by decide +kernel
theorem dX12_stepsOf_90 : decode cX12_stepsOf 90 = .ok (.iload_n 2, 1) := by decide +kernel
theorem dX12_stepsOf_91 : decode cX12_stepsOf 91 = .ok (.ifCond .ne 10, 3) := by decide +kernel
theorem dX12_stepsOf_94 : decode cX12_stepsOf 94 = .ok (.iload 4, 2) := by decide +kernel
theorem dX12_stepsOf_96 : decode cX12_stepsOf 96 = .ok (.iconst 1, 1) := by decide +kernel
theorem dX12_stepsOf_97 : decode cX12_stepsOf 97 = .ok (.iadd, 1) := by decide +kernel
theorem dX12_stepsOf_98 : decode cX12_stepsOf 98 = .ok (.goto 5, 3) := by decide +kernel
theorem dX12_stepsOf_101 : decode cX12_stepsOf 101 = .ok (.iload 4, 2) := by decide +kernel
theorem dX12_stepsOf_103 : decode cX12_stepsOf 103 = .ok (.ireturn, 1) := by decide +kernel
theorem dX12_stepsOf_104 : decode cX12_stepsOf 104 = .ok (.iload_n 3, 1) := by decide +kernel
theorem dX12_stepsOf_105 : decode cX12_stepsOf 105 = .ok (.ireturn, 1) := by decide +kernel
theorem dX12_turned_0 : decode cX12_turned 0 = .ok (.aload_n 0, 1) := by decide +kernel
theorem dX12_turned_1 : decode cX12_turned 1 = .ok (.iload_n 1, 1) := by decide +kernel
theorem dX12_turned_2 : decode cX12_turned 2 = .ok (.iconst 5, 1) := by decide +kernel
theorem dX12_turned_3 : decode cX12_turned 3 = .ok (.iload_n 2, 1) := by decide +kernel
theorem dX12_turned_4 : decode cX12_turned 4 = .ok (.iadd, 1) := by decide +kernel
theorem dX12_turned_5 : decode cX12_turned 5 = .ok (.invokevirtual 68, 3) := by decide +kernel
theorem dX12_turned_8 : decode cX12_turned 8 = .ok (.istore_n 3, 1) := by decide +kernel
theorem dX12_turned_9 : decode cX12_turned 9 = .ok (.aload_n 0, 1) := by decide +kernel
theorem dX12_turned_10 : decode cX12_turned 10 = .ok (.iload_n 1, 1) := by decide +kernel
theorem dX12_turned_11 : decode cX12_turned 11 = .ok (.iconst 0, 1) := by decide +kernel
theorem dX12_turned_12 : decode cX12_turned 12 = .ok (.invokevirtual 68, 3) := by decide +kernel
theorem dX12_turned_15 : decode cX12_turned 15 = .ok (.iconst 5, 1) := by decide +kernel
theorem dX12_turned_16 : decode cX12_turned 16 = .ok (.if_icmp .ne 16, 3) := by decide +kernel
theorem dX12_turned_19 : decode cX12_turned 19 = .ok (.iload_n 3, 1) := by decide +kernel
theorem dX12_turned_20 : decode cX12_turned 20 = .ok (.iconst 2, 1) := by decide +kernel
theorem dX12_turned_21 : decode cX12_turned 21 = .ok (.irem, 1) := by decide +kernel
theorem dX12_turned_22 : decode cX12_turned 22 = .ok (.iconst 1, 1) := by decide +kernel
theorem dX12_turned_23 : decode cX12_turned 23 = .ok (.if_icmp .ne 9, 3) := by decide +kernel
theorem dX12_turned_26 : decode cX12_turned 26 = .ok (.iconst 4, 1) := by decide +kernel
theorem dX12_turned_27 : decode cX12_turned 27 = .ok (.iload_n 3, 1) := by decide +kernel
theorem dX12_turned_28 : decode cX12_turned 28 = .ok (.isub, 1) := by decide +kernel
theorem dX12_turned_29 : decode cX12_turned 29 = .ok (.goto 4, 3) := by decide +kernel
theorem dX12_turned_32 : decode cX12_turned 32 = .ok (.iload_n 3, 1) := by decide +kernel
theorem dX12_turned_33 : decode cX12_turned 33 = .ok (.ireturn, 1) := by decide +kernel
theorem dX12_cropOf_0 : decode cX12_cropOf 0 = .ok (.aload_n 0, 1) := by decide +kernel
theorem dX12_cropOf_1 : decode cX12_cropOf 1 = .ok (.iload_n 1, 1) := by decide +kernel
theorem dX12_cropOf_2 : decode cX12_cropOf 2 = .ok (.iconst 0, 1) := by decide +kernel
theorem dX12_cropOf_3 : decode cX12_cropOf 3 = .ok (.invokevirtual 68, 3) := by decide +kernel
theorem dX12_cropOf_6 : decode cX12_cropOf 6 = .ok (.tableswitch 40 1 5 #[34, 40, 36, 36, 38], 34) := by decide +kernel
theorem dX12_cropOf_40 : decode cX12_cropOf 40 = .ok (.iconst 4, 1) := by decide +kernel
theorem dX12_cropOf_41 : decode cX12_cropOf 41 = .ok (.ireturn, 1) := by decide +kernel
theorem dX12_cropOf_42 : decode cX12_cropOf 42 = .ok (.iconst 3, 1) := by decide +kernel
theorem dX12_cropOf_43 : decode cX12_cropOf 43 = .ok (.ireturn, 1) := by decide +kernel
theorem dX12_cropOf_44 : decode cX12_cropOf 44 = .ok (.iconst 1, 1) := by decide +kernel
theorem dX12_cropOf_45 : decode cX12_cropOf 45 = .ok (.ireturn, 1) := by decide +kernel
theorem dX12_cropOf_46 : decode cX12_cropOf 46 = .ok (.iconst 2, 1) := by decide +kernel
theorem dX12_cropOf_47 : decode cX12_cropOf 47 = .ok (.ireturn, 1) := by decide +kernel
theorem dX12_beside_0 : decode cX12_beside 0 = .ok (.iload_n 0, 1) := by decide +kernel
theorem dX12_beside_1 : decode cX12_beside 1 = .ok (.bipush 8, 2) := by decide +kernel
theorem dX12_beside_3 : decode cX12_beside 3 = .ok (.idiv, 1) := by decide +kernel
theorem dX12_beside_4 : decode cX12_beside 4 = .ok (.istore_n 2, 1) := by decide +kernel
theorem dX12_beside_5 : decode cX12_beside 5 = .ok (.iload_n 0, 1) := by decide +kernel
theorem dX12_beside_6 : decode cX12_beside 6 = .ok (.bipush 8, 2) := by decide +kernel
theorem dX12_beside_8 : decode cX12_beside 8 = .ok (.irem, 1) := by decide +kernel
theorem dX12_beside_9 : decode cX12_beside 9 = .ok (.istore_n 3, 1) := by decide +kernel
theorem dX12_beside_10 : decode cX12_beside 10 = .ok (.iload_n 1, 1) := by decide +kernel
theorem dX12_beside_11 : decode cX12_beside 11 = .ok (.tableswitch 66 0 2 #[25, 38, 52], 25) := by decide +kernel
theorem dX12_beside_36 : decode cX12_beside 36 = .ok (.iload_n 2, 1) := by decide +kernel
theorem dX12_beside_37 : decode cX12_beside 37 = .ok (.ifCond .ne 7, 3) := by decide +kernel
theorem dX12_beside_40 : decode cX12_beside 40 = .ok (.iconst (-1), 1) := by decide +kernel
theorem dX12_beside_41 : decode cX12_beside 41 = .ok (.goto 7, 3) := by decide +kernel
theorem dX12_beside_44 : decode cX12_beside 44 = .ok (.iload_n 0, 1) := by decide +kernel
theorem dX12_beside_45 : decode cX12_beside 45 = .ok (.bipush 8, 2) := by decide +kernel
theorem dX12_beside_47 : decode cX12_beside 47 = .ok (.isub, 1) := by decide +kernel
theorem dX12_beside_48 : decode cX12_beside 48 = .ok (.ireturn, 1) := by decide +kernel
theorem dX12_beside_49 : decode cX12_beside 49 = .ok (.iload_n 3, 1) := by decide +kernel
theorem dX12_beside_50 : decode cX12_beside 50 = .ok (.bipush 7, 2) := by decide +kernel
theorem dX12_beside_52 : decode cX12_beside 52 = .ok (.if_icmp .ne 7, 3) := by decide +kernel
theorem dX12_beside_55 : decode cX12_beside 55 = .ok (.iconst (-1), 1) := by decide +kernel
theorem dX12_beside_56 : decode cX12_beside 56 = .ok (.goto 6, 3) := by decide +kernel
theorem dX12_beside_59 : decode cX12_beside 59 = .ok (.iload_n 0, 1) := by decide +kernel
theorem dX12_beside_60 : decode cX12_beside 60 = .ok (.iconst 1, 1) := by decide +kernel
theorem dX12_beside_61 : decode cX12_beside 61 = .ok (.iadd, 1) := by decide +kernel
theorem dX12_beside_62 : decode cX12_beside 62 = .ok (.ireturn, 1) := by decide +kernel
theorem dX12_beside_63 : decode cX12_beside 63 = .ok (.iload_n 2, 1) := by decide +kernel
theorem dX12_beside_64 : decode cX12_beside 64 = .ok (.iconst 5, 1) := by decide +kernel
theorem dX12_beside_65 : decode cX12_beside 65 = .ok (.if_icmp .ne 7, 3) := by decide +kernel
theorem dX12_beside_68 : decode cX12_beside 68 = .ok (.iconst (-1), 1) := by decide +kernel
theorem dX12_beside_69 : decode cX12_beside 69 = .ok (.goto 7, 3) := by decide +kernel
theorem dX12_beside_72 : decode cX12_beside 72 = .ok (.iload_n 0, 1) := by decide +kernel
theorem dX12_beside_73 : decode cX12_beside 73 = .ok (.bipush 8, 2) := by decide +kernel
theorem dX12_beside_75 : decode cX12_beside 75 = .ok (.iadd, 1) := by decide +kernel
theorem dX12_beside_76 : decode cX12_beside 76 = .ok (.ireturn, 1) := by decide +kernel
theorem dX12_beside_77 : decode cX12_beside 77 = .ok (.iload_n 3, 1) := by decide +kernel
theorem dX12_beside_78 : decode cX12_beside 78 = .ok (.ifCond .ne 7, 3) := by decide +kernel
theorem dX12_beside_81 : decode cX12_beside 81 = .ok (.iconst (-1), 1) := by decide +kernel
theorem dX12_beside_82 : decode cX12_beside 82 = .ok (.goto 6, 3) := by decide +kernel
theorem dX12_beside_85 : decode cX12_beside 85 = .ok (.iload_n 0, 1) := by decide +kernel
theorem dX12_beside_86 : decode cX12_beside 86 = .ok (.iconst 1, 1) := by decide +kernel
theorem dX12_beside_87 : decode cX12_beside 87 = .ok (.isub, 1) := by decide +kernel
theorem dX12_beside_88 : decode cX12_beside 88 = .ok (.ireturn, 1) := by decide +kernel
theorem dX12_isEdge_0 : decode cX12_isEdge 0 = .ok (.iload_n 0, 1) := by decide +kernel
theorem dX12_isEdge_1 : decode cX12_isEdge 1 = .ok (.bipush 8, 2) := by decide +kernel
theorem dX12_isEdge_3 : decode cX12_isEdge 3 = .ok (.idiv, 1) := by decide +kernel
theorem dX12_isEdge_4 : decode cX12_isEdge 4 = .ok (.istore_n 1, 1) := by decide +kernel
theorem dX12_isEdge_5 : decode cX12_isEdge 5 = .ok (.iload_n 0, 1) := by decide +kernel
theorem dX12_isEdge_6 : decode cX12_isEdge 6 = .ok (.bipush 8, 2) := by decide +kernel
theorem dX12_isEdge_8 : decode cX12_isEdge 8 = .ok (.irem, 1) := by decide +kernel
theorem dX12_isEdge_9 : decode cX12_isEdge 9 = .ok (.istore_n 2, 1) := by decide +kernel
theorem dX12_isEdge_10 : decode cX12_isEdge 10 = .ok (.iload_n 1, 1) := by decide +kernel
theorem dX12_isEdge_11 : decode cX12_isEdge 11 = .ok (.ifCond .eq 18, 3) := by decide +kernel
theorem dX12_isEdge_14 : decode cX12_isEdge 14 = .ok (.iload_n 1, 1) := by decide +kernel
theorem dX12_isEdge_15 : decode cX12_isEdge 15 = .ok (.iconst 5, 1) := by decide +kernel
theorem dX12_isEdge_16 : decode cX12_isEdge 16 = .ok (.if_icmp .eq 13, 3) := by decide +kernel
theorem dX12_isEdge_19 : decode cX12_isEdge 19 = .ok (.iload_n 2, 1) := by decide +kernel
theorem dX12_isEdge_20 : decode cX12_isEdge 20 = .ok (.ifCond .eq 9, 3) := by decide +kernel
theorem dX12_isEdge_23 : decode cX12_isEdge 23 = .ok (.iload_n 2, 1) := by decide +kernel
theorem dX12_isEdge_24 : decode cX12_isEdge 24 = .ok (.bipush 7, 2) := by decide +kernel
theorem dX12_isEdge_26 : decode cX12_isEdge 26 = .ok (.if_icmp .ne 7, 3) := by decide +kernel
theorem dX12_isEdge_29 : decode cX12_isEdge 29 = .ok (.iconst 1, 1) := by decide +kernel
theorem dX12_isEdge_30 : decode cX12_isEdge 30 = .ok (.goto 4, 3) := by decide +kernel
theorem dX12_isEdge_33 : decode cX12_isEdge 33 = .ok (.iconst 0, 1) := by decide +kernel
theorem dX12_isEdge_34 : decode cX12_isEdge 34 = .ok (.ireturn, 1) := by decide +kernel
theorem dX12_smudges_0 : decode cX12_smudges 0 = .ok (.lconst 0, 1) := by decide +kernel
theorem dX12_smudges_1 : decode cX12_smudges 1 = .ok (.lstore_n 1, 1) := by decide +kernel
theorem dX12_smudges_2 : decode cX12_smudges 2 = .ok (.iconst 0, 1) := by decide +kernel
theorem dX12_smudges_3 : decode cX12_smudges 3 = .ok (.istore_n 3, 1) := by decide +kernel
theorem dX12_smudges_4 : decode cX12_smudges 4 = .ok (.iload_n 3, 1) := by decide +kernel
theorem dX12_smudges_5 : decode cX12_smudges 5 = .ok (.bipush 48, 2) := by decide +kernel
theorem dX12_smudges_7 : decode cX12_smudges 7 = .ok (.if_icmp .ge 31, 3) := by decide +kernel
theorem dX12_smudges_10 : decode cX12_smudges 10 = .ok (.lload_n 1, 1) := by decide +kernel
theorem dX12_smudges_11 : decode cX12_smudges 11 = .ok (.aload_n 0, 1) := by decide +kernel
theorem dX12_smudges_12 : decode cX12_smudges 12 = .ok (.getfield 7, 3) := by decide +kernel
theorem dX12_smudges_15 : decode cX12_smudges 15 = .ok (.iconst 2, 1) := by decide +kernel
theorem dX12_smudges_16 : decode cX12_smudges 16 = .ok (.iload_n 3, 1) := by decide +kernel
theorem dX12_smudges_17 : decode cX12_smudges 17 = .ok (.iadd, 1) := by decide +kernel
theorem dX12_smudges_18 : decode cX12_smudges 18 = .ok (.iaload, 1) := by decide +kernel
theorem dX12_smudges_19 : decode cX12_smudges 19 = .ok (.iconst 1, 1) := by decide +kernel
theorem dX12_smudges_20 : decode cX12_smudges 20 = .ok (.if_icmp .ne 9, 3) := by decide +kernel
theorem dX12_smudges_23 : decode cX12_smudges 23 = .ok (.lconst 1, 1) := by decide +kernel
theorem dX12_smudges_24 : decode cX12_smudges 24 = .ok (.iload_n 3, 1) := by decide +kernel
theorem dX12_smudges_25 : decode cX12_smudges 25 = .ok (.lshl, 1) := by decide +kernel
theorem dX12_smudges_26 : decode cX12_smudges 26 = .ok (.goto 4, 3) := by decide +kernel
theorem dX12_smudges_29 : decode cX12_smudges 29 = .ok (.lconst 0, 1) := by decide +kernel
theorem dX12_smudges_30 : decode cX12_smudges 30 = .ok (.lor, 1) := by decide +kernel
theorem dX12_smudges_31 : decode cX12_smudges 31 = .ok (.lstore_n 1, 1) := by decide +kernel
theorem dX12_smudges_32 : decode cX12_smudges 32 = .ok (.iinc 3 1, 3) := by decide +kernel
theorem dX12_smudges_35 : decode cX12_smudges 35 = .ok (.goto (-31), 3) := by decide +kernel
theorem dX12_smudges_38 : decode cX12_smudges 38 = .ok (.lload_n 1, 1) := by decide +kernel
theorem dX12_smudges_39 : decode cX12_smudges 39 = .ok (.lreturn, 1) := by decide +kernel
theorem dX12_draws_0 : decode cX12_draws 0 = .ok (.aload_n 0, 1) := by decide +kernel
theorem dX12_draws_1 : decode cX12_draws 1 = .ok (.iload_n 1, 1) := by decide +kernel
theorem dX12_draws_2 : decode cX12_draws 2 = .ok (.iconst 1, 1) := by decide +kernel
theorem dX12_draws_3 : decode cX12_draws 3 = .ok (.invokevirtual 68, 3) := by decide +kernel
theorem dX12_draws_6 : decode cX12_draws 6 = .ok (.istore 4, 2) := by decide +kernel
theorem dX12_draws_8 : decode cX12_draws 8 = .ok (.lconst 1, 1) := by decide +kernel
theorem dX12_draws_9 : decode cX12_draws 9 = .ok (.iload 4, 2) := by decide +kernel
theorem dX12_draws_11 : decode cX12_draws 11 = .ok (.lshl, 1) := by decide +kernel
theorem dX12_draws_12 : decode cX12_draws 12 = .ok (.lstore 5, 2) := by decide +kernel
theorem dX12_draws_14 : decode cX12_draws 14 = .ok (.iconst 0, 1) := by decide +kernel
theorem dX12_draws_15 : decode cX12_draws 15 = .ok (.istore 7, 2) := by decide +kernel
theorem dX12_draws_17 : decode cX12_draws 17 = .ok (.iconst 0, 1) := by decide +kernel
theorem dX12_draws_18 : decode cX12_draws 18 = .ok (.istore 8, 2) := by decide +kernel
theorem dX12_draws_20 : decode cX12_draws 20 = .ok (.iload 8, 2) := by decide +kernel
theorem dX12_draws_22 : decode cX12_draws 22 = .ok (.aload_n 0, 1) := by decide +kernel
theorem dX12_draws_23 : decode cX12_draws 23 = .ok (.iload_n 1, 1) := by decide +kernel
theorem dX12_draws_24 : decode cX12_draws 24 = .ok (.iconst 4, 1) := by decide +kernel
theorem dX12_draws_25 : decode cX12_draws 25 = .ok (.invokevirtual 68, 3) := by decide +kernel
theorem dX12_draws_28 : decode cX12_draws 28 = .ok (.if_icmp .ge 68, 3) := by decide +kernel
theorem dX12_draws_31 : decode cX12_draws 31 = .ok (.aload_n 0, 1) := by decide +kernel
theorem dX12_draws_32 : decode cX12_draws 32 = .ok (.iload_n 1, 1) := by decide +kernel
theorem dX12_draws_33 : decode cX12_draws 33 = .ok (.iload 8, 2) := by decide +kernel
theorem dX12_draws_35 : decode cX12_draws 35 = .ok (.invokevirtual 71, 3) := by decide +kernel
theorem dX12_draws_38 : decode cX12_draws 38 = .ok (.istore 9, 2) := by decide +kernel
theorem dX12_draws_40 : decode cX12_draws 40 = .ok (.aload_n 0, 1) := by decide +kernel
theorem dX12_draws_41 : decode cX12_draws 41 = .ok (.iload_n 1, 1) := by decide +kernel
theorem dX12_draws_42 : decode cX12_draws 42 = .ok (.iload 8, 2) := by decide +kernel
theorem dX12_draws_44 : decode cX12_draws 44 = .ok (.invokevirtual 74, 3) := by decide +kernel
theorem dX12_draws_47 : decode cX12_draws 47 = .ok (.istore 10, 2) := by decide +kernel
theorem dX12_draws_49 : decode cX12_draws 49 = .ok (.iload 10, 2) := by decide +kernel
theorem dX12_draws_51 : decode cX12_draws 51 = .ok (.ifCond .le 39, 3) := by decide +kernel
theorem dX12_draws_54 : decode cX12_draws 54 = .ok (.iload 4, 2) := by decide +kernel
theorem dX12_draws_56 : decode cX12_draws 56 = .ok (.iload 9, 2) := by decide +kernel
theorem dX12_draws_58 : decode cX12_draws 58 = .ok (.invokestatic 77, 3) := by decide +kernel
theorem dX12_draws_61 : decode cX12_draws 61 = .ok (.istore 11, 2) := by decide +kernel
theorem dX12_draws_63 : decode cX12_draws 63 = .ok (.iload 11, 2) := by decide +kernel
theorem dX12_draws_65 : decode cX12_draws 65 = .ok (.ifCond .lt 19, 3) := by decide +kernel
theorem dX12_draws_68 : decode cX12_draws 68 = .ok (.iload 11, 2) := by decide +kernel
theorem dX12_draws_70 : decode cX12_draws 70 = .ok (.istore 4, 2) := by decide +kernel
theorem dX12_draws_72 : decode cX12_draws 72 = .ok (.iinc 7 1, 3) := by decide +kernel
theorem dX12_draws_75 : decode cX12_draws 75 = .ok (.lload 5, 2) := by decide +kernel
theorem dX12_draws_77 : decode cX12_draws 77 = .ok (.lconst 1, 1) := by decide +kernel
theorem dX12_draws_78 : decode cX12_draws 78 = .ok (.iload 4, 2) := by decide +kernel
theorem dX12_draws_80 : decode cX12_draws 80 = .ok (.lshl, 1) := by decide +kernel
theorem dX12_draws_81 : decode cX12_draws 81 = .ok (.lor, 1) := by decide +kernel
theorem dX12_draws_82 : decode cX12_draws 82 = .ok (.lstore 5, 2) := by decide +kernel
theorem dX12_draws_84 : decode cX12_draws 84 = .ok (.iinc 10 (-1), 3) := by decide +kernel
theorem dX12_draws_87 : decode cX12_draws 87 = .ok (.goto (-38), 3) := by decide +kernel
theorem dX12_draws_90 : decode cX12_draws 90 = .ok (.iinc 8 1, 3) := by decide +kernel
theorem dX12_draws_93 : decode cX12_draws 93 = .ok (.goto (-73), 3) := by decide +kernel
theorem dX12_draws_96 : decode cX12_draws 96 = .ok (.aload_n 0, 1) := by decide +kernel
theorem dX12_draws_97 : decode cX12_draws 97 = .ok (.getfield 25, 3) := by decide +kernel
theorem dX12_draws_100 : decode cX12_draws 100 = .ok (.iload_n 1, 1) := by decide +kernel
theorem dX12_draws_101 : decode cX12_draws 101 = .ok (.lload 5, 2) := by decide +kernel
theorem dX12_draws_103 : decode cX12_draws 103 = .ok (.lload_n 2, 1) := by decide +kernel
theorem dX12_draws_104 : decode cX12_draws 104 = .ok (.ldc2_w 80, 3) := by decide +kernel
theorem dX12_draws_107 : decode cX12_draws 107 = .ok (.lxor, 1) := by decide +kernel
theorem dX12_draws_108 : decode cX12_draws 108 = .ok (.land, 1) := by decide +kernel
theorem dX12_draws_109 : decode cX12_draws 109 = .ok (.lastore, 1) := by decide +kernel
theorem dX12_draws_110 : decode cX12_draws 110 = .ok (.aload_n 0, 1) := by decide +kernel
theorem dX12_draws_111 : decode cX12_draws 111 = .ok (.getfield 32, 3) := by decide +kernel
theorem dX12_draws_114 : decode cX12_draws 114 = .ok (.iload_n 1, 1) := by decide +kernel
theorem dX12_draws_115 : decode cX12_draws 115 = .ok (.iload 7, 2) := by decide +kernel
theorem dX12_draws_117 : decode cX12_draws 117 = .ok (.iastore, 1) := by decide +kernel
theorem dX12_draws_118 : decode cX12_draws 118 = .ok (.return_, 1) := by decide +kernel
theorem dX12_insideOf_0 : decode cX12_insideOf 0 = .ok (.lconst 0, 1) := by decide +kernel
theorem dX12_insideOf_1 : decode cX12_insideOf 1 = .ok (.lstore_n 2, 1) := by decide +kernel
theorem dX12_insideOf_2 : decode cX12_insideOf 2 = .ok (.iconst 0, 1) := by decide +kernel
theorem dX12_insideOf_3 : decode cX12_insideOf 3 = .ok (.istore 4, 2) := by decide +kernel
theorem dX12_insideOf_5 : decode cX12_insideOf 5 = .ok (.iload 4, 2) := by decide +kernel
theorem dX12_insideOf_7 : decode cX12_insideOf 7 = .ok (.bipush 48, 2) := by decide +kernel
theorem dX12_insideOf_9 : decode cX12_insideOf 9 = .ok (.if_icmp .ge 37, 3) := by decide +kernel
theorem dX12_insideOf_12 : decode cX12_insideOf 12 = .ok (.lload_n 2, 1) := by decide +kernel
theorem dX12_insideOf_13 : decode cX12_insideOf 13 = .ok (.iload 4, 2) := by decide +kernel
theorem dX12_insideOf_15 : decode cX12_insideOf 15 = .ok (.invokestatic 82, 3) := by decide +kernel
theorem dX12_insideOf_18 : decode cX12_insideOf 18 = .ok (.ifCond .eq 19, 3) := by decide +kernel
theorem dX12_insideOf_21 : decode cX12_insideOf 21 = .ok (.lload_n 0, 1) := by decide +kernel
theorem dX12_insideOf_22 : decode cX12_insideOf 22 = .ok (.iload 4, 2) := by decide +kernel
theorem dX12_insideOf_24 : decode cX12_insideOf 24 = .ok (.invokestatic 86, 3) := by decide +kernel
theorem dX12_insideOf_27 : decode cX12_insideOf 27 = .ok (.ifCond .ne 10, 3) := by decide +kernel
theorem dX12_insideOf_30 : decode cX12_insideOf 30 = .ok (.lconst 1, 1) := by decide +kernel
theorem dX12_insideOf_31 : decode cX12_insideOf 31 = .ok (.iload 4, 2) := by decide +kernel
theorem dX12_insideOf_33 : decode cX12_insideOf 33 = .ok (.lshl, 1) := by decide +kernel
theorem dX12_insideOf_34 : decode cX12_insideOf 34 = .ok (.goto 4, 3) := by decide +kernel
theorem dX12_insideOf_37 : decode cX12_insideOf 37 = .ok (.lconst 0, 1) := by decide +kernel
theorem dX12_insideOf_38 : decode cX12_insideOf 38 = .ok (.lor, 1) := by decide +kernel
theorem dX12_insideOf_39 : decode cX12_insideOf 39 = .ok (.lstore_n 2, 1) := by decide +kernel
theorem dX12_insideOf_40 : decode cX12_insideOf 40 = .ok (.iinc 4 1, 3) := by decide +kernel
theorem dX12_insideOf_43 : decode cX12_insideOf 43 = .ok (.goto (-38), 3) := by decide +kernel
theorem dX12_insideOf_46 : decode cX12_insideOf 46 = .ok (.lconst 0, 1) := by decide +kernel
theorem dX12_insideOf_47 : decode cX12_insideOf 47 = .ok (.lstore 4, 2) := by decide +kernel
theorem dX12_insideOf_49 : decode cX12_insideOf 49 = .ok (.lload 4, 2) := by decide +kernel
theorem dX12_insideOf_51 : decode cX12_insideOf 51 = .ok (.lload_n 2, 1) := by decide +kernel
theorem dX12_insideOf_52 : decode cX12_insideOf 52 = .ok (.lcmp, 1) := by decide +kernel
theorem dX12_insideOf_53 : decode cX12_insideOf 53 = .ok (.ifCond .eq 83, 3) := by decide +kernel
theorem dX12_insideOf_56 : decode cX12_insideOf 56 = .ok (.lload_n 2, 1) := by decide +kernel
theorem dX12_insideOf_57 : decode cX12_insideOf 57 = .ok (.lstore 4, 2) := by decide +kernel
theorem dX12_insideOf_59 : decode cX12_insideOf 59 = .ok (.iconst 0, 1) := by decide +kernel
theorem dX12_insideOf_60 : decode cX12_insideOf 60 = .ok (.istore 6, 2) := by decide +kernel
theorem dX12_insideOf_62 : decode cX12_insideOf 62 = .ok (.iload 6, 2) := by decide +kernel
theorem dX12_insideOf_64 : decode cX12_insideOf 64 = .ok (.bipush 48, 2) := by decide +kernel
theorem dX12_insideOf_66 : decode cX12_insideOf 66 = .ok (.if_icmp .ge 67, 3) := by decide +kernel
theorem dX12_insideOf_69 : decode cX12_insideOf 69 = .ok (.iconst 0, 1) := by decide +kernel
theorem dX12_insideOf_70 : decode cX12_insideOf 70 = .ok (.istore 7, 2) := by decide +kernel
theorem dX12_insideOf_72 : decode cX12_insideOf 72 = .ok (.iload 7, 2) := by decide +kernel
theorem dX12_insideOf_74 : decode cX12_insideOf 74 = .ok (.iconst 4, 1) := by decide +kernel
theorem dX12_insideOf_75 : decode cX12_insideOf 75 = .ok (.if_icmp .ge 52, 3) := by decide +kernel
theorem dX12_insideOf_78 : decode cX12_insideOf 78 = .ok (.lload_n 0, 1) := by decide +kernel
theorem dX12_insideOf_79 : decode cX12_insideOf 79 = .ok (.iload 6, 2) := by decide +kernel
theorem dX12_insideOf_81 : decode cX12_insideOf 81 = .ok (.invokestatic 86, 3) := by decide +kernel
theorem dX12_insideOf_84 : decode cX12_insideOf 84 = .ok (.ifCond .ne 43, 3) := by decide +kernel
theorem dX12_insideOf_87 : decode cX12_insideOf 87 = .ok (.iload 6, 2) := by decide +kernel
theorem dX12_insideOf_89 : decode cX12_insideOf 89 = .ok (.iload 7, 2) := by decide +kernel
theorem dX12_insideOf_91 : decode cX12_insideOf 91 = .ok (.invokestatic 77, 3) := by decide +kernel
theorem dX12_insideOf_94 : decode cX12_insideOf 94 = .ok (.istore 8, 2) := by decide +kernel
theorem dX12_insideOf_96 : decode cX12_insideOf 96 = .ok (.lload_n 2, 1) := by decide +kernel
theorem dX12_insideOf_97 : decode cX12_insideOf 97 = .ok (.iload 8, 2) := by decide +kernel
theorem dX12_insideOf_99 : decode cX12_insideOf 99 = .ok (.ifCond .lt 19, 3) := by decide +kernel
theorem dX12_insideOf_102 : decode cX12_insideOf 102 = .ok (.lload_n 2, 1) := by decide +kernel
theorem dX12_insideOf_103 : decode cX12_insideOf 103 = .ok (.iload 8, 2) := by decide +kernel
theorem dX12_insideOf_105 : decode cX12_insideOf 105 = .ok (.invokestatic 86, 3) := by decide +kernel
theorem dX12_insideOf_108 : decode cX12_insideOf 108 = .ok (.ifCond .eq 10, 3) := by decide +kernel
theorem dX12_insideOf_111 : decode cX12_insideOf 111 = .ok (.lconst 1, 1) := by decide +kernel
theorem dX12_insideOf_112 : decode cX12_insideOf 112 = .ok (.iload 6, 2) := by decide +kernel
theorem dX12_insideOf_114 : decode cX12_insideOf 114 = .ok (.lshl, 1) := by decide +kernel
theorem dX12_insideOf_115 : decode cX12_insideOf 115 = .ok (.goto 4, 3) := by decide +kernel
theorem dX12_insideOf_118 : decode cX12_insideOf 118 = .ok (.lconst 0, 1) := by decide +kernel
theorem dX12_insideOf_119 : decode cX12_insideOf 119 = .ok (.lor, 1) := by decide +kernel
theorem dX12_insideOf_120 : decode cX12_insideOf 120 = .ok (.lstore_n 2, 1) := by decide +kernel
theorem dX12_insideOf_121 : decode cX12_insideOf 121 = .ok (.iinc 7 1, 3) := by decide +kernel
theorem dX12_insideOf_124 : decode cX12_insideOf 124 = .ok (.goto (-52), 3) := by decide +kernel
theorem dX12_insideOf_127 : decode cX12_insideOf 127 = .ok (.iinc 6 1, 3) := by decide +kernel
theorem dX12_insideOf_130 : decode cX12_insideOf 130 = .ok (.goto (-68), 3) := by decide +kernel
theorem dX12_insideOf_133 : decode cX12_insideOf 133 = .ok (.goto (-84), 3) := by decide +kernel
theorem dX12_insideOf_136 : decode cX12_insideOf 136 = .ok (.ldc2_w 90, 3) := by decide +kernel
theorem dX12_insideOf_139 : decode cX12_insideOf 139 = .ok (.lload_n 0, 1) := by decide +kernel
theorem dX12_insideOf_140 : decode cX12_insideOf 140 = .ok (.ldc2_w 80, 3) := by decide +kernel
theorem dX12_insideOf_143 : decode cX12_insideOf 143 = .ok (.lxor, 1) := by decide +kernel
theorem dX12_insideOf_144 : decode cX12_insideOf 144 = .ok (.land, 1) := by decide +kernel
theorem dX12_insideOf_145 : decode cX12_insideOf 145 = .ok (.lload_n 2, 1) := by decide +kernel
theorem dX12_insideOf_146 : decode cX12_insideOf 146 = .ok (.ldc2_w 80, 3) := by decide +kernel
theorem dX12_insideOf_149 : decode cX12_insideOf 149 = .ok (.lxor, 1) := by decide +kernel
theorem dX12_insideOf_150 : decode cX12_insideOf 150 = .ok (.land, 1) := by decide +kernel
theorem dX12_insideOf_151 : decode cX12_insideOf 151 = .ok (.lreturn, 1) := by decide +kernel
theorem dX12_writeAll_0 : decode cX12_writeAll 0 = .ok (.aload_n 0, 1) := by decide +kernel
theorem dX12_writeAll_1 : decode cX12_writeAll 1 = .ok (.invokevirtual 92, 3) := by decide +kernel
theorem dX12_writeAll_4 : decode cX12_writeAll 4 = .ok (.lstore_n 1, 1) := by decide +kernel
theorem dX12_writeAll_5 : decode cX12_writeAll 5 = .ok (.iconst 0, 1) := by decide +kernel
theorem dX12_writeAll_6 : decode cX12_writeAll 6 = .ok (.istore_n 3, 1) := by decide +kernel
theorem dX12_writeAll_7 : decode cX12_writeAll 7 = .ok (.iload_n 3, 1) := by decide +kernel
theorem dX12_writeAll_8 : decode cX12_writeAll 8 = .ok (.aload_n 0, 1) := by decide +kernel
theorem dX12_writeAll_9 : decode cX12_writeAll 9 = .ok (.getfield 7, 3) := by decide +kernel
theorem dX12_writeAll_12 : decode cX12_writeAll 12 = .ok (.iconst 0, 1) := by decide +kernel
theorem dX12_writeAll_13 : decode cX12_writeAll 13 = .ok (.iaload, 1) := by decide +kernel
theorem dX12_writeAll_14 : decode cX12_writeAll 14 = .ok (.if_icmp .ge 30, 3) := by decide +kernel
theorem dX12_writeAll_17 : decode cX12_writeAll 17 = .ok (.aload_n 0, 1) := by decide +kernel
theorem dX12_writeAll_18 : decode cX12_writeAll 18 = .ok (.iload_n 3, 1) := by decide +kernel
theorem dX12_writeAll_19 : decode cX12_writeAll 19 = .ok (.lload_n 1, 1) := by decide +kernel
theorem dX12_writeAll_20 : decode cX12_writeAll 20 = .ok (.invokevirtual 96, 3) := by decide +kernel
theorem dX12_writeAll_23 : decode cX12_writeAll 23 = .ok (.aload_n 0, 1) := by decide +kernel
theorem dX12_writeAll_24 : decode cX12_writeAll 24 = .ok (.getfield 29, 3) := by decide +kernel
theorem dX12_writeAll_27 : decode cX12_writeAll 27 = .ok (.iload_n 3, 1) := by decide +kernel
theorem dX12_writeAll_28 : decode cX12_writeAll 28 = .ok (.aload_n 0, 1) := by decide +kernel
theorem dX12_writeAll_29 : decode cX12_writeAll 29 = .ok (.getfield 25, 3) := by decide +kernel
theorem dX12_writeAll_32 : decode cX12_writeAll 32 = .ok (.iload_n 3, 1) := by decide +kernel
theorem dX12_writeAll_33 : decode cX12_writeAll 33 = .ok (.laload, 1) := by decide +kernel
theorem dX12_writeAll_34 : decode cX12_writeAll 34 = .ok (.invokestatic 100, 3) := by decide +kernel
theorem dX12_writeAll_37 : decode cX12_writeAll 37 = .ok (.lastore, 1) := by decide +kernel
theorem dX12_writeAll_38 : decode cX12_writeAll 38 = .ok (.iinc 3 1, 3) := by decide +kernel
theorem dX12_writeAll_41 : decode cX12_writeAll 41 = .ok (.goto (-34), 3) := by decide +kernel
theorem dX12_writeAll_44 : decode cX12_writeAll 44 = .ok (.return_, 1) := by decide +kernel
theorem dX12_insideMany_0 : decode cX12_insideMany 0 = .ok (.aload_n 0, 1) := by decide +kernel
theorem dX12_insideMany_1 : decode cX12_insideMany 1 = .ok (.iload_n 1, 1) := by decide +kernel
theorem dX12_insideMany_2 : decode cX12_insideMany 2 = .ok (.aload_n 0, 1) := by decide +kernel
theorem dX12_insideMany_3 : decode cX12_insideMany 3 = .ok (.invokevirtual 92, 3) := by decide +kernel
theorem dX12_insideMany_6 : decode cX12_insideMany 6 = .ok (.invokevirtual 96, 3) := by decide +kernel
theorem dX12_insideMany_9 : decode cX12_insideMany 9 = .ok (.aload_n 0, 1) := by decide +kernel
theorem dX12_insideMany_10 : decode cX12_insideMany 10 = .ok (.getfield 25, 3) := by decide +kernel
theorem dX12_insideMany_13 : decode cX12_insideMany 13 = .ok (.iload_n 1, 1) := by decide +kernel
theorem dX12_insideMany_14 : decode cX12_insideMany 14 = .ok (.laload, 1) := by decide +kernel
theorem dX12_insideMany_15 : decode cX12_insideMany 15 = .ok (.invokestatic 100, 3) := by decide +kernel
theorem dX12_insideMany_18 : decode cX12_insideMany 18 = .ok (.invokestatic 104, 3) := by decide +kernel
theorem dX12_insideMany_21 : decode cX12_insideMany 21 = .ok (.ireturn, 1) := by decide +kernel
theorem dX12_writes_0 : decode cX12_writes 0 = .ok (.aload_n 0, 1) := by decide +kernel
theorem dX12_writes_1 : decode cX12_writes 1 = .ok (.iload_n 1, 1) := by decide +kernel
theorem dX12_writes_2 : decode cX12_writes 2 = .ok (.iconst 2, 1) := by decide +kernel
theorem dX12_writes_3 : decode cX12_writes 3 = .ok (.invokevirtual 68, 3) := by decide +kernel
theorem dX12_writes_6 : decode cX12_writes 6 = .ok (.aload_n 0, 1) := by decide +kernel
theorem dX12_writes_7 : decode cX12_writes 7 = .ok (.getfield 32, 3) := by decide +kernel
theorem dX12_writes_10 : decode cX12_writes 10 = .ok (.iload_n 1, 1) := by decide +kernel
theorem dX12_writes_11 : decode cX12_writes 11 = .ok (.iaload, 1) := by decide +kernel
theorem dX12_writes_12 : decode cX12_writes 12 = .ok (.if_icmp .lt 7, 3) := by decide +kernel
theorem dX12_writes_15 : decode cX12_writes 15 = .ok (.iconst 1, 1) := by decide +kernel
theorem dX12_writes_16 : decode cX12_writes 16 = .ok (.goto 4, 3) := by decide +kernel
theorem dX12_writes_19 : decode cX12_writes 19 = .ok (.iconst 0, 1) := by decide +kernel
theorem dX12_writes_20 : decode cX12_writes 20 = .ok (.ireturn, 1) := by decide +kernel
theorem dX12_ownerOf_0 : decode cX12_ownerOf 0 = .ok (.iconst (-1), 1) := by decide +kernel
theorem dX12_ownerOf_1 : decode cX12_ownerOf 1 = .ok (.istore_n 2, 1) := by decide +kernel
theorem dX12_ownerOf_2 : decode cX12_ownerOf 2 = .ok (.iconst 0, 1) := by decide +kernel
theorem dX12_ownerOf_3 : decode cX12_ownerOf 3 = .ok (.istore_n 3, 1) := by decide +kernel
theorem dX12_ownerOf_4 : decode cX12_ownerOf 4 = .ok (.iload_n 3, 1) := by decide +kernel
theorem dX12_ownerOf_5 : decode cX12_ownerOf 5 = .ok (.aload_n 0, 1) := by decide +kernel
theorem dX12_ownerOf_6 : decode cX12_ownerOf 6 = .ok (.getfield 7, 3) := by decide +kernel
theorem dX12_ownerOf_9 : decode cX12_ownerOf 9 = .ok (.iconst 0, 1) := by decide +kernel
theorem dX12_ownerOf_10 : decode cX12_ownerOf 10 = .ok (.iaload, 1) := by decide +kernel
theorem dX12_ownerOf_11 : decode cX12_ownerOf 11 = .ok (.if_icmp .ge 67, 3) := by decide +kernel
theorem dX12_ownerOf_14 : decode cX12_ownerOf 14 = .ok (.aload_n 0, 1) := by decide +kernel
theorem dX12_ownerOf_15 : decode cX12_ownerOf 15 = .ok (.iload_n 3, 1) := by decide +kernel
theorem dX12_ownerOf_16 : decode cX12_ownerOf 16 = .ok (.invokevirtual 108, 3) := by decide +kernel
theorem dX12_ownerOf_19 : decode cX12_ownerOf 19 = .ok (.ifCond .eq 20, 3) := by decide +kernel
theorem dX12_ownerOf_22 : decode cX12_ownerOf 22 = .ok (.aload_n 0, 1) := by decide +kernel
theorem dX12_ownerOf_23 : decode cX12_ownerOf 23 = .ok (.getfield 29, 3) := by decide +kernel
theorem dX12_ownerOf_26 : decode cX12_ownerOf 26 = .ok (.iload_n 3, 1) := by decide +kernel
theorem dX12_ownerOf_27 : decode cX12_ownerOf 27 = .ok (.laload, 1) := by decide +kernel
theorem dX12_ownerOf_28 : decode cX12_ownerOf 28 = .ok (.iload_n 1, 1) := by decide +kernel
theorem dX12_ownerOf_29 : decode cX12_ownerOf 29 = .ok (.invokestatic 86, 3) := by decide +kernel
theorem dX12_ownerOf_32 : decode cX12_ownerOf 32 = .ok (.ifCond .eq 7, 3) := by decide +kernel
theorem dX12_ownerOf_35 : decode cX12_ownerOf 35 = .ok (.iconst 1, 1) := by decide +kernel
theorem dX12_ownerOf_36 : decode cX12_ownerOf 36 = .ok (.goto 4, 3) := by decide +kernel
theorem dX12_ownerOf_39 : decode cX12_ownerOf 39 = .ok (.iconst 0, 1) := by decide +kernel
theorem dX12_ownerOf_40 : decode cX12_ownerOf 40 = .ok (.istore 4, 2) := by decide +kernel
theorem dX12_ownerOf_42 : decode cX12_ownerOf 42 = .ok (.iload 4, 2) := by decide +kernel
theorem dX12_ownerOf_44 : decode cX12_ownerOf 44 = .ok (.ifCond .eq 26, 3) := by decide +kernel
theorem dX12_ownerOf_47 : decode cX12_ownerOf 47 = .ok (.iload_n 2, 1) := by decide +kernel
theorem dX12_ownerOf_48 : decode cX12_ownerOf 48 = .ok (.ifCond .lt 18, 3) := by decide +kernel
theorem dX12_ownerOf_51 : decode cX12_ownerOf 51 = .ok (.aload_n 0, 1) := by decide +kernel
theorem dX12_ownerOf_52 : decode cX12_ownerOf 52 = .ok (.iload_n 3, 1) := by decide +kernel
theorem dX12_ownerOf_53 : decode cX12_ownerOf 53 = .ok (.iconst 2, 1) := by decide +kernel
theorem dX12_ownerOf_54 : decode cX12_ownerOf 54 = .ok (.invokevirtual 68, 3) := by decide +kernel
theorem dX12_ownerOf_57 : decode cX12_ownerOf 57 = .ok (.aload_n 0, 1) := by decide +kernel
theorem dX12_ownerOf_58 : decode cX12_ownerOf 58 = .ok (.iload_n 2, 1) := by decide +kernel
theorem dX12_ownerOf_59 : decode cX12_ownerOf 59 = .ok (.iconst 2, 1) := by decide +kernel
theorem dX12_ownerOf_60 : decode cX12_ownerOf 60 = .ok (.invokevirtual 68, 3) := by decide +kernel
theorem dX12_ownerOf_63 : decode cX12_ownerOf 63 = .ok (.if_icmp .le 7, 3) := by decide +kernel
theorem dX12_ownerOf_66 : decode cX12_ownerOf 66 = .ok (.iload_n 3, 1) := by decide +kernel
theorem dX12_ownerOf_67 : decode cX12_ownerOf 67 = .ok (.goto 4, 3) := by decide +kernel
theorem dX12_ownerOf_70 : decode cX12_ownerOf 70 = .ok (.iload_n 2, 1) := by decide +kernel
theorem dX12_ownerOf_71 : decode cX12_ownerOf 71 = .ok (.istore_n 2, 1) := by decide +kernel
theorem dX12_ownerOf_72 : decode cX12_ownerOf 72 = .ok (.iinc 3 1, 3) := by decide +kernel
theorem dX12_ownerOf_75 : decode cX12_ownerOf 75 = .ok (.goto (-71), 3) := by decide +kernel
theorem dX12_ownerOf_78 : decode cX12_ownerOf 78 = .ok (.iload_n 2, 1) := by decide +kernel
theorem dX12_ownerOf_79 : decode cX12_ownerOf 79 = .ok (.ireturn, 1) := by decide +kernel
theorem dX12_ownedBy_0 : decode cX12_ownedBy 0 = .ok (.iconst 0, 1) := by decide +kernel
theorem dX12_ownedBy_1 : decode cX12_ownedBy 1 = .ok (.istore_n 2, 1) := by decide +kernel
theorem dX12_ownedBy_2 : decode cX12_ownedBy 2 = .ok (.iconst 0, 1) := by decide +kernel
theorem dX12_ownedBy_3 : decode cX12_ownedBy 3 = .ok (.istore_n 3, 1) := by decide +kernel
theorem dX12_ownedBy_4 : decode cX12_ownedBy 4 = .ok (.iload_n 3, 1) := by decide +kernel
theorem dX12_ownedBy_5 : decode cX12_ownedBy 5 = .ok (.bipush 48, 2) := by decide +kernel
theorem dX12_ownedBy_7 : decode cX12_ownedBy 7 = .ok (.if_icmp .ge 39, 3) := by decide +kernel
theorem dX12_ownedBy_10 : decode cX12_ownedBy 10 = .ok (.iload_n 2, 1) := by decide +kernel
theorem dX12_ownedBy_11 : decode cX12_ownedBy 11 = .ok (.aload_n 0, 1) := by decide +kernel
theorem dX12_ownedBy_12 : decode cX12_ownedBy 12 = .ok (.getfield 29, 3) := by decide +kernel
theorem dX12_ownedBy_15 : decode cX12_ownedBy 15 = .ok (.iload_n 1, 1) := by decide +kernel
theorem dX12_ownedBy_16 : decode cX12_ownedBy 16 = .ok (.laload, 1) := by decide +kernel
theorem dX12_ownedBy_17 : decode cX12_ownedBy 17 = .ok (.iload_n 3, 1) := by decide +kernel
theorem dX12_ownedBy_18 : decode cX12_ownedBy 18 = .ok (.invokestatic 86, 3) := by decide +kernel
theorem dX12_ownedBy_21 : decode cX12_ownedBy 21 = .ok (.ifCond .eq 16, 3) := by decide +kernel
theorem dX12_ownedBy_24 : decode cX12_ownedBy 24 = .ok (.aload_n 0, 1) := by decide +kernel
theorem dX12_ownedBy_25 : decode cX12_ownedBy 25 = .ok (.iload_n 3, 1) := by decide +kernel
theorem dX12_ownedBy_26 : decode cX12_ownedBy 26 = .ok (.invokevirtual 111, 3) := by decide +kernel
theorem dX12_ownedBy_29 : decode cX12_ownedBy 29 = .ok (.iload_n 1, 1) := by decide +kernel
theorem dX12_ownedBy_30 : decode cX12_ownedBy 30 = .ok (.if_icmp .ne 7, 3) := by decide +kernel
theorem dX12_ownedBy_33 : decode cX12_ownedBy 33 = .ok (.iconst 1, 1) := by decide +kernel
theorem dX12_ownedBy_34 : decode cX12_ownedBy 34 = .ok (.goto 4, 3) := by decide +kernel
theorem dX12_ownedBy_37 : decode cX12_ownedBy 37 = .ok (.iconst 0, 1) := by decide +kernel
theorem dX12_ownedBy_38 : decode cX12_ownedBy 38 = .ok (.iadd, 1) := by decide +kernel
theorem dX12_ownedBy_39 : decode cX12_ownedBy 39 = .ok (.istore_n 2, 1) := by decide +kernel
theorem dX12_ownedBy_40 : decode cX12_ownedBy 40 = .ok (.iinc 3 1, 3) := by decide +kernel
theorem dX12_ownedBy_43 : decode cX12_ownedBy 43 = .ok (.goto (-39), 3) := by decide +kernel
theorem dX12_ownedBy_46 : decode cX12_ownedBy 46 = .ok (.iload_n 2, 1) := by decide +kernel
theorem dX12_ownedBy_47 : decode cX12_ownedBy 47 = .ok (.ireturn, 1) := by decide +kernel
theorem dX12_smudge_0 : decode cX12_smudge 0 = .ok (.iload_n 1, 1) := by decide +kernel
theorem dX12_smudge_1 : decode cX12_smudge 1 = .ok (.invokestatic 115, 3) := by decide +kernel
theorem dX12_smudge_4 : decode cX12_smudge 4 = .ok (.ifCond .eq 24, 3) := by decide +kernel
theorem dX12_smudge_7 : decode cX12_smudge 7 = .ok (.iload_n 2, 1) := by decide +kernel
theorem dX12_smudge_8 : decode cX12_smudge 8 = .ok (.i2l, 1) := by decide +kernel
theorem dX12_smudge_9 : decode cX12_smudge 9 = .ok (.lconst 0, 1) := by decide +kernel
theorem dX12_smudge_10 : decode cX12_smudge 10 = .ok (.lconst 1, 1) := by decide +kernel
theorem dX12_smudge_11 : decode cX12_smudge 11 = .ok (.invokestatic 56, 3) := by decide +kernel
theorem dX12_smudge_14 : decode cX12_smudge 14 = .ok (.ifCond .eq 14, 3) := by decide +kernel
theorem dX12_smudge_17 : decode cX12_smudge 17 = .ok (.aload_n 0, 1) := by decide +kernel
theorem dX12_smudge_18 : decode cX12_smudge 18 = .ok (.iconst 2, 1) := by decide +kernel
theorem dX12_smudge_19 : decode cX12_smudge 19 = .ok (.iload_n 1, 1) := by decide +kernel
theorem dX12_smudge_20 : decode cX12_smudge 20 = .ok (.iadd, 1) := by decide +kernel
theorem dX12_smudge_21 : decode cX12_smudge 21 = .ok (.iload_n 2, 1) := by decide +kernel
theorem dX12_smudge_22 : decode cX12_smudge 22 = .ok (.invokevirtual 118, 3) := by decide +kernel
theorem dX12_smudge_25 : decode cX12_smudge 25 = .ok (.goto 9, 3) := by decide +kernel
theorem dX12_smudge_28 : decode cX12_smudge 28 = .ok (.aload_n 0, 1) := by decide +kernel
theorem dX12_smudge_29 : decode cX12_smudge 29 = .ok (.ldc 53, 2) := by decide +kernel
theorem dX12_smudge_31 : decode cX12_smudge 31 = .ok (.invokevirtual 121, 3) := by decide +kernel
theorem dX12_smudge_34 : decode cX12_smudge 34 = .ok (.ireturn, 1) := by decide +kernel
theorem dX12_thoseWith_0 : decode cX12_thoseWith 0 = .ok (.iconst 0, 1) := by decide +kernel
theorem dX12_thoseWith_1 : decode cX12_thoseWith 1 = .ok (.istore_n 3, 1) := by decide +kernel
theorem dX12_thoseWith_2 : decode cX12_thoseWith 2 = .ok (.iconst 0, 1) := by decide +kernel
theorem dX12_thoseWith_3 : decode cX12_thoseWith 3 = .ok (.istore 4, 2) := by decide +kernel
theorem dX12_thoseWith_5 : decode cX12_thoseWith 5 = .ok (.iload 4, 2) := by decide +kernel
theorem dX12_thoseWith_7 : decode cX12_thoseWith 7 = .ok (.aload_n 0, 1) := by decide +kernel
theorem dX12_thoseWith_8 : decode cX12_thoseWith 8 = .ok (.getfield 7, 3) := by decide +kernel
theorem dX12_thoseWith_11 : decode cX12_thoseWith 11 = .ok (.iconst 0, 1) := by decide +kernel
theorem dX12_thoseWith_12 : decode cX12_thoseWith 12 = .ok (.iaload, 1) := by decide +kernel
theorem dX12_thoseWith_13 : decode cX12_thoseWith 13 = .ok (.if_icmp .ge 48, 3) := by decide +kernel
theorem dX12_thoseWith_16 : decode cX12_thoseWith 16 = .ok (.iload_n 3, 1) := by decide +kernel
theorem dX12_thoseWith_17 : decode cX12_thoseWith 17 = .ok (.iload_n 2, 1) := by decide +kernel
theorem dX12_thoseWith_18 : decode cX12_thoseWith 18 = .ok (.ifCond .eq 13, 3) := by decide +kernel
theorem dX12_thoseWith_21 : decode cX12_thoseWith 21 = .ok (.aload_n 0, 1) := by decide +kernel
theorem dX12_thoseWith_22 : decode cX12_thoseWith 22 = .ok (.getfield 29, 3) := by decide +kernel
theorem dX12_thoseWith_25 : decode cX12_thoseWith 25 = .ok (.iload 4, 2) := by decide +kernel
theorem dX12_thoseWith_27 : decode cX12_thoseWith 27 = .ok (.laload, 1) := by decide +kernel
theorem dX12_thoseWith_28 : decode cX12_thoseWith 28 = .ok (.goto 10, 3) := by decide +kernel
theorem dX12_thoseWith_31 : decode cX12_thoseWith 31 = .ok (.aload_n 0, 1) := by decide +kernel
theorem dX12_thoseWith_32 : decode cX12_thoseWith 32 = .ok (.getfield 25, 3) := by decide +kernel
theorem dX12_thoseWith_35 : decode cX12_thoseWith 35 = .ok (.iload 4, 2) := by decide +kernel
theorem dX12_thoseWith_37 : decode cX12_thoseWith 37 = .ok (.laload, 1) := by decide +kernel
theorem dX12_thoseWith_38 : decode cX12_thoseWith 38 = .ok (.iload_n 1, 1) := by decide +kernel
theorem dX12_thoseWith_39 : decode cX12_thoseWith 39 = .ok (.invokestatic 86, 3) := by decide +kernel
theorem dX12_thoseWith_42 : decode cX12_thoseWith 42 = .ok (.ifCond .eq 10, 3) := by decide +kernel
theorem dX12_thoseWith_45 : decode cX12_thoseWith 45 = .ok (.iconst 1, 1) := by decide +kernel
theorem dX12_thoseWith_46 : decode cX12_thoseWith 46 = .ok (.iload 4, 2) := by decide +kernel
theorem dX12_thoseWith_48 : decode cX12_thoseWith 48 = .ok (.ishl, 1) := by decide +kernel
theorem dX12_thoseWith_49 : decode cX12_thoseWith 49 = .ok (.goto 4, 3) := by decide +kernel
theorem dX12_thoseWith_52 : decode cX12_thoseWith 52 = .ok (.iconst 0, 1) := by decide +kernel
theorem dX12_thoseWith_53 : decode cX12_thoseWith 53 = .ok (.ior, 1) := by decide +kernel
theorem dX12_thoseWith_54 : decode cX12_thoseWith 54 = .ok (.istore_n 3, 1) := by decide +kernel
theorem dX12_thoseWith_55 : decode cX12_thoseWith 55 = .ok (.iinc 4 1, 3) := by decide +kernel
theorem dX12_thoseWith_58 : decode cX12_thoseWith 58 = .ok (.goto (-53), 3) := by decide +kernel
theorem dX12_thoseWith_61 : decode cX12_thoseWith 61 = .ok (.iload_n 3, 1) := by decide +kernel
theorem dX12_thoseWith_62 : decode cX12_thoseWith 62 = .ok (.ireturn, 1) := by decide +kernel
theorem dX12_cell_0 : decode cX12_cell 0 = .ok (.iload_n 1, 1) := by decide +kernel
theorem dX12_cell_1 : decode cX12_cell 1 = .ok (.invokestatic 115, 3) := by decide +kernel
theorem dX12_cell_4 : decode cX12_cell 4 = .ok (.ifCond .eq 15, 3) := by decide +kernel
theorem dX12_cell_7 : decode cX12_cell 7 = .ok (.iload_n 2, 1) := by decide +kernel
theorem dX12_cell_8 : decode cX12_cell 8 = .ok (.i2l, 1) := by decide +kernel
theorem dX12_cell_9 : decode cX12_cell 9 = .ok (.lconst 0, 1) := by decide +kernel
theorem dX12_cell_10 : decode cX12_cell 10 = .ok (.ldc2_w 62, 3) := by decide +kernel
theorem dX12_cell_13 : decode cX12_cell 13 = .ok (.invokestatic 56, 3) := by decide +kernel
theorem dX12_cell_16 : decode cX12_cell 16 = .ok (.ifCond .ne 10, 3) := by decide +kernel
theorem dX12_cell_19 : decode cX12_cell 19 = .ok (.aload_n 0, 1) := by decide +kernel
theorem dX12_cell_20 : decode cX12_cell 20 = .ok (.ldc 53, 2) := by decide +kernel
theorem dX12_cell_22 : decode cX12_cell 22 = .ok (.invokevirtual 121, 3) := by decide +kernel
theorem dX12_cell_25 : decode cX12_cell 25 = .ok (.ireturn, 1) := by decide +kernel
theorem dX12_cell_26 : decode cX12_cell 26 = .ok (.aload_n 0, 1) := by decide +kernel
theorem dX12_cell_27 : decode cX12_cell 27 = .ok (.invokevirtual 124, 3) := by decide +kernel
theorem dX12_cell_30 : decode cX12_cell 30 = .ok (.iload_n 2, 1) := by decide +kernel
theorem dX12_cell_31 : decode cX12_cell 31 = .ok (.ifCond .ne 14, 3) := by decide +kernel
theorem dX12_cell_34 : decode cX12_cell 34 = .ok (.aload_n 0, 1) := by decide +kernel
theorem dX12_cell_35 : decode cX12_cell 35 = .ok (.getfield 7, 3) := by decide +kernel
theorem dX12_cell_38 : decode cX12_cell 38 = .ok (.iconst 2, 1) := by decide +kernel
theorem dX12_cell_39 : decode cX12_cell 39 = .ok (.iload_n 1, 1) := by decide +kernel
theorem dX12_cell_40 : decode cX12_cell 40 = .ok (.iadd, 1) := by decide +kernel
theorem dX12_cell_41 : decode cX12_cell 41 = .ok (.iaload, 1) := by decide +kernel
theorem dX12_cell_42 : decode cX12_cell 42 = .ok (.goto 31, 3) := by decide +kernel
theorem dX12_cell_45 : decode cX12_cell 45 = .ok (.iload_n 2, 1) := by decide +kernel
theorem dX12_cell_46 : decode cX12_cell 46 = .ok (.iconst 3, 1) := by decide +kernel
theorem dX12_cell_47 : decode cX12_cell 47 = .ok (.if_icmp .ne 11, 3) := by decide +kernel
theorem dX12_cell_50 : decode cX12_cell 50 = .ok (.aload_n 0, 1) := by decide +kernel
theorem dX12_cell_51 : decode cX12_cell 51 = .ok (.iload_n 1, 1) := by decide +kernel
theorem dX12_cell_52 : decode cX12_cell 52 = .ok (.invokevirtual 111, 3) := by decide +kernel
theorem dX12_cell_55 : decode cX12_cell 55 = .ok (.goto 18, 3) := by decide +kernel
theorem dX12_cell_58 : decode cX12_cell 58 = .ok (.aload_n 0, 1) := by decide +kernel
theorem dX12_cell_59 : decode cX12_cell 59 = .ok (.iload_n 1, 1) := by decide +kernel
theorem dX12_cell_60 : decode cX12_cell 60 = .ok (.iload_n 2, 1) := by decide +kernel
theorem dX12_cell_61 : decode cX12_cell 61 = .ok (.iconst 2, 1) := by decide +kernel
theorem dX12_cell_62 : decode cX12_cell 62 = .ok (.if_icmp .ne 7, 3) := by decide +kernel
theorem dX12_cell_65 : decode cX12_cell 65 = .ok (.iconst 1, 1) := by decide +kernel
theorem dX12_cell_66 : decode cX12_cell 66 = .ok (.goto 4, 3) := by decide +kernel
theorem dX12_cell_69 : decode cX12_cell 69 = .ok (.iconst 0, 1) := by decide +kernel
theorem dX12_cell_70 : decode cX12_cell 70 = .ok (.invokevirtual 127, 3) := by decide +kernel
theorem dX12_cell_73 : decode cX12_cell 73 = .ok (.ireturn, 1) := by decide +kernel
theorem dX12_writersInside_0 : decode cX12_writersInside 0 = .ok (.iconst 0, 1) := by decide +kernel
theorem dX12_writersInside_1 : decode cX12_writersInside 1 = .ok (.istore_n 2, 1) := by decide +kernel
theorem dX12_writersInside_2 : decode cX12_writersInside 2 = .ok (.iconst 0, 1) := by decide +kernel
theorem dX12_writersInside_3 : decode cX12_writersInside 3 = .ok (.istore_n 3, 1) := by decide +kernel
theorem dX12_writersInside_4 : decode cX12_writersInside 4 = .ok (.iload_n 3, 1) := by decide +kernel
theorem dX12_writersInside_5 : decode cX12_writersInside 5 = .ok (.aload_n 0, 1) := by decide +kernel
theorem dX12_writersInside_6 : decode cX12_writersInside 6 = .ok (.getfield 7, 3) := by decide +kernel
theorem dX12_writersInside_9 : decode cX12_writersInside 9 = .ok (.iconst 0, 1) := by decide +kernel
theorem dX12_writersInside_10 : decode cX12_writersInside 10 = .ok (.iaload, 1) := by decide +kernel
theorem dX12_writersInside_11 : decode cX12_writersInside 11 = .ok (.if_icmp .ge 38, 3) := by decide +kernel
theorem dX12_writersInside_14 : decode cX12_writersInside 14 = .ok (.iload_n 2, 1) := by decide +kernel
theorem dX12_writersInside_15 : decode cX12_writersInside 15 = .ok (.aload_n 0, 1) := by decide +kernel
theorem dX12_writersInside_16 : decode cX12_writersInside 16 = .ok (.iload_n 3, 1) := by decide +kernel
theorem dX12_writersInside_17 : decode cX12_writersInside 17 = .ok (.invokevirtual 108, 3) := by decide +kernel
theorem dX12_writersInside_20 : decode cX12_writersInside 20 = .ok (.ifCond .eq 20, 3) := by decide +kernel
theorem dX12_writersInside_23 : decode cX12_writersInside 23 = .ok (.aload_n 0, 1) := by decide +kernel
theorem dX12_writersInside_24 : decode cX12_writersInside 24 = .ok (.getfield 29, 3) := by decide +kernel
theorem dX12_writersInside_27 : decode cX12_writersInside 27 = .ok (.iload_n 3, 1) := by decide +kernel
theorem dX12_writersInside_28 : decode cX12_writersInside 28 = .ok (.laload, 1) := by decide +kernel
theorem dX12_writersInside_29 : decode cX12_writersInside 29 = .ok (.iload_n 1, 1) := by decide +kernel
theorem dX12_writersInside_30 : decode cX12_writersInside 30 = .ok (.invokestatic 86, 3) := by decide +kernel
theorem dX12_writersInside_33 : decode cX12_writersInside 33 = .ok (.ifCond .eq 7, 3) := by decide +kernel
theorem dX12_writersInside_36 : decode cX12_writersInside 36 = .ok (.iconst 1, 1) := by decide +kernel
theorem dX12_writersInside_37 : decode cX12_writersInside 37 = .ok (.goto 4, 3) := by decide +kernel
theorem dX12_writersInside_40 : decode cX12_writersInside 40 = .ok (.iconst 0, 1) := by decide +kernel
theorem dX12_writersInside_41 : decode cX12_writersInside 41 = .ok (.iadd, 1) := by decide +kernel
theorem dX12_writersInside_42 : decode cX12_writersInside 42 = .ok (.istore_n 2, 1) := by decide +kernel
theorem dX12_writersInside_43 : decode cX12_writersInside 43 = .ok (.iinc 3 1, 3) := by decide +kernel
theorem dX12_writersInside_46 : decode cX12_writersInside 46 = .ok (.goto (-42), 3) := by decide +kernel
theorem dX12_writersInside_49 : decode cX12_writersInside 49 = .ok (.iload_n 2, 1) := by decide +kernel
theorem dX12_writersInside_50 : decode cX12_writersInside 50 = .ok (.ireturn, 1) := by decide +kernel
theorem dX12_cells_0 : decode cX12_cells 0 = .ok (.iload_n 1, 1) := by decide +kernel
theorem dX12_cells_1 : decode cX12_cells 1 = .ok (.i2l, 1) := by decide +kernel
theorem dX12_cells_2 : decode cX12_cells 2 = .ok (.lconst 0, 1) := by decide +kernel
theorem dX12_cells_3 : decode cX12_cells 3 = .ok (.ldc2_w 131, 3) := by decide +kernel
theorem dX12_cells_6 : decode cX12_cells 6 = .ok (.invokestatic 56, 3) := by decide +kernel
theorem dX12_cells_9 : decode cX12_cells 9 = .ok (.ifCond .ne 11, 3) := by decide +kernel
theorem dX12_cells_12 : decode cX12_cells 12 = .ok (.aload_n 0, 1) := by decide +kernel
theorem dX12_cells_13 : decode cX12_cells 13 = .ok (.ldc 53, 2) := by decide +kernel
theorem dX12_cells_15 : decode cX12_cells 15 = .ok (.invokevirtual 121, 3) := by decide +kernel
theorem dX12_cells_18 : decode cX12_cells 18 = .ok (.i2l, 1) := by decide +kernel
theorem dX12_cells_19 : decode cX12_cells 19 = .ok (.lreturn, 1) := by decide +kernel
theorem dX12_cells_20 : decode cX12_cells 20 = .ok (.iload_n 1, 1) := by decide +kernel
theorem dX12_cells_21 : decode cX12_cells 21 = .ok (.ifCond .ne 8, 3) := by decide +kernel
theorem dX12_cells_24 : decode cX12_cells 24 = .ok (.aload_n 0, 1) := by decide +kernel
theorem dX12_cells_25 : decode cX12_cells 25 = .ok (.invokevirtual 92, 3) := by decide +kernel
theorem dX12_cells_28 : decode cX12_cells 28 = .ok (.lreturn, 1) := by decide +kernel
theorem dX12_cells_29 : decode cX12_cells 29 = .ok (.aload_n 0, 1) := by decide +kernel
theorem dX12_cells_30 : decode cX12_cells 30 = .ok (.invokevirtual 124, 3) := by decide +kernel
theorem dX12_cells_33 : decode cX12_cells 33 = .ok (.lconst 0, 1) := by decide +kernel
theorem dX12_cells_34 : decode cX12_cells 34 = .ok (.lstore_n 2, 1) := by decide +kernel
theorem dX12_cells_35 : decode cX12_cells 35 = .ok (.iconst 0, 1) := by decide +kernel
theorem dX12_cells_36 : decode cX12_cells 36 = .ok (.istore 4, 2) := by decide +kernel
theorem dX12_cells_38 : decode cX12_cells 38 = .ok (.iload 4, 2) := by decide +kernel
theorem dX12_cells_40 : decode cX12_cells 40 = .ok (.bipush 48, 2) := by decide +kernel
theorem dX12_cells_42 : decode cX12_cells 42 = .ok (.if_icmp .ge 39, 3) := by decide +kernel
theorem dX12_cells_45 : decode cX12_cells 45 = .ok (.lload_n 2, 1) := by decide +kernel
theorem dX12_cells_46 : decode cX12_cells 46 = .ok (.aload_n 0, 1) := by decide +kernel
theorem dX12_cells_47 : decode cX12_cells 47 = .ok (.iload 4, 2) := by decide +kernel
theorem dX12_cells_49 : decode cX12_cells 49 = .ok (.invokevirtual 133, 3) := by decide +kernel
theorem dX12_cells_52 : decode cX12_cells 52 = .ok (.iload_n 1, 1) := by decide +kernel
theorem dX12_cells_53 : decode cX12_cells 53 = .ok (.iconst 1, 1) := by decide +kernel
theorem dX12_cells_54 : decode cX12_cells 54 = .ok (.if_icmp .ne 7, 3) := by decide +kernel
theorem dX12_cells_57 : decode cX12_cells 57 = .ok (.iconst 1, 1) := by decide +kernel
theorem dX12_cells_58 : decode cX12_cells 58 = .ok (.goto 4, 3) := by decide +kernel
theorem dX12_cells_61 : decode cX12_cells 61 = .ok (.iconst 0, 1) := by decide +kernel
theorem dX12_cells_62 : decode cX12_cells 62 = .ok (.if_icmp .le 10, 3) := by decide +kernel
theorem dX12_cells_65 : decode cX12_cells 65 = .ok (.lconst 1, 1) := by decide +kernel
theorem dX12_cells_66 : decode cX12_cells 66 = .ok (.iload 4, 2) := by decide +kernel
theorem dX12_cells_68 : decode cX12_cells 68 = .ok (.lshl, 1) := by decide +kernel
theorem dX12_cells_69 : decode cX12_cells 69 = .ok (.goto 4, 3) := by decide +kernel
theorem dX12_cells_72 : decode cX12_cells 72 = .ok (.lconst 0, 1) := by decide +kernel
theorem dX12_cells_73 : decode cX12_cells 73 = .ok (.lor, 1) := by decide +kernel
theorem dX12_cells_74 : decode cX12_cells 74 = .ok (.lstore_n 2, 1) := by decide +kernel
theorem dX12_cells_75 : decode cX12_cells 75 = .ok (.iinc 4 1, 3) := by decide +kernel
theorem dX12_cells_78 : decode cX12_cells 78 = .ok (.goto (-40), 3) := by decide +kernel
theorem dX12_cells_81 : decode cX12_cells 81 = .ok (.lload_n 2, 1) := by decide +kernel
theorem dX12_cells_82 : decode cX12_cells 82 = .ok (.lreturn, 1) := by decide +kernel
theorem dX12_adds_0 : decode cX12_adds 0 = .ok (.aload_n 0, 1) := by decide +kernel
theorem dX12_adds_1 : decode cX12_adds 1 = .ok (.getfield 7, 3) := by decide +kernel
theorem dX12_adds_4 : decode cX12_adds 4 = .ok (.iconst 0, 1) := by decide +kernel
theorem dX12_adds_5 : decode cX12_adds 5 = .ok (.iaload, 1) := by decide +kernel
theorem dX12_adds_6 : decode cX12_adds 6 = .ok (.istore_n 3, 1) := by decide +kernel
theorem dX12_adds_7 : decode cX12_adds 7 = .ok (.iconst 0, 1) := by decide +kernel
theorem dX12_adds_8 : decode cX12_adds 8 = .ok (.istore 4, 2) := by decide +kernel
theorem dX12_adds_10 : decode cX12_adds 10 = .ok (.iload 4, 2) := by decide +kernel
theorem dX12_adds_12 : decode cX12_adds 12 = .ok (.bipush 21, 2) := by decide +kernel
theorem dX12_adds_14 : decode cX12_adds 14 = .ok (.if_icmp .ge 21, 3) := by decide +kernel
theorem dX12_adds_17 : decode cX12_adds 17 = .ok (.aload_n 0, 1) := by decide +kernel
theorem dX12_adds_18 : decode cX12_adds 18 = .ok (.getfield 7, 3) := by decide +kernel
theorem dX12_adds_21 : decode cX12_adds 21 = .ok (.iload_n 3, 1) := by decide +kernel
theorem dX12_adds_22 : decode cX12_adds 22 = .ok (.iload 4, 2) := by decide +kernel
theorem dX12_adds_24 : decode cX12_adds 24 = .ok (.invokestatic 64, 3) := by decide +kernel
theorem dX12_adds_27 : decode cX12_adds 27 = .ok (.iconst 0, 1) := by decide +kernel
theorem dX12_adds_28 : decode cX12_adds 28 = .ok (.iastore, 1) := by decide +kernel
theorem dX12_adds_29 : decode cX12_adds 29 = .ok (.iinc 4 1, 3) := by decide +kernel
theorem dX12_adds_32 : decode cX12_adds 32 = .ok (.goto (-22), 3) := by decide +kernel
theorem dX12_adds_35 : decode cX12_adds 35 = .ok (.aload_n 0, 1) := by decide +kernel
theorem dX12_adds_36 : decode cX12_adds 36 = .ok (.getfield 7, 3) := by decide +kernel
theorem dX12_adds_39 : decode cX12_adds 39 = .ok (.iload_n 3, 1) := by decide +kernel
theorem dX12_adds_40 : decode cX12_adds 40 = .ok (.iconst 0, 1) := by decide +kernel
theorem dX12_adds_41 : decode cX12_adds 41 = .ok (.invokestatic 64, 3) := by decide +kernel
theorem dX12_adds_44 : decode cX12_adds 44 = .ok (.iload_n 1, 1) := by decide +kernel
theorem dX12_adds_45 : decode cX12_adds 45 = .ok (.iastore, 1) := by decide +kernel
theorem dX12_adds_46 : decode cX12_adds 46 = .ok (.aload_n 0, 1) := by decide +kernel
theorem dX12_adds_47 : decode cX12_adds 47 = .ok (.getfield 7, 3) := by decide +kernel
theorem dX12_adds_50 : decode cX12_adds 50 = .ok (.iload_n 3, 1) := by decide +kernel
theorem dX12_adds_51 : decode cX12_adds 51 = .ok (.iconst 1, 1) := by decide +kernel
theorem dX12_adds_52 : decode cX12_adds 52 = .ok (.invokestatic 64, 3) := by decide +kernel
theorem dX12_adds_55 : decode cX12_adds 55 = .ok (.iload_n 2, 1) := by decide +kernel
theorem dX12_adds_56 : decode cX12_adds 56 = .ok (.iastore, 1) := by decide +kernel
theorem dX12_adds_57 : decode cX12_adds 57 = .ok (.aload_n 0, 1) := by decide +kernel
theorem dX12_adds_58 : decode cX12_adds 58 = .ok (.getfield 7, 3) := by decide +kernel
theorem dX12_adds_61 : decode cX12_adds 61 = .ok (.iload_n 3, 1) := by decide +kernel
theorem dX12_adds_62 : decode cX12_adds 62 = .ok (.iconst 2, 1) := by decide +kernel
theorem dX12_adds_63 : decode cX12_adds 63 = .ok (.invokestatic 64, 3) := by decide +kernel
theorem dX12_adds_66 : decode cX12_adds 66 = .ok (.bipush 30, 2) := by decide +kernel
theorem dX12_adds_68 : decode cX12_adds 68 = .ok (.iastore, 1) := by decide +kernel
theorem dX12_adds_69 : decode cX12_adds 69 = .ok (.aload_n 0, 1) := by decide +kernel
theorem dX12_adds_70 : decode cX12_adds 70 = .ok (.getfield 7, 3) := by decide +kernel
theorem dX12_adds_73 : decode cX12_adds 73 = .ok (.iconst 0, 1) := by decide +kernel
theorem dX12_adds_74 : decode cX12_adds 74 = .ok (.dup2, 1) := by decide +kernel
theorem dX12_adds_75 : decode cX12_adds 75 = .ok (.iaload, 1) := by decide +kernel
theorem dX12_adds_76 : decode cX12_adds 76 = .ok (.iconst 1, 1) := by decide +kernel
theorem dX12_adds_77 : decode cX12_adds 77 = .ok (.iadd, 1) := by decide +kernel
theorem dX12_adds_78 : decode cX12_adds 78 = .ok (.iastore, 1) := by decide +kernel
theorem dX12_adds_79 : decode cX12_adds 79 = .ok (.iload_n 3, 1) := by decide +kernel
theorem dX12_adds_80 : decode cX12_adds 80 = .ok (.ireturn, 1) := by decide +kernel
theorem dX12_hand_0 : decode cX12_hand 0 = .ok (.iload_n 1, 1) := by decide +kernel
theorem dX12_hand_1 : decode cX12_hand 1 = .ok (.invokestatic 136, 3) := by decide +kernel
theorem dX12_hand_4 : decode cX12_hand 4 = .ok (.ifCond .eq 10, 3) := by decide +kernel
theorem dX12_hand_7 : decode cX12_hand 7 = .ok (.iload_n 2, 1) := by decide +kernel
theorem dX12_hand_8 : decode cX12_hand 8 = .ok (.invokestatic 115, 3) := by decide +kernel
theorem dX12_hand_11 : decode cX12_hand 11 = .ok (.ifCond .ne 10, 3) := by decide +kernel
theorem dX12_hand_14 : decode cX12_hand 14 = .ok (.aload_n 0, 1) := by decide +kernel
theorem dX12_hand_15 : decode cX12_hand 15 = .ok (.ldc 53, 2) := by decide +kernel
theorem dX12_hand_17 : decode cX12_hand 17 = .ok (.invokevirtual 121, 3) := by decide +kernel
theorem dX12_hand_20 : decode cX12_hand 20 = .ok (.ireturn, 1) := by decide +kernel
theorem dX12_hand_21 : decode cX12_hand 21 = .ok (.aload_n 0, 1) := by decide +kernel
theorem dX12_hand_22 : decode cX12_hand 22 = .ok (.getfield 7, 3) := by decide +kernel
theorem dX12_hand_25 : decode cX12_hand 25 = .ok (.iconst 0, 1) := by decide +kernel
theorem dX12_hand_26 : decode cX12_hand 26 = .ok (.iaload, 1) := by decide +kernel
theorem dX12_hand_27 : decode cX12_hand 27 = .ok (.bipush 6, 2) := by decide +kernel
theorem dX12_hand_29 : decode cX12_hand 29 = .ok (.if_icmp .ne 12, 3) := by decide +kernel
theorem dX12_hand_32 : decode cX12_hand 32 = .ok (.aload_n 0, 1) := by decide +kernel
theorem dX12_hand_33 : decode cX12_hand 33 = .ok (.ldc 139, 2) := by decide +kernel
theorem dX12_hand_35 : decode cX12_hand 35 = .ok (.invokevirtual 121, 3) := by decide +kernel
theorem dX12_hand_38 : decode cX12_hand 38 = .ok (.goto 9, 3) := by decide +kernel
theorem dX12_hand_41 : decode cX12_hand 41 = .ok (.aload_n 0, 1) := by decide +kernel
theorem dX12_hand_42 : decode cX12_hand 42 = .ok (.iload_n 1, 1) := by decide +kernel
theorem dX12_hand_43 : decode cX12_hand 43 = .ok (.iload_n 2, 1) := by decide +kernel
theorem dX12_hand_44 : decode cX12_hand 44 = .ok (.invokevirtual 140, 3) := by decide +kernel
theorem dX12_hand_47 : decode cX12_hand 47 = .ok (.ireturn, 1) := by decide +kernel
theorem dX12_strokes_0 : decode cX12_strokes 0 = .ok (.aload_n 0, 1) := by decide +kernel
theorem dX12_strokes_1 : decode cX12_strokes 1 = .ok (.iload_n 1, 1) := by decide +kernel
theorem dX12_strokes_2 : decode cX12_strokes 2 = .ok (.iconst 4, 1) := by decide +kernel
theorem dX12_strokes_3 : decode cX12_strokes 3 = .ok (.invokevirtual 68, 3) := by decide +kernel
theorem dX12_strokes_6 : decode cX12_strokes 6 = .ok (.istore 4, 2) := by decide +kernel
theorem dX12_strokes_8 : decode cX12_strokes 8 = .ok (.aload_n 0, 1) := by decide +kernel
theorem dX12_strokes_9 : decode cX12_strokes 9 = .ok (.getfield 7, 3) := by decide +kernel
theorem dX12_strokes_12 : decode cX12_strokes 12 = .ok (.iload_n 1, 1) := by decide +kernel
theorem dX12_strokes_13 : decode cX12_strokes 13 = .ok (.iconst 5, 1) := by decide +kernel
theorem dX12_strokes_14 : decode cX12_strokes 14 = .ok (.iload 4, 2) := by decide +kernel
theorem dX12_strokes_16 : decode cX12_strokes 16 = .ok (.iadd, 1) := by decide +kernel
theorem dX12_strokes_17 : decode cX12_strokes 17 = .ok (.invokestatic 64, 3) := by decide +kernel
theorem dX12_strokes_20 : decode cX12_strokes 20 = .ok (.iload_n 2, 1) := by decide +kernel
theorem dX12_strokes_21 : decode cX12_strokes 21 = .ok (.iastore, 1) := by decide +kernel
theorem dX12_strokes_22 : decode cX12_strokes 22 = .ok (.aload_n 0, 1) := by decide +kernel
theorem dX12_strokes_23 : decode cX12_strokes 23 = .ok (.getfield 7, 3) := by decide +kernel
theorem dX12_strokes_26 : decode cX12_strokes 26 = .ok (.iload_n 1, 1) := by decide +kernel
theorem dX12_strokes_27 : decode cX12_strokes 27 = .ok (.bipush 13, 2) := by decide +kernel
theorem dX12_strokes_29 : decode cX12_strokes 29 = .ok (.iload 4, 2) := by decide +kernel
theorem dX12_strokes_31 : decode cX12_strokes 31 = .ok (.iadd, 1) := by decide +kernel
theorem dX12_strokes_32 : decode cX12_strokes 32 = .ok (.invokestatic 64, 3) := by decide +kernel
theorem dX12_strokes_35 : decode cX12_strokes 35 = .ok (.iload_n 3, 1) := by decide +kernel
theorem dX12_strokes_36 : decode cX12_strokes 36 = .ok (.iastore, 1) := by decide +kernel
theorem dX12_strokes_37 : decode cX12_strokes 37 = .ok (.aload_n 0, 1) := by decide +kernel
theorem dX12_strokes_38 : decode cX12_strokes 38 = .ok (.getfield 7, 3) := by decide +kernel
theorem dX12_strokes_41 : decode cX12_strokes 41 = .ok (.iload_n 1, 1) := by decide +kernel
theorem dX12_strokes_42 : decode cX12_strokes 42 = .ok (.iconst 4, 1) := by decide +kernel
theorem dX12_strokes_43 : decode cX12_strokes 43 = .ok (.invokestatic 64, 3) := by decide +kernel
theorem dX12_strokes_46 : decode cX12_strokes 46 = .ok (.dup2, 1) := by decide +kernel
theorem dX12_strokes_47 : decode cX12_strokes 47 = .ok (.iaload, 1) := by decide +kernel
theorem dX12_strokes_48 : decode cX12_strokes 48 = .ok (.iconst 1, 1) := by decide +kernel
theorem dX12_strokes_49 : decode cX12_strokes 49 = .ok (.iadd, 1) := by decide +kernel
theorem dX12_strokes_50 : decode cX12_strokes 50 = .ok (.iastore, 1) := by decide +kernel
theorem dX12_strokes_51 : decode cX12_strokes 51 = .ok (.iload 4, 2) := by decide +kernel
theorem dX12_strokes_53 : decode cX12_strokes 53 = .ok (.iconst 1, 1) := by decide +kernel
theorem dX12_strokes_54 : decode cX12_strokes 54 = .ok (.iadd, 1) := by decide +kernel
theorem dX12_strokes_55 : decode cX12_strokes 55 = .ok (.ireturn, 1) := by decide +kernel
theorem dX12_stroke_0 : decode cX12_stroke 0 = .ok (.aload_n 0, 1) := by decide +kernel
theorem dX12_stroke_1 : decode cX12_stroke 1 = .ok (.iload_n 1, 1) := by decide +kernel
theorem dX12_stroke_2 : decode cX12_stroke 2 = .ok (.invokevirtual 143, 3) := by decide +kernel
theorem dX12_stroke_5 : decode cX12_stroke 5 = .ok (.ifCond .eq 22, 3) := by decide +kernel
theorem dX12_stroke_8 : decode cX12_stroke 8 = .ok (.iload_n 2, 1) := by decide +kernel
theorem dX12_stroke_9 : decode cX12_stroke 9 = .ok (.invokestatic 146, 3) := by decide +kernel
theorem dX12_stroke_12 : decode cX12_stroke 12 = .ok (.ifCond .eq 15, 3) := by decide +kernel
theorem dX12_stroke_15 : decode cX12_stroke 15 = .ok (.iload_n 3, 1) := by decide +kernel
theorem dX12_stroke_16 : decode cX12_stroke 16 = .ok (.i2l, 1) := by decide +kernel
theorem dX12_stroke_17 : decode cX12_stroke 17 = .ok (.lconst 1, 1) := by decide +kernel
theorem dX12_stroke_18 : decode cX12_stroke 18 = .ok (.ldc2_w 149, 3) := by decide +kernel
theorem dX12_stroke_21 : decode cX12_stroke 21 = .ok (.invokestatic 56, 3) := by decide +kernel
theorem dX12_stroke_24 : decode cX12_stroke 24 = .ok (.ifCond .ne 10, 3) := by decide +kernel
theorem dX12_stroke_27 : decode cX12_stroke 27 = .ok (.aload_n 0, 1) := by decide +kernel
theorem dX12_stroke_28 : decode cX12_stroke 28 = .ok (.ldc 53, 2) := by decide +kernel
theorem dX12_stroke_30 : decode cX12_stroke 30 = .ok (.invokevirtual 121, 3) := by decide +kernel
theorem dX12_stroke_33 : decode cX12_stroke 33 = .ok (.ireturn, 1) := by decide +kernel
theorem dX12_stroke_34 : decode cX12_stroke 34 = .ok (.aload_n 0, 1) := by decide +kernel
theorem dX12_stroke_35 : decode cX12_stroke 35 = .ok (.iload_n 1, 1) := by decide +kernel
theorem dX12_stroke_36 : decode cX12_stroke 36 = .ok (.iconst 4, 1) := by decide +kernel
theorem dX12_stroke_37 : decode cX12_stroke 37 = .ok (.invokevirtual 68, 3) := by decide +kernel
theorem dX12_stroke_40 : decode cX12_stroke 40 = .ok (.bipush 8, 2) := by decide +kernel
theorem dX12_stroke_42 : decode cX12_stroke 42 = .ok (.if_icmp .ne 12, 3) := by decide +kernel
theorem dX12_stroke_45 : decode cX12_stroke 45 = .ok (.aload_n 0, 1) := by decide +kernel
theorem dX12_stroke_46 : decode cX12_stroke 46 = .ok (.ldc 139, 2) := by decide +kernel
theorem dX12_stroke_48 : decode cX12_stroke 48 = .ok (.invokevirtual 121, 3) := by decide +kernel
theorem dX12_stroke_51 : decode cX12_stroke 51 = .ok (.goto 10, 3) := by decide +kernel
theorem dX12_stroke_54 : decode cX12_stroke 54 = .ok (.aload_n 0, 1) := by decide +kernel
theorem dX12_stroke_55 : decode cX12_stroke 55 = .ok (.iload_n 1, 1) := by decide +kernel
theorem dX12_stroke_56 : decode cX12_stroke 56 = .ok (.iload_n 2, 1) := by decide +kernel
theorem dX12_stroke_57 : decode cX12_stroke 57 = .ok (.iload_n 3, 1) := by decide +kernel
theorem dX12_stroke_58 : decode cX12_stroke 58 = .ok (.invokevirtual 151, 3) := by decide +kernel
theorem dX12_stroke_61 : decode cX12_stroke 61 = .ok (.ireturn, 1) := by decide +kernel
theorem dX12_of_0 : decode cX12_of 0 = .ok (.aload_n 0, 1) := by decide +kernel
theorem dX12_of_1 : decode cX12_of 1 = .ok (.iload_n 1, 1) := by decide +kernel
theorem dX12_of_2 : decode cX12_of 2 = .ok (.invokevirtual 143, 3) := by decide +kernel
theorem dX12_of_5 : decode cX12_of 5 = .ok (.ifCond .eq 15, 3) := by decide +kernel
theorem dX12_of_8 : decode cX12_of 8 = .ok (.iload_n 2, 1) := by decide +kernel
theorem dX12_of_9 : decode cX12_of 9 = .ok (.i2l, 1) := by decide +kernel
theorem dX12_of_10 : decode cX12_of 10 = .ok (.lconst 0, 1) := by decide +kernel
theorem dX12_of_11 : decode cX12_of 11 = .ok (.ldc2_w 155, 3) := by decide +kernel
theorem dX12_of_14 : decode cX12_of 14 = .ok (.invokestatic 56, 3) := by decide +kernel
theorem dX12_of_17 : decode cX12_of 17 = .ok (.ifCond .ne 10, 3) := by decide +kernel
theorem dX12_of_20 : decode cX12_of 20 = .ok (.aload_n 0, 1) := by decide +kernel
theorem dX12_of_21 : decode cX12_of 21 = .ok (.ldc 53, 2) := by decide +kernel
theorem dX12_of_23 : decode cX12_of 23 = .ok (.invokevirtual 121, 3) := by decide +kernel
theorem dX12_of_26 : decode cX12_of 26 = .ok (.ireturn, 1) := by decide +kernel
theorem dX12_of_27 : decode cX12_of 27 = .ok (.aload_n 0, 1) := by decide +kernel
theorem dX12_of_28 : decode cX12_of 28 = .ok (.invokevirtual 124, 3) := by decide +kernel
theorem dX12_of_31 : decode cX12_of 31 = .ok (.iload_n 2, 1) := by decide +kernel
theorem dX12_of_32 : decode cX12_of 32 = .ok (.tableswitch 79 5 9 #[36, 43, 57, 67, 73], 36) := by decide +kernel
theorem dX12_of_68 : decode cX12_of 68 = .ok (.aload_n 0, 1) := by decide +kernel
theorem dX12_of_69 : decode cX12_of 69 = .ok (.getfield 32, 3) := by decide +kernel
theorem dX12_of_72 : decode cX12_of 72 = .ok (.iload_n 1, 1) := by decide +kernel
theorem dX12_of_73 : decode cX12_of 73 = .ok (.iaload, 1) := by decide +kernel
theorem dX12_of_74 : decode cX12_of 74 = .ok (.ireturn, 1) := by decide +kernel
theorem dX12_of_75 : decode cX12_of 75 = .ok (.aload_n 0, 1) := by decide +kernel
theorem dX12_of_76 : decode cX12_of 76 = .ok (.iload_n 1, 1) := by decide +kernel
theorem dX12_of_77 : decode cX12_of 77 = .ok (.invokevirtual 108, 3) := by decide +kernel
theorem dX12_of_80 : decode cX12_of 80 = .ok (.ifCond .eq 7, 3) := by decide +kernel
theorem dX12_of_83 : decode cX12_of 83 = .ok (.iconst 1, 1) := by decide +kernel
theorem dX12_of_84 : decode cX12_of 84 = .ok (.goto 4, 3) := by decide +kernel
theorem dX12_of_87 : decode cX12_of 87 = .ok (.iconst 0, 1) := by decide +kernel
theorem dX12_of_88 : decode cX12_of 88 = .ok (.ireturn, 1) := by decide +kernel
theorem dX12_of_89 : decode cX12_of 89 = .ok (.aload_n 0, 1) := by decide +kernel
theorem dX12_of_90 : decode cX12_of 90 = .ok (.getfield 29, 3) := by decide +kernel
theorem dX12_of_93 : decode cX12_of 93 = .ok (.iload_n 1, 1) := by decide +kernel
theorem dX12_of_94 : decode cX12_of 94 = .ok (.laload, 1) := by decide +kernel
theorem dX12_of_95 : decode cX12_of 95 = .ok (.invokestatic 104, 3) := by decide +kernel
theorem dX12_of_98 : decode cX12_of 98 = .ok (.ireturn, 1) := by decide +kernel
theorem dX12_of_99 : decode cX12_of 99 = .ok (.aload_n 0, 1) := by decide +kernel
theorem dX12_of_100 : decode cX12_of 100 = .ok (.iload_n 1, 1) := by decide +kernel
theorem dX12_of_101 : decode cX12_of 101 = .ok (.invokevirtual 157, 3) := by decide +kernel
theorem dX12_of_104 : decode cX12_of 104 = .ok (.ireturn, 1) := by decide +kernel
theorem dX12_of_105 : decode cX12_of 105 = .ok (.aload_n 0, 1) := by decide +kernel
theorem dX12_of_106 : decode cX12_of 106 = .ok (.iload_n 1, 1) := by decide +kernel
theorem dX12_of_107 : decode cX12_of 107 = .ok (.invokevirtual 160, 3) := by decide +kernel
theorem dX12_of_110 : decode cX12_of 110 = .ok (.ireturn, 1) := by decide +kernel
theorem dX12_of_111 : decode cX12_of 111 = .ok (.aload_n 0, 1) := by decide +kernel
theorem dX12_of_112 : decode cX12_of 112 = .ok (.iload_n 1, 1) := by decide +kernel
theorem dX12_of_113 : decode cX12_of 113 = .ok (.iload_n 2, 1) := by decide +kernel
theorem dX12_of_114 : decode cX12_of 114 = .ok (.invokevirtual 68, 3) := by decide +kernel
theorem dX12_of_117 : decode cX12_of 117 = .ok (.ireturn, 1) := by decide +kernel
theorem dX12_isStroke_0 : decode cX12_isStroke 0 = .ok (.aload_n 0, 1) := by decide +kernel
theorem dX12_isStroke_1 : decode cX12_isStroke 1 = .ok (.iload_n 1, 1) := by decide +kernel
theorem dX12_isStroke_2 : decode cX12_isStroke 2 = .ok (.invokevirtual 143, 3) := by decide +kernel
theorem dX12_isStroke_5 : decode cX12_isStroke 5 = .ok (.ifCond .eq 25, 3) := by decide +kernel
theorem dX12_isStroke_8 : decode cX12_isStroke 8 = .ok (.iload_n 2, 1) := by decide +kernel
theorem dX12_isStroke_9 : decode cX12_isStroke 9 = .ok (.i2l, 1) := by decide +kernel
theorem dX12_isStroke_10 : decode cX12_isStroke 10 = .ok (.lconst 0, 1) := by decide +kernel
theorem dX12_isStroke_11 : decode cX12_isStroke 11 = .ok (.aload_n 0, 1) := by decide +kernel
theorem dX12_isStroke_12 : decode cX12_isStroke 12 = .ok (.iload_n 1, 1) := by decide +kernel
theorem dX12_isStroke_13 : decode cX12_isStroke 13 = .ok (.iconst 4, 1) := by decide +kernel
theorem dX12_isStroke_14 : decode cX12_isStroke 14 = .ok (.invokevirtual 68, 3) := by decide +kernel
theorem dX12_isStroke_17 : decode cX12_isStroke 17 = .ok (.iconst 1, 1) := by decide +kernel
theorem dX12_isStroke_18 : decode cX12_isStroke 18 = .ok (.isub, 1) := by decide +kernel
theorem dX12_isStroke_19 : decode cX12_isStroke 19 = .ok (.i2l, 1) := by decide +kernel
theorem dX12_isStroke_20 : decode cX12_isStroke 20 = .ok (.invokestatic 56, 3) := by decide +kernel
theorem dX12_isStroke_23 : decode cX12_isStroke 23 = .ok (.ifCond .eq 7, 3) := by decide +kernel
theorem dX12_isStroke_26 : decode cX12_isStroke 26 = .ok (.iconst 1, 1) := by decide +kernel
theorem dX12_isStroke_27 : decode cX12_isStroke 27 = .ok (.goto 4, 3) := by decide +kernel
theorem dX12_isStroke_30 : decode cX12_isStroke 30 = .ok (.iconst 0, 1) := by decide +kernel
theorem dX12_isStroke_31 : decode cX12_isStroke 31 = .ok (.ireturn, 1) := by decide +kernel
theorem dX12_told_0 : decode cX12_told 0 = .ok (.aload_n 0, 1) := by decide +kernel
theorem dX12_told_1 : decode cX12_told 1 = .ok (.iload_n 1, 1) := by decide +kernel
theorem dX12_told_2 : decode cX12_told 2 = .ok (.iload_n 2, 1) := by decide +kernel
theorem dX12_told_3 : decode cX12_told 3 = .ok (.invokevirtual 163, 3) := by decide +kernel
theorem dX12_told_6 : decode cX12_told 6 = .ok (.ifCond .eq 15, 3) := by decide +kernel
theorem dX12_told_9 : decode cX12_told 9 = .ok (.iload_n 3, 1) := by decide +kernel
theorem dX12_told_10 : decode cX12_told 10 = .ok (.i2l, 1) := by decide +kernel
theorem dX12_told_11 : decode cX12_told 11 = .ok (.lconst 0, 1) := by decide +kernel
theorem dX12_told_12 : decode cX12_told 12 = .ok (.ldc2_w 62, 3) := by decide +kernel
theorem dX12_told_15 : decode cX12_told 15 = .ok (.invokestatic 56, 3) := by decide +kernel
theorem dX12_told_18 : decode cX12_told 18 = .ok (.ifCond .ne 10, 3) := by decide +kernel
theorem dX12_told_21 : decode cX12_told 21 = .ok (.aload_n 0, 1) := by decide +kernel
theorem dX12_told_22 : decode cX12_told 22 = .ok (.ldc 53, 2) := by decide +kernel
theorem dX12_told_24 : decode cX12_told 24 = .ok (.invokevirtual 121, 3) := by decide +kernel
theorem dX12_told_27 : decode cX12_told 27 = .ok (.ireturn, 1) := by decide +kernel
theorem dX12_told_28 : decode cX12_told 28 = .ok (.iload_n 3, 1) := by decide +kernel
theorem dX12_told_29 : decode cX12_told 29 = .ok (.ifCond .ne 14, 3) := by decide +kernel
theorem dX12_told_32 : decode cX12_told 32 = .ok (.aload_n 0, 1) := by decide +kernel
theorem dX12_told_33 : decode cX12_told 33 = .ok (.iload_n 1, 1) := by decide +kernel
theorem dX12_told_34 : decode cX12_told 34 = .ok (.iconst 5, 1) := by decide +kernel
theorem dX12_told_35 : decode cX12_told 35 = .ok (.iload_n 2, 1) := by decide +kernel
theorem dX12_told_36 : decode cX12_told 36 = .ok (.iadd, 1) := by decide +kernel
theorem dX12_told_37 : decode cX12_told 37 = .ok (.invokevirtual 68, 3) := by decide +kernel
theorem dX12_told_40 : decode cX12_told 40 = .ok (.goto 40, 3) := by decide +kernel
theorem dX12_told_43 : decode cX12_told 43 = .ok (.iload_n 3, 1) := by decide +kernel
theorem dX12_told_44 : decode cX12_told 44 = .ok (.iconst 1, 1) := by decide +kernel
theorem dX12_told_45 : decode cX12_told 45 = .ok (.if_icmp .ne 15, 3) := by decide +kernel
theorem dX12_told_48 : decode cX12_told 48 = .ok (.aload_n 0, 1) := by decide +kernel
theorem dX12_told_49 : decode cX12_told 49 = .ok (.iload_n 1, 1) := by decide +kernel
theorem dX12_told_50 : decode cX12_told 50 = .ok (.bipush 13, 2) := by decide +kernel
theorem dX12_told_52 : decode cX12_told 52 = .ok (.iload_n 2, 1) := by decide +kernel
theorem dX12_told_53 : decode cX12_told 53 = .ok (.iadd, 1) := by decide +kernel
theorem dX12_told_54 : decode cX12_told 54 = .ok (.invokevirtual 68, 3) := by decide +kernel
theorem dX12_told_57 : decode cX12_told 57 = .ok (.goto 23, 3) := by decide +kernel
theorem dX12_told_60 : decode cX12_told 60 = .ok (.iload_n 3, 1) := by decide +kernel
theorem dX12_told_61 : decode cX12_told 61 = .ok (.iconst 2, 1) := by decide +kernel
theorem dX12_told_62 : decode cX12_told 62 = .ok (.if_icmp .ne 12, 3) := by decide +kernel
theorem dX12_told_65 : decode cX12_told 65 = .ok (.aload_n 0, 1) := by decide +kernel
theorem dX12_told_66 : decode cX12_told 66 = .ok (.iload_n 1, 1) := by decide +kernel
theorem dX12_told_67 : decode cX12_told 67 = .ok (.iload_n 2, 1) := by decide +kernel
theorem dX12_told_68 : decode cX12_told 68 = .ok (.invokevirtual 74, 3) := by decide +kernel
theorem dX12_told_71 : decode cX12_told 71 = .ok (.goto 9, 3) := by decide +kernel
theorem dX12_told_74 : decode cX12_told 74 = .ok (.aload_n 0, 1) := by decide +kernel
theorem dX12_told_75 : decode cX12_told 75 = .ok (.iload_n 1, 1) := by decide +kernel
theorem dX12_told_76 : decode cX12_told 76 = .ok (.iload_n 2, 1) := by decide +kernel
theorem dX12_told_77 : decode cX12_told 77 = .ok (.invokevirtual 71, 3) := by decide +kernel
theorem dX12_told_80 : decode cX12_told 80 = .ok (.ireturn, 1) := by decide +kernel
theorem dX12_set_0 : decode cX12_set 0 = .ok (.iload_n 2, 1) := by decide +kernel
theorem dX12_set_1 : decode cX12_set 1 = .ok (.iconst 1, 1) := by decide +kernel
theorem dX12_set_2 : decode cX12_set 2 = .ok (.if_icmp .ne 10, 3) := by decide +kernel
theorem dX12_set_5 : decode cX12_set 5 = .ok (.iload_n 3, 1) := by decide +kernel
theorem dX12_set_6 : decode cX12_set 6 = .ok (.invokestatic 115, 3) := by decide +kernel
theorem dX12_set_9 : decode cX12_set 9 = .ok (.goto 25, 3) := by decide +kernel
theorem dX12_set_12 : decode cX12_set 12 = .ok (.iload_n 2, 1) := by decide +kernel
theorem dX12_set_13 : decode cX12_set 13 = .ok (.iconst 2, 1) := by decide +kernel
theorem dX12_set_14 : decode cX12_set 14 = .ok (.if_icmp .ne 19, 3) := by decide +kernel
theorem dX12_set_17 : decode cX12_set 17 = .ok (.iload_n 3, 1) := by decide +kernel
theorem dX12_set_18 : decode cX12_set 18 = .ok (.i2l, 1) := by decide +kernel
theorem dX12_set_19 : decode cX12_set 19 = .ok (.lconst 0, 1) := by decide +kernel
theorem dX12_set_20 : decode cX12_set 20 = .ok (.ldc2_w 167, 3) := by decide +kernel
theorem dX12_set_23 : decode cX12_set 23 = .ok (.invokestatic 56, 3) := by decide +kernel
theorem dX12_set_26 : decode cX12_set 26 = .ok (.ifCond .eq 7, 3) := by decide +kernel
theorem dX12_set_29 : decode cX12_set 29 = .ok (.iconst 1, 1) := by decide +kernel
theorem dX12_set_30 : decode cX12_set 30 = .ok (.goto 4, 3) := by decide +kernel
theorem dX12_set_33 : decode cX12_set 33 = .ok (.iconst 0, 1) := by decide +kernel
theorem dX12_set_34 : decode cX12_set 34 = .ok (.istore 4, 2) := by decide +kernel
theorem dX12_set_36 : decode cX12_set 36 = .ok (.aload_n 0, 1) := by decide +kernel
theorem dX12_set_37 : decode cX12_set 37 = .ok (.iload_n 1, 1) := by decide +kernel
theorem dX12_set_38 : decode cX12_set 38 = .ok (.invokevirtual 143, 3) := by decide +kernel
theorem dX12_set_41 : decode cX12_set 41 = .ok (.ifCond .eq 21, 3) := by decide +kernel
theorem dX12_set_44 : decode cX12_set 44 = .ok (.iload 4, 2) := by decide +kernel
theorem dX12_set_46 : decode cX12_set 46 = .ok (.ifCond .eq 16, 3) := by decide +kernel
theorem dX12_set_49 : decode cX12_set 49 = .ok (.aload_n 0, 1) := by decide +kernel
theorem dX12_set_50 : decode cX12_set 50 = .ok (.iload_n 1, 1) := by decide +kernel
theorem dX12_set_51 : decode cX12_set 51 = .ok (.iload_n 2, 1) := by decide +kernel
theorem dX12_set_52 : decode cX12_set 52 = .ok (.invokestatic 64, 3) := by decide +kernel
theorem dX12_set_55 : decode cX12_set 55 = .ok (.iload_n 3, 1) := by decide +kernel
theorem dX12_set_56 : decode cX12_set 56 = .ok (.invokevirtual 118, 3) := by decide +kernel
theorem dX12_set_59 : decode cX12_set 59 = .ok (.goto 9, 3) := by decide +kernel
theorem dX12_set_62 : decode cX12_set 62 = .ok (.aload_n 0, 1) := by decide +kernel
theorem dX12_set_63 : decode cX12_set 63 = .ok (.ldc 53, 2) := by decide +kernel
theorem dX12_set_65 : decode cX12_set 65 = .ok (.invokevirtual 121, 3) := by decide +kernel
theorem dX12_set_68 : decode cX12_set 68 = .ok (.ireturn, 1) := by decide +kernel
theorem dX12_alter_0 : decode cX12_alter 0 = .ok (.iload_n 3, 1) := by decide +kernel
theorem dX12_alter_1 : decode cX12_alter 1 = .ok (.ifCond .ne 11, 3) := by decide +kernel
theorem dX12_alter_4 : decode cX12_alter 4 = .ok (.iload 4, 2) := by decide +kernel
theorem dX12_alter_6 : decode cX12_alter 6 = .ok (.invokestatic 146, 3) := by decide +kernel
theorem dX12_alter_9 : decode cX12_alter 9 = .ok (.goto 26, 3) := by decide +kernel
theorem dX12_alter_12 : decode cX12_alter 12 = .ok (.iload_n 3, 1) := by decide +kernel
theorem dX12_alter_13 : decode cX12_alter 13 = .ok (.iconst 1, 1) := by decide +kernel
theorem dX12_alter_14 : decode cX12_alter 14 = .ok (.if_icmp .ne 20, 3) := by decide +kernel
theorem dX12_alter_17 : decode cX12_alter 17 = .ok (.iload 4, 2) := by decide +kernel
theorem dX12_alter_19 : decode cX12_alter 19 = .ok (.i2l, 1) := by decide +kernel
theorem dX12_alter_20 : decode cX12_alter 20 = .ok (.lconst 1, 1) := by decide +kernel
theorem dX12_alter_21 : decode cX12_alter 21 = .ok (.ldc2_w 149, 3) := by decide +kernel
theorem dX12_alter_24 : decode cX12_alter 24 = .ok (.invokestatic 56, 3) := by decide +kernel
theorem dX12_alter_27 : decode cX12_alter 27 = .ok (.ifCond .eq 7, 3) := by decide +kernel
theorem dX12_alter_30 : decode cX12_alter 30 = .ok (.iconst 1, 1) := by decide +kernel
theorem dX12_alter_31 : decode cX12_alter 31 = .ok (.goto 4, 3) := by decide +kernel
theorem dX12_alter_34 : decode cX12_alter 34 = .ok (.iconst 0, 1) := by decide +kernel
theorem dX12_alter_35 : decode cX12_alter 35 = .ok (.istore 5, 2) := by decide +kernel
theorem dX12_alter_37 : decode cX12_alter 37 = .ok (.aload_n 0, 1) := by decide +kernel
theorem dX12_alter_38 : decode cX12_alter 38 = .ok (.iload_n 1, 1) := by decide +kernel
theorem dX12_alter_39 : decode cX12_alter 39 = .ok (.iload_n 2, 1) := by decide +kernel
theorem dX12_alter_40 : decode cX12_alter 40 = .ok (.invokevirtual 163, 3) := by decide +kernel
theorem dX12_alter_43 : decode cX12_alter 43 = .ok (.ifCond .eq 33, 3) := by decide +kernel
theorem dX12_alter_46 : decode cX12_alter 46 = .ok (.iload 5, 2) := by decide +kernel
theorem dX12_alter_48 : decode cX12_alter 48 = .ok (.ifCond .eq 28, 3) := by decide +kernel
theorem dX12_alter_51 : decode cX12_alter 51 = .ok (.aload_n 0, 1) := by decide +kernel
theorem dX12_alter_52 : decode cX12_alter 52 = .ok (.iload_n 1, 1) := by decide +kernel
theorem dX12_alter_53 : decode cX12_alter 53 = .ok (.iload_n 3, 1) := by decide +kernel
theorem dX12_alter_54 : decode cX12_alter 54 = .ok (.ifCond .ne 7, 3) := by decide +kernel
theorem dX12_alter_57 : decode cX12_alter 57 = .ok (.iconst 5, 1) := by decide +kernel
theorem dX12_alter_58 : decode cX12_alter 58 = .ok (.goto 5, 3) := by decide +kernel
theorem dX12_alter_61 : decode cX12_alter 61 = .ok (.bipush 13, 2) := by decide +kernel
theorem dX12_alter_63 : decode cX12_alter 63 = .ok (.iload_n 2, 1) := by decide +kernel
theorem dX12_alter_64 : decode cX12_alter 64 = .ok (.iadd, 1) := by decide +kernel
theorem dX12_alter_65 : decode cX12_alter 65 = .ok (.invokestatic 64, 3) := by decide +kernel
theorem dX12_alter_68 : decode cX12_alter 68 = .ok (.iload 4, 2) := by decide +kernel
theorem dX12_alter_70 : decode cX12_alter 70 = .ok (.invokevirtual 118, 3) := by decide +kernel
theorem dX12_alter_73 : decode cX12_alter 73 = .ok (.goto 9, 3) := by decide +kernel
theorem dX12_alter_76 : decode cX12_alter 76 = .ok (.aload_n 0, 1) := by decide +kernel
theorem dX12_alter_77 : decode cX12_alter 77 = .ok (.ldc 53, 2) := by decide +kernel
theorem dX12_alter_79 : decode cX12_alter 79 = .ok (.invokevirtual 121, 3) := by decide +kernel
theorem dX12_alter_82 : decode cX12_alter 82 = .ok (.ireturn, 1) := by decide +kernel
theorem dX12_cut_0 : decode cX12_cut 0 = .ok (.aload_n 0, 1) := by decide +kernel
theorem dX12_cut_1 : decode cX12_cut 1 = .ok (.iload_n 1, 1) := by decide +kernel
theorem dX12_cut_2 : decode cX12_cut 2 = .ok (.invokevirtual 143, 3) := by decide +kernel
theorem dX12_cut_5 : decode cX12_cut 5 = .ok (.ifCond .eq 32, 3) := by decide +kernel
theorem dX12_cut_8 : decode cX12_cut 8 = .ok (.iload_n 2, 1) := by decide +kernel
theorem dX12_cut_9 : decode cX12_cut 9 = .ok (.i2l, 1) := by decide +kernel
theorem dX12_cut_10 : decode cX12_cut 10 = .ok (.lconst 0, 1) := by decide +kernel
theorem dX12_cut_11 : decode cX12_cut 11 = .ok (.aload_n 0, 1) := by decide +kernel
theorem dX12_cut_12 : decode cX12_cut 12 = .ok (.iload_n 1, 1) := by decide +kernel
theorem dX12_cut_13 : decode cX12_cut 13 = .ok (.iconst 4, 1) := by decide +kernel
theorem dX12_cut_14 : decode cX12_cut 14 = .ok (.invokevirtual 68, 3) := by decide +kernel
theorem dX12_cut_17 : decode cX12_cut 17 = .ok (.i2l, 1) := by decide +kernel
theorem dX12_cut_18 : decode cX12_cut 18 = .ok (.invokestatic 56, 3) := by decide +kernel
theorem dX12_cut_21 : decode cX12_cut 21 = .ok (.ifCond .eq 16, 3) := by decide +kernel
theorem dX12_cut_24 : decode cX12_cut 24 = .ok (.aload_n 0, 1) := by decide +kernel
theorem dX12_cut_25 : decode cX12_cut 25 = .ok (.iload_n 1, 1) := by decide +kernel
theorem dX12_cut_26 : decode cX12_cut 26 = .ok (.iconst 4, 1) := by decide +kernel
theorem dX12_cut_27 : decode cX12_cut 27 = .ok (.invokestatic 64, 3) := by decide +kernel
theorem dX12_cut_30 : decode cX12_cut 30 = .ok (.iload_n 2, 1) := by decide +kernel
theorem dX12_cut_31 : decode cX12_cut 31 = .ok (.invokevirtual 118, 3) := by decide +kernel
theorem dX12_cut_34 : decode cX12_cut 34 = .ok (.goto 9, 3) := by decide +kernel
theorem dX12_cut_37 : decode cX12_cut 37 = .ok (.aload_n 0, 1) := by decide +kernel
theorem dX12_cut_38 : decode cX12_cut 38 = .ok (.ldc 53, 2) := by decide +kernel
theorem dX12_cut_40 : decode cX12_cut 40 = .ok (.invokevirtual 121, 3) := by decide +kernel
theorem dX12_cut_43 : decode cX12_cut 43 = .ok (.ireturn, 1) := by decide +kernel
theorem dX12_turn_0 : decode cX12_turn 0 = .ok (.aload_n 0, 1) := by decide +kernel
theorem dX12_turn_1 : decode cX12_turn 1 = .ok (.iload_n 1, 1) := by decide +kernel
theorem dX12_turn_2 : decode cX12_turn 2 = .ok (.invokevirtual 143, 3) := by decide +kernel
theorem dX12_turn_5 : decode cX12_turn 5 = .ok (.ifCond .eq 23, 3) := by decide +kernel
theorem dX12_turn_8 : decode cX12_turn 8 = .ok (.iload_n 2, 1) := by decide +kernel
theorem dX12_turn_9 : decode cX12_turn 9 = .ok (.invokestatic 136, 3) := by decide +kernel
theorem dX12_turn_12 : decode cX12_turn 12 = .ok (.ifCond .eq 16, 3) := by decide +kernel
theorem dX12_turn_15 : decode cX12_turn 15 = .ok (.aload_n 0, 1) := by decide +kernel
theorem dX12_turn_16 : decode cX12_turn 16 = .ok (.iload_n 1, 1) := by decide +kernel
theorem dX12_turn_17 : decode cX12_turn 17 = .ok (.iconst 0, 1) := by decide +kernel
theorem dX12_turn_18 : decode cX12_turn 18 = .ok (.invokestatic 64, 3) := by decide +kernel
theorem dX12_turn_21 : decode cX12_turn 21 = .ok (.iload_n 2, 1) := by decide +kernel
theorem dX12_turn_22 : decode cX12_turn 22 = .ok (.invokevirtual 118, 3) := by decide +kernel
theorem dX12_turn_25 : decode cX12_turn 25 = .ok (.goto 9, 3) := by decide +kernel
theorem dX12_turn_28 : decode cX12_turn 28 = .ok (.aload_n 0, 1) := by decide +kernel
theorem dX12_turn_29 : decode cX12_turn 29 = .ok (.ldc 53, 2) := by decide +kernel
theorem dX12_turn_31 : decode cX12_turn 31 = .ok (.invokevirtual 121, 3) := by decide +kernel
theorem dX12_turn_34 : decode cX12_turn 34 = .ok (.ireturn, 1) := by decide +kernel
theorem dX12_isUnder_0 : decode cX12_isUnder 0 = .ok (.iload_n 1, 1) := by decide +kernel
theorem dX12_isUnder_1 : decode cX12_isUnder 1 = .ok (.ifCond .eq 20, 3) := by decide +kernel
theorem dX12_isUnder_4 : decode cX12_isUnder 4 = .ok (.iload_n 0, 1) := by decide +kernel
theorem dX12_isUnder_5 : decode cX12_isUnder 5 = .ok (.iload_n 1, 1) := by decide +kernel
theorem dX12_isUnder_6 : decode cX12_isUnder 6 = .ok (.if_icmp .eq 15, 3) := by decide +kernel
theorem dX12_isUnder_9 : decode cX12_isUnder 9 = .ok (.iload_n 0, 1) := by decide +kernel
theorem dX12_isUnder_10 : decode cX12_isUnder 10 = .ok (.iconst 3, 1) := by decide +kernel
theorem dX12_isUnder_11 : decode cX12_isUnder 11 = .ok (.if_icmp .le 14, 3) := by decide +kernel
theorem dX12_isUnder_14 : decode cX12_isUnder 14 = .ok (.iload_n 0, 1) := by decide +kernel
theorem dX12_isUnder_15 : decode cX12_isUnder 15 = .ok (.iconst 3, 1) := by decide +kernel
theorem dX12_isUnder_16 : decode cX12_isUnder 16 = .ok (.isub, 1) := by decide +kernel
theorem dX12_isUnder_17 : decode cX12_isUnder 17 = .ok (.iload_n 1, 1) := by decide +kernel
theorem dX12_isUnder_18 : decode cX12_isUnder 18 = .ok (.if_icmp .ne 7, 3) := by decide +kernel
theorem dX12_isUnder_21 : decode cX12_isUnder 21 = .ok (.iconst 1, 1) := by decide +kernel
theorem dX12_isUnder_22 : decode cX12_isUnder 22 = .ok (.goto 4, 3) := by decide +kernel
theorem dX12_isUnder_25 : decode cX12_isUnder 25 = .ok (.iconst 0, 1) := by decide +kernel
theorem dX12_isUnder_26 : decode cX12_isUnder 26 = .ok (.ireturn, 1) := by decide +kernel
theorem dX12_as_0 : decode cX12_as 0 = .ok (.aload_n 0, 1) := by decide +kernel
theorem dX12_as_1 : decode cX12_as 1 = .ok (.iload_n 1, 1) := by decide +kernel
theorem dX12_as_2 : decode cX12_as 2 = .ok (.invokevirtual 143, 3) := by decide +kernel
theorem dX12_as_5 : decode cX12_as 5 = .ok (.ifCond .eq 10, 3) := by decide +kernel
theorem dX12_as_8 : decode cX12_as 8 = .ok (.iload_n 2, 1) := by decide +kernel
theorem dX12_as_9 : decode cX12_as 9 = .ok (.invokestatic 136, 3) := by decide +kernel
theorem dX12_as_12 : decode cX12_as 12 = .ok (.ifCond .ne 10, 3) := by decide +kernel
theorem dX12_as_15 : decode cX12_as 15 = .ok (.aload_n 0, 1) := by decide +kernel
theorem dX12_as_16 : decode cX12_as 16 = .ok (.ldc 53, 2) := by decide +kernel
theorem dX12_as_18 : decode cX12_as 18 = .ok (.invokevirtual 121, 3) := by decide +kernel
theorem dX12_as_21 : decode cX12_as 21 = .ok (.ireturn, 1) := by decide +kernel
theorem dX12_as_22 : decode cX12_as 22 = .ok (.aload_n 0, 1) := by decide +kernel
theorem dX12_as_23 : decode cX12_as 23 = .ok (.iload_n 1, 1) := by decide +kernel
theorem dX12_as_24 : decode cX12_as 24 = .ok (.iconst 0, 1) := by decide +kernel
theorem dX12_as_25 : decode cX12_as 25 = .ok (.invokevirtual 68, 3) := by decide +kernel
theorem dX12_as_28 : decode cX12_as 28 = .ok (.iload_n 2, 1) := by decide +kernel
theorem dX12_as_29 : decode cX12_as 29 = .ok (.invokestatic 169, 3) := by decide +kernel
theorem dX12_as_32 : decode cX12_as 32 = .ok (.ifCond .eq 12, 3) := by decide +kernel
theorem dX12_as_35 : decode cX12_as 35 = .ok (.aload_n 0, 1) := by decide +kernel
theorem dX12_as_36 : decode cX12_as 36 = .ok (.iload_n 1, 1) := by decide +kernel
theorem dX12_as_37 : decode cX12_as 37 = .ok (.iconst 2, 1) := by decide +kernel
theorem dX12_as_38 : decode cX12_as 38 = .ok (.invokevirtual 68, 3) := by decide +kernel
theorem dX12_as_41 : decode cX12_as 41 = .ok (.goto 9, 3) := by decide +kernel
theorem dX12_as_44 : decode cX12_as 44 = .ok (.aload_n 0, 1) := by decide +kernel
theorem dX12_as_45 : decode cX12_as 45 = .ok (.ldc 172, 2) := by decide +kernel
theorem dX12_as_47 : decode cX12_as 47 = .ok (.invokevirtual 121, 3) := by decide +kernel
theorem dX12_as_50 : decode cX12_as 50 = .ok (.ireturn, 1) := by decide +kernel
theorem dX12_line_0 : decode cX12_line 0 = .ok (.aload_n 0, 1) := by decide +kernel
theorem dX12_line_1 : decode cX12_line 1 = .ok (.iload_n 1, 1) := by decide +kernel
theorem dX12_line_2 : decode cX12_line 2 = .ok (.invokevirtual 143, 3) := by decide +kernel
theorem dX12_line_5 : decode cX12_line 5 = .ok (.ifCond .ne 11, 3) := by decide +kernel
theorem dX12_line_8 : decode cX12_line 8 = .ok (.aload_n 0, 1) := by decide +kernel
theorem dX12_line_9 : decode cX12_line 9 = .ok (.ldc 53, 2) := by decide +kernel
theorem dX12_line_11 : decode cX12_line 11 = .ok (.invokevirtual 121, 3) := by decide +kernel
theorem dX12_line_14 : decode cX12_line 14 = .ok (.i2l, 1) := by decide +kernel
theorem dX12_line_15 : decode cX12_line 15 = .ok (.lreturn, 1) := by decide +kernel
theorem dX12_line_16 : decode cX12_line 16 = .ok (.aload_n 0, 1) := by decide +kernel
theorem dX12_line_17 : decode cX12_line 17 = .ok (.invokevirtual 124, 3) := by decide +kernel
theorem dX12_line_20 : decode cX12_line 20 = .ok (.aload_n 0, 1) := by decide +kernel
theorem dX12_line_21 : decode cX12_line 21 = .ok (.getfield 25, 3) := by decide +kernel
theorem dX12_line_24 : decode cX12_line 24 = .ok (.iload_n 1, 1) := by decide +kernel
theorem dX12_line_25 : decode cX12_line 25 = .ok (.laload, 1) := by decide +kernel
theorem dX12_line_26 : decode cX12_line 26 = .ok (.lreturn, 1) := by decide +kernel
theorem dX12_inside_0 : decode cX12_inside 0 = .ok (.aload_n 0, 1) := by decide +kernel
theorem dX12_inside_1 : decode cX12_inside 1 = .ok (.iload_n 1, 1) := by decide +kernel
theorem dX12_inside_2 : decode cX12_inside 2 = .ok (.invokevirtual 143, 3) := by decide +kernel
theorem dX12_inside_5 : decode cX12_inside 5 = .ok (.ifCond .ne 11, 3) := by decide +kernel
theorem dX12_inside_8 : decode cX12_inside 8 = .ok (.aload_n 0, 1) := by decide +kernel
theorem dX12_inside_9 : decode cX12_inside 9 = .ok (.ldc 53, 2) := by decide +kernel
theorem dX12_inside_11 : decode cX12_inside 11 = .ok (.invokevirtual 121, 3) := by decide +kernel
theorem dX12_inside_14 : decode cX12_inside 14 = .ok (.i2l, 1) := by decide +kernel
theorem dX12_inside_15 : decode cX12_inside 15 = .ok (.lreturn, 1) := by decide +kernel
theorem dX12_inside_16 : decode cX12_inside 16 = .ok (.aload_n 0, 1) := by decide +kernel
theorem dX12_inside_17 : decode cX12_inside 17 = .ok (.invokevirtual 124, 3) := by decide +kernel
theorem dX12_inside_20 : decode cX12_inside 20 = .ok (.aload_n 0, 1) := by decide +kernel
theorem dX12_inside_21 : decode cX12_inside 21 = .ok (.getfield 29, 3) := by decide +kernel
theorem dX12_inside_24 : decode cX12_inside 24 = .ok (.iload_n 1, 1) := by decide +kernel
theorem dX12_inside_25 : decode cX12_inside 25 = .ok (.laload, 1) := by decide +kernel
theorem dX12_inside_26 : decode cX12_inside 26 = .ok (.lreturn, 1) := by decide +kernel
theorem dX12_year_0 : decode cX12_year 0 = .ok (.aload_n 0, 1) := by decide +kernel
theorem dX12_year_1 : decode cX12_year 1 = .ok (.invokevirtual 124, 3) := by decide +kernel
theorem dX12_year_4 : decode cX12_year 4 = .ok (.iconst 0, 1) := by decide +kernel
theorem dX12_year_5 : decode cX12_year 5 = .ok (.istore_n 1, 1) := by decide +kernel
theorem dX12_year_6 : decode cX12_year 6 = .ok (.iload_n 1, 1) := by decide +kernel
theorem dX12_year_7 : decode cX12_year 7 = .ok (.aload_n 0, 1) := by decide +kernel
theorem dX12_year_8 : decode cX12_year 8 = .ok (.getfield 7, 3) := by decide +kernel
theorem dX12_year_11 : decode cX12_year 11 = .ok (.iconst 0, 1) := by decide +kernel
theorem dX12_year_12 : decode cX12_year 12 = .ok (.iaload, 1) := by decide +kernel
theorem dX12_year_13 : decode cX12_year 13 = .ok (.if_icmp .ge 32, 3) := by decide +kernel
theorem dX12_year_16 : decode cX12_year 16 = .ok (.aload_n 0, 1) := by decide +kernel
theorem dX12_year_17 : decode cX12_year 17 = .ok (.getfield 35, 3) := by decide +kernel
theorem dX12_year_20 : decode cX12_year 20 = .ok (.iload_n 1, 1) := by decide +kernel
theorem dX12_year_21 : decode cX12_year 21 = .ok (.aload_n 0, 1) := by decide +kernel
theorem dX12_year_22 : decode cX12_year 22 = .ok (.iload_n 1, 1) := by decide +kernel
theorem dX12_year_23 : decode cX12_year 23 = .ok (.invokevirtual 108, 3) := by decide +kernel
theorem dX12_year_26 : decode cX12_year 26 = .ok (.ifCond .eq 11, 3) := by decide +kernel
theorem dX12_year_29 : decode cX12_year 29 = .ok (.aload_n 0, 1) := by decide +kernel
theorem dX12_year_30 : decode cX12_year 30 = .ok (.iload_n 1, 1) := by decide +kernel
theorem dX12_year_31 : decode cX12_year 31 = .ok (.invokevirtual 157, 3) := by decide +kernel
theorem dX12_year_34 : decode cX12_year 34 = .ok (.goto 4, 3) := by decide +kernel
theorem dX12_year_37 : decode cX12_year 37 = .ok (.iconst (-1), 1) := by decide +kernel
theorem dX12_year_38 : decode cX12_year 38 = .ok (.iastore, 1) := by decide +kernel
theorem dX12_year_39 : decode cX12_year 39 = .ok (.iinc 1 1, 3) := by decide +kernel
theorem dX12_year_42 : decode cX12_year 42 = .ok (.goto (-36), 3) := by decide +kernel
theorem dX12_year_45 : decode cX12_year 45 = .ok (.iconst 0, 1) := by decide +kernel
theorem dX12_year_46 : decode cX12_year 46 = .ok (.istore_n 1, 1) := by decide +kernel
theorem dX12_year_47 : decode cX12_year 47 = .ok (.iload_n 1, 1) := by decide +kernel
theorem dX12_year_48 : decode cX12_year 48 = .ok (.aload_n 0, 1) := by decide +kernel
theorem dX12_year_49 : decode cX12_year 49 = .ok (.getfield 7, 3) := by decide +kernel
theorem dX12_year_52 : decode cX12_year 52 = .ok (.iconst 0, 1) := by decide +kernel
theorem dX12_year_53 : decode cX12_year 53 = .ok (.iaload, 1) := by decide +kernel
theorem dX12_year_54 : decode cX12_year 54 = .ok (.if_icmp .ge 122, 3) := by decide +kernel
theorem dX12_year_57 : decode cX12_year 57 = .ok (.aload_n 0, 1) := by decide +kernel
theorem dX12_year_58 : decode cX12_year 58 = .ok (.iload_n 1, 1) := by decide +kernel
theorem dX12_year_59 : decode cX12_year 59 = .ok (.iconst 2, 1) := by decide +kernel
theorem dX12_year_60 : decode cX12_year 60 = .ok (.invokevirtual 68, 3) := by decide +kernel
theorem dX12_year_63 : decode cX12_year 63 = .ok (.aload_n 0, 1) := by decide +kernel
theorem dX12_year_64 : decode cX12_year 64 = .ok (.getfield 35, 3) := by decide +kernel
theorem dX12_year_67 : decode cX12_year 67 = .ok (.iload_n 1, 1) := by decide +kernel
theorem dX12_year_68 : decode cX12_year 68 = .ok (.iaload, 1) := by decide +kernel
theorem dX12_year_69 : decode cX12_year 69 = .ok (.ifCond .ge 7, 3) := by decide +kernel
theorem dX12_year_72 : decode cX12_year 72 = .ok (.iconst 5, 1) := by decide +kernel
theorem dX12_year_73 : decode cX12_year 73 = .ok (.goto 16, 3) := by decide +kernel
theorem dX12_year_76 : decode cX12_year 76 = .ok (.aload_n 0, 1) := by decide +kernel
theorem dX12_year_77 : decode cX12_year 77 = .ok (.getfield 35, 3) := by decide +kernel
theorem dX12_year_80 : decode cX12_year 80 = .ok (.iload_n 1, 1) := by decide +kernel
theorem dX12_year_81 : decode cX12_year 81 = .ok (.iaload, 1) := by decide +kernel
theorem dX12_year_82 : decode cX12_year 82 = .ok (.aload_n 0, 1) := by decide +kernel
theorem dX12_year_83 : decode cX12_year 83 = .ok (.getfield 32, 3) := by decide +kernel
theorem dX12_year_86 : decode cX12_year 86 = .ok (.iload_n 1, 1) := by decide +kernel
theorem dX12_year_87 : decode cX12_year 87 = .ok (.iaload, 1) := by decide +kernel
theorem dX12_year_88 : decode cX12_year 88 = .ok (.isub, 1) := by decide +kernel
theorem dX12_year_89 : decode cX12_year 89 = .ok (.iadd, 1) := by decide +kernel
theorem dX12_year_90 : decode cX12_year 90 = .ok (.istore_n 2, 1) := by decide +kernel
theorem dX12_year_91 : decode cX12_year 91 = .ok (.aload_n 0, 1) := by decide +kernel
theorem dX12_year_92 : decode cX12_year 92 = .ok (.iload_n 1, 1) := by decide +kernel
theorem dX12_year_93 : decode cX12_year 93 = .ok (.iconst 3, 1) := by decide +kernel
theorem dX12_year_94 : decode cX12_year 94 = .ok (.invokevirtual 68, 3) := by decide +kernel
theorem dX12_year_97 : decode cX12_year 97 = .ok (.aload_n 0, 1) := by decide +kernel
theorem dX12_year_98 : decode cX12_year 98 = .ok (.getfield 35, 3) := by decide +kernel
theorem dX12_year_101 : decode cX12_year 101 = .ok (.iload_n 1, 1) := by decide +kernel
theorem dX12_year_102 : decode cX12_year 102 = .ok (.iaload, 1) := by decide +kernel
theorem dX12_year_103 : decode cX12_year 103 = .ok (.ifCond .ge 7, 3) := by decide +kernel
theorem dX12_year_106 : decode cX12_year 106 = .ok (.iconst 0, 1) := by decide +kernel
theorem dX12_year_107 : decode cX12_year 107 = .ok (.goto 15, 3) := by decide +kernel
theorem dX12_year_110 : decode cX12_year 110 = .ok (.aload_n 0, 1) := by decide +kernel
theorem dX12_year_111 : decode cX12_year 111 = .ok (.getfield 35, 3) := by decide +kernel
theorem dX12_year_114 : decode cX12_year 114 = .ok (.iload_n 1, 1) := by decide +kernel
theorem dX12_year_115 : decode cX12_year 115 = .ok (.iaload, 1) := by decide +kernel
theorem dX12_year_116 : decode cX12_year 116 = .ok (.aload_n 0, 1) := by decide +kernel
theorem dX12_year_117 : decode cX12_year 117 = .ok (.iload_n 1, 1) := by decide +kernel
theorem dX12_year_118 : decode cX12_year 118 = .ok (.invokevirtual 160, 3) := by decide +kernel
theorem dX12_year_121 : decode cX12_year 121 = .ok (.imul, 1) := by decide +kernel
theorem dX12_year_122 : decode cX12_year 122 = .ok (.iadd, 1) := by decide +kernel
theorem dX12_year_123 : decode cX12_year 123 = .ok (.istore_n 3, 1) := by decide +kernel
theorem dX12_year_124 : decode cX12_year 124 = .ok (.aload_n 0, 1) := by decide +kernel
theorem dX12_year_125 : decode cX12_year 125 = .ok (.getfield 7, 3) := by decide +kernel
theorem dX12_year_128 : decode cX12_year 128 = .ok (.iload_n 1, 1) := by decide +kernel
theorem dX12_year_129 : decode cX12_year 129 = .ok (.iconst 2, 1) := by decide +kernel
theorem dX12_year_130 : decode cX12_year 130 = .ok (.invokestatic 64, 3) := by decide +kernel
theorem dX12_year_133 : decode cX12_year 133 = .ok (.iload_n 2, 1) := by decide +kernel
theorem dX12_year_134 : decode cX12_year 134 = .ok (.sipush 999, 3) := by decide +kernel
theorem dX12_year_137 : decode cX12_year 137 = .ok (.if_icmp .le 9, 3) := by decide +kernel
theorem dX12_year_140 : decode cX12_year 140 = .ok (.sipush 999, 3) := by decide +kernel
theorem dX12_year_143 : decode cX12_year 143 = .ok (.goto 4, 3) := by decide +kernel
theorem dX12_year_146 : decode cX12_year 146 = .ok (.iload_n 2, 1) := by decide +kernel
theorem dX12_year_147 : decode cX12_year 147 = .ok (.iastore, 1) := by decide +kernel
theorem dX12_year_148 : decode cX12_year 148 = .ok (.aload_n 0, 1) := by decide +kernel
theorem dX12_year_149 : decode cX12_year 149 = .ok (.getfield 7, 3) := by decide +kernel
theorem dX12_year_152 : decode cX12_year 152 = .ok (.iload_n 1, 1) := by decide +kernel
theorem dX12_year_153 : decode cX12_year 153 = .ok (.iconst 3, 1) := by decide +kernel
theorem dX12_year_154 : decode cX12_year 154 = .ok (.invokestatic 64, 3) := by decide +kernel
theorem dX12_year_157 : decode cX12_year 157 = .ok (.iload_n 3, 1) := by decide +kernel
theorem dX12_year_158 : decode cX12_year 158 = .ok (.ldc 173, 2) := by decide +kernel
theorem dX12_year_160 : decode cX12_year 160 = .ok (.if_icmp .le 8, 3) := by decide +kernel
theorem dX12_year_163 : decode cX12_year 163 = .ok (.ldc 173, 2) := by decide +kernel
theorem dX12_year_165 : decode cX12_year 165 = .ok (.goto 4, 3) := by decide +kernel
theorem dX12_year_168 : decode cX12_year 168 = .ok (.iload_n 3, 1) := by decide +kernel
theorem dX12_year_169 : decode cX12_year 169 = .ok (.iastore, 1) := by decide +kernel
theorem dX12_year_170 : decode cX12_year 170 = .ok (.iinc 1 1, 3) := by decide +kernel
theorem dX12_year_173 : decode cX12_year 173 = .ok (.goto (-126), 3) := by decide +kernel
theorem dX12_year_176 : decode cX12_year 176 = .ok (.iconst 0, 1) := by decide +kernel
theorem dX12_year_177 : decode cX12_year 177 = .ok (.istore_n 1, 1) := by decide +kernel
theorem dX12_year_178 : decode cX12_year 178 = .ok (.iload_n 1, 1) := by decide +kernel
theorem dX12_year_179 : decode cX12_year 179 = .ok (.bipush 48, 2) := by decide +kernel
theorem dX12_year_181 : decode cX12_year 181 = .ok (.if_icmp .ge 20, 3) := by decide +kernel
theorem dX12_year_184 : decode cX12_year 184 = .ok (.aload_n 0, 1) := by decide +kernel
theorem dX12_year_185 : decode cX12_year 185 = .ok (.getfield 7, 3) := by decide +kernel
theorem dX12_year_188 : decode cX12_year 188 = .ok (.iconst 2, 1) := by decide +kernel
theorem dX12_year_189 : decode cX12_year 189 = .ok (.iload_n 1, 1) := by decide +kernel
theorem dX12_year_190 : decode cX12_year 190 = .ok (.iadd, 1) := by decide +kernel
theorem dX12_year_191 : decode cX12_year 191 = .ok (.iaload, 1) := by decide +kernel
theorem dX12_year_192 : decode cX12_year 192 = .ok (.ifCond .ne 9, 3) := by decide +kernel
theorem dX12_year_195 : decode cX12_year 195 = .ok (.iinc 1 1, 3) := by decide +kernel
theorem dX12_year_198 : decode cX12_year 198 = .ok (.goto (-20), 3) := by decide +kernel
theorem dX12_year_201 : decode cX12_year 201 = .ok (.iload_n 1, 1) := by decide +kernel
theorem dX12_year_202 : decode cX12_year 202 = .ok (.bipush 48, 2) := by decide +kernel
theorem dX12_year_204 : decode cX12_year 204 = .ok (.if_icmp .ge 12, 3) := by decide +kernel
theorem dX12_year_207 : decode cX12_year 207 = .ok (.aload_n 0, 1) := by decide +kernel
theorem dX12_year_208 : decode cX12_year 208 = .ok (.getfield 7, 3) := by decide +kernel
theorem dX12_year_211 : decode cX12_year 211 = .ok (.iconst 2, 1) := by decide +kernel
theorem dX12_year_212 : decode cX12_year 212 = .ok (.iload_n 1, 1) := by decide +kernel
theorem dX12_year_213 : decode cX12_year 213 = .ok (.iadd, 1) := by decide +kernel
theorem dX12_year_214 : decode cX12_year 214 = .ok (.iconst 0, 1) := by decide +kernel
theorem dX12_year_215 : decode cX12_year 215 = .ok (.iastore, 1) := by decide +kernel
theorem dX12_year_216 : decode cX12_year 216 = .ok (.aload_n 0, 1) := by decide +kernel
theorem dX12_year_217 : decode cX12_year 217 = .ok (.getfield 7, 3) := by decide +kernel
theorem dX12_year_220 : decode cX12_year 220 = .ok (.iconst 1, 1) := by decide +kernel
theorem dX12_year_221 : decode cX12_year 221 = .ok (.dup2, 1) := by decide +kernel
theorem dX12_year_222 : decode cX12_year 222 = .ok (.iaload, 1) := by decide +kernel
theorem dX12_year_223 : decode cX12_year 223 = .ok (.iconst 1, 1) := by decide +kernel
theorem dX12_year_224 : decode cX12_year 224 = .ok (.iadd, 1) := by decide +kernel
theorem dX12_year_225 : decode cX12_year 225 = .ok (.iastore, 1) := by decide +kernel
theorem dX12_year_226 : decode cX12_year 226 = .ok (.return_, 1) := by decide +kernel
theorem dX12_goesOn_0 : decode cX12_goesOn 0 = .ok (.iconst 0, 1) := by decide +kernel
theorem dX12_goesOn_1 : decode cX12_goesOn 1 = .ok (.istore_n 2, 1) := by decide +kernel
theorem dX12_goesOn_2 : decode cX12_goesOn 2 = .ok (.iload_n 2, 1) := by decide +kernel
theorem dX12_goesOn_3 : decode cX12_goesOn 3 = .ok (.iload_n 1, 1) := by decide +kernel
theorem dX12_goesOn_4 : decode cX12_goesOn 4 = .ok (.if_icmp .ge 13, 3) := by decide +kernel
theorem dX12_goesOn_7 : decode cX12_goesOn 7 = .ok (.aload_n 0, 1) := by decide +kernel
theorem dX12_goesOn_8 : decode cX12_goesOn 8 = .ok (.invokevirtual 174, 3) := by decide +kernel
theorem dX12_goesOn_11 : decode cX12_goesOn 11 = .ok (.iinc 2 1, 3) := by decide +kernel
theorem dX12_goesOn_14 : decode cX12_goesOn 14 = .ok (.goto (-12), 3) := by decide +kernel
theorem dX12_goesOn_17 : decode cX12_goesOn 17 = .ok (.return_, 1) := by decide +kernel
theorem dX12_together_0 : decode cX12_together 0 = .ok (.iconst 0, 1) := by decide +kernel
theorem dX12_together_1 : decode cX12_together 1 = .ok (.istore_n 2, 1) := by decide +kernel
theorem dX12_together_2 : decode cX12_together 2 = .ok (.iconst 0, 1) := by decide +kernel
theorem dX12_together_3 : decode cX12_together 3 = .ok (.istore_n 3, 1) := by decide +kernel
theorem dX12_together_4 : decode cX12_together 4 = .ok (.iload_n 3, 1) := by decide +kernel
theorem dX12_together_5 : decode cX12_together 5 = .ok (.aload_n 0, 1) := by decide +kernel
theorem dX12_together_6 : decode cX12_together 6 = .ok (.getfield 7, 3) := by decide +kernel
theorem dX12_together_9 : decode cX12_together 9 = .ok (.iconst 0, 1) := by decide +kernel
theorem dX12_together_10 : decode cX12_together 10 = .ok (.iaload, 1) := by decide +kernel
theorem dX12_together_11 : decode cX12_together 11 = .ok (.if_icmp .ge 18, 3) := by decide +kernel
theorem dX12_together_14 : decode cX12_together 14 = .ok (.iload_n 2, 1) := by decide +kernel
theorem dX12_together_15 : decode cX12_together 15 = .ok (.aload_n 0, 1) := by decide +kernel
theorem dX12_together_16 : decode cX12_together 16 = .ok (.iload_n 3, 1) := by decide +kernel
theorem dX12_together_17 : decode cX12_together 17 = .ok (.iload_n 1, 1) := by decide +kernel
theorem dX12_together_18 : decode cX12_together 18 = .ok (.invokevirtual 68, 3) := by decide +kernel
theorem dX12_together_21 : decode cX12_together 21 = .ok (.iadd, 1) := by decide +kernel
theorem dX12_together_22 : decode cX12_together 22 = .ok (.istore_n 2, 1) := by decide +kernel
theorem dX12_together_23 : decode cX12_together 23 = .ok (.iinc 3 1, 3) := by decide +kernel
theorem dX12_together_26 : decode cX12_together 26 = .ok (.goto (-22), 3) := by decide +kernel
theorem dX12_together_29 : decode cX12_together 29 = .ok (.iload_n 2, 1) := by decide +kernel
theorem dX12_together_30 : decode cX12_together 30 = .ok (.ireturn, 1) := by decide +kernel
theorem dX12_years_0 : decode cX12_years 0 = .ok (.iload_n 1, 1) := by decide +kernel
theorem dX12_years_1 : decode cX12_years 1 = .ok (.i2l, 1) := by decide +kernel
theorem dX12_years_2 : decode cX12_years 2 = .ok (.lconst 1, 1) := by decide +kernel
theorem dX12_years_3 : decode cX12_years 3 = .ok (.ldc2_w 177, 3) := by decide +kernel
theorem dX12_years_6 : decode cX12_years 6 = .ok (.invokestatic 56, 3) := by decide +kernel
theorem dX12_years_9 : decode cX12_years 9 = .ok (.ifCond .ne 10, 3) := by decide +kernel
theorem dX12_years_12 : decode cX12_years 12 = .ok (.aload_n 0, 1) := by decide +kernel
theorem dX12_years_13 : decode cX12_years 13 = .ok (.ldc 53, 2) := by decide +kernel
theorem dX12_years_15 : decode cX12_years 15 = .ok (.invokevirtual 121, 3) := by decide +kernel
theorem dX12_years_18 : decode cX12_years 18 = .ok (.ireturn, 1) := by decide +kernel
theorem dX12_years_19 : decode cX12_years 19 = .ok (.aload_n 0, 1) := by decide +kernel
theorem dX12_years_20 : decode cX12_years 20 = .ok (.getfield 7, 3) := by decide +kernel
theorem dX12_years_23 : decode cX12_years 23 = .ok (.iconst 1, 1) := by decide +kernel
theorem dX12_years_24 : decode cX12_years 24 = .ok (.iaload, 1) := by decide +kernel
theorem dX12_years_25 : decode cX12_years 25 = .ok (.iload_n 1, 1) := by decide +kernel
theorem dX12_years_26 : decode cX12_years 26 = .ok (.iadd, 1) := by decide +kernel
theorem dX12_years_27 : decode cX12_years 27 = .ok (.sipush 9999, 3) := by decide +kernel
theorem dX12_years_30 : decode cX12_years 30 = .ok (.if_icmp .le 10, 3) := by decide +kernel
theorem dX12_years_33 : decode cX12_years 33 = .ok (.aload_n 0, 1) := by decide +kernel
theorem dX12_years_34 : decode cX12_years 34 = .ok (.ldc 179, 2) := by decide +kernel
theorem dX12_years_36 : decode cX12_years 36 = .ok (.invokevirtual 121, 3) := by decide +kernel
theorem dX12_years_39 : decode cX12_years 39 = .ok (.ireturn, 1) := by decide +kernel
theorem dX12_years_40 : decode cX12_years 40 = .ok (.aload_n 0, 1) := by decide +kernel
theorem dX12_years_41 : decode cX12_years 41 = .ok (.iload_n 1, 1) := by decide +kernel
theorem dX12_years_42 : decode cX12_years 42 = .ok (.invokevirtual 180, 3) := by decide +kernel
theorem dX12_years_45 : decode cX12_years 45 = .ok (.aload_n 0, 1) := by decide +kernel
theorem dX12_years_46 : decode cX12_years 46 = .ok (.iconst 3, 1) := by decide +kernel
theorem dX12_years_47 : decode cX12_years 47 = .ok (.invokevirtual 184, 3) := by decide +kernel
theorem dX12_years_50 : decode cX12_years 50 = .ok (.ireturn, 1) := by decide +kernel
theorem dX12_thoseThatWrite_0 : decode cX12_thoseThatWrite 0 = .ok (.aload_n 0, 1) := by decide +kernel
theorem dX12_thoseThatWrite_1 : decode cX12_thoseThatWrite 1 = .ok (.invokevirtual 124, 3) := by decide +kernel
theorem dX12_thoseThatWrite_4 : decode cX12_thoseThatWrite 4 = .ok (.iconst 0, 1) := by decide +kernel
theorem dX12_thoseThatWrite_5 : decode cX12_thoseThatWrite 5 = .ok (.istore_n 1, 1) := by decide +kernel
theorem dX12_thoseThatWrite_6 : decode cX12_thoseThatWrite 6 = .ok (.iconst 0, 1) := by decide +kernel
theorem dX12_thoseThatWrite_7 : decode cX12_thoseThatWrite 7 = .ok (.istore_n 2, 1) := by decide +kernel
theorem dX12_thoseThatWrite_8 : decode cX12_thoseThatWrite 8 = .ok (.iload_n 2, 1) := by decide +kernel
theorem dX12_thoseThatWrite_9 : decode cX12_thoseThatWrite 9 = .ok (.aload_n 0, 1) := by decide +kernel
theorem dX12_thoseThatWrite_10 : decode cX12_thoseThatWrite 10 = .ok (.getfield 7, 3) := by decide +kernel
theorem dX12_thoseThatWrite_13 : decode cX12_thoseThatWrite 13 = .ok (.iconst 0, 1) := by decide +kernel
theorem dX12_thoseThatWrite_14 : decode cX12_thoseThatWrite 14 = .ok (.iaload, 1) := by decide +kernel
theorem dX12_thoseThatWrite_15 : decode cX12_thoseThatWrite 15 = .ok (.if_icmp .ge 27, 3) := by decide +kernel
theorem dX12_thoseThatWrite_18 : decode cX12_thoseThatWrite 18 = .ok (.iload_n 1, 1) := by decide +kernel
theorem dX12_thoseThatWrite_19 : decode cX12_thoseThatWrite 19 = .ok (.aload_n 0, 1) := by decide +kernel
theorem dX12_thoseThatWrite_20 : decode cX12_thoseThatWrite 20 = .ok (.iload_n 2, 1) := by decide +kernel
theorem dX12_thoseThatWrite_21 : decode cX12_thoseThatWrite 21 = .ok (.invokevirtual 108, 3) := by decide +kernel
theorem dX12_thoseThatWrite_24 : decode cX12_thoseThatWrite 24 = .ok (.ifCond .eq 9, 3) := by decide +kernel
theorem dX12_thoseThatWrite_27 : decode cX12_thoseThatWrite 27 = .ok (.iconst 1, 1) := by decide +kernel
theorem dX12_thoseThatWrite_28 : decode cX12_thoseThatWrite 28 = .ok (.iload_n 2, 1) := by decide +kernel
theorem dX12_thoseThatWrite_29 : decode cX12_thoseThatWrite 29 = .ok (.ishl, 1) := by decide +kernel
theorem dX12_thoseThatWrite_30 : decode cX12_thoseThatWrite 30 = .ok (.goto 4, 3) := by decide +kernel
theorem dX12_thoseThatWrite_33 : decode cX12_thoseThatWrite 33 = .ok (.iconst 0, 1) := by decide +kernel
theorem dX12_thoseThatWrite_34 : decode cX12_thoseThatWrite 34 = .ok (.ior, 1) := by decide +kernel
theorem dX12_thoseThatWrite_35 : decode cX12_thoseThatWrite 35 = .ok (.istore_n 1, 1) := by decide +kernel
theorem dX12_thoseThatWrite_36 : decode cX12_thoseThatWrite 36 = .ok (.iinc 2 1, 3) := by decide +kernel
theorem dX12_thoseThatWrite_39 : decode cX12_thoseThatWrite 39 = .ok (.goto (-31), 3) := by decide +kernel
theorem dX12_thoseThatWrite_42 : decode cX12_thoseThatWrite 42 = .ok (.iload_n 1, 1) := by decide +kernel
theorem dX12_thoseThatWrite_43 : decode cX12_thoseThatWrite 43 = .ok (.ireturn, 1) := by decide +kernel
theorem dX12_now_0 : decode cX12_now 0 = .ok (.iload_n 1, 1) := by decide +kernel
theorem dX12_now_1 : decode cX12_now 1 = .ok (.tableswitch 67 0 4 #[35, 42, 48, 54, 59], 35) := by decide +kernel
theorem dX12_now_36 : decode cX12_now 36 = .ok (.aload_n 0, 1) := by decide +kernel
theorem dX12_now_37 : decode cX12_now 37 = .ok (.getfield 7, 3) := by decide +kernel
theorem dX12_now_40 : decode cX12_now 40 = .ok (.iconst 1, 1) := by decide +kernel
theorem dX12_now_41 : decode cX12_now 41 = .ok (.iaload, 1) := by decide +kernel
theorem dX12_now_42 : decode cX12_now 42 = .ok (.ireturn, 1) := by decide +kernel
theorem dX12_now_43 : decode cX12_now 43 = .ok (.aload_n 0, 1) := by decide +kernel
theorem dX12_now_44 : decode cX12_now 44 = .ok (.iconst 3, 1) := by decide +kernel
theorem dX12_now_45 : decode cX12_now 45 = .ok (.invokevirtual 184, 3) := by decide +kernel
theorem dX12_now_48 : decode cX12_now 48 = .ok (.ireturn, 1) := by decide +kernel
theorem dX12_now_49 : decode cX12_now 49 = .ok (.aload_n 0, 1) := by decide +kernel
theorem dX12_now_50 : decode cX12_now 50 = .ok (.iconst 2, 1) := by decide +kernel
theorem dX12_now_51 : decode cX12_now 51 = .ok (.invokevirtual 184, 3) := by decide +kernel
theorem dX12_now_54 : decode cX12_now 54 = .ok (.ireturn, 1) := by decide +kernel
theorem dX12_now_55 : decode cX12_now 55 = .ok (.aload_n 0, 1) := by decide +kernel
theorem dX12_now_56 : decode cX12_now 56 = .ok (.invokevirtual 187, 3) := by decide +kernel
theorem dX12_now_59 : decode cX12_now 59 = .ok (.ireturn, 1) := by decide +kernel
theorem dX12_now_60 : decode cX12_now 60 = .ok (.aload_n 0, 1) := by decide +kernel
theorem dX12_now_61 : decode cX12_now 61 = .ok (.invokevirtual 92, 3) := by decide +kernel
theorem dX12_now_64 : decode cX12_now 64 = .ok (.invokestatic 104, 3) := by decide +kernel
theorem dX12_now_67 : decode cX12_now 67 = .ok (.ireturn, 1) := by decide +kernel
theorem dX12_now_68 : decode cX12_now 68 = .ok (.aload_n 0, 1) := by decide +kernel
theorem dX12_now_69 : decode cX12_now 69 = .ok (.ldc 53, 2) := by decide +kernel
theorem dX12_now_71 : decode cX12_now 71 = .ok (.invokevirtual 121, 3) := by decide +kernel
theorem dX12_now_74 : decode cX12_now 74 = .ok (.ireturn, 1) := by decide +kernel
theorem dX12_ownsNow_0 : decode cX12_ownsNow 0 = .ok (.aload_n 0, 1) := by decide +kernel
theorem dX12_ownsNow_1 : decode cX12_ownsNow 1 = .ok (.invokevirtual 124, 3) := by decide +kernel
theorem dX12_ownsNow_4 : decode cX12_ownsNow 4 = .ok (.aload_n 0, 1) := by decide +kernel
theorem dX12_ownsNow_5 : decode cX12_ownsNow 5 = .ok (.iload_n 1, 1) := by decide +kernel
theorem dX12_ownsNow_6 : decode cX12_ownsNow 6 = .ok (.invokevirtual 108, 3) := by decide +kernel
theorem dX12_ownsNow_9 : decode cX12_ownsNow 9 = .ok (.ifCond .eq 11, 3) := by decide +kernel
theorem dX12_ownsNow_12 : decode cX12_ownsNow 12 = .ok (.aload_n 0, 1) := by decide +kernel
theorem dX12_ownsNow_13 : decode cX12_ownsNow 13 = .ok (.iload_n 1, 1) := by decide +kernel
theorem dX12_ownsNow_14 : decode cX12_ownsNow 14 = .ok (.invokevirtual 157, 3) := by decide +kernel
theorem dX12_ownsNow_17 : decode cX12_ownsNow 17 = .ok (.goto 4, 3) := by decide +kernel
theorem dX12_ownsNow_20 : decode cX12_ownsNow 20 = .ok (.iconst 0, 1) := by decide +kernel
theorem dX12_ownsNow_21 : decode cX12_ownsNow 21 = .ok (.ireturn, 1) := by decide +kernel
theorem dX12_on_0 : decode cX12_on 0 = .ok (.aload_n 0, 1) := by decide +kernel
theorem dX12_on_1 : decode cX12_on 1 = .ok (.iload_n 1, 1) := by decide +kernel
theorem dX12_on_2 : decode cX12_on 2 = .ok (.invokevirtual 143, 3) := by decide +kernel
theorem dX12_on_5 : decode cX12_on 5 = .ok (.ifCond .eq 27, 3) := by decide +kernel
theorem dX12_on_8 : decode cX12_on 8 = .ok (.iload_n 2, 1) := by decide +kernel
theorem dX12_on_9 : decode cX12_on 9 = .ok (.i2l, 1) := by decide +kernel
theorem dX12_on_10 : decode cX12_on 10 = .ok (.lconst 0, 1) := by decide +kernel
theorem dX12_on_11 : decode cX12_on 11 = .ok (.ldc2_w 177, 3) := by decide +kernel
theorem dX12_on_14 : decode cX12_on 14 = .ok (.invokestatic 56, 3) := by decide +kernel
theorem dX12_on_17 : decode cX12_on 17 = .ok (.ifCond .eq 15, 3) := by decide +kernel
theorem dX12_on_20 : decode cX12_on 20 = .ok (.iload_n 3, 1) := by decide +kernel
theorem dX12_on_21 : decode cX12_on 21 = .ok (.i2l, 1) := by decide +kernel
theorem dX12_on_22 : decode cX12_on 22 = .ok (.lconst 0, 1) := by decide +kernel
theorem dX12_on_23 : decode cX12_on 23 = .ok (.ldc2_w 131, 3) := by decide +kernel
theorem dX12_on_26 : decode cX12_on 26 = .ok (.invokestatic 56, 3) := by decide +kernel
theorem dX12_on_29 : decode cX12_on 29 = .ok (.ifCond .ne 10, 3) := by decide +kernel
theorem dX12_on_32 : decode cX12_on 32 = .ok (.aload_n 0, 1) := by decide +kernel
theorem dX12_on_33 : decode cX12_on 33 = .ok (.ldc 53, 2) := by decide +kernel
theorem dX12_on_35 : decode cX12_on 35 = .ok (.invokevirtual 121, 3) := by decide +kernel
theorem dX12_on_38 : decode cX12_on 38 = .ok (.ireturn, 1) := by decide +kernel
theorem dX12_on_39 : decode cX12_on 39 = .ok (.aload_n 0, 1) := by decide +kernel
theorem dX12_on_40 : decode cX12_on 40 = .ok (.invokevirtual 191, 3) := by decide +kernel
theorem dX12_on_43 : decode cX12_on 43 = .ok (.aload_n 0, 1) := by decide +kernel
theorem dX12_on_44 : decode cX12_on 44 = .ok (.iload_n 2, 1) := by decide +kernel
theorem dX12_on_45 : decode cX12_on 45 = .ok (.invokevirtual 180, 3) := by decide +kernel
theorem dX12_on_48 : decode cX12_on 48 = .ok (.aload_n 0, 1) := by decide +kernel
theorem dX12_on_49 : decode cX12_on 49 = .ok (.iload_n 3, 1) := by decide +kernel
theorem dX12_on_50 : decode cX12_on 50 = .ok (.iconst 2, 1) := by decide +kernel
theorem dX12_on_51 : decode cX12_on 51 = .ok (.if_icmp .ne 11, 3) := by decide +kernel
theorem dX12_on_54 : decode cX12_on 54 = .ok (.aload_n 0, 1) := by decide +kernel
theorem dX12_on_55 : decode cX12_on 55 = .ok (.iload_n 1, 1) := by decide +kernel
theorem dX12_on_56 : decode cX12_on 56 = .ok (.invokevirtual 194, 3) := by decide +kernel
theorem dX12_on_59 : decode cX12_on 59 = .ok (.goto 11, 3) := by decide +kernel
theorem dX12_on_62 : decode cX12_on 62 = .ok (.aload_n 0, 1) := by decide +kernel
theorem dX12_on_63 : decode cX12_on 63 = .ok (.iload_n 1, 1) := by decide +kernel
theorem dX12_on_64 : decode cX12_on 64 = .ok (.iconst 2, 1) := by decide +kernel
theorem dX12_on_65 : decode cX12_on 65 = .ok (.iload_n 3, 1) := by decide +kernel
theorem dX12_on_66 : decode cX12_on 66 = .ok (.iadd, 1) := by decide +kernel
theorem dX12_on_67 : decode cX12_on 67 = .ok (.invokevirtual 68, 3) := by decide +kernel
theorem dX12_on_70 : decode cX12_on 70 = .ok (.invokevirtual 197, 3) := by decide +kernel
theorem dX12_on_73 : decode cX12_on 73 = .ok (.ireturn, 1) := by decide +kernel
theorem dX12_isDry_0 : decode cX12_isDry 0 = .ok (.aload_n 0, 1) := by decide +kernel
theorem dX12_isDry_1 : decode cX12_isDry 1 = .ok (.iload_n 1, 1) := by decide +kernel
theorem dX12_isDry_2 : decode cX12_isDry 2 = .ok (.aload_n 0, 1) := by decide +kernel
theorem dX12_isDry_3 : decode cX12_isDry 3 = .ok (.invokevirtual 92, 3) := by decide +kernel
theorem dX12_isDry_6 : decode cX12_isDry 6 = .ok (.invokevirtual 96, 3) := by decide +kernel
theorem dX12_isDry_9 : decode cX12_isDry 9 = .ok (.aload_n 0, 1) := by decide +kernel
theorem dX12_isDry_10 : decode cX12_isDry 10 = .ok (.iload_n 1, 1) := by decide +kernel
theorem dX12_isDry_11 : decode cX12_isDry 11 = .ok (.invokevirtual 108, 3) := by decide +kernel
theorem dX12_isDry_14 : decode cX12_isDry 14 = .ok (.ifCond .ne 7, 3) := by decide +kernel
theorem dX12_isDry_17 : decode cX12_isDry 17 = .ok (.iconst 1, 1) := by decide +kernel
theorem dX12_isDry_18 : decode cX12_isDry 18 = .ok (.goto 4, 3) := by decide +kernel
theorem dX12_isDry_21 : decode cX12_isDry 21 = .ok (.iconst 0, 1) := by decide +kernel
theorem dX12_isDry_22 : decode cX12_isDry 22 = .ok (.ireturn, 1) := by decide +kernel
theorem dX12_dry_0 : decode cX12_dry 0 = .ok (.aload_n 0, 1) := by decide +kernel
theorem dX12_dry_1 : decode cX12_dry 1 = .ok (.iload_n 1, 1) := by decide +kernel
theorem dX12_dry_2 : decode cX12_dry 2 = .ok (.invokevirtual 143, 3) := by decide +kernel
theorem dX12_dry_5 : decode cX12_dry 5 = .ok (.ifCond .ne 10, 3) := by decide +kernel
theorem dX12_dry_8 : decode cX12_dry 8 = .ok (.aload_n 0, 1) := by decide +kernel
theorem dX12_dry_9 : decode cX12_dry 9 = .ok (.ldc 53, 2) := by decide +kernel
theorem dX12_dry_11 : decode cX12_dry 11 = .ok (.invokevirtual 121, 3) := by decide +kernel
theorem dX12_dry_14 : decode cX12_dry 14 = .ok (.ireturn, 1) := by decide +kernel
theorem dX12_dry_15 : decode cX12_dry 15 = .ok (.aload_n 0, 1) := by decide +kernel
theorem dX12_dry_16 : decode cX12_dry 16 = .ok (.invokevirtual 191, 3) := by decide +kernel
theorem dX12_dry_19 : decode cX12_dry 19 = .ok (.iconst 0, 1) := by decide +kernel
theorem dX12_dry_20 : decode cX12_dry 20 = .ok (.istore_n 2, 1) := by decide +kernel
theorem dX12_dry_21 : decode cX12_dry 21 = .ok (.iload_n 2, 1) := by decide +kernel
theorem dX12_dry_22 : decode cX12_dry 22 = .ok (.bipush 60, 2) := by decide +kernel
theorem dX12_dry_24 : decode cX12_dry 24 = .ok (.if_icmp .gt 21, 3) := by decide +kernel
theorem dX12_dry_27 : decode cX12_dry 27 = .ok (.aload_n 0, 1) := by decide +kernel
theorem dX12_dry_28 : decode cX12_dry 28 = .ok (.iload_n 1, 1) := by decide +kernel
theorem dX12_dry_29 : decode cX12_dry 29 = .ok (.invokevirtual 200, 3) := by decide +kernel
theorem dX12_dry_32 : decode cX12_dry 32 = .ok (.ifCond .ne 13, 3) := by decide +kernel
theorem dX12_dry_35 : decode cX12_dry 35 = .ok (.aload_n 0, 1) := by decide +kernel
theorem dX12_dry_36 : decode cX12_dry 36 = .ok (.invokevirtual 174, 3) := by decide +kernel
theorem dX12_dry_39 : decode cX12_dry 39 = .ok (.iinc 2 1, 3) := by decide +kernel
theorem dX12_dry_42 : decode cX12_dry 42 = .ok (.goto (-21), 3) := by decide +kernel
theorem dX12_dry_45 : decode cX12_dry 45 = .ok (.aload_n 0, 1) := by decide +kernel
theorem dX12_dry_46 : decode cX12_dry 46 = .ok (.iload_n 2, 1) := by decide +kernel
theorem dX12_dry_47 : decode cX12_dry 47 = .ok (.invokevirtual 197, 3) := by decide +kernel
theorem dX12_dry_50 : decode cX12_dry 50 = .ok (.istore_n 3, 1) := by decide +kernel
theorem dX12_dry_51 : decode cX12_dry 51 = .ok (.iload_n 3, 1) := by decide +kernel
theorem dX12_dry_52 : decode cX12_dry 52 = .ok (.bipush 60, 2) := by decide +kernel
theorem dX12_dry_54 : decode cX12_dry 54 = .ok (.if_icmp .le 12, 3) := by decide +kernel
theorem dX12_dry_57 : decode cX12_dry 57 = .ok (.aload_n 0, 1) := by decide +kernel
theorem dX12_dry_58 : decode cX12_dry 58 = .ok (.ldc 203, 2) := by decide +kernel
theorem dX12_dry_60 : decode cX12_dry 60 = .ok (.invokevirtual 121, 3) := by decide +kernel
theorem dX12_dry_63 : decode cX12_dry 63 = .ok (.goto 4, 3) := by decide +kernel
theorem dX12_dry_66 : decode cX12_dry 66 = .ok (.iload_n 3, 1) := by decide +kernel
theorem dX12_dry_67 : decode cX12_dry 67 = .ok (.ireturn, 1) := by decide +kernel
theorem dX12_richest_0 : decode cX12_richest 0 = .ok (.iconst 0, 1) := by decide +kernel
theorem dX12_richest_1 : decode cX12_richest 1 = .ok (.istore_n 1, 1) := by decide +kernel
theorem dX12_richest_2 : decode cX12_richest 2 = .ok (.iconst 1, 1) := by decide +kernel
theorem dX12_richest_3 : decode cX12_richest 3 = .ok (.istore_n 2, 1) := by decide +kernel
theorem dX12_richest_4 : decode cX12_richest 4 = .ok (.iload_n 2, 1) := by decide +kernel
theorem dX12_richest_5 : decode cX12_richest 5 = .ok (.aload_n 0, 1) := by decide +kernel
theorem dX12_richest_6 : decode cX12_richest 6 = .ok (.getfield 7, 3) := by decide +kernel
theorem dX12_richest_9 : decode cX12_richest 9 = .ok (.iconst 0, 1) := by decide +kernel
theorem dX12_richest_10 : decode cX12_richest 10 = .ok (.iaload, 1) := by decide +kernel
theorem dX12_richest_11 : decode cX12_richest 11 = .ok (.if_icmp .ge 30, 3) := by decide +kernel
theorem dX12_richest_14 : decode cX12_richest 14 = .ok (.aload_n 0, 1) := by decide +kernel
theorem dX12_richest_15 : decode cX12_richest 15 = .ok (.iload_n 2, 1) := by decide +kernel
theorem dX12_richest_16 : decode cX12_richest 16 = .ok (.iconst 3, 1) := by decide +kernel
theorem dX12_richest_17 : decode cX12_richest 17 = .ok (.invokevirtual 68, 3) := by decide +kernel
theorem dX12_richest_20 : decode cX12_richest 20 = .ok (.aload_n 0, 1) := by decide +kernel
theorem dX12_richest_21 : decode cX12_richest 21 = .ok (.iload_n 1, 1) := by decide +kernel
theorem dX12_richest_22 : decode cX12_richest 22 = .ok (.iconst 3, 1) := by decide +kernel
theorem dX12_richest_23 : decode cX12_richest 23 = .ok (.invokevirtual 68, 3) := by decide +kernel
theorem dX12_richest_26 : decode cX12_richest 26 = .ok (.if_icmp .le 7, 3) := by decide +kernel
theorem dX12_richest_29 : decode cX12_richest 29 = .ok (.iload_n 2, 1) := by decide +kernel
theorem dX12_richest_30 : decode cX12_richest 30 = .ok (.goto 4, 3) := by decide +kernel
theorem dX12_richest_33 : decode cX12_richest 33 = .ok (.iload_n 1, 1) := by decide +kernel
theorem dX12_richest_34 : decode cX12_richest 34 = .ok (.istore_n 1, 1) := by decide +kernel
theorem dX12_richest_35 : decode cX12_richest 35 = .ok (.iinc 2 1, 3) := by decide +kernel
theorem dX12_richest_38 : decode cX12_richest 38 = .ok (.goto (-34), 3) := by decide +kernel
theorem dX12_richest_41 : decode cX12_richest 41 = .ok (.iload_n 1, 1) := by decide +kernel
theorem dX12_richest_42 : decode cX12_richest 42 = .ok (.ireturn, 1) := by decide +kernel
theorem dX12_rich_0 : decode cX12_rich 0 = .ok (.iload_n 1, 1) := by decide +kernel
theorem dX12_rich_1 : decode cX12_rich 1 = .ok (.i2l, 1) := by decide +kernel
theorem dX12_rich_2 : decode cX12_rich 2 = .ok (.lconst 0, 1) := by decide +kernel
theorem dX12_rich_3 : decode cX12_rich 3 = .ok (.ldc2_w 177, 3) := by decide +kernel
theorem dX12_rich_6 : decode cX12_rich 6 = .ok (.invokestatic 56, 3) := by decide +kernel
theorem dX12_rich_9 : decode cX12_rich 9 = .ok (.ifCond .ne 10, 3) := by decide +kernel
theorem dX12_rich_12 : decode cX12_rich 12 = .ok (.aload_n 0, 1) := by decide +kernel
theorem dX12_rich_13 : decode cX12_rich 13 = .ok (.ldc 53, 2) := by decide +kernel
theorem dX12_rich_15 : decode cX12_rich 15 = .ok (.invokevirtual 121, 3) := by decide +kernel
theorem dX12_rich_18 : decode cX12_rich 18 = .ok (.ireturn, 1) := by decide +kernel
theorem dX12_rich_19 : decode cX12_rich 19 = .ok (.aload_n 0, 1) := by decide +kernel
theorem dX12_rich_20 : decode cX12_rich 20 = .ok (.getfield 7, 3) := by decide +kernel
theorem dX12_rich_23 : decode cX12_rich 23 = .ok (.iconst 0, 1) := by decide +kernel
theorem dX12_rich_24 : decode cX12_rich 24 = .ok (.iaload, 1) := by decide +kernel
theorem dX12_rich_25 : decode cX12_rich 25 = .ok (.ifCond .ne 10, 3) := by decide +kernel
theorem dX12_rich_28 : decode cX12_rich 28 = .ok (.aload_n 0, 1) := by decide +kernel
theorem dX12_rich_29 : decode cX12_rich 29 = .ok (.ldc 203, 2) := by decide +kernel
theorem dX12_rich_31 : decode cX12_rich 31 = .ok (.invokevirtual 121, 3) := by decide +kernel
theorem dX12_rich_34 : decode cX12_rich 34 = .ok (.ireturn, 1) := by decide +kernel
theorem dX12_rich_35 : decode cX12_rich 35 = .ok (.aload_n 0, 1) := by decide +kernel
theorem dX12_rich_36 : decode cX12_rich 36 = .ok (.invokevirtual 191, 3) := by decide +kernel
theorem dX12_rich_39 : decode cX12_rich 39 = .ok (.aload_n 0, 1) := by decide +kernel
theorem dX12_rich_40 : decode cX12_rich 40 = .ok (.iload_n 1, 1) := by decide +kernel
theorem dX12_rich_41 : decode cX12_rich 41 = .ok (.invokevirtual 180, 3) := by decide +kernel
theorem dX12_rich_44 : decode cX12_rich 44 = .ok (.aload_n 0, 1) := by decide +kernel
theorem dX12_rich_45 : decode cX12_rich 45 = .ok (.aload_n 0, 1) := by decide +kernel
theorem dX12_rich_46 : decode cX12_rich 46 = .ok (.invokevirtual 204, 3) := by decide +kernel
theorem dX12_rich_49 : decode cX12_rich 49 = .ok (.invokevirtual 197, 3) := by decide +kernel
theorem dX12_rich_52 : decode cX12_rich 52 = .ok (.ireturn, 1) := by decide +kernel
theorem dX12_rain_0 : decode cX12_rain 0 = .ok (.aload_n 0, 1) := by decide +kernel
theorem dX12_rain_1 : decode cX12_rain 1 = .ok (.iload_n 1, 1) := by decide +kernel
theorem dX12_rain_2 : decode cX12_rain 2 = .ok (.invokevirtual 143, 3) := by decide +kernel
theorem dX12_rain_5 : decode cX12_rain 5 = .ok (.ifCond .ne 10, 3) := by decide +kernel
theorem dX12_rain_8 : decode cX12_rain 8 = .ok (.aload_n 0, 1) := by decide +kernel
theorem dX12_rain_9 : decode cX12_rain 9 = .ok (.ldc 53, 2) := by decide +kernel
theorem dX12_rain_11 : decode cX12_rain 11 = .ok (.invokevirtual 121, 3) := by decide +kernel
theorem dX12_rain_14 : decode cX12_rain 14 = .ok (.ireturn, 1) := by decide +kernel
theorem dX12_rain_15 : decode cX12_rain 15 = .ok (.aload_n 0, 1) := by decide +kernel
theorem dX12_rain_16 : decode cX12_rain 16 = .ok (.iload_n 1, 1) := by decide +kernel
theorem dX12_rain_17 : decode cX12_rain 17 = .ok (.invokevirtual 207, 3) := by decide +kernel
theorem dX12_rain_20 : decode cX12_rain 20 = .ok (.istore_n 2, 1) := by decide +kernel
theorem dX12_rain_21 : decode cX12_rain 21 = .ok (.aload_n 0, 1) := by decide +kernel
theorem dX12_rain_22 : decode cX12_rain 22 = .ok (.getfield 25, 3) := by decide +kernel
theorem dX12_rain_25 : decode cX12_rain 25 = .ok (.iload_n 1, 1) := by decide +kernel
theorem dX12_rain_26 : decode cX12_rain 26 = .ok (.laload, 1) := by decide +kernel
theorem dX12_rain_27 : decode cX12_rain 27 = .ok (.lstore_n 3, 1) := by decide +kernel
theorem dX12_rain_28 : decode cX12_rain 28 = .ok (.iconst (-1), 1) := by decide +kernel
theorem dX12_rain_29 : decode cX12_rain 29 = .ok (.istore 5, 2) := by decide +kernel
theorem dX12_rain_31 : decode cX12_rain 31 = .ok (.iconst 0, 1) := by decide +kernel
theorem dX12_rain_32 : decode cX12_rain 32 = .ok (.istore 6, 2) := by decide +kernel
theorem dX12_rain_34 : decode cX12_rain 34 = .ok (.iload 6, 2) := by decide +kernel
theorem dX12_rain_36 : decode cX12_rain 36 = .ok (.bipush 48, 2) := by decide +kernel
theorem dX12_rain_38 : decode cX12_rain 38 = .ok (.if_icmp .ge 69, 3) := by decide +kernel
theorem dX12_rain_41 : decode cX12_rain 41 = .ok (.lload_n 3, 1) := by decide +kernel
theorem dX12_rain_42 : decode cX12_rain 42 = .ok (.iload 6, 2) := by decide +kernel
theorem dX12_rain_44 : decode cX12_rain 44 = .ok (.invokestatic 86, 3) := by decide +kernel
theorem dX12_rain_47 : decode cX12_rain 47 = .ok (.ifCond .eq 22, 3) := by decide +kernel
theorem dX12_rain_50 : decode cX12_rain 50 = .ok (.lload_n 3, 1) := by decide +kernel
theorem dX12_rain_51 : decode cX12_rain 51 = .ok (.lconst 1, 1) := by decide +kernel
theorem dX12_rain_52 : decode cX12_rain 52 = .ok (.iload 6, 2) := by decide +kernel
theorem dX12_rain_54 : decode cX12_rain 54 = .ok (.lshl, 1) := by decide +kernel
theorem dX12_rain_55 : decode cX12_rain 55 = .ok (.ldc2_w 80, 3) := by decide +kernel
theorem dX12_rain_58 : decode cX12_rain 58 = .ok (.lxor, 1) := by decide +kernel
theorem dX12_rain_59 : decode cX12_rain 59 = .ok (.land, 1) := by decide +kernel
theorem dX12_rain_60 : decode cX12_rain 60 = .ok (.invokestatic 100, 3) := by decide +kernel
theorem dX12_rain_63 : decode cX12_rain 63 = .ok (.invokestatic 104, 3) := by decide +kernel
theorem dX12_rain_66 : decode cX12_rain 66 = .ok (.goto 5, 3) := by decide +kernel
theorem dX12_rain_69 : decode cX12_rain 69 = .ok (.bipush 48, 2) := by decide +kernel
theorem dX12_rain_71 : decode cX12_rain 71 = .ok (.istore 7, 2) := by decide +kernel
theorem dX12_rain_73 : decode cX12_rain 73 = .ok (.iload 7, 2) := by decide +kernel
theorem dX12_rain_75 : decode cX12_rain 75 = .ok (.iload_n 2, 1) := by decide +kernel
theorem dX12_rain_76 : decode cX12_rain 76 = .ok (.if_icmp .ge 8, 3) := by decide +kernel
theorem dX12_rain_79 : decode cX12_rain 79 = .ok (.iload 6, 2) := by decide +kernel
theorem dX12_rain_81 : decode cX12_rain 81 = .ok (.goto 5, 3) := by decide +kernel
theorem dX12_rain_84 : decode cX12_rain 84 = .ok (.iload 5, 2) := by decide +kernel
theorem dX12_rain_86 : decode cX12_rain 86 = .ok (.istore 5, 2) := by decide +kernel
theorem dX12_rain_88 : decode cX12_rain 88 = .ok (.iload 7, 2) := by decide +kernel
theorem dX12_rain_90 : decode cX12_rain 90 = .ok (.iload_n 2, 1) := by decide +kernel
theorem dX12_rain_91 : decode cX12_rain 91 = .ok (.if_icmp .ge 8, 3) := by decide +kernel
theorem dX12_rain_94 : decode cX12_rain 94 = .ok (.iload 7, 2) := by decide +kernel
theorem dX12_rain_96 : decode cX12_rain 96 = .ok (.goto 4, 3) := by decide +kernel
theorem dX12_rain_99 : decode cX12_rain 99 = .ok (.iload_n 2, 1) := by decide +kernel
theorem dX12_rain_100 : decode cX12_rain 100 = .ok (.istore_n 2, 1) := by decide +kernel
theorem dX12_rain_101 : decode cX12_rain 101 = .ok (.iinc 6 1, 3) := by decide +kernel
theorem dX12_rain_104 : decode cX12_rain 104 = .ok (.goto (-70), 3) := by decide +kernel
theorem dX12_rain_107 : decode cX12_rain 107 = .ok (.iload 5, 2) := by decide +kernel
theorem dX12_rain_109 : decode cX12_rain 109 = .ok (.ifCond .ge 12, 3) := by decide +kernel
theorem dX12_rain_112 : decode cX12_rain 112 = .ok (.aload_n 0, 1) := by decide +kernel
theorem dX12_rain_113 : decode cX12_rain 113 = .ok (.ldc 203, 2) := by decide +kernel
theorem dX12_rain_115 : decode cX12_rain 115 = .ok (.invokevirtual 121, 3) := by decide +kernel
theorem dX12_rain_118 : decode cX12_rain 118 = .ok (.goto 5, 3) := by decide +kernel
theorem dX12_rain_121 : decode cX12_rain 121 = .ok (.iload 5, 2) := by decide +kernel
theorem dX12_rain_123 : decode cX12_rain 123 = .ok (.ireturn, 1) := by decide +kernel
theorem dX12_longer_0 : decode cX12_longer 0 = .ok (.aload_n 0, 1) := by decide +kernel
theorem dX12_longer_1 : decode cX12_longer 1 = .ok (.iload_n 1, 1) := by decide +kernel
theorem dX12_longer_2 : decode cX12_longer 2 = .ok (.invokevirtual 143, 3) := by decide +kernel
theorem dX12_longer_5 : decode cX12_longer 5 = .ok (.ifCond .ne 10, 3) := by decide +kernel
theorem dX12_longer_8 : decode cX12_longer 8 = .ok (.aload_n 0, 1) := by decide +kernel
theorem dX12_longer_9 : decode cX12_longer 9 = .ok (.ldc 53, 2) := by decide +kernel
theorem dX12_longer_11 : decode cX12_longer 11 = .ok (.invokevirtual 121, 3) := by decide +kernel
theorem dX12_longer_14 : decode cX12_longer 14 = .ok (.ireturn, 1) := by decide +kernel
theorem dX12_longer_15 : decode cX12_longer 15 = .ok (.aload_n 0, 1) := by decide +kernel
theorem dX12_longer_16 : decode cX12_longer 16 = .ok (.iload_n 1, 1) := by decide +kernel
theorem dX12_longer_17 : decode cX12_longer 17 = .ok (.invokevirtual 207, 3) := by decide +kernel
theorem dX12_longer_20 : decode cX12_longer 20 = .ok (.istore_n 2, 1) := by decide +kernel
theorem dX12_longer_21 : decode cX12_longer 21 = .ok (.iconst (-1), 1) := by decide +kernel
theorem dX12_longer_22 : decode cX12_longer 22 = .ok (.istore_n 3, 1) := by decide +kernel
theorem dX12_longer_23 : decode cX12_longer 23 = .ok (.iconst 0, 1) := by decide +kernel
theorem dX12_longer_24 : decode cX12_longer 24 = .ok (.istore 4, 2) := by decide +kernel
theorem dX12_longer_26 : decode cX12_longer 26 = .ok (.iload 4, 2) := by decide +kernel
theorem dX12_longer_28 : decode cX12_longer 28 = .ok (.aload_n 0, 1) := by decide +kernel
theorem dX12_longer_29 : decode cX12_longer 29 = .ok (.iload_n 1, 1) := by decide +kernel
theorem dX12_longer_30 : decode cX12_longer 30 = .ok (.iconst 4, 1) := by decide +kernel
theorem dX12_longer_31 : decode cX12_longer 31 = .ok (.invokevirtual 68, 3) := by decide +kernel
theorem dX12_longer_34 : decode cX12_longer 34 = .ok (.if_icmp .ge 100, 3) := by decide +kernel
theorem dX12_longer_37 : decode cX12_longer 37 = .ok (.aload_n 0, 1) := by decide +kernel
theorem dX12_longer_38 : decode cX12_longer 38 = .ok (.iload_n 1, 1) := by decide +kernel
theorem dX12_longer_39 : decode cX12_longer 39 = .ok (.bipush 13, 2) := by decide +kernel
theorem dX12_longer_41 : decode cX12_longer 41 = .ok (.iload 4, 2) := by decide +kernel
theorem dX12_longer_43 : decode cX12_longer 43 = .ok (.iadd, 1) := by decide +kernel
theorem dX12_longer_44 : decode cX12_longer 44 = .ok (.invokevirtual 68, 3) := by decide +kernel
theorem dX12_longer_47 : decode cX12_longer 47 = .ok (.istore 5, 2) := by decide +kernel
theorem dX12_longer_49 : decode cX12_longer 49 = .ok (.aload_n 0, 1) := by decide +kernel
theorem dX12_longer_50 : decode cX12_longer 50 = .ok (.getfield 7, 3) := by decide +kernel
theorem dX12_longer_53 : decode cX12_longer 53 = .ok (.iload_n 1, 1) := by decide +kernel
theorem dX12_longer_54 : decode cX12_longer 54 = .ok (.bipush 13, 2) := by decide +kernel
theorem dX12_longer_56 : decode cX12_longer 56 = .ok (.iload 4, 2) := by decide +kernel
theorem dX12_longer_58 : decode cX12_longer 58 = .ok (.iadd, 1) := by decide +kernel
theorem dX12_longer_59 : decode cX12_longer 59 = .ok (.invokestatic 64, 3) := by decide +kernel
theorem dX12_longer_62 : decode cX12_longer 62 = .ok (.iload 5, 2) := by decide +kernel
theorem dX12_longer_64 : decode cX12_longer 64 = .ok (.bipush 7, 2) := by decide +kernel
theorem dX12_longer_66 : decode cX12_longer 66 = .ok (.if_icmp .ge 10, 3) := by decide +kernel
theorem dX12_longer_69 : decode cX12_longer 69 = .ok (.iload 5, 2) := by decide +kernel
theorem dX12_longer_71 : decode cX12_longer 71 = .ok (.iconst 1, 1) := by decide +kernel
theorem dX12_longer_72 : decode cX12_longer 72 = .ok (.iadd, 1) := by decide +kernel
theorem dX12_longer_73 : decode cX12_longer 73 = .ok (.goto 5, 3) := by decide +kernel
theorem dX12_longer_76 : decode cX12_longer 76 = .ok (.iload 5, 2) := by decide +kernel
theorem dX12_longer_78 : decode cX12_longer 78 = .ok (.iastore, 1) := by decide +kernel
theorem dX12_longer_79 : decode cX12_longer 79 = .ok (.aload_n 0, 1) := by decide +kernel
theorem dX12_longer_80 : decode cX12_longer 80 = .ok (.iload_n 1, 1) := by decide +kernel
theorem dX12_longer_81 : decode cX12_longer 81 = .ok (.invokevirtual 207, 3) := by decide +kernel
theorem dX12_longer_84 : decode cX12_longer 84 = .ok (.istore 6, 2) := by decide +kernel
theorem dX12_longer_86 : decode cX12_longer 86 = .ok (.aload_n 0, 1) := by decide +kernel
theorem dX12_longer_87 : decode cX12_longer 87 = .ok (.getfield 7, 3) := by decide +kernel
theorem dX12_longer_90 : decode cX12_longer 90 = .ok (.iload_n 1, 1) := by decide +kernel
theorem dX12_longer_91 : decode cX12_longer 91 = .ok (.bipush 13, 2) := by decide +kernel
theorem dX12_longer_93 : decode cX12_longer 93 = .ok (.iload 4, 2) := by decide +kernel
theorem dX12_longer_95 : decode cX12_longer 95 = .ok (.iadd, 1) := by decide +kernel
theorem dX12_longer_96 : decode cX12_longer 96 = .ok (.invokestatic 64, 3) := by decide +kernel
theorem dX12_longer_99 : decode cX12_longer 99 = .ok (.iload 5, 2) := by decide +kernel
theorem dX12_longer_101 : decode cX12_longer 101 = .ok (.iastore, 1) := by decide +kernel
theorem dX12_longer_102 : decode cX12_longer 102 = .ok (.iload 6, 2) := by decide +kernel
theorem dX12_longer_104 : decode cX12_longer 104 = .ok (.iload_n 2, 1) := by decide +kernel
theorem dX12_longer_105 : decode cX12_longer 105 = .ok (.if_icmp .le 8, 3) := by decide +kernel
theorem dX12_longer_108 : decode cX12_longer 108 = .ok (.iload 4, 2) := by decide +kernel
theorem dX12_longer_110 : decode cX12_longer 110 = .ok (.goto 4, 3) := by decide +kernel
theorem dX12_longer_113 : decode cX12_longer 113 = .ok (.iload_n 3, 1) := by decide +kernel
theorem dX12_longer_114 : decode cX12_longer 114 = .ok (.istore_n 3, 1) := by decide +kernel
theorem dX12_longer_115 : decode cX12_longer 115 = .ok (.iload 6, 2) := by decide +kernel
theorem dX12_longer_117 : decode cX12_longer 117 = .ok (.iload_n 2, 1) := by decide +kernel
theorem dX12_longer_118 : decode cX12_longer 118 = .ok (.if_icmp .le 8, 3) := by decide +kernel
theorem dX12_longer_121 : decode cX12_longer 121 = .ok (.iload 6, 2) := by decide +kernel
theorem dX12_longer_123 : decode cX12_longer 123 = .ok (.goto 4, 3) := by decide +kernel
theorem dX12_longer_126 : decode cX12_longer 126 = .ok (.iload_n 2, 1) := by decide +kernel
theorem dX12_longer_127 : decode cX12_longer 127 = .ok (.istore_n 2, 1) := by decide +kernel
theorem dX12_longer_128 : decode cX12_longer 128 = .ok (.iinc 4 1, 3) := by decide +kernel
theorem dX12_longer_131 : decode cX12_longer 131 = .ok (.goto (-105), 3) := by decide +kernel
theorem dX12_longer_134 : decode cX12_longer 134 = .ok (.iload_n 3, 1) := by decide +kernel
theorem dX12_longer_135 : decode cX12_longer 135 = .ok (.ifCond .ge 12, 3) := by decide +kernel
theorem dX12_longer_138 : decode cX12_longer 138 = .ok (.aload_n 0, 1) := by decide +kernel
theorem dX12_longer_139 : decode cX12_longer 139 = .ok (.ldc 203, 2) := by decide +kernel
theorem dX12_longer_141 : decode cX12_longer 141 = .ok (.invokevirtual 121, 3) := by decide +kernel
theorem dX12_longer_144 : decode cX12_longer 144 = .ok (.goto 4, 3) := by decide +kernel
theorem dX12_longer_147 : decode cX12_longer 147 = .ok (.iload_n 3, 1) := by decide +kernel
theorem dX12_longer_148 : decode cX12_longer 148 = .ok (.ireturn, 1) := by decide +kernel
theorem dX12_begin_0 : decode cX12_begin 0 = .ok (.aload_n 0, 1) := by decide +kernel
theorem dX12_begin_1 : decode cX12_begin 1 = .ok (.iload_n 1, 1) := by decide +kernel
theorem dX12_begin_2 : decode cX12_begin 2 = .ok (.invokevirtual 143, 3) := by decide +kernel
theorem dX12_begin_5 : decode cX12_begin 5 = .ok (.ifCond .ne 10, 3) := by decide +kernel
theorem dX12_begin_8 : decode cX12_begin 8 = .ok (.aload_n 0, 1) := by decide +kernel
theorem dX12_begin_9 : decode cX12_begin 9 = .ok (.ldc 53, 2) := by decide +kernel
theorem dX12_begin_11 : decode cX12_begin 11 = .ok (.invokevirtual 121, 3) := by decide +kernel
theorem dX12_begin_14 : decode cX12_begin 14 = .ok (.ireturn, 1) := by decide +kernel
theorem dX12_begin_15 : decode cX12_begin 15 = .ok (.aload_n 0, 1) := by decide +kernel
theorem dX12_begin_16 : decode cX12_begin 16 = .ok (.iload_n 1, 1) := by decide +kernel
theorem dX12_begin_17 : decode cX12_begin 17 = .ok (.iconst 1, 1) := by decide +kernel
theorem dX12_begin_18 : decode cX12_begin 18 = .ok (.invokevirtual 68, 3) := by decide +kernel
theorem dX12_begin_21 : decode cX12_begin 21 = .ok (.istore_n 2, 1) := by decide +kernel
theorem dX12_begin_22 : decode cX12_begin 22 = .ok (.iconst 0, 1) := by decide +kernel
theorem dX12_begin_23 : decode cX12_begin 23 = .ok (.istore_n 3, 1) := by decide +kernel
theorem dX12_begin_24 : decode cX12_begin 24 = .ok (.iconst (-1), 1) := by decide +kernel
theorem dX12_begin_25 : decode cX12_begin 25 = .ok (.istore 4, 2) := by decide +kernel
theorem dX12_begin_27 : decode cX12_begin 27 = .ok (.iconst 0, 1) := by decide +kernel
theorem dX12_begin_28 : decode cX12_begin 28 = .ok (.istore 5, 2) := by decide +kernel
theorem dX12_begin_30 : decode cX12_begin 30 = .ok (.iload 5, 2) := by decide +kernel
theorem dX12_begin_32 : decode cX12_begin 32 = .ok (.bipush 48, 2) := by decide +kernel
theorem dX12_begin_34 : decode cX12_begin 34 = .ok (.if_icmp .ge 58, 3) := by decide +kernel
theorem dX12_begin_37 : decode cX12_begin 37 = .ok (.aload_n 0, 1) := by decide +kernel
theorem dX12_begin_38 : decode cX12_begin 38 = .ok (.getfield 7, 3) := by decide +kernel
theorem dX12_begin_41 : decode cX12_begin 41 = .ok (.iload_n 1, 1) := by decide +kernel
theorem dX12_begin_42 : decode cX12_begin 42 = .ok (.iconst 1, 1) := by decide +kernel
theorem dX12_begin_43 : decode cX12_begin 43 = .ok (.invokestatic 64, 3) := by decide +kernel
theorem dX12_begin_46 : decode cX12_begin 46 = .ok (.iload 5, 2) := by decide +kernel
theorem dX12_begin_48 : decode cX12_begin 48 = .ok (.iastore, 1) := by decide +kernel
theorem dX12_begin_49 : decode cX12_begin 49 = .ok (.aload_n 0, 1) := by decide +kernel
theorem dX12_begin_50 : decode cX12_begin 50 = .ok (.iload_n 1, 1) := by decide +kernel
theorem dX12_begin_51 : decode cX12_begin 51 = .ok (.invokevirtual 207, 3) := by decide +kernel
theorem dX12_begin_54 : decode cX12_begin 54 = .ok (.istore 6, 2) := by decide +kernel
theorem dX12_begin_56 : decode cX12_begin 56 = .ok (.iload 6, 2) := by decide +kernel
theorem dX12_begin_58 : decode cX12_begin 58 = .ok (.iload 4, 2) := by decide +kernel
theorem dX12_begin_60 : decode cX12_begin 60 = .ok (.if_icmp .le 8, 3) := by decide +kernel
theorem dX12_begin_63 : decode cX12_begin 63 = .ok (.iload 5, 2) := by decide +kernel
theorem dX12_begin_65 : decode cX12_begin 65 = .ok (.goto 4, 3) := by decide +kernel
theorem dX12_begin_68 : decode cX12_begin 68 = .ok (.iload_n 3, 1) := by decide +kernel
theorem dX12_begin_69 : decode cX12_begin 69 = .ok (.istore_n 3, 1) := by decide +kernel
theorem dX12_begin_70 : decode cX12_begin 70 = .ok (.iload 6, 2) := by decide +kernel
theorem dX12_begin_72 : decode cX12_begin 72 = .ok (.iload 4, 2) := by decide +kernel
theorem dX12_begin_74 : decode cX12_begin 74 = .ok (.if_icmp .le 8, 3) := by decide +kernel
theorem dX12_begin_77 : decode cX12_begin 77 = .ok (.iload 6, 2) := by decide +kernel
theorem dX12_begin_79 : decode cX12_begin 79 = .ok (.goto 5, 3) := by decide +kernel
theorem dX12_begin_82 : decode cX12_begin 82 = .ok (.iload 4, 2) := by decide +kernel
theorem dX12_begin_84 : decode cX12_begin 84 = .ok (.istore 4, 2) := by decide +kernel
theorem dX12_begin_86 : decode cX12_begin 86 = .ok (.iinc 5 1, 3) := by decide +kernel
theorem dX12_begin_89 : decode cX12_begin 89 = .ok (.goto (-59), 3) := by decide +kernel
theorem dX12_begin_92 : decode cX12_begin 92 = .ok (.aload_n 0, 1) := by decide +kernel
theorem dX12_begin_93 : decode cX12_begin 93 = .ok (.getfield 7, 3) := by decide +kernel
theorem dX12_begin_96 : decode cX12_begin 96 = .ok (.iload_n 1, 1) := by decide +kernel
theorem dX12_begin_97 : decode cX12_begin 97 = .ok (.iconst 1, 1) := by decide +kernel
theorem dX12_begin_98 : decode cX12_begin 98 = .ok (.invokestatic 64, 3) := by decide +kernel
theorem dX12_begin_101 : decode cX12_begin 101 = .ok (.iload_n 2, 1) := by decide +kernel
theorem dX12_begin_102 : decode cX12_begin 102 = .ok (.iastore, 1) := by decide +kernel
theorem dX12_begin_103 : decode cX12_begin 103 = .ok (.iload_n 3, 1) := by decide +kernel
theorem dX12_begin_104 : decode cX12_begin 104 = .ok (.ireturn, 1) := by decide +kernel
theorem dX12_kind_0 : decode cX12_kind 0 = .ok (.aload_n 0, 1) := by decide +kernel
theorem dX12_kind_1 : decode cX12_kind 1 = .ok (.iload_n 1, 1) := by decide +kernel
theorem dX12_kind_2 : decode cX12_kind 2 = .ok (.invokevirtual 143, 3) := by decide +kernel
theorem dX12_kind_5 : decode cX12_kind 5 = .ok (.ifCond .ne 10, 3) := by decide +kernel
theorem dX12_kind_8 : decode cX12_kind 8 = .ok (.aload_n 0, 1) := by decide +kernel
theorem dX12_kind_9 : decode cX12_kind 9 = .ok (.ldc 53, 2) := by decide +kernel
theorem dX12_kind_11 : decode cX12_kind 11 = .ok (.invokevirtual 121, 3) := by decide +kernel
theorem dX12_kind_14 : decode cX12_kind 14 = .ok (.ireturn, 1) := by decide +kernel
theorem dX12_kind_15 : decode cX12_kind 15 = .ok (.aload_n 0, 1) := by decide +kernel
theorem dX12_kind_16 : decode cX12_kind 16 = .ok (.iload_n 1, 1) := by decide +kernel
theorem dX12_kind_17 : decode cX12_kind 17 = .ok (.iconst 0, 1) := by decide +kernel
theorem dX12_kind_18 : decode cX12_kind 18 = .ok (.invokevirtual 68, 3) := by decide +kernel
theorem dX12_kind_21 : decode cX12_kind 21 = .ok (.istore_n 2, 1) := by decide +kernel
theorem dX12_kind_22 : decode cX12_kind 22 = .ok (.iconst 0, 1) := by decide +kernel
theorem dX12_kind_23 : decode cX12_kind 23 = .ok (.istore_n 3, 1) := by decide +kernel
theorem dX12_kind_24 : decode cX12_kind 24 = .ok (.iconst (-1), 1) := by decide +kernel
theorem dX12_kind_25 : decode cX12_kind 25 = .ok (.istore 4, 2) := by decide +kernel
theorem dX12_kind_27 : decode cX12_kind 27 = .ok (.iconst 0, 1) := by decide +kernel
theorem dX12_kind_28 : decode cX12_kind 28 = .ok (.istore 5, 2) := by decide +kernel
theorem dX12_kind_30 : decode cX12_kind 30 = .ok (.iload 5, 2) := by decide +kernel
theorem dX12_kind_32 : decode cX12_kind 32 = .ok (.iconst 5, 1) := by decide +kernel
theorem dX12_kind_33 : decode cX12_kind 33 = .ok (.if_icmp .gt 58, 3) := by decide +kernel
theorem dX12_kind_36 : decode cX12_kind 36 = .ok (.aload_n 0, 1) := by decide +kernel
theorem dX12_kind_37 : decode cX12_kind 37 = .ok (.getfield 7, 3) := by decide +kernel
theorem dX12_kind_40 : decode cX12_kind 40 = .ok (.iload_n 1, 1) := by decide +kernel
theorem dX12_kind_41 : decode cX12_kind 41 = .ok (.iconst 0, 1) := by decide +kernel
theorem dX12_kind_42 : decode cX12_kind 42 = .ok (.invokestatic 64, 3) := by decide +kernel
theorem dX12_kind_45 : decode cX12_kind 45 = .ok (.iload 5, 2) := by decide +kernel
theorem dX12_kind_47 : decode cX12_kind 47 = .ok (.iastore, 1) := by decide +kernel
theorem dX12_kind_48 : decode cX12_kind 48 = .ok (.aload_n 0, 1) := by decide +kernel
theorem dX12_kind_49 : decode cX12_kind 49 = .ok (.iload_n 1, 1) := by decide +kernel
theorem dX12_kind_50 : decode cX12_kind 50 = .ok (.invokevirtual 194, 3) := by decide +kernel
theorem dX12_kind_53 : decode cX12_kind 53 = .ok (.istore 6, 2) := by decide +kernel
theorem dX12_kind_55 : decode cX12_kind 55 = .ok (.iload 6, 2) := by decide +kernel
theorem dX12_kind_57 : decode cX12_kind 57 = .ok (.iload 4, 2) := by decide +kernel
theorem dX12_kind_59 : decode cX12_kind 59 = .ok (.if_icmp .le 8, 3) := by decide +kernel
theorem dX12_kind_62 : decode cX12_kind 62 = .ok (.iload 5, 2) := by decide +kernel
theorem dX12_kind_64 : decode cX12_kind 64 = .ok (.goto 4, 3) := by decide +kernel
theorem dX12_kind_67 : decode cX12_kind 67 = .ok (.iload_n 3, 1) := by decide +kernel
theorem dX12_kind_68 : decode cX12_kind 68 = .ok (.istore_n 3, 1) := by decide +kernel
theorem dX12_kind_69 : decode cX12_kind 69 = .ok (.iload 6, 2) := by decide +kernel
theorem dX12_kind_71 : decode cX12_kind 71 = .ok (.iload 4, 2) := by decide +kernel
theorem dX12_kind_73 : decode cX12_kind 73 = .ok (.if_icmp .le 8, 3) := by decide +kernel
theorem dX12_kind_76 : decode cX12_kind 76 = .ok (.iload 6, 2) := by decide +kernel
theorem dX12_kind_78 : decode cX12_kind 78 = .ok (.goto 5, 3) := by decide +kernel
theorem dX12_kind_81 : decode cX12_kind 81 = .ok (.iload 4, 2) := by decide +kernel
theorem dX12_kind_83 : decode cX12_kind 83 = .ok (.istore 4, 2) := by decide +kernel
theorem dX12_kind_85 : decode cX12_kind 85 = .ok (.iinc 5 1, 3) := by decide +kernel
theorem dX12_kind_88 : decode cX12_kind 88 = .ok (.goto (-58), 3) := by decide +kernel
theorem dX12_kind_91 : decode cX12_kind 91 = .ok (.aload_n 0, 1) := by decide +kernel
theorem dX12_kind_92 : decode cX12_kind 92 = .ok (.getfield 7, 3) := by decide +kernel
theorem dX12_kind_95 : decode cX12_kind 95 = .ok (.iload_n 1, 1) := by decide +kernel
theorem dX12_kind_96 : decode cX12_kind 96 = .ok (.iconst 0, 1) := by decide +kernel
theorem dX12_kind_97 : decode cX12_kind 97 = .ok (.invokestatic 64, 3) := by decide +kernel
theorem dX12_kind_100 : decode cX12_kind 100 = .ok (.iload_n 2, 1) := by decide +kernel
theorem dX12_kind_101 : decode cX12_kind 101 = .ok (.iastore, 1) := by decide +kernel
theorem dX12_kind_102 : decode cX12_kind 102 = .ok (.iload_n 3, 1) := by decide +kernel
theorem dX12_kind_103 : decode cX12_kind 103 = .ok (.ireturn, 1) := by decide +kernel
theorem dX12_ink_0 : decode cX12_ink 0 = .ok (.aload_n 0, 1) := by decide +kernel
theorem dX12_ink_1 : decode cX12_ink 1 = .ok (.iload_n 1, 1) := by decide +kernel
theorem dX12_ink_2 : decode cX12_ink 2 = .ok (.invokevirtual 143, 3) := by decide +kernel
theorem dX12_ink_5 : decode cX12_ink 5 = .ok (.ifCond .ne 10, 3) := by decide +kernel
theorem dX12_ink_8 : decode cX12_ink 8 = .ok (.aload_n 0, 1) := by decide +kernel
theorem dX12_ink_9 : decode cX12_ink 9 = .ok (.ldc 53, 2) := by decide +kernel
theorem dX12_ink_11 : decode cX12_ink 11 = .ok (.invokevirtual 121, 3) := by decide +kernel
theorem dX12_ink_14 : decode cX12_ink 14 = .ok (.ireturn, 1) := by decide +kernel
theorem dX12_ink_15 : decode cX12_ink 15 = .ok (.aload_n 0, 1) := by decide +kernel
theorem dX12_ink_16 : decode cX12_ink 16 = .ok (.iload_n 1, 1) := by decide +kernel
theorem dX12_ink_17 : decode cX12_ink 17 = .ok (.iconst 2, 1) := by decide +kernel
theorem dX12_ink_18 : decode cX12_ink 18 = .ok (.invokevirtual 68, 3) := by decide +kernel
theorem dX12_ink_21 : decode cX12_ink 21 = .ok (.istore_n 2, 1) := by decide +kernel
theorem dX12_ink_22 : decode cX12_ink 22 = .ok (.aload_n 0, 1) := by decide +kernel
theorem dX12_ink_23 : decode cX12_ink 23 = .ok (.invokevirtual 124, 3) := by decide +kernel
theorem dX12_ink_26 : decode cX12_ink 26 = .ok (.iconst 0, 1) := by decide +kernel
theorem dX12_ink_27 : decode cX12_ink 27 = .ok (.istore_n 3, 1) := by decide +kernel
theorem dX12_ink_28 : decode cX12_ink 28 = .ok (.iconst (-1), 1) := by decide +kernel
theorem dX12_ink_29 : decode cX12_ink 29 = .ok (.istore 4, 2) := by decide +kernel
theorem dX12_ink_31 : decode cX12_ink 31 = .ok (.iconst 0, 1) := by decide +kernel
theorem dX12_ink_32 : decode cX12_ink 32 = .ok (.istore 5, 2) := by decide +kernel
theorem dX12_ink_34 : decode cX12_ink 34 = .ok (.iload 5, 2) := by decide +kernel
theorem dX12_ink_36 : decode cX12_ink 36 = .ok (.sipush 999, 3) := by decide +kernel
theorem dX12_ink_39 : decode cX12_ink 39 = .ok (.if_icmp .gt 70, 3) := by decide +kernel
theorem dX12_ink_42 : decode cX12_ink 42 = .ok (.aload_n 0, 1) := by decide +kernel
theorem dX12_ink_43 : decode cX12_ink 43 = .ok (.getfield 7, 3) := by decide +kernel
theorem dX12_ink_46 : decode cX12_ink 46 = .ok (.iload_n 1, 1) := by decide +kernel
theorem dX12_ink_47 : decode cX12_ink 47 = .ok (.iconst 2, 1) := by decide +kernel
theorem dX12_ink_48 : decode cX12_ink 48 = .ok (.invokestatic 64, 3) := by decide +kernel
theorem dX12_ink_51 : decode cX12_ink 51 = .ok (.iload 5, 2) := by decide +kernel
theorem dX12_ink_53 : decode cX12_ink 53 = .ok (.iastore, 1) := by decide +kernel
theorem dX12_ink_54 : decode cX12_ink 54 = .ok (.aload_n 0, 1) := by decide +kernel
theorem dX12_ink_55 : decode cX12_ink 55 = .ok (.iload_n 1, 1) := by decide +kernel
theorem dX12_ink_56 : decode cX12_ink 56 = .ok (.invokevirtual 108, 3) := by decide +kernel
theorem dX12_ink_59 : decode cX12_ink 59 = .ok (.ifCond .eq 11, 3) := by decide +kernel
theorem dX12_ink_62 : decode cX12_ink 62 = .ok (.aload_n 0, 1) := by decide +kernel
theorem dX12_ink_63 : decode cX12_ink 63 = .ok (.iload_n 1, 1) := by decide +kernel
theorem dX12_ink_64 : decode cX12_ink 64 = .ok (.invokevirtual 157, 3) := by decide +kernel
theorem dX12_ink_67 : decode cX12_ink 67 = .ok (.goto 4, 3) := by decide +kernel
theorem dX12_ink_70 : decode cX12_ink 70 = .ok (.iconst 0, 1) := by decide +kernel
theorem dX12_ink_71 : decode cX12_ink 71 = .ok (.istore 6, 2) := by decide +kernel
theorem dX12_ink_73 : decode cX12_ink 73 = .ok (.iload 6, 2) := by decide +kernel
theorem dX12_ink_75 : decode cX12_ink 75 = .ok (.iload 4, 2) := by decide +kernel
theorem dX12_ink_77 : decode cX12_ink 77 = .ok (.if_icmp .le 8, 3) := by decide +kernel
theorem dX12_ink_80 : decode cX12_ink 80 = .ok (.iload 5, 2) := by decide +kernel
theorem dX12_ink_82 : decode cX12_ink 82 = .ok (.goto 4, 3) := by decide +kernel
theorem dX12_ink_85 : decode cX12_ink 85 = .ok (.iload_n 3, 1) := by decide +kernel
theorem dX12_ink_86 : decode cX12_ink 86 = .ok (.istore_n 3, 1) := by decide +kernel
theorem dX12_ink_87 : decode cX12_ink 87 = .ok (.iload 6, 2) := by decide +kernel
theorem dX12_ink_89 : decode cX12_ink 89 = .ok (.iload 4, 2) := by decide +kernel
theorem dX12_ink_91 : decode cX12_ink 91 = .ok (.if_icmp .le 8, 3) := by decide +kernel
theorem dX12_ink_94 : decode cX12_ink 94 = .ok (.iload 6, 2) := by decide +kernel
theorem dX12_ink_96 : decode cX12_ink 96 = .ok (.goto 5, 3) := by decide +kernel
theorem dX12_ink_99 : decode cX12_ink 99 = .ok (.iload 4, 2) := by decide +kernel
theorem dX12_ink_101 : decode cX12_ink 101 = .ok (.istore 4, 2) := by decide +kernel
theorem dX12_ink_103 : decode cX12_ink 103 = .ok (.iinc 5 1, 3) := by decide +kernel
theorem dX12_ink_106 : decode cX12_ink 106 = .ok (.goto (-72), 3) := by decide +kernel
theorem dX12_ink_109 : decode cX12_ink 109 = .ok (.aload_n 0, 1) := by decide +kernel
theorem dX12_ink_110 : decode cX12_ink 110 = .ok (.getfield 7, 3) := by decide +kernel
theorem dX12_ink_113 : decode cX12_ink 113 = .ok (.iload_n 1, 1) := by decide +kernel
theorem dX12_ink_114 : decode cX12_ink 114 = .ok (.iconst 2, 1) := by decide +kernel
theorem dX12_ink_115 : decode cX12_ink 115 = .ok (.invokestatic 64, 3) := by decide +kernel
theorem dX12_ink_118 : decode cX12_ink 118 = .ok (.iload_n 2, 1) := by decide +kernel
theorem dX12_ink_119 : decode cX12_ink 119 = .ok (.iastore, 1) := by decide +kernel
theorem dX12_ink_120 : decode cX12_ink 120 = .ok (.iload_n 3, 1) := by decide +kernel
theorem dX12_ink_121 : decode cX12_ink 121 = .ok (.ireturn, 1) := by decide +kernel
theorem dX12_court_0 : decode cX12_court 0 = .ok (.aload_n 0, 1) := by decide +kernel
theorem dX12_court_1 : decode cX12_court 1 = .ok (.iload_n 1, 1) := by decide +kernel
theorem dX12_court_2 : decode cX12_court 2 = .ok (.invokevirtual 143, 3) := by decide +kernel
theorem dX12_court_5 : decode cX12_court 5 = .ok (.ifCond .eq 16, 3) := by decide +kernel
theorem dX12_court_8 : decode cX12_court 8 = .ok (.aload_n 0, 1) := by decide +kernel
theorem dX12_court_9 : decode cX12_court 9 = .ok (.iload_n 2, 1) := by decide +kernel
theorem dX12_court_10 : decode cX12_court 10 = .ok (.invokevirtual 143, 3) := by decide +kernel
theorem dX12_court_13 : decode cX12_court 13 = .ok (.ifCond .eq 8, 3) := by decide +kernel
theorem dX12_court_16 : decode cX12_court 16 = .ok (.iload_n 1, 1) := by decide +kernel
theorem dX12_court_17 : decode cX12_court 17 = .ok (.iload_n 2, 1) := by decide +kernel
theorem dX12_court_18 : decode cX12_court 18 = .ok (.if_icmp .ne 10, 3) := by decide +kernel
theorem dX12_court_21 : decode cX12_court 21 = .ok (.aload_n 0, 1) := by decide +kernel
theorem dX12_court_22 : decode cX12_court 22 = .ok (.ldc 53, 2) := by decide +kernel
theorem dX12_court_24 : decode cX12_court 24 = .ok (.invokevirtual 121, 3) := by decide +kernel
theorem dX12_court_27 : decode cX12_court 27 = .ok (.ireturn, 1) := by decide +kernel
theorem dX12_court_28 : decode cX12_court 28 = .ok (.aload_n 0, 1) := by decide +kernel
theorem dX12_court_29 : decode cX12_court 29 = .ok (.invokevirtual 124, 3) := by decide +kernel
theorem dX12_court_32 : decode cX12_court 32 = .ok (.aload_n 0, 1) := by decide +kernel
theorem dX12_court_33 : decode cX12_court 33 = .ok (.getfield 29, 3) := by decide +kernel
theorem dX12_court_36 : decode cX12_court 36 = .ok (.iload_n 1, 1) := by decide +kernel
theorem dX12_court_37 : decode cX12_court 37 = .ok (.laload, 1) := by decide +kernel
theorem dX12_court_38 : decode cX12_court 38 = .ok (.aload_n 0, 1) := by decide +kernel
theorem dX12_court_39 : decode cX12_court 39 = .ok (.getfield 29, 3) := by decide +kernel
theorem dX12_court_42 : decode cX12_court 42 = .ok (.iload_n 2, 1) := by decide +kernel
theorem dX12_court_43 : decode cX12_court 43 = .ok (.laload, 1) := by decide +kernel
theorem dX12_court_44 : decode cX12_court 44 = .ok (.land, 1) := by decide +kernel
theorem dX12_court_45 : decode cX12_court 45 = .ok (.invokestatic 104, 3) := by decide +kernel
theorem dX12_court_48 : decode cX12_court 48 = .ok (.ireturn, 1) := by decide +kernel
theorem dX12_way_0 : decode cX12_way 0 = .ok (.aload_n 0, 1) := by decide +kernel
theorem dX12_way_1 : decode cX12_way 1 = .ok (.iload_n 1, 1) := by decide +kernel
theorem dX12_way_2 : decode cX12_way 2 = .ok (.invokevirtual 143, 3) := by decide +kernel
theorem dX12_way_5 : decode cX12_way 5 = .ok (.ifCond .eq 17, 3) := by decide +kernel
theorem dX12_way_8 : decode cX12_way 8 = .ok (.iload_n 2, 1) := by decide +kernel
theorem dX12_way_9 : decode cX12_way 9 = .ok (.invokestatic 115, 3) := by decide +kernel
theorem dX12_way_12 : decode cX12_way 12 = .ok (.ifCond .eq 10, 3) := by decide +kernel
theorem dX12_way_15 : decode cX12_way 15 = .ok (.iload_n 3, 1) := by decide +kernel
theorem dX12_way_16 : decode cX12_way 16 = .ok (.invokestatic 115, 3) := by decide +kernel
theorem dX12_way_19 : decode cX12_way 19 = .ok (.ifCond .ne 10, 3) := by decide +kernel
theorem dX12_way_22 : decode cX12_way 22 = .ok (.aload_n 0, 1) := by decide +kernel
theorem dX12_way_23 : decode cX12_way 23 = .ok (.ldc 53, 2) := by decide +kernel
theorem dX12_way_25 : decode cX12_way 25 = .ok (.invokevirtual 121, 3) := by decide +kernel
theorem dX12_way_28 : decode cX12_way 28 = .ok (.ireturn, 1) := by decide +kernel
theorem dX12_way_29 : decode cX12_way 29 = .ok (.aload_n 0, 1) := by decide +kernel
theorem dX12_way_30 : decode cX12_way 30 = .ok (.iload_n 1, 1) := by decide +kernel
theorem dX12_way_31 : decode cX12_way 31 = .ok (.aload_n 0, 1) := by decide +kernel
theorem dX12_way_32 : decode cX12_way 32 = .ok (.invokevirtual 92, 3) := by decide +kernel
theorem dX12_way_35 : decode cX12_way 35 = .ok (.invokevirtual 96, 3) := by decide +kernel
theorem dX12_way_38 : decode cX12_way 38 = .ok (.aload_n 0, 1) := by decide +kernel
theorem dX12_way_39 : decode cX12_way 39 = .ok (.getfield 25, 3) := by decide +kernel
theorem dX12_way_42 : decode cX12_way 42 = .ok (.iload_n 1, 1) := by decide +kernel
theorem dX12_way_43 : decode cX12_way 43 = .ok (.laload, 1) := by decide +kernel
theorem dX12_way_44 : decode cX12_way 44 = .ok (.lstore 4, 2) := by decide +kernel
theorem dX12_way_46 : decode cX12_way 46 = .ok (.lload 4, 2) := by decide +kernel
theorem dX12_way_48 : decode cX12_way 48 = .ok (.lconst 1, 1) := by decide +kernel
theorem dX12_way_49 : decode cX12_way 49 = .ok (.iload_n 2, 1) := by decide +kernel
theorem dX12_way_50 : decode cX12_way 50 = .ok (.lshl, 1) := by decide +kernel
theorem dX12_way_51 : decode cX12_way 51 = .ok (.land, 1) := by decide +kernel
theorem dX12_way_52 : decode cX12_way 52 = .ok (.lstore 6, 2) := by decide +kernel
theorem dX12_way_54 : decode cX12_way 54 = .ok (.iconst 0, 1) := by decide +kernel
theorem dX12_way_55 : decode cX12_way 55 = .ok (.istore 8, 2) := by decide +kernel
theorem dX12_way_57 : decode cX12_way 57 = .ok (.lconst 0, 1) := by decide +kernel
theorem dX12_way_58 : decode cX12_way 58 = .ok (.lstore 9, 2) := by decide +kernel
theorem dX12_way_60 : decode cX12_way 60 = .ok (.lload 9, 2) := by decide +kernel
theorem dX12_way_62 : decode cX12_way 62 = .ok (.lload 6, 2) := by decide +kernel
theorem dX12_way_64 : decode cX12_way 64 = .ok (.lcmp, 1) := by decide +kernel
theorem dX12_way_65 : decode cX12_way 65 = .ok (.ifCond .eq 100, 3) := by decide +kernel
theorem dX12_way_68 : decode cX12_way 68 = .ok (.lload 6, 2) := by decide +kernel
theorem dX12_way_70 : decode cX12_way 70 = .ok (.iload_n 3, 1) := by decide +kernel
theorem dX12_way_71 : decode cX12_way 71 = .ok (.invokestatic 86, 3) := by decide +kernel
theorem dX12_way_74 : decode cX12_way 74 = .ok (.ifCond .ne 91, 3) := by decide +kernel
theorem dX12_way_77 : decode cX12_way 77 = .ok (.lload 6, 2) := by decide +kernel
theorem dX12_way_79 : decode cX12_way 79 = .ok (.lstore 9, 2) := by decide +kernel
theorem dX12_way_81 : decode cX12_way 81 = .ok (.iconst 0, 1) := by decide +kernel
theorem dX12_way_82 : decode cX12_way 82 = .ok (.istore 11, 2) := by decide +kernel
theorem dX12_way_84 : decode cX12_way 84 = .ok (.iload 11, 2) := by decide +kernel
theorem dX12_way_86 : decode cX12_way 86 = .ok (.bipush 48, 2) := by decide +kernel
theorem dX12_way_88 : decode cX12_way 88 = .ok (.if_icmp .ge 71, 3) := by decide +kernel
theorem dX12_way_91 : decode cX12_way 91 = .ok (.iconst 0, 1) := by decide +kernel
theorem dX12_way_92 : decode cX12_way 92 = .ok (.istore 12, 2) := by decide +kernel
theorem dX12_way_94 : decode cX12_way 94 = .ok (.iload 12, 2) := by decide +kernel
theorem dX12_way_96 : decode cX12_way 96 = .ok (.iconst 4, 1) := by decide +kernel
theorem dX12_way_97 : decode cX12_way 97 = .ok (.if_icmp .ge 56, 3) := by decide +kernel
theorem dX12_way_100 : decode cX12_way 100 = .ok (.lload 9, 2) := by decide +kernel
theorem dX12_way_102 : decode cX12_way 102 = .ok (.iload 11, 2) := by decide +kernel
theorem dX12_way_104 : decode cX12_way 104 = .ok (.invokestatic 86, 3) := by decide +kernel
theorem dX12_way_107 : decode cX12_way 107 = .ok (.ifCond .eq 46, 3) := by decide +kernel
theorem dX12_way_110 : decode cX12_way 110 = .ok (.iload 11, 2) := by decide +kernel
theorem dX12_way_112 : decode cX12_way 112 = .ok (.iload 12, 2) := by decide +kernel
theorem dX12_way_114 : decode cX12_way 114 = .ok (.invokestatic 77, 3) := by decide +kernel
theorem dX12_way_117 : decode cX12_way 117 = .ok (.istore 13, 2) := by decide +kernel
theorem dX12_way_119 : decode cX12_way 119 = .ok (.lload 6, 2) := by decide +kernel
theorem dX12_way_121 : decode cX12_way 121 = .ok (.iload 13, 2) := by decide +kernel
theorem dX12_way_123 : decode cX12_way 123 = .ok (.ifCond .lt 20, 3) := by decide +kernel
theorem dX12_way_126 : decode cX12_way 126 = .ok (.lload 4, 2) := by decide +kernel
theorem dX12_way_128 : decode cX12_way 128 = .ok (.iload 13, 2) := by decide +kernel
theorem dX12_way_130 : decode cX12_way 130 = .ok (.invokestatic 86, 3) := by decide +kernel
theorem dX12_way_133 : decode cX12_way 133 = .ok (.ifCond .eq 10, 3) := by decide +kernel
theorem dX12_way_136 : decode cX12_way 136 = .ok (.lconst 1, 1) := by decide +kernel
theorem dX12_way_137 : decode cX12_way 137 = .ok (.iload 13, 2) := by decide +kernel
theorem dX12_way_139 : decode cX12_way 139 = .ok (.lshl, 1) := by decide +kernel
theorem dX12_way_140 : decode cX12_way 140 = .ok (.goto 4, 3) := by decide +kernel
theorem dX12_way_143 : decode cX12_way 143 = .ok (.lconst 0, 1) := by decide +kernel
theorem dX12_way_144 : decode cX12_way 144 = .ok (.lor, 1) := by decide +kernel
theorem dX12_way_145 : decode cX12_way 145 = .ok (.lstore 6, 2) := by decide +kernel
theorem dX12_way_147 : decode cX12_way 147 = .ok (.iinc 12 1, 3) := by decide +kernel
theorem dX12_way_150 : decode cX12_way 150 = .ok (.goto (-56), 3) := by decide +kernel
theorem dX12_way_153 : decode cX12_way 153 = .ok (.iinc 11 1, 3) := by decide +kernel
theorem dX12_way_156 : decode cX12_way 156 = .ok (.goto (-72), 3) := by decide +kernel
theorem dX12_way_159 : decode cX12_way 159 = .ok (.iinc 8 1, 3) := by decide +kernel
theorem dX12_way_162 : decode cX12_way 162 = .ok (.goto (-102), 3) := by decide +kernel
theorem dX12_way_165 : decode cX12_way 165 = .ok (.lload 6, 2) := by decide +kernel
theorem dX12_way_167 : decode cX12_way 167 = .ok (.iload_n 3, 1) := by decide +kernel
theorem dX12_way_168 : decode cX12_way 168 = .ok (.invokestatic 86, 3) := by decide +kernel
theorem dX12_way_171 : decode cX12_way 171 = .ok (.ifCond .eq 8, 3) := by decide +kernel
theorem dX12_way_174 : decode cX12_way 174 = .ok (.iload 8, 2) := by decide +kernel
theorem dX12_way_176 : decode cX12_way 176 = .ok (.goto 9, 3) := by decide +kernel
theorem dX12_way_179 : decode cX12_way 179 = .ok (.aload_n 0, 1) := by decide +kernel
theorem dX12_way_180 : decode cX12_way 180 = .ok (.ldc 203, 2) := by decide +kernel
theorem dX12_way_182 : decode cX12_way 182 = .ok (.invokevirtual 121, 3) := by decide +kernel
theorem dX12_way_185 : decode cX12_way 185 = .ok (.ireturn, 1) := by decide +kernel
theorem dX12_sea_0 : decode cX12_sea 0 = .ok (.aload_n 0, 1) := by decide +kernel
theorem dX12_sea_1 : decode cX12_sea 1 = .ok (.invokevirtual 124, 3) := by decide +kernel
theorem dX12_sea_4 : decode cX12_sea 4 = .ok (.iconst 0, 1) := by decide +kernel
theorem dX12_sea_5 : decode cX12_sea 5 = .ok (.istore_n 1, 1) := by decide +kernel
theorem dX12_sea_6 : decode cX12_sea 6 = .ok (.iload_n 1, 1) := by decide +kernel
theorem dX12_sea_7 : decode cX12_sea 7 = .ok (.bipush 6, 2) := by decide +kernel
theorem dX12_sea_9 : decode cX12_sea 9 = .ok (.if_icmp .ge 52, 3) := by decide +kernel
theorem dX12_sea_12 : decode cX12_sea 12 = .ok (.iconst 0, 1) := by decide +kernel
theorem dX12_sea_13 : decode cX12_sea 13 = .ok (.istore_n 2, 1) := by decide +kernel
theorem dX12_sea_14 : decode cX12_sea 14 = .ok (.iconst 0, 1) := by decide +kernel
theorem dX12_sea_15 : decode cX12_sea 15 = .ok (.istore_n 3, 1) := by decide +kernel
theorem dX12_sea_16 : decode cX12_sea 16 = .ok (.iload_n 3, 1) := by decide +kernel
theorem dX12_sea_17 : decode cX12_sea 17 = .ok (.bipush 8, 2) := by decide +kernel
theorem dX12_sea_19 : decode cX12_sea 19 = .ok (.if_icmp .ge 30, 3) := by decide +kernel
theorem dX12_sea_22 : decode cX12_sea 22 = .ok (.iload_n 2, 1) := by decide +kernel
theorem dX12_sea_23 : decode cX12_sea 23 = .ok (.aload_n 0, 1) := by decide +kernel
theorem dX12_sea_24 : decode cX12_sea 24 = .ok (.bipush 8, 2) := by decide +kernel
theorem dX12_sea_26 : decode cX12_sea 26 = .ok (.iload_n 1, 1) := by decide +kernel
theorem dX12_sea_27 : decode cX12_sea 27 = .ok (.imul, 1) := by decide +kernel
theorem dX12_sea_28 : decode cX12_sea 28 = .ok (.iload_n 3, 1) := by decide +kernel
theorem dX12_sea_29 : decode cX12_sea 29 = .ok (.iadd, 1) := by decide +kernel
theorem dX12_sea_30 : decode cX12_sea 30 = .ok (.invokevirtual 111, 3) := by decide +kernel
theorem dX12_sea_33 : decode cX12_sea 33 = .ok (.ifCond .lt 7, 3) := by decide +kernel
theorem dX12_sea_36 : decode cX12_sea 36 = .ok (.iconst 1, 1) := by decide +kernel
theorem dX12_sea_37 : decode cX12_sea 37 = .ok (.goto 4, 3) := by decide +kernel
theorem dX12_sea_40 : decode cX12_sea 40 = .ok (.iconst 0, 1) := by decide +kernel
theorem dX12_sea_41 : decode cX12_sea 41 = .ok (.iadd, 1) := by decide +kernel
theorem dX12_sea_42 : decode cX12_sea 42 = .ok (.istore_n 2, 1) := by decide +kernel
theorem dX12_sea_43 : decode cX12_sea 43 = .ok (.iinc 3 1, 3) := by decide +kernel
theorem dX12_sea_46 : decode cX12_sea 46 = .ok (.goto (-30), 3) := by decide +kernel
theorem dX12_sea_49 : decode cX12_sea 49 = .ok (.iload_n 2, 1) := by decide +kernel
theorem dX12_sea_50 : decode cX12_sea 50 = .ok (.ifCond .ne 5, 3) := by decide +kernel
theorem dX12_sea_53 : decode cX12_sea 53 = .ok (.iload_n 1, 1) := by decide +kernel
theorem dX12_sea_54 : decode cX12_sea 54 = .ok (.ireturn, 1) := by decide +kernel
theorem dX12_sea_55 : decode cX12_sea 55 = .ok (.iinc 1 1, 3) := by decide +kernel
theorem dX12_sea_58 : decode cX12_sea 58 = .ok (.goto (-52), 3) := by decide +kernel
theorem dX12_sea_61 : decode cX12_sea 61 = .ok (.aload_n 0, 1) := by decide +kernel
theorem dX12_sea_62 : decode cX12_sea 62 = .ok (.ldc 203, 2) := by decide +kernel
theorem dX12_sea_64 : decode cX12_sea 64 = .ok (.invokevirtual 121, 3) := by decide +kernel
theorem dX12_sea_67 : decode cX12_sea 67 = .ok (.ireturn, 1) := by decide +kernel
theorem dX12_feed_0 : decode cX12_feed 0 = .ok (.iload_n 2, 1) := by decide +kernel
theorem dX12_feed_1 : decode cX12_feed 1 = .ok (.i2l, 1) := by decide +kernel
theorem dX12_feed_2 : decode cX12_feed 2 = .ok (.lconst 1, 1) := by decide +kernel
theorem dX12_feed_3 : decode cX12_feed 3 = .ok (.ldc2_w 210, 3) := by decide +kernel
theorem dX12_feed_6 : decode cX12_feed 6 = .ok (.invokestatic 56, 3) := by decide +kernel
theorem dX12_feed_9 : decode cX12_feed 9 = .ok (.ifCond .ne 10, 3) := by decide +kernel
theorem dX12_feed_12 : decode cX12_feed 12 = .ok (.aload_n 0, 1) := by decide +kernel
theorem dX12_feed_13 : decode cX12_feed 13 = .ok (.ldc 53, 2) := by decide +kernel
theorem dX12_feed_15 : decode cX12_feed 15 = .ok (.invokevirtual 121, 3) := by decide +kernel
theorem dX12_feed_18 : decode cX12_feed 18 = .ok (.ireturn, 1) := by decide +kernel
theorem dX12_feed_19 : decode cX12_feed 19 = .ok (.aload_n 0, 1) := by decide +kernel
theorem dX12_feed_20 : decode cX12_feed 20 = .ok (.getfield 212, 3) := by decide +kernel
theorem dX12_feed_23 : decode cX12_feed 23 = .ok (.iload_n 2, 1) := by decide +kernel
theorem dX12_feed_24 : decode cX12_feed 24 = .ok (.iadd, 1) := by decide +kernel
theorem dX12_feed_25 : decode cX12_feed 25 = .ok (.bipush 120, 2) := by decide +kernel
theorem dX12_feed_27 : decode cX12_feed 27 = .ok (.if_icmp .le 10, 3) := by decide +kernel
theorem dX12_feed_30 : decode cX12_feed 30 = .ok (.aload_n 0, 1) := by decide +kernel
theorem dX12_feed_31 : decode cX12_feed 31 = .ok (.ldc 139, 2) := by decide +kernel
theorem dX12_feed_33 : decode cX12_feed 33 = .ok (.invokevirtual 121, 3) := by decide +kernel
theorem dX12_feed_36 : decode cX12_feed 36 = .ok (.ireturn, 1) := by decide +kernel
theorem dX12_feed_37 : decode cX12_feed 37 = .ok (.iload_n 2, 1) := by decide +kernel
theorem dX12_feed_38 : decode cX12_feed 38 = .ok (.iconst 1, 1) := by decide +kernel
theorem dX12_feed_39 : decode cX12_feed 39 = .ok (.isub, 1) := by decide +kernel
theorem dX12_feed_40 : decode cX12_feed 40 = .ok (.istore_n 3, 1) := by decide +kernel
theorem dX12_feed_41 : decode cX12_feed 41 = .ok (.iload_n 3, 1) := by decide +kernel
theorem dX12_feed_42 : decode cX12_feed 42 = .ok (.ifCond .lt 38, 3) := by decide +kernel
theorem dX12_feed_45 : decode cX12_feed 45 = .ok (.aload_n 0, 1) := by decide +kernel
theorem dX12_feed_46 : decode cX12_feed 46 = .ok (.getfield 38, 3) := by decide +kernel
theorem dX12_feed_49 : decode cX12_feed 49 = .ok (.aload_n 0, 1) := by decide +kernel
theorem dX12_feed_50 : decode cX12_feed 50 = .ok (.getfield 212, 3) := by decide +kernel
theorem dX12_feed_53 : decode cX12_feed 53 = .ok (.iload_n 1, 1) := by decide +kernel
theorem dX12_feed_54 : decode cX12_feed 54 = .ok (.bipush 8, 2) := by decide +kernel
theorem dX12_feed_56 : decode cX12_feed 56 = .ok (.iload_n 3, 1) := by decide +kernel
theorem dX12_feed_57 : decode cX12_feed 57 = .ok (.imul, 1) := by decide +kernel
theorem dX12_feed_58 : decode cX12_feed 58 = .ok (.ishr, 1) := by decide +kernel
theorem dX12_feed_59 : decode cX12_feed 59 = .ok (.sipush 255, 3) := by decide +kernel
theorem dX12_feed_62 : decode cX12_feed 62 = .ok (.iand, 1) := by decide +kernel
theorem dX12_feed_63 : decode cX12_feed 63 = .ok (.iastore, 1) := by decide +kernel
theorem dX12_feed_64 : decode cX12_feed 64 = .ok (.aload_n 0, 1) := by decide +kernel
theorem dX12_feed_65 : decode cX12_feed 65 = .ok (.dup, 1) := by decide +kernel
theorem dX12_feed_66 : decode cX12_feed 66 = .ok (.getfield 212, 3) := by decide +kernel
theorem dX12_feed_69 : decode cX12_feed 69 = .ok (.iconst 1, 1) := by decide +kernel
theorem dX12_feed_70 : decode cX12_feed 70 = .ok (.iadd, 1) := by decide +kernel
theorem dX12_feed_71 : decode cX12_feed 71 = .ok (.putfield 212, 3) := by decide +kernel
theorem dX12_feed_74 : decode cX12_feed 74 = .ok (.iinc 3 (-1), 3) := by decide +kernel
theorem dX12_feed_77 : decode cX12_feed 77 = .ok (.goto (-36), 3) := by decide +kernel
theorem dX12_feed_80 : decode cX12_feed 80 = .ok (.aload_n 0, 1) := by decide +kernel
theorem dX12_feed_81 : decode cX12_feed 81 = .ok (.getfield 212, 3) := by decide +kernel
theorem dX12_feed_84 : decode cX12_feed 84 = .ok (.ireturn, 1) := by decide +kernel
theorem dX12_wipe_0 : decode cX12_wipe 0 = .ok (.aload_n 0, 1) := by decide +kernel
theorem dX12_wipe_1 : decode cX12_wipe 1 = .ok (.getfield 212, 3) := by decide +kernel
theorem dX12_wipe_4 : decode cX12_wipe 4 = .ok (.istore_n 1, 1) := by decide +kernel
theorem dX12_wipe_5 : decode cX12_wipe 5 = .ok (.aload_n 0, 1) := by decide +kernel
theorem dX12_wipe_6 : decode cX12_wipe 6 = .ok (.iconst 0, 1) := by decide +kernel
theorem dX12_wipe_7 : decode cX12_wipe 7 = .ok (.putfield 212, 3) := by decide +kernel
theorem dX12_wipe_10 : decode cX12_wipe 10 = .ok (.iload_n 1, 1) := by decide +kernel
theorem dX12_wipe_11 : decode cX12_wipe 11 = .ok (.ireturn, 1) := by decide +kernel
theorem dX12_byteAt_0 : decode cX12_byteAt 0 = .ok (.iload_n 1, 1) := by decide +kernel
theorem dX12_byteAt_1 : decode cX12_byteAt 1 = .ok (.aload_n 0, 1) := by decide +kernel
theorem dX12_byteAt_2 : decode cX12_byteAt 2 = .ok (.getfield 212, 3) := by decide +kernel
theorem dX12_byteAt_5 : decode cX12_byteAt 5 = .ok (.if_icmp .ge 12, 3) := by decide +kernel
theorem dX12_byteAt_8 : decode cX12_byteAt 8 = .ok (.aload_n 0, 1) := by decide +kernel
theorem dX12_byteAt_9 : decode cX12_byteAt 9 = .ok (.getfield 38, 3) := by decide +kernel
theorem dX12_byteAt_12 : decode cX12_byteAt 12 = .ok (.iload_n 1, 1) := by decide +kernel
theorem dX12_byteAt_13 : decode cX12_byteAt 13 = .ok (.iaload, 1) := by decide +kernel
theorem dX12_byteAt_14 : decode cX12_byteAt 14 = .ok (.goto 4, 3) := by decide +kernel
theorem dX12_byteAt_17 : decode cX12_byteAt 17 = .ok (.iconst (-1), 1) := by decide +kernel
theorem dX12_byteAt_18 : decode cX12_byteAt 18 = .ok (.ireturn, 1) := by decide +kernel
theorem dX12_isLetter_0 : decode cX12_isLetter 0 = .ok (.iload_n 0, 1) := by decide +kernel
theorem dX12_isLetter_1 : decode cX12_isLetter 1 = .ok (.i2l, 1) := by decide +kernel
theorem dX12_isLetter_2 : decode cX12_isLetter 2 = .ok (.ldc2_w 216, 3) := by decide +kernel
theorem dX12_isLetter_5 : decode cX12_isLetter 5 = .ok (.ldc2_w 218, 3) := by decide +kernel
theorem dX12_isLetter_8 : decode cX12_isLetter 8 = .ok (.invokestatic 56, 3) := by decide +kernel
theorem dX12_isLetter_11 : decode cX12_isLetter 11 = .ok (.ireturn, 1) := by decide +kernel
theorem dX12_isDigit_0 : decode cX12_isDigit 0 = .ok (.iload_n 0, 1) := by decide +kernel
theorem dX12_isDigit_1 : decode cX12_isDigit 1 = .ok (.i2l, 1) := by decide +kernel
theorem dX12_isDigit_2 : decode cX12_isDigit 2 = .ok (.ldc2_w 220, 3) := by decide +kernel
theorem dX12_isDigit_5 : decode cX12_isDigit 5 = .ok (.ldc2_w 222, 3) := by decide +kernel
theorem dX12_isDigit_8 : decode cX12_isDigit 8 = .ok (.invokestatic 56, 3) := by decide +kernel
theorem dX12_isDigit_11 : decode cX12_isDigit 11 = .ok (.ireturn, 1) := by decide +kernel
theorem dX12_token_0 : decode cX12_token 0 = .ok (.aload_n 0, 1) := by decide +kernel
theorem dX12_token_1 : decode cX12_token 1 = .ok (.aload_n 0, 1) := by decide +kernel
theorem dX12_token_2 : decode cX12_token 2 = .ok (.getfield 224, 3) := by decide +kernel
theorem dX12_token_5 : decode cX12_token 5 = .ok (.putfield 227, 3) := by decide +kernel
theorem dX12_token_8 : decode cX12_token 8 = .ok (.aload_n 0, 1) := by decide +kernel
theorem dX12_token_9 : decode cX12_token 9 = .ok (.aload_n 0, 1) := by decide +kernel
theorem dX12_token_10 : decode cX12_token 10 = .ok (.getfield 227, 3) := by decide +kernel
theorem dX12_token_13 : decode cX12_token 13 = .ok (.invokevirtual 230, 3) := by decide +kernel
theorem dX12_token_16 : decode cX12_token 16 = .ok (.bipush 32, 2) := by decide +kernel
theorem dX12_token_18 : decode cX12_token 18 = .ok (.if_icmp .ne 16, 3) := by decide +kernel
theorem dX12_token_21 : decode cX12_token 21 = .ok (.aload_n 0, 1) := by decide +kernel
theorem dX12_token_22 : decode cX12_token 22 = .ok (.dup, 1) := by decide +kernel
theorem dX12_token_23 : decode cX12_token 23 = .ok (.getfield 227, 3) := by decide +kernel
theorem dX12_token_26 : decode cX12_token 26 = .ok (.iconst 1, 1) := by decide +kernel
theorem dX12_token_27 : decode cX12_token 27 = .ok (.iadd, 1) := by decide +kernel
theorem dX12_token_28 : decode cX12_token 28 = .ok (.putfield 227, 3) := by decide +kernel
theorem dX12_token_31 : decode cX12_token 31 = .ok (.goto (-23), 3) := by decide +kernel
theorem dX12_token_34 : decode cX12_token 34 = .ok (.aload_n 0, 1) := by decide +kernel
theorem dX12_token_35 : decode cX12_token 35 = .ok (.aload_n 0, 1) := by decide +kernel
theorem dX12_token_36 : decode cX12_token 36 = .ok (.getfield 227, 3) := by decide +kernel
theorem dX12_token_39 : decode cX12_token 39 = .ok (.invokevirtual 230, 3) := by decide +kernel
theorem dX12_token_42 : decode cX12_token 42 = .ok (.invokestatic 233, 3) := by decide +kernel
theorem dX12_token_45 : decode cX12_token 45 = .ok (.istore_n 1, 1) := by decide +kernel
theorem dX12_token_46 : decode cX12_token 46 = .ok (.aload_n 0, 1) := by decide +kernel
theorem dX12_token_47 : decode cX12_token 47 = .ok (.aload_n 0, 1) := by decide +kernel
theorem dX12_token_48 : decode cX12_token 48 = .ok (.getfield 227, 3) := by decide +kernel
theorem dX12_token_51 : decode cX12_token 51 = .ok (.invokevirtual 230, 3) := by decide +kernel
theorem dX12_token_54 : decode cX12_token 54 = .ok (.invokestatic 236, 3) := by decide +kernel
theorem dX12_token_57 : decode cX12_token 57 = .ok (.istore_n 2, 1) := by decide +kernel
theorem dX12_token_58 : decode cX12_token 58 = .ok (.aload_n 0, 1) := by decide +kernel
theorem dX12_token_59 : decode cX12_token 59 = .ok (.aload_n 0, 1) := by decide +kernel
theorem dX12_token_60 : decode cX12_token 60 = .ok (.getfield 227, 3) := by decide +kernel
theorem dX12_token_63 : decode cX12_token 63 = .ok (.aload_n 0, 1) := by decide +kernel
theorem dX12_token_64 : decode cX12_token 64 = .ok (.getfield 212, 3) := by decide +kernel
theorem dX12_token_67 : decode cX12_token 67 = .ok (.if_icmp .ge 12, 3) := by decide +kernel
theorem dX12_token_70 : decode cX12_token 70 = .ok (.aload_n 0, 1) := by decide +kernel
theorem dX12_token_71 : decode cX12_token 71 = .ok (.getfield 227, 3) := by decide +kernel
theorem dX12_token_74 : decode cX12_token 74 = .ok (.iconst 1, 1) := by decide +kernel
theorem dX12_token_75 : decode cX12_token 75 = .ok (.iadd, 1) := by decide +kernel
theorem dX12_token_76 : decode cX12_token 76 = .ok (.goto 7, 3) := by decide +kernel
theorem dX12_token_79 : decode cX12_token 79 = .ok (.aload_n 0, 1) := by decide +kernel
theorem dX12_token_80 : decode cX12_token 80 = .ok (.getfield 227, 3) := by decide +kernel
theorem dX12_token_83 : decode cX12_token 83 = .ok (.putfield 224, 3) := by decide +kernel
theorem dX12_token_86 : decode cX12_token 86 = .ok (.iload_n 1, 1) := by decide +kernel
theorem dX12_token_87 : decode cX12_token 87 = .ok (.ifCond .eq 17, 3) := by decide +kernel
theorem dX12_token_90 : decode cX12_token 90 = .ok (.aload_n 0, 1) := by decide +kernel
theorem dX12_token_91 : decode cX12_token 91 = .ok (.aload_n 0, 1) := by decide +kernel
theorem dX12_token_92 : decode cX12_token 92 = .ok (.getfield 224, 3) := by decide +kernel
theorem dX12_token_95 : decode cX12_token 95 = .ok (.invokevirtual 230, 3) := by decide +kernel
theorem dX12_token_98 : decode cX12_token 98 = .ok (.invokestatic 233, 3) := by decide +kernel
theorem dX12_token_101 : decode cX12_token 101 = .ok (.ifCond .ne 21, 3) := by decide +kernel
theorem dX12_token_104 : decode cX12_token 104 = .ok (.iload_n 2, 1) := by decide +kernel
theorem dX12_token_105 : decode cX12_token 105 = .ok (.ifCond .eq 30, 3) := by decide +kernel
theorem dX12_token_108 : decode cX12_token 108 = .ok (.aload_n 0, 1) := by decide +kernel
theorem dX12_token_109 : decode cX12_token 109 = .ok (.aload_n 0, 1) := by decide +kernel
theorem dX12_token_110 : decode cX12_token 110 = .ok (.getfield 224, 3) := by decide +kernel
theorem dX12_token_113 : decode cX12_token 113 = .ok (.invokevirtual 230, 3) := by decide +kernel
theorem dX12_token_116 : decode cX12_token 116 = .ok (.invokestatic 236, 3) := by decide +kernel
theorem dX12_token_119 : decode cX12_token 119 = .ok (.ifCond .eq 16, 3) := by decide +kernel
theorem dX12_token_122 : decode cX12_token 122 = .ok (.aload_n 0, 1) := by decide +kernel
theorem dX12_token_123 : decode cX12_token 123 = .ok (.dup, 1) := by decide +kernel
theorem dX12_token_124 : decode cX12_token 124 = .ok (.getfield 224, 3) := by decide +kernel
theorem dX12_token_127 : decode cX12_token 127 = .ok (.iconst 1, 1) := by decide +kernel
theorem dX12_token_128 : decode cX12_token 128 = .ok (.iadd, 1) := by decide +kernel
theorem dX12_token_129 : decode cX12_token 129 = .ok (.putfield 224, 3) := by decide +kernel
theorem dX12_token_132 : decode cX12_token 132 = .ok (.goto (-46), 3) := by decide +kernel
theorem dX12_token_135 : decode cX12_token 135 = .ok (.return_, 1) := by decide +kernel
theorem dX12_must_0 : decode cX12_must 0 = .ok (.aload_n 0, 1) := by decide +kernel
theorem dX12_must_1 : decode cX12_must 1 = .ok (.aload_n 0, 1) := by decide +kernel
theorem dX12_must_2 : decode cX12_must 2 = .ok (.getfield 239, 3) := by decide +kernel
theorem dX12_must_5 : decode cX12_must 5 = .ok (.ifCond .ne 7, 3) := by decide +kernel
theorem dX12_must_8 : decode cX12_must 8 = .ok (.iload_n 1, 1) := by decide +kernel
theorem dX12_must_9 : decode cX12_must 9 = .ok (.ifCond .ne 7, 3) := by decide +kernel
theorem dX12_must_12 : decode cX12_must 12 = .ok (.iconst 1, 1) := by decide +kernel
theorem dX12_must_13 : decode cX12_must 13 = .ok (.goto 4, 3) := by decide +kernel
theorem dX12_must_16 : decode cX12_must 16 = .ok (.iconst 0, 1) := by decide +kernel
theorem dX12_must_17 : decode cX12_must 17 = .ok (.putfield 239, 3) := by decide +kernel
theorem dX12_must_20 : decode cX12_must 20 = .ok (.aload_n 0, 1) := by decide +kernel
theorem dX12_must_21 : decode cX12_must 21 = .ok (.getfield 239, 3) := by decide +kernel
theorem dX12_must_24 : decode cX12_must 24 = .ok (.ifCond .ne 7, 3) := by decide +kernel
theorem dX12_must_27 : decode cX12_must 27 = .ok (.aload_n 0, 1) := by decide +kernel
theorem dX12_must_28 : decode cX12_must 28 = .ok (.invokevirtual 243, 3) := by decide +kernel
theorem dX12_must_31 : decode cX12_must 31 = .ok (.return_, 1) := by decide +kernel
theorem dX12_word_0 : decode cX12_word 0 = .ok (.lconst 0, 1) := by decide +kernel
theorem dX12_word_1 : decode cX12_word 1 = .ok (.lstore_n 1, 1) := by decide +kernel
theorem dX12_word_2 : decode cX12_word 2 = .ok (.aload_n 0, 1) := by decide +kernel
theorem dX12_word_3 : decode cX12_word 3 = .ok (.getfield 227, 3) := by decide +kernel
theorem dX12_word_6 : decode cX12_word 6 = .ok (.istore_n 3, 1) := by decide +kernel
theorem dX12_word_7 : decode cX12_word 7 = .ok (.iload_n 3, 1) := by decide +kernel
theorem dX12_word_8 : decode cX12_word 8 = .ok (.aload_n 0, 1) := by decide +kernel
theorem dX12_word_9 : decode cX12_word 9 = .ok (.getfield 224, 3) := by decide +kernel
theorem dX12_word_12 : decode cX12_word 12 = .ok (.if_icmp .ge 38, 3) := by decide +kernel
theorem dX12_word_15 : decode cX12_word 15 = .ok (.lload_n 1, 1) := by decide +kernel
theorem dX12_word_16 : decode cX12_word 16 = .ok (.ldc2_w 246, 3) := by decide +kernel
theorem dX12_word_19 : decode cX12_word 19 = .ok (.lcmp, 1) := by decide +kernel
theorem dX12_word_20 : decode cX12_word 20 = .ok (.ifCond .le 7, 3) := by decide +kernel
theorem dX12_word_23 : decode cX12_word 23 = .ok (.lload_n 1, 1) := by decide +kernel
theorem dX12_word_24 : decode cX12_word 24 = .ok (.goto 19, 3) := by decide +kernel
theorem dX12_word_27 : decode cX12_word 27 = .ok (.ldc2_w 248, 3) := by decide +kernel
theorem dX12_word_30 : decode cX12_word 30 = .ok (.lload_n 1, 1) := by decide +kernel
theorem dX12_word_31 : decode cX12_word 31 = .ok (.lmul, 1) := by decide +kernel
theorem dX12_word_32 : decode cX12_word 32 = .ok (.aload_n 0, 1) := by decide +kernel
theorem dX12_word_33 : decode cX12_word 33 = .ok (.getfield 38, 3) := by decide +kernel
theorem dX12_word_36 : decode cX12_word 36 = .ok (.iload_n 3, 1) := by decide +kernel
theorem dX12_word_37 : decode cX12_word 37 = .ok (.iaload, 1) := by decide +kernel
theorem dX12_word_38 : decode cX12_word 38 = .ok (.bipush 96, 2) := by decide +kernel
theorem dX12_word_40 : decode cX12_word 40 = .ok (.isub, 1) := by decide +kernel
theorem dX12_word_41 : decode cX12_word 41 = .ok (.i2l, 1) := by decide +kernel
theorem dX12_word_42 : decode cX12_word 42 = .ok (.ladd, 1) := by decide +kernel
theorem dX12_word_43 : decode cX12_word 43 = .ok (.lstore_n 1, 1) := by decide +kernel
theorem dX12_word_44 : decode cX12_word 44 = .ok (.iinc 3 1, 3) := by decide +kernel
theorem dX12_word_47 : decode cX12_word 47 = .ok (.goto (-40), 3) := by decide +kernel
theorem dX12_word_50 : decode cX12_word 50 = .ok (.aload_n 0, 1) := by decide +kernel
theorem dX12_word_51 : decode cX12_word 51 = .ok (.getfield 239, 3) := by decide +kernel
theorem dX12_word_54 : decode cX12_word 54 = .ok (.ifCond .ne 17, 3) := by decide +kernel
theorem dX12_word_57 : decode cX12_word 57 = .ok (.aload_n 0, 1) := by decide +kernel
theorem dX12_word_58 : decode cX12_word 58 = .ok (.aload_n 0, 1) := by decide +kernel
theorem dX12_word_59 : decode cX12_word 59 = .ok (.getfield 227, 3) := by decide +kernel
theorem dX12_word_62 : decode cX12_word 62 = .ok (.invokevirtual 230, 3) := by decide +kernel
theorem dX12_word_65 : decode cX12_word 65 = .ok (.invokestatic 233, 3) := by decide +kernel
theorem dX12_word_68 : decode cX12_word 68 = .ok (.ifCond .ne 7, 3) := by decide +kernel
theorem dX12_word_71 : decode cX12_word 71 = .ok (.lconst 0, 1) := by decide +kernel
theorem dX12_word_72 : decode cX12_word 72 = .ok (.goto 4, 3) := by decide +kernel
theorem dX12_word_75 : decode cX12_word 75 = .ok (.lload_n 1, 1) := by decide +kernel
theorem dX12_word_76 : decode cX12_word 76 = .ok (.lreturn, 1) := by decide +kernel
theorem dX12_number_0 : decode cX12_number 0 = .ok (.aload_n 0, 1) := by decide +kernel
theorem dX12_number_1 : decode cX12_number 1 = .ok (.getfield 239, 3) := by decide +kernel
theorem dX12_number_4 : decode cX12_number 4 = .ok (.ifCond .eq 4, 3) := by decide +kernel
theorem dX12_number_7 : decode cX12_number 7 = .ok (.return_, 1) := by decide +kernel
theorem dX12_number_8 : decode cX12_number 8 = .ok (.aload_n 0, 1) := by decide +kernel
theorem dX12_number_9 : decode cX12_number 9 = .ok (.aload_n 0, 1) := by decide +kernel
theorem dX12_number_10 : decode cX12_number 10 = .ok (.getfield 227, 3) := by decide +kernel
theorem dX12_number_13 : decode cX12_number 13 = .ok (.invokevirtual 230, 3) := by decide +kernel
theorem dX12_number_16 : decode cX12_number 16 = .ok (.invokestatic 236, 3) := by decide +kernel
theorem dX12_number_19 : decode cX12_number 19 = .ok (.istore_n 3, 1) := by decide +kernel
theorem dX12_number_20 : decode cX12_number 20 = .ok (.iconst 0, 1) := by decide +kernel
theorem dX12_number_21 : decode cX12_number 21 = .ok (.istore 4, 2) := by decide +kernel
theorem dX12_number_23 : decode cX12_number 23 = .ok (.aload_n 0, 1) := by decide +kernel
theorem dX12_number_24 : decode cX12_number 24 = .ok (.getfield 227, 3) := by decide +kernel
theorem dX12_number_27 : decode cX12_number 27 = .ok (.istore 5, 2) := by decide +kernel
theorem dX12_number_29 : decode cX12_number 29 = .ok (.iload 5, 2) := by decide +kernel
theorem dX12_number_31 : decode cX12_number 31 = .ok (.aload_n 0, 1) := by decide +kernel
theorem dX12_number_32 : decode cX12_number 32 = .ok (.getfield 224, 3) := by decide +kernel
theorem dX12_number_35 : decode cX12_number 35 = .ok (.if_icmp .ge 44, 3) := by decide +kernel
theorem dX12_number_38 : decode cX12_number 38 = .ok (.iload_n 3, 1) := by decide +kernel
theorem dX12_number_39 : decode cX12_number 39 = .ok (.ifCond .eq 40, 3) := by decide +kernel
theorem dX12_number_42 : decode cX12_number 42 = .ok (.iload 4, 2) := by decide +kernel
theorem dX12_number_44 : decode cX12_number 44 = .ok (.sipush 999, 3) := by decide +kernel
theorem dX12_number_47 : decode cX12_number 47 = .ok (.if_icmp .le 8, 3) := by decide +kernel
theorem dX12_number_50 : decode cX12_number 50 = .ok (.iload 4, 2) := by decide +kernel
theorem dX12_number_52 : decode cX12_number 52 = .ok (.goto 19, 3) := by decide +kernel
theorem dX12_number_55 : decode cX12_number 55 = .ok (.bipush 10, 2) := by decide +kernel
theorem dX12_number_57 : decode cX12_number 57 = .ok (.iload 4, 2) := by decide +kernel
theorem dX12_number_59 : decode cX12_number 59 = .ok (.imul, 1) := by decide +kernel
theorem dX12_number_60 : decode cX12_number 60 = .ok (.aload_n 0, 1) := by decide +kernel
theorem dX12_number_61 : decode cX12_number 61 = .ok (.getfield 38, 3) := by decide +kernel
theorem dX12_number_64 : decode cX12_number 64 = .ok (.iload 5, 2) := by decide +kernel
theorem dX12_number_66 : decode cX12_number 66 = .ok (.iaload, 1) := by decide +kernel
theorem dX12_number_67 : decode cX12_number 67 = .ok (.iadd, 1) := by decide +kernel
theorem dX12_number_68 : decode cX12_number 68 = .ok (.bipush 48, 2) := by decide +kernel
theorem dX12_number_70 : decode cX12_number 70 = .ok (.isub, 1) := by decide +kernel
theorem dX12_number_71 : decode cX12_number 71 = .ok (.istore 4, 2) := by decide +kernel
theorem dX12_number_73 : decode cX12_number 73 = .ok (.iinc 5 1, 3) := by decide +kernel
theorem dX12_number_76 : decode cX12_number 76 = .ok (.goto (-47), 3) := by decide +kernel
theorem dX12_number_79 : decode cX12_number 79 = .ok (.aload_n 0, 1) := by decide +kernel
theorem dX12_number_80 : decode cX12_number 80 = .ok (.iload 4, 2) := by decide +kernel
theorem dX12_number_82 : decode cX12_number 82 = .ok (.putfield 250, 3) := by decide +kernel
theorem dX12_number_85 : decode cX12_number 85 = .ok (.aload_n 0, 1) := by decide +kernel
theorem dX12_number_86 : decode cX12_number 86 = .ok (.iload_n 3, 1) := by decide +kernel
theorem dX12_number_87 : decode cX12_number 87 = .ok (.ifCond .eq 20, 3) := by decide +kernel
theorem dX12_number_90 : decode cX12_number 90 = .ok (.iload 4, 2) := by decide +kernel
theorem dX12_number_92 : decode cX12_number 92 = .ok (.i2l, 1) := by decide +kernel
theorem dX12_number_93 : decode cX12_number 93 = .ok (.iload_n 1, 1) := by decide +kernel
theorem dX12_number_94 : decode cX12_number 94 = .ok (.i2l, 1) := by decide +kernel
theorem dX12_number_95 : decode cX12_number 95 = .ok (.iload_n 2, 1) := by decide +kernel
theorem dX12_number_96 : decode cX12_number 96 = .ok (.i2l, 1) := by decide +kernel
theorem dX12_number_97 : decode cX12_number 97 = .ok (.invokestatic 56, 3) := by decide +kernel
theorem dX12_number_100 : decode cX12_number 100 = .ok (.ifCond .eq 7, 3) := by decide +kernel
theorem dX12_number_103 : decode cX12_number 103 = .ok (.iconst 1, 1) := by decide +kernel
theorem dX12_number_104 : decode cX12_number 104 = .ok (.goto 4, 3) := by decide +kernel
theorem dX12_number_107 : decode cX12_number 107 = .ok (.iconst 0, 1) := by decide +kernel
theorem dX12_number_108 : decode cX12_number 108 = .ok (.invokevirtual 253, 3) := by decide +kernel
theorem dX12_number_111 : decode cX12_number 111 = .ok (.return_, 1) := by decide +kernel
theorem dX12_kindHere_0 : decode cX12_kindHere 0 = .ok (.aload_n 0, 1) := by decide +kernel
theorem dX12_kindHere_1 : decode cX12_kindHere 1 = .ok (.invokevirtual 257, 3) := by decide +kernel
theorem dX12_kindHere_4 : decode cX12_kindHere 4 = .ok (.lstore_n 1, 1) := by decide +kernel
theorem dX12_kindHere_5 : decode cX12_kindHere 5 = .ok (.lload_n 1, 1) := by decide +kernel
theorem dX12_kindHere_6 : decode cX12_kindHere 6 = .ok (.ldc2_w 260, 3) := by decide +kernel
theorem dX12_kindHere_9 : decode cX12_kindHere 9 = .ok (.lcmp, 1) := by decide +kernel
theorem dX12_kindHere_10 : decode cX12_kindHere 10 = .ok (.ifCond .ne 7, 3) := by decide +kernel
theorem dX12_kindHere_13 : decode cX12_kindHere 13 = .ok (.iconst 0, 1) := by decide +kernel
theorem dX12_kindHere_14 : decode cX12_kindHere 14 = .ok (.goto 64, 3) := by decide +kernel
theorem dX12_kindHere_17 : decode cX12_kindHere 17 = .ok (.lload_n 1, 1) := by decide +kernel
theorem dX12_kindHere_18 : decode cX12_kindHere 18 = .ok (.ldc2_w 262, 3) := by decide +kernel
theorem dX12_kindHere_21 : decode cX12_kindHere 21 = .ok (.lcmp, 1) := by decide +kernel
theorem dX12_kindHere_22 : decode cX12_kindHere 22 = .ok (.ifCond .ne 7, 3) := by decide +kernel
theorem dX12_kindHere_25 : decode cX12_kindHere 25 = .ok (.iconst 1, 1) := by decide +kernel
theorem dX12_kindHere_26 : decode cX12_kindHere 26 = .ok (.goto 52, 3) := by decide +kernel
theorem dX12_kindHere_29 : decode cX12_kindHere 29 = .ok (.lload_n 1, 1) := by decide +kernel
theorem dX12_kindHere_30 : decode cX12_kindHere 30 = .ok (.ldc2_w 264, 3) := by decide +kernel
theorem dX12_kindHere_33 : decode cX12_kindHere 33 = .ok (.lcmp, 1) := by decide +kernel
theorem dX12_kindHere_34 : decode cX12_kindHere 34 = .ok (.ifCond .ne 7, 3) := by decide +kernel
theorem dX12_kindHere_37 : decode cX12_kindHere 37 = .ok (.iconst 2, 1) := by decide +kernel
theorem dX12_kindHere_38 : decode cX12_kindHere 38 = .ok (.goto 40, 3) := by decide +kernel
theorem dX12_kindHere_41 : decode cX12_kindHere 41 = .ok (.lload_n 1, 1) := by decide +kernel
theorem dX12_kindHere_42 : decode cX12_kindHere 42 = .ok (.ldc2_w 266, 3) := by decide +kernel
theorem dX12_kindHere_45 : decode cX12_kindHere 45 = .ok (.lcmp, 1) := by decide +kernel
theorem dX12_kindHere_46 : decode cX12_kindHere 46 = .ok (.ifCond .ne 7, 3) := by decide +kernel
theorem dX12_kindHere_49 : decode cX12_kindHere 49 = .ok (.iconst 3, 1) := by decide +kernel
theorem dX12_kindHere_50 : decode cX12_kindHere 50 = .ok (.goto 28, 3) := by decide +kernel
theorem dX12_kindHere_53 : decode cX12_kindHere 53 = .ok (.lload_n 1, 1) := by decide +kernel
theorem dX12_kindHere_54 : decode cX12_kindHere 54 = .ok (.ldc2_w 268, 3) := by decide +kernel
theorem dX12_kindHere_57 : decode cX12_kindHere 57 = .ok (.lcmp, 1) := by decide +kernel
theorem dX12_kindHere_58 : decode cX12_kindHere 58 = .ok (.ifCond .ne 7, 3) := by decide +kernel
theorem dX12_kindHere_61 : decode cX12_kindHere 61 = .ok (.iconst 4, 1) := by decide +kernel
theorem dX12_kindHere_62 : decode cX12_kindHere 62 = .ok (.goto 16, 3) := by decide +kernel
theorem dX12_kindHere_65 : decode cX12_kindHere 65 = .ok (.lload_n 1, 1) := by decide +kernel
theorem dX12_kindHere_66 : decode cX12_kindHere 66 = .ok (.ldc2_w 270, 3) := by decide +kernel
theorem dX12_kindHere_69 : decode cX12_kindHere 69 = .ok (.lcmp, 1) := by decide +kernel
theorem dX12_kindHere_70 : decode cX12_kindHere 70 = .ok (.ifCond .ne 7, 3) := by decide +kernel
theorem dX12_kindHere_73 : decode cX12_kindHere 73 = .ok (.iconst 5, 1) := by decide +kernel
theorem dX12_kindHere_74 : decode cX12_kindHere 74 = .ok (.goto 4, 3) := by decide +kernel
theorem dX12_kindHere_77 : decode cX12_kindHere 77 = .ok (.iconst (-1), 1) := by decide +kernel
theorem dX12_kindHere_78 : decode cX12_kindHere 78 = .ok (.ireturn, 1) := by decide +kernel
theorem dX12_wayHere_0 : decode cX12_wayHere 0 = .ok (.aload_n 0, 1) := by decide +kernel
theorem dX12_wayHere_1 : decode cX12_wayHere 1 = .ok (.invokevirtual 257, 3) := by decide +kernel
theorem dX12_wayHere_4 : decode cX12_wayHere 4 = .ok (.lstore_n 1, 1) := by decide +kernel
theorem dX12_wayHere_5 : decode cX12_wayHere 5 = .ok (.lload_n 1, 1) := by decide +kernel
theorem dX12_wayHere_6 : decode cX12_wayHere 6 = .ok (.ldc2_w 272, 3) := by decide +kernel
theorem dX12_wayHere_9 : decode cX12_wayHere 9 = .ok (.lcmp, 1) := by decide +kernel
theorem dX12_wayHere_10 : decode cX12_wayHere 10 = .ok (.ifCond .ne 7, 3) := by decide +kernel
theorem dX12_wayHere_13 : decode cX12_wayHere 13 = .ok (.iconst 0, 1) := by decide +kernel
theorem dX12_wayHere_14 : decode cX12_wayHere 14 = .ok (.goto 40, 3) := by decide +kernel
theorem dX12_wayHere_17 : decode cX12_wayHere 17 = .ok (.lload_n 1, 1) := by decide +kernel
theorem dX12_wayHere_18 : decode cX12_wayHere 18 = .ok (.ldc2_w 274, 3) := by decide +kernel
theorem dX12_wayHere_21 : decode cX12_wayHere 21 = .ok (.lcmp, 1) := by decide +kernel
theorem dX12_wayHere_22 : decode cX12_wayHere 22 = .ok (.ifCond .ne 7, 3) := by decide +kernel
theorem dX12_wayHere_25 : decode cX12_wayHere 25 = .ok (.iconst 1, 1) := by decide +kernel
theorem dX12_wayHere_26 : decode cX12_wayHere 26 = .ok (.goto 28, 3) := by decide +kernel
theorem dX12_wayHere_29 : decode cX12_wayHere 29 = .ok (.lload_n 1, 1) := by decide +kernel
theorem dX12_wayHere_30 : decode cX12_wayHere 30 = .ok (.ldc2_w 276, 3) := by decide +kernel
theorem dX12_wayHere_33 : decode cX12_wayHere 33 = .ok (.lcmp, 1) := by decide +kernel
theorem dX12_wayHere_34 : decode cX12_wayHere 34 = .ok (.ifCond .ne 7, 3) := by decide +kernel
theorem dX12_wayHere_37 : decode cX12_wayHere 37 = .ok (.iconst 2, 1) := by decide +kernel
theorem dX12_wayHere_38 : decode cX12_wayHere 38 = .ok (.goto 16, 3) := by decide +kernel
theorem dX12_wayHere_41 : decode cX12_wayHere 41 = .ok (.lload_n 1, 1) := by decide +kernel
theorem dX12_wayHere_42 : decode cX12_wayHere 42 = .ok (.ldc2_w 278, 3) := by decide +kernel
theorem dX12_wayHere_45 : decode cX12_wayHere 45 = .ok (.lcmp, 1) := by decide +kernel
theorem dX12_wayHere_46 : decode cX12_wayHere 46 = .ok (.ifCond .ne 7, 3) := by decide +kernel
theorem dX12_wayHere_49 : decode cX12_wayHere 49 = .ok (.iconst 3, 1) := by decide +kernel
theorem dX12_wayHere_50 : decode cX12_wayHere 50 = .ok (.goto 4, 3) := by decide +kernel
theorem dX12_wayHere_53 : decode cX12_wayHere 53 = .ok (.iconst (-1), 1) := by decide +kernel
theorem dX12_wayHere_54 : decode cX12_wayHere 54 = .ok (.ireturn, 1) := by decide +kernel
theorem dX12_handItem_0 : decode cX12_handItem 0 = .ok (.aload_n 0, 1) := by decide +kernel
theorem dX12_handItem_1 : decode cX12_handItem 1 = .ok (.aload_n 0, 1) := by decide +kernel
theorem dX12_handItem_2 : decode cX12_handItem 2 = .ok (.getfield 7, 3) := by decide +kernel
theorem dX12_handItem_5 : decode cX12_handItem 5 = .ok (.iconst 0, 1) := by decide +kernel
theorem dX12_handItem_6 : decode cX12_handItem 6 = .ok (.iaload, 1) := by decide +kernel
theorem dX12_handItem_7 : decode cX12_handItem 7 = .ok (.bipush 6, 2) := by decide +kernel
theorem dX12_handItem_9 : decode cX12_handItem 9 = .ok (.if_icmp .ge 7, 3) := by decide +kernel
theorem dX12_handItem_12 : decode cX12_handItem 12 = .ok (.iconst 1, 1) := by decide +kernel
theorem dX12_handItem_13 : decode cX12_handItem 13 = .ok (.goto 4, 3) := by decide +kernel
theorem dX12_handItem_16 : decode cX12_handItem 16 = .ok (.iconst 0, 1) := by decide +kernel
theorem dX12_handItem_17 : decode cX12_handItem 17 = .ok (.invokevirtual 253, 3) := by decide +kernel
theorem dX12_handItem_20 : decode cX12_handItem 20 = .ok (.aload_n 0, 1) := by decide +kernel
theorem dX12_handItem_21 : decode cX12_handItem 21 = .ok (.aload_n 0, 1) := by decide +kernel
theorem dX12_handItem_22 : decode cX12_handItem 22 = .ok (.invokevirtual 257, 3) := by decide +kernel
theorem dX12_handItem_25 : decode cX12_handItem 25 = .ok (.ldc2_w 280, 3) := by decide +kernel
theorem dX12_handItem_28 : decode cX12_handItem 28 = .ok (.lcmp, 1) := by decide +kernel
theorem dX12_handItem_29 : decode cX12_handItem 29 = .ok (.ifCond .ne 7, 3) := by decide +kernel
theorem dX12_handItem_32 : decode cX12_handItem 32 = .ok (.iconst 1, 1) := by decide +kernel
theorem dX12_handItem_33 : decode cX12_handItem 33 = .ok (.goto 4, 3) := by decide +kernel
theorem dX12_handItem_36 : decode cX12_handItem 36 = .ok (.iconst 0, 1) := by decide +kernel
theorem dX12_handItem_37 : decode cX12_handItem 37 = .ok (.invokevirtual 253, 3) := by decide +kernel
theorem dX12_handItem_40 : decode cX12_handItem 40 = .ok (.aload_n 0, 1) := by decide +kernel
theorem dX12_handItem_41 : decode cX12_handItem 41 = .ok (.iconst 0, 1) := by decide +kernel
theorem dX12_handItem_42 : decode cX12_handItem 42 = .ok (.bipush 47, 2) := by decide +kernel
theorem dX12_handItem_44 : decode cX12_handItem 44 = .ok (.invokevirtual 282, 3) := by decide +kernel
theorem dX12_handItem_47 : decode cX12_handItem 47 = .ok (.aload_n 0, 1) := by decide +kernel
theorem dX12_handItem_48 : decode cX12_handItem 48 = .ok (.getfield 239, 3) := by decide +kernel
theorem dX12_handItem_51 : decode cX12_handItem 51 = .ok (.ifCond .eq 4, 3) := by decide +kernel
theorem dX12_handItem_54 : decode cX12_handItem 54 = .ok (.return_, 1) := by decide +kernel
theorem dX12_handItem_55 : decode cX12_handItem 55 = .ok (.aload_n 0, 1) := by decide +kernel
theorem dX12_handItem_56 : decode cX12_handItem 56 = .ok (.iload_n 1, 1) := by decide +kernel
theorem dX12_handItem_57 : decode cX12_handItem 57 = .ok (.aload_n 0, 1) := by decide +kernel
theorem dX12_handItem_58 : decode cX12_handItem 58 = .ok (.getfield 250, 3) := by decide +kernel
theorem dX12_handItem_61 : decode cX12_handItem 61 = .ok (.invokevirtual 140, 3) := by decide +kernel
theorem dX12_handItem_64 : decode cX12_handItem 64 = .ok (.istore_n 2, 1) := by decide +kernel
theorem dX12_handItem_65 : decode cX12_handItem 65 = .ok (.aload_n 0, 1) := by decide +kernel
theorem dX12_handItem_66 : decode cX12_handItem 66 = .ok (.invokevirtual 257, 3) := by decide +kernel
theorem dX12_handItem_69 : decode cX12_handItem 69 = .ok (.ldc2_w 286, 3) := by decide +kernel
theorem dX12_handItem_72 : decode cX12_handItem 72 = .ok (.lcmp, 1) := by decide +kernel
theorem dX12_handItem_73 : decode cX12_handItem 73 = .ok (.ifCond .ne 30, 3) := by decide +kernel
theorem dX12_handItem_76 : decode cX12_handItem 76 = .ok (.aload_n 0, 1) := by decide +kernel
theorem dX12_handItem_77 : decode cX12_handItem 77 = .ok (.iconst 1, 1) := by decide +kernel
theorem dX12_handItem_78 : decode cX12_handItem 78 = .ok (.invokevirtual 253, 3) := by decide +kernel
theorem dX12_handItem_81 : decode cX12_handItem 81 = .ok (.aload_n 0, 1) := by decide +kernel
theorem dX12_handItem_82 : decode cX12_handItem 82 = .ok (.iconst 0, 1) := by decide +kernel
theorem dX12_handItem_83 : decode cX12_handItem 83 = .ok (.sipush 999, 3) := by decide +kernel
theorem dX12_handItem_86 : decode cX12_handItem 86 = .ok (.invokevirtual 282, 3) := by decide +kernel
theorem dX12_handItem_89 : decode cX12_handItem 89 = .ok (.aload_n 0, 1) := by decide +kernel
theorem dX12_handItem_90 : decode cX12_handItem 90 = .ok (.getfield 7, 3) := by decide +kernel
theorem dX12_handItem_93 : decode cX12_handItem 93 = .ok (.iload_n 2, 1) := by decide +kernel
theorem dX12_handItem_94 : decode cX12_handItem 94 = .ok (.iconst 2, 1) := by decide +kernel
theorem dX12_handItem_95 : decode cX12_handItem 95 = .ok (.invokestatic 64, 3) := by decide +kernel
theorem dX12_handItem_98 : decode cX12_handItem 98 = .ok (.aload_n 0, 1) := by decide +kernel
theorem dX12_handItem_99 : decode cX12_handItem 99 = .ok (.getfield 250, 3) := by decide +kernel
theorem dX12_handItem_102 : decode cX12_handItem 102 = .ok (.iastore, 1) := by decide +kernel
theorem dX12_handItem_103 : decode cX12_handItem 103 = .ok (.aload_n 0, 1) := by decide +kernel
theorem dX12_handItem_104 : decode cX12_handItem 104 = .ok (.getfield 239, 3) := by decide +kernel
theorem dX12_handItem_107 : decode cX12_handItem 107 = .ok (.ifCond .ne 68, 3) := by decide +kernel
theorem dX12_handItem_110 : decode cX12_handItem 110 = .ok (.aload_n 0, 1) := by decide +kernel
theorem dX12_handItem_111 : decode cX12_handItem 111 = .ok (.invokevirtual 288, 3) := by decide +kernel
theorem dX12_handItem_114 : decode cX12_handItem 114 = .ok (.ifCond .lt 61, 3) := by decide +kernel
theorem dX12_handItem_117 : decode cX12_handItem 117 = .ok (.aload_n 0, 1) := by decide +kernel
theorem dX12_handItem_118 : decode cX12_handItem 118 = .ok (.invokevirtual 288, 3) := by decide +kernel
theorem dX12_handItem_121 : decode cX12_handItem 121 = .ok (.istore_n 3, 1) := by decide +kernel
theorem dX12_handItem_122 : decode cX12_handItem 122 = .ok (.aload_n 0, 1) := by decide +kernel
theorem dX12_handItem_123 : decode cX12_handItem 123 = .ok (.aload_n 0, 1) := by decide +kernel
theorem dX12_handItem_124 : decode cX12_handItem 124 = .ok (.iload_n 2, 1) := by decide +kernel
theorem dX12_handItem_125 : decode cX12_handItem 125 = .ok (.iconst 4, 1) := by decide +kernel
theorem dX12_handItem_126 : decode cX12_handItem 126 = .ok (.invokevirtual 68, 3) := by decide +kernel
theorem dX12_handItem_129 : decode cX12_handItem 129 = .ok (.bipush 8, 2) := by decide +kernel
theorem dX12_handItem_131 : decode cX12_handItem 131 = .ok (.if_icmp .ge 7, 3) := by decide +kernel
theorem dX12_handItem_134 : decode cX12_handItem 134 = .ok (.iconst 1, 1) := by decide +kernel
theorem dX12_handItem_135 : decode cX12_handItem 135 = .ok (.goto 4, 3) := by decide +kernel
theorem dX12_handItem_138 : decode cX12_handItem 138 = .ok (.iconst 0, 1) := by decide +kernel
theorem dX12_handItem_139 : decode cX12_handItem 139 = .ok (.invokevirtual 253, 3) := by decide +kernel
theorem dX12_handItem_142 : decode cX12_handItem 142 = .ok (.aload_n 0, 1) := by decide +kernel
theorem dX12_handItem_143 : decode cX12_handItem 143 = .ok (.iconst 1, 1) := by decide +kernel
theorem dX12_handItem_144 : decode cX12_handItem 144 = .ok (.bipush 7, 2) := by decide +kernel
theorem dX12_handItem_146 : decode cX12_handItem 146 = .ok (.invokevirtual 282, 3) := by decide +kernel
theorem dX12_handItem_149 : decode cX12_handItem 149 = .ok (.aload_n 0, 1) := by decide +kernel
theorem dX12_handItem_150 : decode cX12_handItem 150 = .ok (.getfield 239, 3) := by decide +kernel
theorem dX12_handItem_153 : decode cX12_handItem 153 = .ok (.ifCond .eq 7, 3) := by decide +kernel
theorem dX12_handItem_156 : decode cX12_handItem 156 = .ok (.iconst 0, 1) := by decide +kernel
theorem dX12_handItem_157 : decode cX12_handItem 157 = .ok (.goto 13, 3) := by decide +kernel
theorem dX12_handItem_160 : decode cX12_handItem 160 = .ok (.aload_n 0, 1) := by decide +kernel
theorem dX12_handItem_161 : decode cX12_handItem 161 = .ok (.iload_n 2, 1) := by decide +kernel
theorem dX12_handItem_162 : decode cX12_handItem 162 = .ok (.iload_n 3, 1) := by decide +kernel
theorem dX12_handItem_163 : decode cX12_handItem 163 = .ok (.aload_n 0, 1) := by decide +kernel
theorem dX12_handItem_164 : decode cX12_handItem 164 = .ok (.getfield 250, 3) := by decide +kernel
theorem dX12_handItem_167 : decode cX12_handItem 167 = .ok (.invokevirtual 151, 3) := by decide +kernel
theorem dX12_handItem_170 : decode cX12_handItem 170 = .ok (.istore 4, 2) := by decide +kernel
theorem dX12_handItem_172 : decode cX12_handItem 172 = .ok (.goto (-69), 3) := by decide +kernel
theorem dX12_handItem_175 : decode cX12_handItem 175 = .ok (.return_, 1) := by decide +kernel
theorem dX12_item_0 : decode cX12_item 0 = .ok (.aload_n 0, 1) := by decide +kernel
theorem dX12_item_1 : decode cX12_item 1 = .ok (.invokevirtual 291, 3) := by decide +kernel
theorem dX12_item_4 : decode cX12_item 4 = .ok (.istore_n 1, 1) := by decide +kernel
theorem dX12_item_5 : decode cX12_item 5 = .ok (.iload_n 1, 1) := by decide +kernel
theorem dX12_item_6 : decode cX12_item 6 = .ok (.ifCond .lt 9, 3) := by decide +kernel
theorem dX12_item_9 : decode cX12_item 9 = .ok (.aload_n 0, 1) := by decide +kernel
theorem dX12_item_10 : decode cX12_item 10 = .ok (.iload_n 1, 1) := by decide +kernel
theorem dX12_item_11 : decode cX12_item 11 = .ok (.invokevirtual 294, 3) := by decide +kernel
theorem dX12_item_14 : decode cX12_item 14 = .ok (.return_, 1) := by decide +kernel
theorem dX12_item_15 : decode cX12_item 15 = .ok (.aload_n 0, 1) := by decide +kernel
theorem dX12_item_16 : decode cX12_item 16 = .ok (.invokevirtual 257, 3) := by decide +kernel
theorem dX12_item_19 : decode cX12_item 19 = .ok (.lstore_n 2, 1) := by decide +kernel
theorem dX12_item_20 : decode cX12_item 20 = .ok (.aload_n 0, 1) := by decide +kernel
theorem dX12_item_21 : decode cX12_item 21 = .ok (.lload_n 2, 1) := by decide +kernel
theorem dX12_item_22 : decode cX12_item 22 = .ok (.ldc2_w 297, 3) := by decide +kernel
theorem dX12_item_25 : decode cX12_item 25 = .ok (.lcmp, 1) := by decide +kernel
theorem dX12_item_26 : decode cX12_item 26 = .ok (.ifCond .eq 11, 3) := by decide +kernel
theorem dX12_item_29 : decode cX12_item 29 = .ok (.lload_n 2, 1) := by decide +kernel
theorem dX12_item_30 : decode cX12_item 30 = .ok (.ldc2_w 299, 3) := by decide +kernel
theorem dX12_item_33 : decode cX12_item 33 = .ok (.lcmp, 1) := by decide +kernel
theorem dX12_item_34 : decode cX12_item 34 = .ok (.ifCond .ne 7, 3) := by decide +kernel
theorem dX12_item_37 : decode cX12_item 37 = .ok (.iconst 1, 1) := by decide +kernel
theorem dX12_item_38 : decode cX12_item 38 = .ok (.goto 4, 3) := by decide +kernel
theorem dX12_item_41 : decode cX12_item 41 = .ok (.iconst 0, 1) := by decide +kernel
theorem dX12_item_42 : decode cX12_item 42 = .ok (.invokevirtual 253, 3) := by decide +kernel
theorem dX12_item_45 : decode cX12_item 45 = .ok (.aload_n 0, 1) := by decide +kernel
theorem dX12_item_46 : decode cX12_item 46 = .ok (.iconst 0, 1) := by decide +kernel
theorem dX12_item_47 : decode cX12_item 47 = .ok (.bipush 47, 2) := by decide +kernel
theorem dX12_item_49 : decode cX12_item 49 = .ok (.invokevirtual 282, 3) := by decide +kernel
theorem dX12_item_52 : decode cX12_item 52 = .ok (.aload_n 0, 1) := by decide +kernel
theorem dX12_item_53 : decode cX12_item 53 = .ok (.getfield 239, 3) := by decide +kernel
theorem dX12_item_56 : decode cX12_item 56 = .ok (.ifCond .ne 27, 3) := by decide +kernel
theorem dX12_item_59 : decode cX12_item 59 = .ok (.aload_n 0, 1) := by decide +kernel
theorem dX12_item_60 : decode cX12_item 60 = .ok (.getfield 7, 3) := by decide +kernel
theorem dX12_item_63 : decode cX12_item 63 = .ok (.iconst 2, 1) := by decide +kernel
theorem dX12_item_64 : decode cX12_item 64 = .ok (.aload_n 0, 1) := by decide +kernel
theorem dX12_item_65 : decode cX12_item 65 = .ok (.getfield 250, 3) := by decide +kernel
theorem dX12_item_68 : decode cX12_item 68 = .ok (.iadd, 1) := by decide +kernel
theorem dX12_item_69 : decode cX12_item 69 = .ok (.lload_n 2, 1) := by decide +kernel
theorem dX12_item_70 : decode cX12_item 70 = .ok (.ldc2_w 297, 3) := by decide +kernel
theorem dX12_item_73 : decode cX12_item 73 = .ok (.lcmp, 1) := by decide +kernel
theorem dX12_item_74 : decode cX12_item 74 = .ok (.ifCond .ne 7, 3) := by decide +kernel
theorem dX12_item_77 : decode cX12_item 77 = .ok (.iconst 1, 1) := by decide +kernel
theorem dX12_item_78 : decode cX12_item 78 = .ok (.goto 4, 3) := by decide +kernel
theorem dX12_item_81 : decode cX12_item 81 = .ok (.iconst 0, 1) := by decide +kernel
theorem dX12_item_82 : decode cX12_item 82 = .ok (.iastore, 1) := by decide +kernel
theorem dX12_item_83 : decode cX12_item 83 = .ok (.return_, 1) := by decide +kernel
theorem dX12_field_0 : decode cX12_field 0 = .ok (.aload_n 0, 1) := by decide +kernel
theorem dX12_field_1 : decode cX12_field 1 = .ok (.invokevirtual 301, 3) := by decide +kernel
theorem dX12_field_4 : decode cX12_field 4 = .ok (.aload_n 0, 1) := by decide +kernel
theorem dX12_field_5 : decode cX12_field 5 = .ok (.iconst 0, 1) := by decide +kernel
theorem dX12_field_6 : decode cX12_field 6 = .ok (.putfield 239, 3) := by decide +kernel
theorem dX12_field_9 : decode cX12_field 9 = .ok (.aload_n 0, 1) := by decide +kernel
theorem dX12_field_10 : decode cX12_field 10 = .ok (.iconst 0, 1) := by decide +kernel
theorem dX12_field_11 : decode cX12_field 11 = .ok (.putfield 224, 3) := by decide +kernel
theorem dX12_field_14 : decode cX12_field 14 = .ok (.aload_n 0, 1) := by decide +kernel
theorem dX12_field_15 : decode cX12_field 15 = .ok (.invokevirtual 243, 3) := by decide +kernel
theorem dX12_field_18 : decode cX12_field 18 = .ok (.iconst 1, 1) := by decide +kernel
theorem dX12_field_19 : decode cX12_field 19 = .ok (.istore_n 1, 1) := by decide +kernel
theorem dX12_field_20 : decode cX12_field 20 = .ok (.aload_n 0, 1) := by decide +kernel
theorem dX12_field_21 : decode cX12_field 21 = .ok (.invokevirtual 304, 3) := by decide +kernel
theorem dX12_field_24 : decode cX12_field 24 = .ok (.aload_n 0, 1) := by decide +kernel
theorem dX12_field_25 : decode cX12_field 25 = .ok (.getfield 239, 3) := by decide +kernel
theorem dX12_field_28 : decode cX12_field 28 = .ok (.ifCond .ne 31, 3) := by decide +kernel
theorem dX12_field_31 : decode cX12_field 31 = .ok (.aload_n 0, 1) := by decide +kernel
theorem dX12_field_32 : decode cX12_field 32 = .ok (.aload_n 0, 1) := by decide +kernel
theorem dX12_field_33 : decode cX12_field 33 = .ok (.getfield 227, 3) := by decide +kernel
theorem dX12_field_36 : decode cX12_field 36 = .ok (.invokevirtual 230, 3) := by decide +kernel
theorem dX12_field_39 : decode cX12_field 39 = .ok (.bipush 59, 2) := by decide +kernel
theorem dX12_field_41 : decode cX12_field 41 = .ok (.if_icmp .ne 18, 3) := by decide +kernel
theorem dX12_field_44 : decode cX12_field 44 = .ok (.aload_n 0, 1) := by decide +kernel
theorem dX12_field_45 : decode cX12_field 45 = .ok (.iconst 1, 1) := by decide +kernel
theorem dX12_field_46 : decode cX12_field 46 = .ok (.invokevirtual 253, 3) := by decide +kernel
theorem dX12_field_49 : decode cX12_field 49 = .ok (.aload_n 0, 1) := by decide +kernel
theorem dX12_field_50 : decode cX12_field 50 = .ok (.invokevirtual 304, 3) := by decide +kernel
theorem dX12_field_53 : decode cX12_field 53 = .ok (.iinc 1 1, 3) := by decide +kernel
theorem dX12_field_56 : decode cX12_field 56 = .ok (.goto (-32), 3) := by decide +kernel
theorem dX12_field_59 : decode cX12_field 59 = .ok (.aload_n 0, 1) := by decide +kernel
theorem dX12_field_60 : decode cX12_field 60 = .ok (.aload_n 0, 1) := by decide +kernel
theorem dX12_field_61 : decode cX12_field 61 = .ok (.getfield 239, 3) := by decide +kernel
theorem dX12_field_64 : decode cX12_field 64 = .ok (.ifCond .ne 14, 3) := by decide +kernel
theorem dX12_field_67 : decode cX12_field 67 = .ok (.aload_n 0, 1) := by decide +kernel
theorem dX12_field_68 : decode cX12_field 68 = .ok (.getfield 227, 3) := by decide +kernel
theorem dX12_field_71 : decode cX12_field 71 = .ok (.aload_n 0, 1) := by decide +kernel
theorem dX12_field_72 : decode cX12_field 72 = .ok (.getfield 212, 3) := by decide +kernel
theorem dX12_field_75 : decode cX12_field 75 = .ok (.if_icmp .ge 7, 3) := by decide +kernel
theorem dX12_field_78 : decode cX12_field 78 = .ok (.iconst 1, 1) := by decide +kernel
theorem dX12_field_79 : decode cX12_field 79 = .ok (.goto 4, 3) := by decide +kernel
theorem dX12_field_82 : decode cX12_field 82 = .ok (.iconst 0, 1) := by decide +kernel
theorem dX12_field_83 : decode cX12_field 83 = .ok (.putfield 239, 3) := by decide +kernel
theorem dX12_field_86 : decode cX12_field 86 = .ok (.aload_n 0, 1) := by decide +kernel
theorem dX12_field_87 : decode cX12_field 87 = .ok (.getfield 239, 3) := by decide +kernel
theorem dX12_field_90 : decode cX12_field 90 = .ok (.ifCond .eq 7, 3) := by decide +kernel
theorem dX12_field_93 : decode cX12_field 93 = .ok (.aload_n 0, 1) := by decide +kernel
theorem dX12_field_94 : decode cX12_field 94 = .ok (.invokevirtual 307, 3) := by decide +kernel
theorem dX12_field_97 : decode cX12_field 97 = .ok (.aload_n 0, 1) := by decide +kernel
theorem dX12_field_98 : decode cX12_field 98 = .ok (.iconst 0, 1) := by decide +kernel
theorem dX12_field_99 : decode cX12_field 99 = .ok (.putfield 212, 3) := by decide +kernel
theorem dX12_field_102 : decode cX12_field 102 = .ok (.aload_n 0, 1) := by decide +kernel
theorem dX12_field_103 : decode cX12_field 103 = .ok (.getfield 239, 3) := by decide +kernel
theorem dX12_field_106 : decode cX12_field 106 = .ok (.ifCond .eq 12, 3) := by decide +kernel
theorem dX12_field_109 : decode cX12_field 109 = .ok (.iconst (-1), 1) := by decide +kernel
theorem dX12_field_110 : decode cX12_field 110 = .ok (.aload_n 0, 1) := by decide +kernel
theorem dX12_field_111 : decode cX12_field 111 = .ok (.getfield 227, 3) := by decide +kernel
theorem dX12_field_114 : decode cX12_field 114 = .ok (.isub, 1) := by decide +kernel
theorem dX12_field_115 : decode cX12_field 115 = .ok (.goto 4, 3) := by decide +kernel
theorem dX12_field_118 : decode cX12_field 118 = .ok (.iload_n 1, 1) := by decide +kernel
theorem dX12_field_119 : decode cX12_field 119 = .ok (.ireturn, 1) := by decide +kernel
theorem dX12_isOne_0 : decode cX12_isOne 0 = .ok (.iload_n 0, 1) := by decide +kernel
theorem dX12_isOne_1 : decode cX12_isOne 1 = .ok (.i2l, 1) := by decide +kernel
theorem dX12_isOne_2 : decode cX12_isOne 2 = .ok (.lconst 0, 1) := by decide +kernel
theorem dX12_isOne_3 : decode cX12_isOne 3 = .ok (.ldc2_w 62, 3) := by decide +kernel
theorem dX12_isOne_6 : decode cX12_isOne 6 = .ok (.invokestatic 56, 3) := by decide +kernel
theorem dX12_isOne_9 : decode cX12_isOne 9 = .ok (.ireturn, 1) := by decide +kernel
theorem dX12_sheet_0 : decode cX12_sheet 0 = .ok (.iload_n 1, 1) := by decide +kernel
theorem dX12_sheet_1 : decode cX12_sheet 1 = .ok (.invokestatic 310, 3) := by decide +kernel
theorem dX12_sheet_4 : decode cX12_sheet 4 = .ok (.ifCond .eq 25, 3) := by decide +kernel
theorem dX12_sheet_7 : decode cX12_sheet 7 = .ok (.iload_n 2, 1) := by decide +kernel
theorem dX12_sheet_8 : decode cX12_sheet 8 = .ok (.ifCond .eq 28, 3) := by decide +kernel
theorem dX12_sheet_11 : decode cX12_sheet 11 = .ok (.iload_n 2, 1) := by decide +kernel
theorem dX12_sheet_12 : decode cX12_sheet 12 = .ok (.bipush 8, 2) := by decide +kernel
theorem dX12_sheet_14 : decode cX12_sheet 14 = .ok (.if_icmp .eq 22, 3) := by decide +kernel
theorem dX12_sheet_17 : decode cX12_sheet 17 = .ok (.iload_n 2, 1) := by decide +kernel
theorem dX12_sheet_18 : decode cX12_sheet 18 = .ok (.bipush 16, 2) := by decide +kernel
theorem dX12_sheet_20 : decode cX12_sheet 20 = .ok (.if_icmp .eq 16, 3) := by decide +kernel
theorem dX12_sheet_23 : decode cX12_sheet 23 = .ok (.iload_n 2, 1) := by decide +kernel
theorem dX12_sheet_24 : decode cX12_sheet 24 = .ok (.bipush 64, 2) := by decide +kernel
theorem dX12_sheet_26 : decode cX12_sheet 26 = .ok (.if_icmp .eq 10, 3) := by decide +kernel
theorem dX12_sheet_29 : decode cX12_sheet 29 = .ok (.aload_n 0, 1) := by decide +kernel
theorem dX12_sheet_30 : decode cX12_sheet 30 = .ok (.ldc 53, 2) := by decide +kernel
theorem dX12_sheet_32 : decode cX12_sheet 32 = .ok (.invokevirtual 121, 3) := by decide +kernel
theorem dX12_sheet_35 : decode cX12_sheet 35 = .ok (.ireturn, 1) := by decide +kernel
theorem dX12_sheet_36 : decode cX12_sheet 36 = .ok (.iload_n 3, 1) := by decide +kernel
theorem dX12_sheet_37 : decode cX12_sheet 37 = .ok (.ifCond .ge 11, 3) := by decide +kernel
theorem dX12_sheet_40 : decode cX12_sheet 40 = .ok (.aload_n 0, 1) := by decide +kernel
theorem dX12_sheet_41 : decode cX12_sheet 41 = .ok (.ldc_w 313, 3) := by decide +kernel
theorem dX12_sheet_44 : decode cX12_sheet 44 = .ok (.invokevirtual 121, 3) := by decide +kernel
theorem dX12_sheet_47 : decode cX12_sheet 47 = .ok (.ireturn, 1) := by decide +kernel
theorem dX12_sheet_48 : decode cX12_sheet 48 = .ok (.iload_n 3, 1) := by decide +kernel
theorem dX12_sheet_49 : decode cX12_sheet 49 = .ok (.bipush 40, 2) := by decide +kernel
theorem dX12_sheet_51 : decode cX12_sheet 51 = .ok (.if_icmp .le 10, 3) := by decide +kernel
theorem dX12_sheet_54 : decode cX12_sheet 54 = .ok (.aload_n 0, 1) := by decide +kernel
theorem dX12_sheet_55 : decode cX12_sheet 55 = .ok (.ldc 53, 2) := by decide +kernel
theorem dX12_sheet_57 : decode cX12_sheet 57 = .ok (.invokevirtual 121, 3) := by decide +kernel
theorem dX12_sheet_60 : decode cX12_sheet 60 = .ok (.ireturn, 1) := by decide +kernel
theorem dX12_sheet_61 : decode cX12_sheet 61 = .ok (.aload_n 0, 1) := by decide +kernel
theorem dX12_sheet_62 : decode cX12_sheet 62 = .ok (.getfield 41, 3) := by decide +kernel
theorem dX12_sheet_65 : decode cX12_sheet 65 = .ok (.iload_n 1, 1) := by decide +kernel
theorem dX12_sheet_66 : decode cX12_sheet 66 = .ok (.iload_n 2, 1) := by decide +kernel
theorem dX12_sheet_67 : decode cX12_sheet 67 = .ok (.iastore, 1) := by decide +kernel
theorem dX12_sheet_68 : decode cX12_sheet 68 = .ok (.aload_n 0, 1) := by decide +kernel
theorem dX12_sheet_69 : decode cX12_sheet 69 = .ok (.getfield 44, 3) := by decide +kernel
theorem dX12_sheet_72 : decode cX12_sheet 72 = .ok (.iload_n 1, 1) := by decide +kernel
theorem dX12_sheet_73 : decode cX12_sheet 73 = .ok (.iload_n 2, 1) := by decide +kernel
theorem dX12_sheet_74 : decode cX12_sheet 74 = .ok (.ifCond .ne 7, 3) := by decide +kernel
theorem dX12_sheet_77 : decode cX12_sheet 77 = .ok (.iconst 0, 1) := by decide +kernel
theorem dX12_sheet_78 : decode cX12_sheet 78 = .ok (.goto 4, 3) := by decide +kernel
theorem dX12_sheet_81 : decode cX12_sheet 81 = .ok (.iload_n 3, 1) := by decide +kernel
theorem dX12_sheet_82 : decode cX12_sheet 82 = .ok (.iastore, 1) := by decide +kernel
theorem dX12_sheet_83 : decode cX12_sheet 83 = .ok (.iconst 0, 1) := by decide +kernel
theorem dX12_sheet_84 : decode cX12_sheet 84 = .ok (.istore 4, 2) := by decide +kernel
theorem dX12_sheet_86 : decode cX12_sheet 86 = .ok (.iload 4, 2) := by decide +kernel
theorem dX12_sheet_88 : decode cX12_sheet 88 = .ok (.bipush 40, 2) := by decide +kernel
theorem dX12_sheet_90 : decode cX12_sheet 90 = .ok (.if_icmp .ge 22, 3) := by decide +kernel
theorem dX12_sheet_93 : decode cX12_sheet 93 = .ok (.aload_n 0, 1) := by decide +kernel
theorem dX12_sheet_94 : decode cX12_sheet 94 = .ok (.getfield 47, 3) := by decide +kernel
theorem dX12_sheet_97 : decode cX12_sheet 97 = .ok (.bipush 40, 2) := by decide +kernel
theorem dX12_sheet_99 : decode cX12_sheet 99 = .ok (.iload_n 1, 1) := by decide +kernel
theorem dX12_sheet_100 : decode cX12_sheet 100 = .ok (.imul, 1) := by decide +kernel
theorem dX12_sheet_101 : decode cX12_sheet 101 = .ok (.iload 4, 2) := by decide +kernel
theorem dX12_sheet_103 : decode cX12_sheet 103 = .ok (.iadd, 1) := by decide +kernel
theorem dX12_sheet_104 : decode cX12_sheet 104 = .ok (.lconst 0, 1) := by decide +kernel
theorem dX12_sheet_105 : decode cX12_sheet 105 = .ok (.lastore, 1) := by decide +kernel
theorem dX12_sheet_106 : decode cX12_sheet 106 = .ok (.iinc 4 1, 3) := by decide +kernel
theorem dX12_sheet_109 : decode cX12_sheet 109 = .ok (.goto (-23), 3) := by decide +kernel
theorem dX12_sheet_112 : decode cX12_sheet 112 = .ok (.aload_n 0, 1) := by decide +kernel
theorem dX12_sheet_113 : decode cX12_sheet 113 = .ok (.getfield 44, 3) := by decide +kernel
theorem dX12_sheet_116 : decode cX12_sheet 116 = .ok (.iload_n 1, 1) := by decide +kernel
theorem dX12_sheet_117 : decode cX12_sheet 117 = .ok (.iaload, 1) := by decide +kernel
theorem dX12_sheet_118 : decode cX12_sheet 118 = .ok (.ireturn, 1) := by decide +kernel
theorem dX12_narrowed_0 : decode cX12_narrowed 0 = .ok (.iload_n 0, 1) := by decide +kernel
theorem dX12_narrowed_1 : decode cX12_narrowed 1 = .ok (.bipush 8, 2) := by decide +kernel
theorem dX12_narrowed_3 : decode cX12_narrowed 3 = .ok (.if_icmp .ne 10, 3) := by decide +kernel
theorem dX12_narrowed_6 : decode cX12_narrowed 6 = .ok (.lload_n 1, 1) := by decide +kernel
theorem dX12_narrowed_7 : decode cX12_narrowed 7 = .ok (.l2i, 1) := by decide +kernel
theorem dX12_narrowed_8 : decode cX12_narrowed 8 = .ok (.i2b, 1) := by decide +kernel
theorem dX12_narrowed_9 : decode cX12_narrowed 9 = .ok (.i2l, 1) := by decide +kernel
theorem dX12_narrowed_10 : decode cX12_narrowed 10 = .ok (.goto 17, 3) := by decide +kernel
theorem dX12_narrowed_13 : decode cX12_narrowed 13 = .ok (.iload_n 0, 1) := by decide +kernel
theorem dX12_narrowed_14 : decode cX12_narrowed 14 = .ok (.bipush 16, 2) := by decide +kernel
theorem dX12_narrowed_16 : decode cX12_narrowed 16 = .ok (.if_icmp .ne 10, 3) := by decide +kernel
theorem dX12_narrowed_19 : decode cX12_narrowed 19 = .ok (.lload_n 1, 1) := by decide +kernel
theorem dX12_narrowed_20 : decode cX12_narrowed 20 = .ok (.l2i, 1) := by decide +kernel
theorem dX12_narrowed_21 : decode cX12_narrowed 21 = .ok (.i2s, 1) := by decide +kernel
theorem dX12_narrowed_22 : decode cX12_narrowed 22 = .ok (.i2l, 1) := by decide +kernel
theorem dX12_narrowed_23 : decode cX12_narrowed 23 = .ok (.goto 4, 3) := by decide +kernel
theorem dX12_narrowed_26 : decode cX12_narrowed 26 = .ok (.lload_n 1, 1) := by decide +kernel
theorem dX12_narrowed_27 : decode cX12_narrowed 27 = .ok (.lreturn, 1) := by decide +kernel
theorem dX12_wrong_0 : decode cX12_wrong 0 = .ok (.iload_n 1, 1) := by decide +kernel
theorem dX12_wrong_1 : decode cX12_wrong 1 = .ok (.invokestatic 310, 3) := by decide +kernel
theorem dX12_wrong_4 : decode cX12_wrong 4 = .ok (.ifCond .ne 8, 3) := by decide +kernel
theorem dX12_wrong_7 : decode cX12_wrong 7 = .ok (.ldc 53, 2) := by decide +kernel
theorem dX12_wrong_9 : decode cX12_wrong 9 = .ok (.goto 19, 3) := by decide +kernel
theorem dX12_wrong_12 : decode cX12_wrong 12 = .ok (.aload_n 0, 1) := by decide +kernel
theorem dX12_wrong_13 : decode cX12_wrong 13 = .ok (.getfield 41, 3) := by decide +kernel
theorem dX12_wrong_16 : decode cX12_wrong 16 = .ok (.iload_n 1, 1) := by decide +kernel
theorem dX12_wrong_17 : decode cX12_wrong 17 = .ok (.iaload, 1) := by decide +kernel
theorem dX12_wrong_18 : decode cX12_wrong 18 = .ok (.ifCond .ne 9, 3) := by decide +kernel
theorem dX12_wrong_21 : decode cX12_wrong 21 = .ok (.ldc_w 314, 3) := by decide +kernel
theorem dX12_wrong_24 : decode cX12_wrong 24 = .ok (.goto 4, 3) := by decide +kernel
theorem dX12_wrong_27 : decode cX12_wrong 27 = .ok (.iconst 0, 1) := by decide +kernel
theorem dX12_wrong_28 : decode cX12_wrong 28 = .ok (.ireturn, 1) := by decide +kernel
theorem dX12_write_0 : decode cX12_write 0 = .ok (.aload_n 0, 1) := by decide +kernel
theorem dX12_write_1 : decode cX12_write 1 = .ok (.iload_n 1, 1) := by decide +kernel
theorem dX12_write_2 : decode cX12_write 2 = .ok (.invokevirtual 315, 3) := by decide +kernel
theorem dX12_write_5 : decode cX12_write 5 = .ok (.istore 5, 2) := by decide +kernel
theorem dX12_write_7 : decode cX12_write 7 = .ok (.iload 5, 2) := by decide +kernel
theorem dX12_write_9 : decode cX12_write 9 = .ok (.ifCond .eq 11, 3) := by decide +kernel
theorem dX12_write_12 : decode cX12_write 12 = .ok (.aload_n 0, 1) := by decide +kernel
theorem dX12_write_13 : decode cX12_write 13 = .ok (.iload 5, 2) := by decide +kernel
theorem dX12_write_15 : decode cX12_write 15 = .ok (.invokevirtual 121, 3) := by decide +kernel
theorem dX12_write_18 : decode cX12_write 18 = .ok (.i2l, 1) := by decide +kernel
theorem dX12_write_19 : decode cX12_write 19 = .ok (.lreturn, 1) := by decide +kernel
theorem dX12_write_20 : decode cX12_write 20 = .ok (.iload_n 2, 1) := by decide +kernel
theorem dX12_write_21 : decode cX12_write 21 = .ok (.i2l, 1) := by decide +kernel
theorem dX12_write_22 : decode cX12_write 22 = .ok (.lconst 0, 1) := by decide +kernel
theorem dX12_write_23 : decode cX12_write 23 = .ok (.aload_n 0, 1) := by decide +kernel
theorem dX12_write_24 : decode cX12_write 24 = .ok (.getfield 44, 3) := by decide +kernel
theorem dX12_write_27 : decode cX12_write 27 = .ok (.iload_n 1, 1) := by decide +kernel
theorem dX12_write_28 : decode cX12_write 28 = .ok (.iaload, 1) := by decide +kernel
theorem dX12_write_29 : decode cX12_write 29 = .ok (.iconst 1, 1) := by decide +kernel
theorem dX12_write_30 : decode cX12_write 30 = .ok (.isub, 1) := by decide +kernel
theorem dX12_write_31 : decode cX12_write 31 = .ok (.i2l, 1) := by decide +kernel
theorem dX12_write_32 : decode cX12_write 32 = .ok (.invokestatic 56, 3) := by decide +kernel
theorem dX12_write_35 : decode cX12_write 35 = .ok (.ifCond .ne 11, 3) := by decide +kernel
theorem dX12_write_38 : decode cX12_write 38 = .ok (.aload_n 0, 1) := by decide +kernel
theorem dX12_write_39 : decode cX12_write 39 = .ok (.ldc 53, 2) := by decide +kernel
theorem dX12_write_41 : decode cX12_write 41 = .ok (.invokevirtual 121, 3) := by decide +kernel
theorem dX12_write_44 : decode cX12_write 44 = .ok (.i2l, 1) := by decide +kernel
theorem dX12_write_45 : decode cX12_write 45 = .ok (.lreturn, 1) := by decide +kernel
theorem dX12_write_46 : decode cX12_write 46 = .ok (.aload_n 0, 1) := by decide +kernel
theorem dX12_write_47 : decode cX12_write 47 = .ok (.getfield 47, 3) := by decide +kernel
theorem dX12_write_50 : decode cX12_write 50 = .ok (.bipush 40, 2) := by decide +kernel
theorem dX12_write_52 : decode cX12_write 52 = .ok (.iload_n 1, 1) := by decide +kernel
theorem dX12_write_53 : decode cX12_write 53 = .ok (.imul, 1) := by decide +kernel
theorem dX12_write_54 : decode cX12_write 54 = .ok (.iload_n 2, 1) := by decide +kernel
theorem dX12_write_55 : decode cX12_write 55 = .ok (.iadd, 1) := by decide +kernel
theorem dX12_write_56 : decode cX12_write 56 = .ok (.laload, 1) := by decide +kernel
theorem dX12_write_57 : decode cX12_write 57 = .ok (.lstore 6, 2) := by decide +kernel
theorem dX12_write_59 : decode cX12_write 59 = .ok (.aload_n 0, 1) := by decide +kernel
theorem dX12_write_60 : decode cX12_write 60 = .ok (.getfield 47, 3) := by decide +kernel
theorem dX12_write_63 : decode cX12_write 63 = .ok (.bipush 40, 2) := by decide +kernel
theorem dX12_write_65 : decode cX12_write 65 = .ok (.iload_n 1, 1) := by decide +kernel
theorem dX12_write_66 : decode cX12_write 66 = .ok (.imul, 1) := by decide +kernel
theorem dX12_write_67 : decode cX12_write 67 = .ok (.iload_n 2, 1) := by decide +kernel
theorem dX12_write_68 : decode cX12_write 68 = .ok (.iadd, 1) := by decide +kernel
theorem dX12_write_69 : decode cX12_write 69 = .ok (.aload_n 0, 1) := by decide +kernel
theorem dX12_write_70 : decode cX12_write 70 = .ok (.getfield 41, 3) := by decide +kernel
theorem dX12_write_73 : decode cX12_write 73 = .ok (.iload_n 1, 1) := by decide +kernel
theorem dX12_write_74 : decode cX12_write 74 = .ok (.iaload, 1) := by decide +kernel
theorem dX12_write_75 : decode cX12_write 75 = .ok (.lload_n 3, 1) := by decide +kernel
theorem dX12_write_76 : decode cX12_write 76 = .ok (.invokestatic 318, 3) := by decide +kernel
theorem dX12_write_79 : decode cX12_write 79 = .ok (.lastore, 1) := by decide +kernel
theorem dX12_write_80 : decode cX12_write 80 = .ok (.lload 6, 2) := by decide +kernel
theorem dX12_write_82 : decode cX12_write 82 = .ok (.lreturn, 1) := by decide +kernel
theorem dX12_copy_0 : decode cX12_copy 0 = .ok (.iload_n 1, 1) := by decide +kernel
theorem dX12_copy_1 : decode cX12_copy 1 = .ok (.invokestatic 310, 3) := by decide +kernel
theorem dX12_copy_4 : decode cX12_copy 4 = .ok (.ifCond .eq 10, 3) := by decide +kernel
theorem dX12_copy_7 : decode cX12_copy 7 = .ok (.iload_n 3, 1) := by decide +kernel
theorem dX12_copy_8 : decode cX12_copy 8 = .ok (.invokestatic 310, 3) := by decide +kernel
theorem dX12_copy_11 : decode cX12_copy 11 = .ok (.ifCond .ne 10, 3) := by decide +kernel
theorem dX12_copy_14 : decode cX12_copy 14 = .ok (.aload_n 0, 1) := by decide +kernel
theorem dX12_copy_15 : decode cX12_copy 15 = .ok (.ldc 53, 2) := by decide +kernel
theorem dX12_copy_17 : decode cX12_copy 17 = .ok (.invokevirtual 121, 3) := by decide +kernel
theorem dX12_copy_20 : decode cX12_copy 20 = .ok (.ireturn, 1) := by decide +kernel
theorem dX12_copy_21 : decode cX12_copy 21 = .ok (.aload_n 0, 1) := by decide +kernel
theorem dX12_copy_22 : decode cX12_copy 22 = .ok (.getfield 41, 3) := by decide +kernel
theorem dX12_copy_25 : decode cX12_copy 25 = .ok (.iload_n 1, 1) := by decide +kernel
theorem dX12_copy_26 : decode cX12_copy 26 = .ok (.iaload, 1) := by decide +kernel
theorem dX12_copy_27 : decode cX12_copy 27 = .ok (.ifCond .eq 12, 3) := by decide +kernel
theorem dX12_copy_30 : decode cX12_copy 30 = .ok (.aload_n 0, 1) := by decide +kernel
theorem dX12_copy_31 : decode cX12_copy 31 = .ok (.getfield 41, 3) := by decide +kernel
theorem dX12_copy_34 : decode cX12_copy 34 = .ok (.iload_n 3, 1) := by decide +kernel
theorem dX12_copy_35 : decode cX12_copy 35 = .ok (.iaload, 1) := by decide +kernel
theorem dX12_copy_36 : decode cX12_copy 36 = .ok (.ifCond .ne 11, 3) := by decide +kernel
theorem dX12_copy_39 : decode cX12_copy 39 = .ok (.aload_n 0, 1) := by decide +kernel
theorem dX12_copy_40 : decode cX12_copy 40 = .ok (.ldc_w 314, 3) := by decide +kernel
theorem dX12_copy_43 : decode cX12_copy 43 = .ok (.invokevirtual 121, 3) := by decide +kernel
theorem dX12_copy_46 : decode cX12_copy 46 = .ok (.ireturn, 1) := by decide +kernel
theorem dX12_copy_47 : decode cX12_copy 47 = .ok (.aload_n 0, 1) := by decide +kernel
theorem dX12_copy_48 : decode cX12_copy 48 = .ok (.getfield 41, 3) := by decide +kernel
theorem dX12_copy_51 : decode cX12_copy 51 = .ok (.iload_n 1, 1) := by decide +kernel
theorem dX12_copy_52 : decode cX12_copy 52 = .ok (.iaload, 1) := by decide +kernel
theorem dX12_copy_53 : decode cX12_copy 53 = .ok (.aload_n 0, 1) := by decide +kernel
theorem dX12_copy_54 : decode cX12_copy 54 = .ok (.getfield 41, 3) := by decide +kernel
theorem dX12_copy_57 : decode cX12_copy 57 = .ok (.iload_n 3, 1) := by decide +kernel
theorem dX12_copy_58 : decode cX12_copy 58 = .ok (.iaload, 1) := by decide +kernel
theorem dX12_copy_59 : decode cX12_copy 59 = .ok (.if_icmp .eq 10, 3) := by decide +kernel
theorem dX12_copy_62 : decode cX12_copy 62 = .ok (.aload_n 0, 1) := by decide +kernel
theorem dX12_copy_63 : decode cX12_copy 63 = .ok (.ldc 172, 2) := by decide +kernel
theorem dX12_copy_65 : decode cX12_copy 65 = .ok (.invokevirtual 121, 3) := by decide +kernel
theorem dX12_copy_68 : decode cX12_copy 68 = .ok (.ireturn, 1) := by decide +kernel
theorem dX12_copy_69 : decode cX12_copy 69 = .ok (.iload_n 2, 1) := by decide +kernel
theorem dX12_copy_70 : decode cX12_copy 70 = .ok (.ifCond .lt 40, 3) := by decide +kernel
theorem dX12_copy_73 : decode cX12_copy 73 = .ok (.iload 4, 2) := by decide +kernel
theorem dX12_copy_75 : decode cX12_copy 75 = .ok (.ifCond .lt 35, 3) := by decide +kernel
theorem dX12_copy_78 : decode cX12_copy 78 = .ok (.iload 5, 2) := by decide +kernel
theorem dX12_copy_80 : decode cX12_copy 80 = .ok (.ifCond .lt 30, 3) := by decide +kernel
theorem dX12_copy_83 : decode cX12_copy 83 = .ok (.iload 5, 2) := by decide +kernel
theorem dX12_copy_85 : decode cX12_copy 85 = .ok (.aload_n 0, 1) := by decide +kernel
theorem dX12_copy_86 : decode cX12_copy 86 = .ok (.getfield 44, 3) := by decide +kernel
theorem dX12_copy_89 : decode cX12_copy 89 = .ok (.iload_n 1, 1) := by decide +kernel
theorem dX12_copy_90 : decode cX12_copy 90 = .ok (.iaload, 1) := by decide +kernel
theorem dX12_copy_91 : decode cX12_copy 91 = .ok (.iload_n 2, 1) := by decide +kernel
theorem dX12_copy_92 : decode cX12_copy 92 = .ok (.isub, 1) := by decide +kernel
theorem dX12_copy_93 : decode cX12_copy 93 = .ok (.if_icmp .gt 17, 3) := by decide +kernel
theorem dX12_copy_96 : decode cX12_copy 96 = .ok (.iload 5, 2) := by decide +kernel
theorem dX12_copy_98 : decode cX12_copy 98 = .ok (.aload_n 0, 1) := by decide +kernel
theorem dX12_copy_99 : decode cX12_copy 99 = .ok (.getfield 44, 3) := by decide +kernel
theorem dX12_copy_102 : decode cX12_copy 102 = .ok (.iload_n 3, 1) := by decide +kernel
theorem dX12_copy_103 : decode cX12_copy 103 = .ok (.iaload, 1) := by decide +kernel
theorem dX12_copy_104 : decode cX12_copy 104 = .ok (.iload 4, 2) := by decide +kernel
theorem dX12_copy_106 : decode cX12_copy 106 = .ok (.isub, 1) := by decide +kernel
theorem dX12_copy_107 : decode cX12_copy 107 = .ok (.if_icmp .le 10, 3) := by decide +kernel
theorem dX12_copy_110 : decode cX12_copy 110 = .ok (.aload_n 0, 1) := by decide +kernel
theorem dX12_copy_111 : decode cX12_copy 111 = .ok (.ldc 53, 2) := by decide +kernel
theorem dX12_copy_113 : decode cX12_copy 113 = .ok (.invokevirtual 121, 3) := by decide +kernel
theorem dX12_copy_116 : decode cX12_copy 116 = .ok (.ireturn, 1) := by decide +kernel
theorem dX12_copy_117 : decode cX12_copy 117 = .ok (.iconst 0, 1) := by decide +kernel
theorem dX12_copy_118 : decode cX12_copy 118 = .ok (.istore 6, 2) := by decide +kernel
theorem dX12_copy_120 : decode cX12_copy 120 = .ok (.iload 6, 2) := by decide +kernel
theorem dX12_copy_122 : decode cX12_copy 122 = .ok (.iload 5, 2) := by decide +kernel
theorem dX12_copy_124 : decode cX12_copy 124 = .ok (.if_icmp .ge 30, 3) := by decide +kernel
theorem dX12_copy_127 : decode cX12_copy 127 = .ok (.aload_n 0, 1) := by decide +kernel
theorem dX12_copy_128 : decode cX12_copy 128 = .ok (.getfield 50, 3) := by decide +kernel
theorem dX12_copy_131 : decode cX12_copy 131 = .ok (.iload 6, 2) := by decide +kernel
theorem dX12_copy_133 : decode cX12_copy 133 = .ok (.aload_n 0, 1) := by decide +kernel
theorem dX12_copy_134 : decode cX12_copy 134 = .ok (.getfield 47, 3) := by decide +kernel
theorem dX12_copy_137 : decode cX12_copy 137 = .ok (.bipush 40, 2) := by decide +kernel
theorem dX12_copy_139 : decode cX12_copy 139 = .ok (.iload_n 1, 1) := by decide +kernel
theorem dX12_copy_140 : decode cX12_copy 140 = .ok (.imul, 1) := by decide +kernel
theorem dX12_copy_141 : decode cX12_copy 141 = .ok (.iload_n 2, 1) := by decide +kernel
theorem dX12_copy_142 : decode cX12_copy 142 = .ok (.iadd, 1) := by decide +kernel
theorem dX12_copy_143 : decode cX12_copy 143 = .ok (.iload 6, 2) := by decide +kernel
theorem dX12_copy_145 : decode cX12_copy 145 = .ok (.iadd, 1) := by decide +kernel
theorem dX12_copy_146 : decode cX12_copy 146 = .ok (.laload, 1) := by decide +kernel
theorem dX12_copy_147 : decode cX12_copy 147 = .ok (.lastore, 1) := by decide +kernel
theorem dX12_copy_148 : decode cX12_copy 148 = .ok (.iinc 6 1, 3) := by decide +kernel
theorem dX12_copy_151 : decode cX12_copy 151 = .ok (.goto (-31), 3) := by decide +kernel
theorem dX12_copy_154 : decode cX12_copy 154 = .ok (.iconst 0, 1) := by decide +kernel
theorem dX12_copy_155 : decode cX12_copy 155 = .ok (.istore 6, 2) := by decide +kernel
theorem dX12_copy_157 : decode cX12_copy 157 = .ok (.iload 6, 2) := by decide +kernel
theorem dX12_copy_159 : decode cX12_copy 159 = .ok (.iload 5, 2) := by decide +kernel
theorem dX12_copy_161 : decode cX12_copy 161 = .ok (.if_icmp .ge 31, 3) := by decide +kernel
theorem dX12_copy_164 : decode cX12_copy 164 = .ok (.aload_n 0, 1) := by decide +kernel
theorem dX12_copy_165 : decode cX12_copy 165 = .ok (.getfield 47, 3) := by decide +kernel
theorem dX12_copy_168 : decode cX12_copy 168 = .ok (.bipush 40, 2) := by decide +kernel
theorem dX12_copy_170 : decode cX12_copy 170 = .ok (.iload_n 3, 1) := by decide +kernel
theorem dX12_copy_171 : decode cX12_copy 171 = .ok (.imul, 1) := by decide +kernel
theorem dX12_copy_172 : decode cX12_copy 172 = .ok (.iload 4, 2) := by decide +kernel
theorem dX12_copy_174 : decode cX12_copy 174 = .ok (.iadd, 1) := by decide +kernel
theorem dX12_copy_175 : decode cX12_copy 175 = .ok (.iload 6, 2) := by decide +kernel
theorem dX12_copy_177 : decode cX12_copy 177 = .ok (.iadd, 1) := by decide +kernel
theorem dX12_copy_178 : decode cX12_copy 178 = .ok (.aload_n 0, 1) := by decide +kernel
theorem dX12_copy_179 : decode cX12_copy 179 = .ok (.getfield 50, 3) := by decide +kernel
theorem dX12_copy_182 : decode cX12_copy 182 = .ok (.iload 6, 2) := by decide +kernel
theorem dX12_copy_184 : decode cX12_copy 184 = .ok (.laload, 1) := by decide +kernel
theorem dX12_copy_185 : decode cX12_copy 185 = .ok (.lastore, 1) := by decide +kernel
theorem dX12_copy_186 : decode cX12_copy 186 = .ok (.iinc 6 1, 3) := by decide +kernel
theorem dX12_copy_189 : decode cX12_copy 189 = .ok (.goto (-32), 3) := by decide +kernel
theorem dX12_copy_192 : decode cX12_copy 192 = .ok (.iload 5, 2) := by decide +kernel
theorem dX12_copy_194 : decode cX12_copy 194 = .ok (.ireturn, 1) := by decide +kernel
theorem dX12_lays_0 : decode cX12_lays 0 = .ok (.aload_n 0, 1) := by decide +kernel
theorem dX12_lays_1 : decode cX12_lays 1 = .ok (.iload_n 1, 1) := by decide +kernel
theorem dX12_lays_2 : decode cX12_lays 2 = .ok (.invokevirtual 315, 3) := by decide +kernel
theorem dX12_lays_5 : decode cX12_lays 5 = .ok (.istore_n 2, 1) := by decide +kernel
theorem dX12_lays_6 : decode cX12_lays 6 = .ok (.iload_n 2, 1) := by decide +kernel
theorem dX12_lays_7 : decode cX12_lays 7 = .ok (.ifCond .eq 9, 3) := by decide +kernel
theorem dX12_lays_10 : decode cX12_lays 10 = .ok (.aload_n 0, 1) := by decide +kernel
theorem dX12_lays_11 : decode cX12_lays 11 = .ok (.iload_n 2, 1) := by decide +kernel
theorem dX12_lays_12 : decode cX12_lays 12 = .ok (.invokevirtual 121, 3) := by decide +kernel
theorem dX12_lays_15 : decode cX12_lays 15 = .ok (.ireturn, 1) := by decide +kernel
theorem dX12_lays_16 : decode cX12_lays 16 = .ok (.iconst 0, 1) := by decide +kernel
theorem dX12_lays_17 : decode cX12_lays 17 = .ok (.istore_n 3, 1) := by decide +kernel
theorem dX12_lays_18 : decode cX12_lays 18 = .ok (.iconst 0, 1) := by decide +kernel
theorem dX12_lays_19 : decode cX12_lays 19 = .ok (.istore 4, 2) := by decide +kernel
theorem dX12_lays_21 : decode cX12_lays 21 = .ok (.iload 4, 2) := by decide +kernel
theorem dX12_lays_23 : decode cX12_lays 23 = .ok (.aload_n 0, 1) := by decide +kernel
theorem dX12_lays_24 : decode cX12_lays 24 = .ok (.getfield 44, 3) := by decide +kernel
theorem dX12_lays_27 : decode cX12_lays 27 = .ok (.iload_n 1, 1) := by decide +kernel
theorem dX12_lays_28 : decode cX12_lays 28 = .ok (.iaload, 1) := by decide +kernel
theorem dX12_lays_29 : decode cX12_lays 29 = .ok (.if_icmp .ge 93, 3) := by decide +kernel
theorem dX12_lays_32 : decode cX12_lays 32 = .ok (.iload 4, 2) := by decide +kernel
theorem dX12_lays_34 : decode cX12_lays 34 = .ok (.aload_n 0, 1) := by decide +kernel
theorem dX12_lays_35 : decode cX12_lays 35 = .ok (.getfield 7, 3) := by decide +kernel
theorem dX12_lays_38 : decode cX12_lays 38 = .ok (.iconst 0, 1) := by decide +kernel
theorem dX12_lays_39 : decode cX12_lays 39 = .ok (.iaload, 1) := by decide +kernel
theorem dX12_lays_40 : decode cX12_lays 40 = .ok (.if_icmp .ge 82, 3) := by decide +kernel
theorem dX12_lays_43 : decode cX12_lays 43 = .ok (.aload_n 0, 1) := by decide +kernel
theorem dX12_lays_44 : decode cX12_lays 44 = .ok (.getfield 47, 3) := by decide +kernel
theorem dX12_lays_47 : decode cX12_lays 47 = .ok (.bipush 40, 2) := by decide +kernel
theorem dX12_lays_49 : decode cX12_lays 49 = .ok (.iload_n 1, 1) := by decide +kernel
theorem dX12_lays_50 : decode cX12_lays 50 = .ok (.imul, 1) := by decide +kernel
theorem dX12_lays_51 : decode cX12_lays 51 = .ok (.iload 4, 2) := by decide +kernel
theorem dX12_lays_53 : decode cX12_lays 53 = .ok (.iadd, 1) := by decide +kernel
theorem dX12_lays_54 : decode cX12_lays 54 = .ok (.laload, 1) := by decide +kernel
theorem dX12_lays_55 : decode cX12_lays 55 = .ok (.lconst 0, 1) := by decide +kernel
theorem dX12_lays_56 : decode cX12_lays 56 = .ok (.ldc2_w 167, 3) := by decide +kernel
theorem dX12_lays_59 : decode cX12_lays 59 = .ok (.invokestatic 56, 3) := by decide +kernel
theorem dX12_lays_62 : decode cX12_lays 62 = .ok (.istore 5, 2) := by decide +kernel
theorem dX12_lays_64 : decode cX12_lays 64 = .ok (.aload_n 0, 1) := by decide +kernel
theorem dX12_lays_65 : decode cX12_lays 65 = .ok (.getfield 7, 3) := by decide +kernel
theorem dX12_lays_68 : decode cX12_lays 68 = .ok (.iload 4, 2) := by decide +kernel
theorem dX12_lays_70 : decode cX12_lays 70 = .ok (.iconst 2, 1) := by decide +kernel
theorem dX12_lays_71 : decode cX12_lays 71 = .ok (.invokestatic 64, 3) := by decide +kernel
theorem dX12_lays_74 : decode cX12_lays 74 = .ok (.iload 5, 2) := by decide +kernel
theorem dX12_lays_76 : decode cX12_lays 76 = .ok (.ifCond .eq 19, 3) := by decide +kernel
theorem dX12_lays_79 : decode cX12_lays 79 = .ok (.aload_n 0, 1) := by decide +kernel
theorem dX12_lays_80 : decode cX12_lays 80 = .ok (.getfield 47, 3) := by decide +kernel
theorem dX12_lays_83 : decode cX12_lays 83 = .ok (.bipush 40, 2) := by decide +kernel
theorem dX12_lays_85 : decode cX12_lays 85 = .ok (.iload_n 1, 1) := by decide +kernel
theorem dX12_lays_86 : decode cX12_lays 86 = .ok (.imul, 1) := by decide +kernel
theorem dX12_lays_87 : decode cX12_lays 87 = .ok (.iload 4, 2) := by decide +kernel
theorem dX12_lays_89 : decode cX12_lays 89 = .ok (.iadd, 1) := by decide +kernel
theorem dX12_lays_90 : decode cX12_lays 90 = .ok (.laload, 1) := by decide +kernel
theorem dX12_lays_91 : decode cX12_lays 91 = .ok (.l2i, 1) := by decide +kernel
theorem dX12_lays_92 : decode cX12_lays 92 = .ok (.goto 10, 3) := by decide +kernel
theorem dX12_lays_95 : decode cX12_lays 95 = .ok (.aload_n 0, 1) := by decide +kernel
theorem dX12_lays_96 : decode cX12_lays 96 = .ok (.iload 4, 2) := by decide +kernel
theorem dX12_lays_98 : decode cX12_lays 98 = .ok (.iconst 2, 1) := by decide +kernel
theorem dX12_lays_99 : decode cX12_lays 99 = .ok (.invokevirtual 68, 3) := by decide +kernel
theorem dX12_lays_102 : decode cX12_lays 102 = .ok (.iastore, 1) := by decide +kernel
theorem dX12_lays_103 : decode cX12_lays 103 = .ok (.iload_n 3, 1) := by decide +kernel
theorem dX12_lays_104 : decode cX12_lays 104 = .ok (.iload 5, 2) := by decide +kernel
theorem dX12_lays_106 : decode cX12_lays 106 = .ok (.ifCond .eq 7, 3) := by decide +kernel
theorem dX12_lays_109 : decode cX12_lays 109 = .ok (.iconst 1, 1) := by decide +kernel
theorem dX12_lays_110 : decode cX12_lays 110 = .ok (.goto 4, 3) := by decide +kernel
theorem dX12_lays_113 : decode cX12_lays 113 = .ok (.iconst 0, 1) := by decide +kernel
theorem dX12_lays_114 : decode cX12_lays 114 = .ok (.iadd, 1) := by decide +kernel
theorem dX12_lays_115 : decode cX12_lays 115 = .ok (.istore_n 3, 1) := by decide +kernel
theorem dX12_lays_116 : decode cX12_lays 116 = .ok (.iinc 4 1, 3) := by decide +kernel
theorem dX12_lays_119 : decode cX12_lays 119 = .ok (.goto (-98), 3) := by decide +kernel
theorem dX12_lays_122 : decode cX12_lays 122 = .ok (.iload_n 3, 1) := by decide +kernel
theorem dX12_lays_123 : decode cX12_lays 123 = .ok (.ireturn, 1) := by decide +kernel
theorem dX12_book_0 : decode cX12_book 0 = .ok (.aload_n 0, 1) := by decide +kernel
theorem dX12_book_1 : decode cX12_book 1 = .ok (.iload_n 1, 1) := by decide +kernel
theorem dX12_book_2 : decode cX12_book 2 = .ok (.invokevirtual 315, 3) := by decide +kernel
theorem dX12_book_5 : decode cX12_book 5 = .ok (.istore_n 3, 1) := by decide +kernel
theorem dX12_book_6 : decode cX12_book 6 = .ok (.iload_n 3, 1) := by decide +kernel
theorem dX12_book_7 : decode cX12_book 7 = .ok (.ifCond .ne 16, 3) := by decide +kernel
theorem dX12_book_10 : decode cX12_book 10 = .ok (.aload_n 0, 1) := by decide +kernel
theorem dX12_book_11 : decode cX12_book 11 = .ok (.iload_n 2, 1) := by decide +kernel
theorem dX12_book_12 : decode cX12_book 12 = .ok (.invokevirtual 143, 3) := by decide +kernel
theorem dX12_book_15 : decode cX12_book 15 = .ok (.ifCond .ne 8, 3) := by decide +kernel
theorem dX12_book_18 : decode cX12_book 18 = .ok (.ldc 53, 2) := by decide +kernel
theorem dX12_book_20 : decode cX12_book 20 = .ok (.goto 4, 3) := by decide +kernel
theorem dX12_book_23 : decode cX12_book 23 = .ok (.iload_n 3, 1) := by decide +kernel
theorem dX12_book_24 : decode cX12_book 24 = .ok (.istore_n 3, 1) := by decide +kernel
theorem dX12_book_25 : decode cX12_book 25 = .ok (.iload_n 3, 1) := by decide +kernel
theorem dX12_book_26 : decode cX12_book 26 = .ok (.ifCond .eq 9, 3) := by decide +kernel
theorem dX12_book_29 : decode cX12_book 29 = .ok (.aload_n 0, 1) := by decide +kernel
theorem dX12_book_30 : decode cX12_book 30 = .ok (.iload_n 3, 1) := by decide +kernel
theorem dX12_book_31 : decode cX12_book 31 = .ok (.invokevirtual 121, 3) := by decide +kernel
theorem dX12_book_34 : decode cX12_book 34 = .ok (.ireturn, 1) := by decide +kernel
theorem dX12_book_35 : decode cX12_book 35 = .ok (.aload_n 0, 1) := by decide +kernel
theorem dX12_book_36 : decode cX12_book 36 = .ok (.invokevirtual 191, 3) := by decide +kernel
theorem dX12_book_39 : decode cX12_book 39 = .ok (.iconst 0, 1) := by decide +kernel
theorem dX12_book_40 : decode cX12_book 40 = .ok (.istore 4, 2) := by decide +kernel
theorem dX12_book_42 : decode cX12_book 42 = .ok (.iload 4, 2) := by decide +kernel
theorem dX12_book_44 : decode cX12_book 44 = .ok (.aload_n 0, 1) := by decide +kernel
theorem dX12_book_45 : decode cX12_book 45 = .ok (.getfield 44, 3) := by decide +kernel
theorem dX12_book_48 : decode cX12_book 48 = .ok (.iload_n 1, 1) := by decide +kernel
theorem dX12_book_49 : decode cX12_book 49 = .ok (.iaload, 1) := by decide +kernel
theorem dX12_book_50 : decode cX12_book 50 = .ok (.if_icmp .ge 41, 3) := by decide +kernel
theorem dX12_book_53 : decode cX12_book 53 = .ok (.aload_n 0, 1) := by decide +kernel
theorem dX12_book_54 : decode cX12_book 54 = .ok (.getfield 47, 3) := by decide +kernel
theorem dX12_book_57 : decode cX12_book 57 = .ok (.bipush 40, 2) := by decide +kernel
theorem dX12_book_59 : decode cX12_book 59 = .ok (.iload_n 1, 1) := by decide +kernel
theorem dX12_book_60 : decode cX12_book 60 = .ok (.imul, 1) := by decide +kernel
theorem dX12_book_61 : decode cX12_book 61 = .ok (.iload 4, 2) := by decide +kernel
theorem dX12_book_63 : decode cX12_book 63 = .ok (.iadd, 1) := by decide +kernel
theorem dX12_book_64 : decode cX12_book 64 = .ok (.aload_n 0, 1) := by decide +kernel
theorem dX12_book_65 : decode cX12_book 65 = .ok (.getfield 41, 3) := by decide +kernel
theorem dX12_book_68 : decode cX12_book 68 = .ok (.iload_n 1, 1) := by decide +kernel
theorem dX12_book_69 : decode cX12_book 69 = .ok (.iaload, 1) := by decide +kernel
theorem dX12_book_70 : decode cX12_book 70 = .ok (.aload_n 0, 1) := by decide +kernel
theorem dX12_book_71 : decode cX12_book 71 = .ok (.iload_n 2, 1) := by decide +kernel
theorem dX12_book_72 : decode cX12_book 72 = .ok (.iconst 3, 1) := by decide +kernel
theorem dX12_book_73 : decode cX12_book 73 = .ok (.invokevirtual 68, 3) := by decide +kernel
theorem dX12_book_76 : decode cX12_book 76 = .ok (.i2l, 1) := by decide +kernel
theorem dX12_book_77 : decode cX12_book 77 = .ok (.invokestatic 318, 3) := by decide +kernel
theorem dX12_book_80 : decode cX12_book 80 = .ok (.lastore, 1) := by decide +kernel
theorem dX12_book_81 : decode cX12_book 81 = .ok (.aload_n 0, 1) := by decide +kernel
theorem dX12_book_82 : decode cX12_book 82 = .ok (.invokevirtual 174, 3) := by decide +kernel
theorem dX12_book_85 : decode cX12_book 85 = .ok (.iinc 4 1, 3) := by decide +kernel
theorem dX12_book_88 : decode cX12_book 88 = .ok (.goto (-46), 3) := by decide +kernel
theorem dX12_book_91 : decode cX12_book 91 = .ok (.aload_n 0, 1) := by decide +kernel
theorem dX12_book_92 : decode cX12_book 92 = .ok (.aload_n 0, 1) := by decide +kernel
theorem dX12_book_93 : decode cX12_book 93 = .ok (.getfield 44, 3) := by decide +kernel
theorem dX12_book_96 : decode cX12_book 96 = .ok (.iload_n 1, 1) := by decide +kernel
theorem dX12_book_97 : decode cX12_book 97 = .ok (.iaload, 1) := by decide +kernel
theorem dX12_book_98 : decode cX12_book 98 = .ok (.invokevirtual 197, 3) := by decide +kernel
theorem dX12_book_101 : decode cX12_book 101 = .ok (.ireturn, 1) := by decide +kernel
theorem dX12_isBook_0 : decode cX12_isBook 0 = .ok (.iconst 0, 1) := by decide +kernel
theorem dX12_isBook_1 : decode cX12_isBook 1 = .ok (.istore_n 3, 1) := by decide +kernel
theorem dX12_isBook_2 : decode cX12_isBook 2 = .ok (.iload_n 3, 1) := by decide +kernel
theorem dX12_isBook_3 : decode cX12_isBook 3 = .ok (.aload_n 0, 1) := by decide +kernel
theorem dX12_isBook_4 : decode cX12_isBook 4 = .ok (.getfield 44, 3) := by decide +kernel
theorem dX12_isBook_7 : decode cX12_isBook 7 = .ok (.iload_n 1, 1) := by decide +kernel
theorem dX12_isBook_8 : decode cX12_isBook 8 = .ok (.iaload, 1) := by decide +kernel
theorem dX12_isBook_9 : decode cX12_isBook 9 = .ok (.if_icmp .ge 37, 3) := by decide +kernel
theorem dX12_isBook_12 : decode cX12_isBook 12 = .ok (.aload_n 0, 1) := by decide +kernel
theorem dX12_isBook_13 : decode cX12_isBook 13 = .ok (.getfield 47, 3) := by decide +kernel
theorem dX12_isBook_16 : decode cX12_isBook 16 = .ok (.bipush 40, 2) := by decide +kernel
theorem dX12_isBook_18 : decode cX12_isBook 18 = .ok (.iload_n 1, 1) := by decide +kernel
theorem dX12_isBook_19 : decode cX12_isBook 19 = .ok (.imul, 1) := by decide +kernel
theorem dX12_isBook_20 : decode cX12_isBook 20 = .ok (.iload_n 3, 1) := by decide +kernel
theorem dX12_isBook_21 : decode cX12_isBook 21 = .ok (.iadd, 1) := by decide +kernel
theorem dX12_isBook_22 : decode cX12_isBook 22 = .ok (.laload, 1) := by decide +kernel
theorem dX12_isBook_23 : decode cX12_isBook 23 = .ok (.aload_n 0, 1) := by decide +kernel
theorem dX12_isBook_24 : decode cX12_isBook 24 = .ok (.iload_n 2, 1) := by decide +kernel
theorem dX12_isBook_25 : decode cX12_isBook 25 = .ok (.iconst 3, 1) := by decide +kernel
theorem dX12_isBook_26 : decode cX12_isBook 26 = .ok (.invokevirtual 68, 3) := by decide +kernel
theorem dX12_isBook_29 : decode cX12_isBook 29 = .ok (.i2l, 1) := by decide +kernel
theorem dX12_isBook_30 : decode cX12_isBook 30 = .ok (.lcmp, 1) := by decide +kernel
theorem dX12_isBook_31 : decode cX12_isBook 31 = .ok (.ifCond .eq 5, 3) := by decide +kernel
theorem dX12_isBook_34 : decode cX12_isBook 34 = .ok (.iconst 0, 1) := by decide +kernel
theorem dX12_isBook_35 : decode cX12_isBook 35 = .ok (.ireturn, 1) := by decide +kernel
theorem dX12_isBook_36 : decode cX12_isBook 36 = .ok (.aload_n 0, 1) := by decide +kernel
theorem dX12_isBook_37 : decode cX12_isBook 37 = .ok (.invokevirtual 174, 3) := by decide +kernel
theorem dX12_isBook_40 : decode cX12_isBook 40 = .ok (.iinc 3 1, 3) := by decide +kernel
theorem dX12_isBook_43 : decode cX12_isBook 43 = .ok (.goto (-41), 3) := by decide +kernel
theorem dX12_isBook_46 : decode cX12_isBook 46 = .ok (.iconst 1, 1) := by decide +kernel
theorem dX12_isBook_47 : decode cX12_isBook 47 = .ok (.ireturn, 1) := by decide +kernel
theorem dX12_read_0 : decode cX12_read 0 = .ok (.aload_n 0, 1) := by decide +kernel
theorem dX12_read_1 : decode cX12_read 1 = .ok (.iload_n 1, 1) := by decide +kernel
theorem dX12_read_2 : decode cX12_read 2 = .ok (.invokevirtual 315, 3) := by decide +kernel
theorem dX12_read_5 : decode cX12_read 5 = .ok (.istore_n 3, 1) := by decide +kernel
theorem dX12_read_6 : decode cX12_read 6 = .ok (.iload_n 3, 1) := by decide +kernel
theorem dX12_read_7 : decode cX12_read 7 = .ok (.ifCond .ne 16, 3) := by decide +kernel
theorem dX12_read_10 : decode cX12_read 10 = .ok (.aload_n 0, 1) := by decide +kernel
theorem dX12_read_11 : decode cX12_read 11 = .ok (.iload_n 2, 1) := by decide +kernel
theorem dX12_read_12 : decode cX12_read 12 = .ok (.invokevirtual 143, 3) := by decide +kernel
theorem dX12_read_15 : decode cX12_read 15 = .ok (.ifCond .ne 8, 3) := by decide +kernel
theorem dX12_read_18 : decode cX12_read 18 = .ok (.ldc 53, 2) := by decide +kernel
theorem dX12_read_20 : decode cX12_read 20 = .ok (.goto 4, 3) := by decide +kernel
theorem dX12_read_23 : decode cX12_read 23 = .ok (.iload_n 3, 1) := by decide +kernel
theorem dX12_read_24 : decode cX12_read 24 = .ok (.istore_n 3, 1) := by decide +kernel
theorem dX12_read_25 : decode cX12_read 25 = .ok (.iload_n 3, 1) := by decide +kernel
theorem dX12_read_26 : decode cX12_read 26 = .ok (.ifCond .eq 9, 3) := by decide +kernel
theorem dX12_read_29 : decode cX12_read 29 = .ok (.aload_n 0, 1) := by decide +kernel
theorem dX12_read_30 : decode cX12_read 30 = .ok (.iload_n 3, 1) := by decide +kernel
theorem dX12_read_31 : decode cX12_read 31 = .ok (.invokevirtual 121, 3) := by decide +kernel
theorem dX12_read_34 : decode cX12_read 34 = .ok (.ireturn, 1) := by decide +kernel
theorem dX12_read_35 : decode cX12_read 35 = .ok (.aload_n 0, 1) := by decide +kernel
theorem dX12_read_36 : decode cX12_read 36 = .ok (.invokevirtual 191, 3) := by decide +kernel
theorem dX12_read_39 : decode cX12_read 39 = .ok (.iconst 0, 1) := by decide +kernel
theorem dX12_read_40 : decode cX12_read 40 = .ok (.istore 4, 2) := by decide +kernel
theorem dX12_read_42 : decode cX12_read 42 = .ok (.iconst 0, 1) := by decide +kernel
theorem dX12_read_43 : decode cX12_read 43 = .ok (.istore 5, 2) := by decide +kernel
theorem dX12_read_45 : decode cX12_read 45 = .ok (.iload 5, 2) := by decide +kernel
theorem dX12_read_47 : decode cX12_read 47 = .ok (.sipush 288, 3) := by decide +kernel
theorem dX12_read_50 : decode cX12_read 50 = .ok (.if_icmp .ge 62, 3) := by decide +kernel
theorem dX12_read_53 : decode cX12_read 53 = .ok (.aload_n 0, 1) := by decide +kernel
theorem dX12_read_54 : decode cX12_read 54 = .ok (.getfield 7, 3) := by decide +kernel
theorem dX12_read_57 : decode cX12_read 57 = .ok (.iload_n 2, 1) := by decide +kernel
theorem dX12_read_58 : decode cX12_read 58 = .ok (.iconst 0, 1) := by decide +kernel
theorem dX12_read_59 : decode cX12_read 59 = .ok (.invokestatic 64, 3) := by decide +kernel
theorem dX12_read_62 : decode cX12_read 62 = .ok (.iload 5, 2) := by decide +kernel
theorem dX12_read_64 : decode cX12_read 64 = .ok (.bipush 48, 2) := by decide +kernel
theorem dX12_read_66 : decode cX12_read 66 = .ok (.idiv, 1) := by decide +kernel
theorem dX12_read_67 : decode cX12_read 67 = .ok (.iastore, 1) := by decide +kernel
theorem dX12_read_68 : decode cX12_read 68 = .ok (.aload_n 0, 1) := by decide +kernel
theorem dX12_read_69 : decode cX12_read 69 = .ok (.getfield 7, 3) := by decide +kernel
theorem dX12_read_72 : decode cX12_read 72 = .ok (.iload_n 2, 1) := by decide +kernel
theorem dX12_read_73 : decode cX12_read 73 = .ok (.iconst 1, 1) := by decide +kernel
theorem dX12_read_74 : decode cX12_read 74 = .ok (.invokestatic 64, 3) := by decide +kernel
theorem dX12_read_77 : decode cX12_read 77 = .ok (.iload 5, 2) := by decide +kernel
theorem dX12_read_79 : decode cX12_read 79 = .ok (.bipush 48, 2) := by decide +kernel
theorem dX12_read_81 : decode cX12_read 81 = .ok (.irem, 1) := by decide +kernel
theorem dX12_read_82 : decode cX12_read 82 = .ok (.iastore, 1) := by decide +kernel
theorem dX12_read_83 : decode cX12_read 83 = .ok (.aload_n 0, 1) := by decide +kernel
theorem dX12_read_84 : decode cX12_read 84 = .ok (.iload 4, 2) := by decide +kernel
theorem dX12_read_86 : decode cX12_read 86 = .ok (.aload_n 0, 1) := by decide +kernel
theorem dX12_read_87 : decode cX12_read 87 = .ok (.iload_n 1, 1) := by decide +kernel
theorem dX12_read_88 : decode cX12_read 88 = .ok (.iload_n 2, 1) := by decide +kernel
theorem dX12_read_89 : decode cX12_read 89 = .ok (.invokevirtual 322, 3) := by decide +kernel
theorem dX12_read_92 : decode cX12_read 92 = .ok (.ifCond .eq 7, 3) := by decide +kernel
theorem dX12_read_95 : decode cX12_read 95 = .ok (.iconst 1, 1) := by decide +kernel
theorem dX12_read_96 : decode cX12_read 96 = .ok (.goto 4, 3) := by decide +kernel
theorem dX12_read_99 : decode cX12_read 99 = .ok (.iconst 0, 1) := by decide +kernel
theorem dX12_read_100 : decode cX12_read 100 = .ok (.iadd, 1) := by decide +kernel
theorem dX12_read_101 : decode cX12_read 101 = .ok (.invokevirtual 197, 3) := by decide +kernel
theorem dX12_read_104 : decode cX12_read 104 = .ok (.istore 4, 2) := by decide +kernel
theorem dX12_read_106 : decode cX12_read 106 = .ok (.iinc 5 1, 3) := by decide +kernel
theorem dX12_read_109 : decode cX12_read 109 = .ok (.goto (-64), 3) := by decide +kernel
theorem dX12_read_112 : decode cX12_read 112 = .ok (.iload 4, 2) := by decide +kernel
theorem dX12_read_114 : decode cX12_read 114 = .ok (.ireturn, 1) := by decide +kernel
theorem dX12_image_0 : decode cX12_image 0 = .ok (.iconst 0, 1) := by decide +kernel
theorem dX12_image_1 : decode cX12_image 1 = .ok (.istore_n 1, 1) := by decide +kernel
theorem dX12_image_2 : decode cX12_image 2 = .ok (.iload_n 1, 1) := by decide +kernel
theorem dX12_image_3 : decode cX12_image 3 = .ok (.sipush 176, 3) := by decide +kernel
theorem dX12_image_6 : decode cX12_image 6 = .ok (.if_icmp .ge 21, 3) := by decide +kernel
theorem dX12_image_9 : decode cX12_image 9 = .ok (.aload_n 0, 1) := by decide +kernel
theorem dX12_image_10 : decode cX12_image 10 = .ok (.getfield 13, 3) := by decide +kernel
theorem dX12_image_13 : decode cX12_image 13 = .ok (.iload_n 1, 1) := by decide +kernel
theorem dX12_image_14 : decode cX12_image 14 = .ok (.aload_n 0, 1) := by decide +kernel
theorem dX12_image_15 : decode cX12_image 15 = .ok (.getfield 7, 3) := by decide +kernel
theorem dX12_image_18 : decode cX12_image 18 = .ok (.iload_n 1, 1) := by decide +kernel
theorem dX12_image_19 : decode cX12_image 19 = .ok (.iaload, 1) := by decide +kernel
theorem dX12_image_20 : decode cX12_image 20 = .ok (.iastore, 1) := by decide +kernel
theorem dX12_image_21 : decode cX12_image 21 = .ok (.iinc 1 1, 3) := by decide +kernel
theorem dX12_image_24 : decode cX12_image 24 = .ok (.goto (-22), 3) := by decide +kernel
theorem dX12_image_27 : decode cX12_image 27 = .ok (.aload_n 0, 1) := by decide +kernel
theorem dX12_image_28 : decode cX12_image 28 = .ok (.iconst 1, 1) := by decide +kernel
theorem dX12_image_29 : decode cX12_image 29 = .ok (.putfield 325, 3) := by decide +kernel
theorem dX12_image_32 : decode cX12_image 32 = .ok (.iconst 1, 1) := by decide +kernel
theorem dX12_image_33 : decode cX12_image 33 = .ok (.ireturn, 1) := by decide +kernel
theorem dX12_undo_0 : decode cX12_undo 0 = .ok (.aload_n 0, 1) := by decide +kernel
theorem dX12_undo_1 : decode cX12_undo 1 = .ok (.getfield 325, 3) := by decide +kernel
theorem dX12_undo_4 : decode cX12_undo 4 = .ok (.ifCond .ne 10, 3) := by decide +kernel
theorem dX12_undo_7 : decode cX12_undo 7 = .ok (.aload_n 0, 1) := by decide +kernel
theorem dX12_undo_8 : decode cX12_undo 8 = .ok (.ldc 203, 2) := by decide +kernel
theorem dX12_undo_10 : decode cX12_undo 10 = .ok (.invokevirtual 121, 3) := by decide +kernel
theorem dX12_undo_13 : decode cX12_undo 13 = .ok (.ireturn, 1) := by decide +kernel
theorem dX12_undo_14 : decode cX12_undo 14 = .ok (.iconst 0, 1) := by decide +kernel
theorem dX12_undo_15 : decode cX12_undo 15 = .ok (.istore_n 1, 1) := by decide +kernel
theorem dX12_undo_16 : decode cX12_undo 16 = .ok (.iload_n 1, 1) := by decide +kernel
theorem dX12_undo_17 : decode cX12_undo 17 = .ok (.sipush 176, 3) := by decide +kernel
theorem dX12_undo_20 : decode cX12_undo 20 = .ok (.if_icmp .ge 21, 3) := by decide +kernel
theorem dX12_undo_23 : decode cX12_undo 23 = .ok (.aload_n 0, 1) := by decide +kernel
theorem dX12_undo_24 : decode cX12_undo 24 = .ok (.getfield 7, 3) := by decide +kernel
theorem dX12_undo_27 : decode cX12_undo 27 = .ok (.iload_n 1, 1) := by decide +kernel
theorem dX12_undo_28 : decode cX12_undo 28 = .ok (.aload_n 0, 1) := by decide +kernel
theorem dX12_undo_29 : decode cX12_undo 29 = .ok (.getfield 13, 3) := by decide +kernel
theorem dX12_undo_32 : decode cX12_undo 32 = .ok (.iload_n 1, 1) := by decide +kernel
theorem dX12_undo_33 : decode cX12_undo 33 = .ok (.iaload, 1) := by decide +kernel
theorem dX12_undo_34 : decode cX12_undo 34 = .ok (.iastore, 1) := by decide +kernel
theorem dX12_undo_35 : decode cX12_undo 35 = .ok (.iinc 1 1, 3) := by decide +kernel
theorem dX12_undo_38 : decode cX12_undo 38 = .ok (.goto (-22), 3) := by decide +kernel
theorem dX12_undo_41 : decode cX12_undo 41 = .ok (.aload_n 0, 1) := by decide +kernel
theorem dX12_undo_42 : decode cX12_undo 42 = .ok (.getfield 7, 3) := by decide +kernel
theorem dX12_undo_45 : decode cX12_undo 45 = .ok (.iconst 0, 1) := by decide +kernel
theorem dX12_undo_46 : decode cX12_undo 46 = .ok (.iaload, 1) := by decide +kernel
theorem dX12_undo_47 : decode cX12_undo 47 = .ok (.ireturn, 1) := by decide +kernel
theorem dX12_tear_0 : decode cX12_tear 0 = .ok (.aload_n 0, 1) := by decide +kernel
theorem dX12_tear_1 : decode cX12_tear 1 = .ok (.getfield 325, 3) := by decide +kernel
theorem dX12_tear_4 : decode cX12_tear 4 = .ok (.ifCond .eq 7, 3) := by decide +kernel
theorem dX12_tear_7 : decode cX12_tear 7 = .ok (.iconst 1, 1) := by decide +kernel
theorem dX12_tear_8 : decode cX12_tear 8 = .ok (.goto 4, 3) := by decide +kernel
theorem dX12_tear_11 : decode cX12_tear 11 = .ok (.iconst 0, 1) := by decide +kernel
theorem dX12_tear_12 : decode cX12_tear 12 = .ok (.istore_n 1, 1) := by decide +kernel
theorem dX12_tear_13 : decode cX12_tear 13 = .ok (.aload_n 0, 1) := by decide +kernel
theorem dX12_tear_14 : decode cX12_tear 14 = .ok (.iconst 0, 1) := by decide +kernel
theorem dX12_tear_15 : decode cX12_tear 15 = .ok (.putfield 325, 3) := by decide +kernel
theorem dX12_tear_18 : decode cX12_tear 18 = .ok (.iload_n 1, 1) := by decide +kernel
theorem dX12_tear_19 : decode cX12_tear 19 = .ok (.ireturn, 1) := by decide +kernel
theorem dX12_costsAll_0 : decode cX12_costsAll 0 = .ok (.aload_n 0, 1) := by decide +kernel
theorem dX12_costsAll_1 : decode cX12_costsAll 1 = .ok (.invokevirtual 124, 3) := by decide +kernel
theorem dX12_costsAll_4 : decode cX12_costsAll 4 = .ok (.iconst 0, 1) := by decide +kernel
theorem dX12_costsAll_5 : decode cX12_costsAll 5 = .ok (.istore_n 1, 1) := by decide +kernel
theorem dX12_costsAll_6 : decode cX12_costsAll 6 = .ok (.iconst 0, 1) := by decide +kernel
theorem dX12_costsAll_7 : decode cX12_costsAll 7 = .ok (.istore_n 2, 1) := by decide +kernel
theorem dX12_costsAll_8 : decode cX12_costsAll 8 = .ok (.iload_n 2, 1) := by decide +kernel
theorem dX12_costsAll_9 : decode cX12_costsAll 9 = .ok (.aload_n 0, 1) := by decide +kernel
theorem dX12_costsAll_10 : decode cX12_costsAll 10 = .ok (.getfield 7, 3) := by decide +kernel
theorem dX12_costsAll_13 : decode cX12_costsAll 13 = .ok (.iconst 0, 1) := by decide +kernel
theorem dX12_costsAll_14 : decode cX12_costsAll 14 = .ok (.iaload, 1) := by decide +kernel
theorem dX12_costsAll_15 : decode cX12_costsAll 15 = .ok (.if_icmp .ge 18, 3) := by decide +kernel
theorem dX12_costsAll_18 : decode cX12_costsAll 18 = .ok (.iload_n 1, 1) := by decide +kernel
theorem dX12_costsAll_19 : decode cX12_costsAll 19 = .ok (.aload_n 0, 1) := by decide +kernel
theorem dX12_costsAll_20 : decode cX12_costsAll 20 = .ok (.getfield 32, 3) := by decide +kernel
theorem dX12_costsAll_23 : decode cX12_costsAll 23 = .ok (.iload_n 2, 1) := by decide +kernel
theorem dX12_costsAll_24 : decode cX12_costsAll 24 = .ok (.iaload, 1) := by decide +kernel
theorem dX12_costsAll_25 : decode cX12_costsAll 25 = .ok (.iadd, 1) := by decide +kernel
theorem dX12_costsAll_26 : decode cX12_costsAll 26 = .ok (.istore_n 1, 1) := by decide +kernel
theorem dX12_costsAll_27 : decode cX12_costsAll 27 = .ok (.iinc 2 1, 3) := by decide +kernel
theorem dX12_costsAll_30 : decode cX12_costsAll 30 = .ok (.goto (-22), 3) := by decide +kernel
theorem dX12_costsAll_33 : decode cX12_costsAll 33 = .ok (.iload_n 1, 1) := by decide +kernel
theorem dX12_costsAll_34 : decode cX12_costsAll 34 = .ok (.ireturn, 1) := by decide +kernel
theorem dX12_count_0 : decode cX12_count 0 = .ok (.iload_n 1, 1) := by decide +kernel
theorem dX12_count_1 : decode cX12_count 1 = .ok (.tableswitch 54 0 3 #[31, 38, 43, 49], 31) := by decide +kernel
theorem dX12_count_32 : decode cX12_count 32 = .ok (.aload_n 0, 1) := by decide +kernel
theorem dX12_count_33 : decode cX12_count 33 = .ok (.getfield 7, 3) := by decide +kernel
theorem dX12_count_36 : decode cX12_count 36 = .ok (.iconst 0, 1) := by decide +kernel
theorem dX12_count_37 : decode cX12_count 37 = .ok (.iaload, 1) := by decide +kernel
theorem dX12_count_38 : decode cX12_count 38 = .ok (.ireturn, 1) := by decide +kernel
theorem dX12_count_39 : decode cX12_count 39 = .ok (.aload_n 0, 1) := by decide +kernel
theorem dX12_count_40 : decode cX12_count 40 = .ok (.getfield 212, 3) := by decide +kernel
theorem dX12_count_43 : decode cX12_count 43 = .ok (.ireturn, 1) := by decide +kernel
theorem dX12_count_44 : decode cX12_count 44 = .ok (.aload_n 0, 1) := by decide +kernel
theorem dX12_count_45 : decode cX12_count 45 = .ok (.iconst 4, 1) := by decide +kernel
theorem dX12_count_46 : decode cX12_count 46 = .ok (.invokevirtual 184, 3) := by decide +kernel
theorem dX12_count_49 : decode cX12_count 49 = .ok (.ireturn, 1) := by decide +kernel
theorem dX12_count_50 : decode cX12_count 50 = .ok (.aload_n 0, 1) := by decide +kernel
theorem dX12_count_51 : decode cX12_count 51 = .ok (.invokevirtual 328, 3) := by decide +kernel
theorem dX12_count_54 : decode cX12_count 54 = .ok (.ireturn, 1) := by decide +kernel
theorem dX12_count_55 : decode cX12_count 55 = .ok (.aload_n 0, 1) := by decide +kernel
theorem dX12_count_56 : decode cX12_count 56 = .ok (.ldc 53, 2) := by decide +kernel
theorem dX12_count_58 : decode cX12_count 58 = .ok (.invokevirtual 121, 3) := by decide +kernel
theorem dX12_count_61 : decode cX12_count 61 = .ok (.ireturn, 1) := by decide +kernel
theorem dX12_status_0 : decode cX12_status 0 = .ok (.iload_n 1, 1) := by decide +kernel
theorem dX12_status_1 : decode cX12_status 1 = .ok (.i2l, 1) := by decide +kernel
theorem dX12_status_2 : decode cX12_status 2 = .ok (.ldc2_w 80, 3) := by decide +kernel
theorem dX12_status_5 : decode cX12_status 5 = .ok (.ldc2_w 331, 3) := by decide +kernel
theorem dX12_status_8 : decode cX12_status 8 = .ok (.invokestatic 56, 3) := by decide +kernel
theorem dX12_status_11 : decode cX12_status 11 = .ok (.ifCond .ne 10, 3) := by decide +kernel
theorem dX12_status_14 : decode cX12_status 14 = .ok (.aload_n 0, 1) := by decide +kernel
theorem dX12_status_15 : decode cX12_status 15 = .ok (.ldc 53, 2) := by decide +kernel
theorem dX12_status_17 : decode cX12_status 17 = .ok (.invokevirtual 121, 3) := by decide +kernel
theorem dX12_status_20 : decode cX12_status 20 = .ok (.ireturn, 1) := by decide +kernel
theorem dX12_status_21 : decode cX12_status 21 = .ok (.iconst 0, 1) := by decide +kernel
theorem dX12_status_22 : decode cX12_status 22 = .ok (.istore_n 2, 1) := by decide +kernel
theorem dX12_status_23 : decode cX12_status 23 = .ok (.iconst 0, 1) := by decide +kernel
theorem dX12_status_24 : decode cX12_status 24 = .ok (.istore_n 3, 1) := by decide +kernel
theorem dX12_status_25 : decode cX12_status 25 = .ok (.iload_n 3, 1) := by decide +kernel
theorem dX12_status_26 : decode cX12_status 26 = .ok (.bipush 7, 2) := by decide +kernel
theorem dX12_status_28 : decode cX12_status 28 = .ok (.if_icmp .ge 31, 3) := by decide +kernel
theorem dX12_status_31 : decode cX12_status 31 = .ok (.iload_n 2, 1) := by decide +kernel
theorem dX12_status_32 : decode cX12_status 32 = .ok (.iload_n 1, 1) := by decide +kernel
theorem dX12_status_33 : decode cX12_status 33 = .ok (.ifCond .lt 8, 3) := by decide +kernel
theorem dX12_status_36 : decode cX12_status 36 = .ok (.iload_n 3, 1) := by decide +kernel
theorem dX12_status_37 : decode cX12_status 37 = .ok (.iload_n 1, 1) := by decide +kernel
theorem dX12_status_38 : decode cX12_status 38 = .ok (.if_icmp .ne 12, 3) := by decide +kernel
theorem dX12_status_41 : decode cX12_status 41 = .ok (.aload_n 0, 1) := by decide +kernel
theorem dX12_status_42 : decode cX12_status 42 = .ok (.getfield 22, 3) := by decide +kernel
theorem dX12_status_45 : decode cX12_status 45 = .ok (.iload_n 3, 1) := by decide +kernel
theorem dX12_status_46 : decode cX12_status 46 = .ok (.iaload, 1) := by decide +kernel
theorem dX12_status_47 : decode cX12_status 47 = .ok (.goto 4, 3) := by decide +kernel
theorem dX12_status_50 : decode cX12_status 50 = .ok (.iconst 0, 1) := by decide +kernel
theorem dX12_status_51 : decode cX12_status 51 = .ok (.iadd, 1) := by decide +kernel
theorem dX12_status_52 : decode cX12_status 52 = .ok (.istore_n 2, 1) := by decide +kernel
theorem dX12_status_53 : decode cX12_status 53 = .ok (.iinc 3 1, 3) := by decide +kernel
theorem dX12_status_56 : decode cX12_status 56 = .ok (.goto (-31), 3) := by decide +kernel
theorem dX12_status_59 : decode cX12_status 59 = .ok (.iload_n 2, 1) := by decide +kernel
theorem dX12_status_60 : decode cX12_status 60 = .ok (.ireturn, 1) := by decide +kernel
