theorem dX0_isOf_0 : decode cX0_isOf 0 = .ok (.iload_n 1, 1) := by decide +kernel
theorem dX0_isOf_1 : decode cX0_isOf 1 = .ok (.iconst 2, 1) := by decide +kernel
theorem dX0_isOf_2 : decode cX0_isOf 2 = .ok (.if_icmp .eq 11, 3) := by decide +kernel
theorem dX0_isOf_5 : decode cX0_isOf 5 = .ok (.aload_n 0, 1) := by decide +kernel
theorem dX0_isOf_6 : decode cX0_isOf 6 = .ok (.iload_n 1, 1) := by decide +kernel
theorem dX0_isOf_7 : decode cX0_isOf 7 = .ok (.invokespecial 7, 3) := by decide +kernel
theorem dX0_isOf_10 : decode cX0_isOf 10 = .ok (.ifCond .eq 7, 3) := by decide +kernel
theorem dX0_isOf_13 : decode cX0_isOf 13 = .ok (.iconst 1, 1) := by decide +kernel
theorem dX0_isOf_14 : decode cX0_isOf 14 = .ok (.goto 4, 3) := by decide +kernel
theorem dX0_isOf_17 : decode cX0_isOf 17 = .ok (.iconst 0, 1) := by decide +kernel
theorem dX0_isOf_18 : decode cX0_isOf 18 = .ok (.ireturn, 1) := by decide +kernel
theorem dX0_steps_0 : decode cX0_steps 0 = .ok (.aload_n 0, 1) := by decide +kernel
theorem dX0_steps_1 : decode cX0_steps 1 = .ok (.iload_n 1, 1) := by decide +kernel
theorem dX0_steps_2 : decode cX0_steps 2 = .ok (.iload_n 2, 1) := by decide +kernel
theorem dX0_steps_3 : decode cX0_steps 3 = .ok (.invokespecial 11, 3) := by decide +kernel
theorem dX0_steps_6 : decode cX0_steps 6 = .ok (.iconst 1, 1) := by decide +kernel
theorem dX0_steps_7 : decode cX0_steps 7 = .ok (.iadd, 1) := by decide +kernel
theorem dX0_steps_8 : decode cX0_steps 8 = .ok (.ireturn, 1) := by decide +kernel
theorem dX1_bit_0 : decode cX1_bit 0 = .ok (.lconst 1, 1) := by decide +kernel
theorem dX1_bit_1 : decode cX1_bit 1 = .ok (.iload_n 0, 1) := by decide +kernel
theorem dX1_bit_2 : decode cX1_bit 2 = .ok (.lshl, 1) := by decide +kernel
theorem dX1_bit_3 : decode cX1_bit 3 = .ok (.lreturn, 1) := by decide +kernel
theorem dX1_stepFrom_0 : decode cX1_stepFrom 0 = .ok (.iload_n 0, 1) := by decide +kernel
theorem dX1_stepFrom_1 : decode cX1_stepFrom 1 = .ok (.bipush 8, 2) := by decide +kernel
theorem dX1_stepFrom_3 : decode cX1_stepFrom 3 = .ok (.irem, 1) := by decide +kernel
theorem dX1_stepFrom_4 : decode cX1_stepFrom 4 = .ok (.istore_n 2, 1) := by decide +kernel
theorem dX1_stepFrom_5 : decode cX1_stepFrom 5 = .ok (.iload_n 1, 1) := by decide +kernel
theorem dX1_stepFrom_6 : decode cX1_stepFrom 6 = .ok (.tableswitch 86 0 3 #[30, 45, 59, 74], 30) := by decide +kernel
theorem dX1_stepFrom_36 : decode cX1_stepFrom 36 = .ok (.iload_n 0, 1) := by decide +kernel
theorem dX1_stepFrom_37 : decode cX1_stepFrom 37 = .ok (.bipush 8, 2) := by decide +kernel
theorem dX1_stepFrom_39 : decode cX1_stepFrom 39 = .ok (.if_icmp .lt 10, 3) := by decide +kernel
theorem dX1_stepFrom_42 : decode cX1_stepFrom 42 = .ok (.iload_n 0, 1) := by decide +kernel
theorem dX1_stepFrom_43 : decode cX1_stepFrom 43 = .ok (.bipush 8, 2) := by decide +kernel
theorem dX1_stepFrom_45 : decode cX1_stepFrom 45 = .ok (.isub, 1) := by decide +kernel
theorem dX1_stepFrom_46 : decode cX1_stepFrom 46 = .ok (.goto 4, 3) := by decide +kernel
theorem dX1_stepFrom_49 : decode cX1_stepFrom 49 = .ok (.iconst (-1), 1) := by decide +kernel
theorem dX1_stepFrom_50 : decode cX1_stepFrom 50 = .ok (.ireturn, 1) := by decide +kernel
theorem dX1_stepFrom_51 : decode cX1_stepFrom 51 = .ok (.iload_n 2, 1) := by decide +kernel
theorem dX1_stepFrom_52 : decode cX1_stepFrom 52 = .ok (.bipush 7, 2) := by decide +kernel
theorem dX1_stepFrom_54 : decode cX1_stepFrom 54 = .ok (.if_icmp .ge 9, 3) := by decide +kernel
theorem dX1_stepFrom_57 : decode cX1_stepFrom 57 = .ok (.iload_n 0, 1) := by decide +kernel
theorem dX1_stepFrom_58 : decode cX1_stepFrom 58 = .ok (.iconst 1, 1) := by decide +kernel
theorem dX1_stepFrom_59 : decode cX1_stepFrom 59 = .ok (.iadd, 1) := by decide +kernel
theorem dX1_stepFrom_60 : decode cX1_stepFrom 60 = .ok (.goto 4, 3) := by decide +kernel
theorem dX1_stepFrom_63 : decode cX1_stepFrom 63 = .ok (.iconst (-1), 1) := by decide +kernel
theorem dX1_stepFrom_64 : decode cX1_stepFrom 64 = .ok (.ireturn, 1) := by decide +kernel
theorem dX1_stepFrom_65 : decode cX1_stepFrom 65 = .ok (.iload_n 0, 1) := by decide +kernel
theorem dX1_stepFrom_66 : decode cX1_stepFrom 66 = .ok (.bipush 40, 2) := by decide +kernel
theorem dX1_stepFrom_68 : decode cX1_stepFrom 68 = .ok (.if_icmp .ge 10, 3) := by decide +kernel
theorem dX1_stepFrom_71 : decode cX1_stepFrom 71 = .ok (.iload_n 0, 1) := by decide +kernel
theorem dX1_stepFrom_72 : decode cX1_stepFrom 72 = .ok (.bipush 8, 2) := by decide +kernel
theorem dX1_stepFrom_74 : decode cX1_stepFrom 74 = .ok (.iadd, 1) := by decide +kernel
theorem dX1_stepFrom_75 : decode cX1_stepFrom 75 = .ok (.goto 4, 3) := by decide +kernel
theorem dX1_stepFrom_78 : decode cX1_stepFrom 78 = .ok (.iconst (-1), 1) := by decide +kernel
theorem dX1_stepFrom_79 : decode cX1_stepFrom 79 = .ok (.ireturn, 1) := by decide +kernel
theorem dX1_stepFrom_80 : decode cX1_stepFrom 80 = .ok (.iload_n 2, 1) := by decide +kernel
theorem dX1_stepFrom_81 : decode cX1_stepFrom 81 = .ok (.ifCond .le 9, 3) := by decide +kernel
theorem dX1_stepFrom_84 : decode cX1_stepFrom 84 = .ok (.iload_n 0, 1) := by decide +kernel
theorem dX1_stepFrom_85 : decode cX1_stepFrom 85 = .ok (.iconst 1, 1) := by decide +kernel
theorem dX1_stepFrom_86 : decode cX1_stepFrom 86 = .ok (.isub, 1) := by decide +kernel
theorem dX1_stepFrom_87 : decode cX1_stepFrom 87 = .ok (.goto 4, 3) := by decide +kernel
theorem dX1_stepFrom_90 : decode cX1_stepFrom 90 = .ok (.iconst (-1), 1) := by decide +kernel
theorem dX1_stepFrom_91 : decode cX1_stepFrom 91 = .ok (.ireturn, 1) := by decide +kernel
theorem dX1_stepFrom_92 : decode cX1_stepFrom 92 = .ok (.iconst (-1), 1) := by decide +kernel
theorem dX1_stepFrom_93 : decode cX1_stepFrom 93 = .ok (.ireturn, 1) := by decide +kernel
theorem dX1_withBeside_0 : decode cX1_withBeside 0 = .ok (.lload_n 0, 1) := by decide +kernel
theorem dX1_withBeside_1 : decode cX1_withBeside 1 = .ok (.bipush 8, 2) := by decide +kernel
theorem dX1_withBeside_3 : decode cX1_withBeside 3 = .ok (.lushr, 1) := by decide +kernel
theorem dX1_withBeside_4 : decode cX1_withBeside 4 = .ok (.lload_n 0, 1) := by decide +kernel
theorem dX1_withBeside_5 : decode cX1_withBeside 5 = .ok (.bipush 8, 2) := by decide +kernel
theorem dX1_withBeside_7 : decode cX1_withBeside 7 = .ok (.lshl, 1) := by decide +kernel
theorem dX1_withBeside_8 : decode cX1_withBeside 8 = .ok (.lor, 1) := by decide +kernel
theorem dX1_withBeside_9 : decode cX1_withBeside 9 = .ok (.lstore_n 2, 1) := by decide +kernel
theorem dX1_withBeside_10 : decode cX1_withBeside 10 = .ok (.lload_n 0, 1) := by decide +kernel
theorem dX1_withBeside_11 : decode cX1_withBeside 11 = .ok (.ldc2_w 9, 3) := by decide +kernel
theorem dX1_withBeside_14 : decode cX1_withBeside 14 = .ok (.land, 1) := by decide +kernel
theorem dX1_withBeside_15 : decode cX1_withBeside 15 = .ok (.iconst 1, 1) := by decide +kernel
theorem dX1_withBeside_16 : decode cX1_withBeside 16 = .ok (.lshl, 1) := by decide +kernel
theorem dX1_withBeside_17 : decode cX1_withBeside 17 = .ok (.lstore 4, 2) := by decide +kernel
theorem dX1_withBeside_19 : decode cX1_withBeside 19 = .ok (.lload_n 0, 1) := by decide +kernel
theorem dX1_withBeside_20 : decode cX1_withBeside 20 = .ok (.ldc2_w 11, 3) := by decide +kernel
theorem dX1_withBeside_23 : decode cX1_withBeside 23 = .ok (.land, 1) := by decide +kernel
theorem dX1_withBeside_24 : decode cX1_withBeside 24 = .ok (.iconst 1, 1) := by decide +kernel
theorem dX1_withBeside_25 : decode cX1_withBeside 25 = .ok (.lushr, 1) := by decide +kernel
theorem dX1_withBeside_26 : decode cX1_withBeside 26 = .ok (.lstore 6, 2) := by decide +kernel
theorem dX1_withBeside_28 : decode cX1_withBeside 28 = .ok (.lload_n 0, 1) := by decide +kernel
theorem dX1_withBeside_29 : decode cX1_withBeside 29 = .ok (.lload_n 2, 1) := by decide +kernel
theorem dX1_withBeside_30 : decode cX1_withBeside 30 = .ok (.lor, 1) := by decide +kernel
theorem dX1_withBeside_31 : decode cX1_withBeside 31 = .ok (.lload 4, 2) := by decide +kernel
theorem dX1_withBeside_33 : decode cX1_withBeside 33 = .ok (.lor, 1) := by decide +kernel
theorem dX1_withBeside_34 : decode cX1_withBeside 34 = .ok (.lload 6, 2) := by decide +kernel
theorem dX1_withBeside_36 : decode cX1_withBeside 36 = .ok (.lor, 1) := by decide +kernel
theorem dX1_withBeside_37 : decode cX1_withBeside 37 = .ok (.ldc2_w 13, 3) := by decide +kernel
theorem dX1_withBeside_40 : decode cX1_withBeside 40 = .ok (.land, 1) := by decide +kernel
theorem dX1_withBeside_41 : decode cX1_withBeside 41 = .ok (.lreturn, 1) := by decide +kernel
theorem dX1_enclosedBy_0 : decode cX1_enclosedBy 0 = .ok (.ldc2_w 13, 3) := by decide +kernel
theorem dX1_enclosedBy_3 : decode cX1_enclosedBy 3 = .ok (.lload_n 0, 1) := by decide +kernel
theorem dX1_enclosedBy_4 : decode cX1_enclosedBy 4 = .ok (.ldc2_w 15, 3) := by decide +kernel
theorem dX1_enclosedBy_7 : decode cX1_enclosedBy 7 = .ok (.lxor, 1) := by decide +kernel
theorem dX1_enclosedBy_8 : decode cX1_enclosedBy 8 = .ok (.land, 1) := by decide +kernel
theorem dX1_enclosedBy_9 : decode cX1_enclosedBy 9 = .ok (.lstore_n 2, 1) := by decide +kernel
theorem dX1_enclosedBy_10 : decode cX1_enclosedBy 10 = .ok (.lload_n 2, 1) := by decide +kernel
theorem dX1_enclosedBy_11 : decode cX1_enclosedBy 11 = .ok (.ldc2_w 17, 3) := by decide +kernel
theorem dX1_enclosedBy_14 : decode cX1_enclosedBy 14 = .ok (.land, 1) := by decide +kernel
theorem dX1_enclosedBy_15 : decode cX1_enclosedBy 15 = .ok (.lstore 4, 2) := by decide +kernel
theorem dX1_enclosedBy_17 : decode cX1_enclosedBy 17 = .ok (.iconst 0, 1) := by decide +kernel
theorem dX1_enclosedBy_18 : decode cX1_enclosedBy 18 = .ok (.istore 6, 2) := by decide +kernel
theorem dX1_enclosedBy_20 : decode cX1_enclosedBy 20 = .ok (.iload 6, 2) := by decide +kernel
theorem dX1_enclosedBy_22 : decode cX1_enclosedBy 22 = .ok (.bipush 48, 2) := by decide +kernel
theorem dX1_enclosedBy_24 : decode cX1_enclosedBy 24 = .ok (.if_icmp .ge 33, 3) := by decide +kernel
theorem dX1_enclosedBy_27 : decode cX1_enclosedBy 27 = .ok (.lload 4, 2) := by decide +kernel
theorem dX1_enclosedBy_29 : decode cX1_enclosedBy 29 = .ok (.invokestatic 19, 3) := by decide +kernel
theorem dX1_enclosedBy_32 : decode cX1_enclosedBy 32 = .ok (.lload_n 2, 1) := by decide +kernel
theorem dX1_enclosedBy_33 : decode cX1_enclosedBy 33 = .ok (.land, 1) := by decide +kernel
theorem dX1_enclosedBy_34 : decode cX1_enclosedBy 34 = .ok (.lstore 7, 2) := by decide +kernel
theorem dX1_enclosedBy_36 : decode cX1_enclosedBy 36 = .ok (.lload 7, 2) := by decide +kernel
theorem dX1_enclosedBy_38 : decode cX1_enclosedBy 38 = .ok (.lload 4, 2) := by decide +kernel
theorem dX1_enclosedBy_40 : decode cX1_enclosedBy 40 = .ok (.lcmp, 1) := by decide +kernel
theorem dX1_enclosedBy_41 : decode cX1_enclosedBy 41 = .ok (.ifCond .ne 6, 3) := by decide +kernel
theorem dX1_enclosedBy_44 : decode cX1_enclosedBy 44 = .ok (.goto 13, 3) := by decide +kernel
theorem dX1_enclosedBy_47 : decode cX1_enclosedBy 47 = .ok (.lload 7, 2) := by decide +kernel
theorem dX1_enclosedBy_49 : decode cX1_enclosedBy 49 = .ok (.lstore 4, 2) := by decide +kernel
theorem dX1_enclosedBy_51 : decode cX1_enclosedBy 51 = .ok (.iinc 6 1, 3) := by decide +kernel
theorem dX1_enclosedBy_54 : decode cX1_enclosedBy 54 = .ok (.goto (-34), 3) := by decide +kernel
theorem dX1_enclosedBy_57 : decode cX1_enclosedBy 57 = .ok (.lload_n 2, 1) := by decide +kernel
theorem dX1_enclosedBy_58 : decode cX1_enclosedBy 58 = .ok (.lload 4, 2) := by decide +kernel
theorem dX1_enclosedBy_60 : decode cX1_enclosedBy 60 = .ok (.ldc2_w 15, 3) := by decide +kernel
theorem dX1_enclosedBy_63 : decode cX1_enclosedBy 63 = .ok (.lxor, 1) := by decide +kernel
theorem dX1_enclosedBy_64 : decode cX1_enclosedBy 64 = .ok (.land, 1) := by decide +kernel
theorem dX1_enclosedBy_65 : decode cX1_enclosedBy 65 = .ok (.lreturn, 1) := by decide +kernel
theorem dX1_fewestSteps_0 : decode cX1_fewestSteps 0 = .ok (.lload_n 0, 1) := by decide +kernel
theorem dX1_fewestSteps_1 : decode cX1_fewestSteps 1 = .ok (.iload_n 2, 1) := by decide +kernel
theorem dX1_fewestSteps_2 : decode cX1_fewestSteps 2 = .ok (.invokestatic 25, 3) := by decide +kernel
theorem dX1_fewestSteps_5 : decode cX1_fewestSteps 5 = .ok (.land, 1) := by decide +kernel
theorem dX1_fewestSteps_6 : decode cX1_fewestSteps 6 = .ok (.lstore 4, 2) := by decide +kernel
theorem dX1_fewestSteps_8 : decode cX1_fewestSteps 8 = .ok (.lload_n 0, 1) := by decide +kernel
theorem dX1_fewestSteps_9 : decode cX1_fewestSteps 9 = .ok (.iload_n 3, 1) := by decide +kernel
theorem dX1_fewestSteps_10 : decode cX1_fewestSteps 10 = .ok (.invokestatic 25, 3) := by decide +kernel
theorem dX1_fewestSteps_13 : decode cX1_fewestSteps 13 = .ok (.land, 1) := by decide +kernel
theorem dX1_fewestSteps_14 : decode cX1_fewestSteps 14 = .ok (.lstore 6, 2) := by decide +kernel
theorem dX1_fewestSteps_16 : decode cX1_fewestSteps 16 = .ok (.iconst 0, 1) := by decide +kernel
theorem dX1_fewestSteps_17 : decode cX1_fewestSteps 17 = .ok (.istore 8, 2) := by decide +kernel
theorem dX1_fewestSteps_19 : decode cX1_fewestSteps 19 = .ok (.iload 8, 2) := by decide +kernel
theorem dX1_fewestSteps_21 : decode cX1_fewestSteps 21 = .ok (.bipush 48, 2) := by decide +kernel
theorem dX1_fewestSteps_23 : decode cX1_fewestSteps 23 = .ok (.if_icmp .ge 31, 3) := by decide +kernel
theorem dX1_fewestSteps_26 : decode cX1_fewestSteps 26 = .ok (.lload 4, 2) := by decide +kernel
theorem dX1_fewestSteps_28 : decode cX1_fewestSteps 28 = .ok (.lload 6, 2) := by decide +kernel
theorem dX1_fewestSteps_30 : decode cX1_fewestSteps 30 = .ok (.land, 1) := by decide +kernel
theorem dX1_fewestSteps_31 : decode cX1_fewestSteps 31 = .ok (.lconst 0, 1) := by decide +kernel
theorem dX1_fewestSteps_32 : decode cX1_fewestSteps 32 = .ok (.lcmp, 1) := by decide +kernel
theorem dX1_fewestSteps_33 : decode cX1_fewestSteps 33 = .ok (.ifCond .eq 6, 3) := by decide +kernel
theorem dX1_fewestSteps_36 : decode cX1_fewestSteps 36 = .ok (.iload 8, 2) := by decide +kernel
theorem dX1_fewestSteps_38 : decode cX1_fewestSteps 38 = .ok (.ireturn, 1) := by decide +kernel
theorem dX1_fewestSteps_39 : decode cX1_fewestSteps 39 = .ok (.lload 4, 2) := by decide +kernel
theorem dX1_fewestSteps_41 : decode cX1_fewestSteps 41 = .ok (.invokestatic 19, 3) := by decide +kernel
theorem dX1_fewestSteps_44 : decode cX1_fewestSteps 44 = .ok (.lload_n 0, 1) := by decide +kernel
theorem dX1_fewestSteps_45 : decode cX1_fewestSteps 45 = .ok (.land, 1) := by decide +kernel
theorem dX1_fewestSteps_46 : decode cX1_fewestSteps 46 = .ok (.lstore 4, 2) := by decide +kernel
theorem dX1_fewestSteps_48 : decode cX1_fewestSteps 48 = .ok (.iinc 8 1, 3) := by decide +kernel
theorem dX1_fewestSteps_51 : decode cX1_fewestSteps 51 = .ok (.goto (-32), 3) := by decide +kernel
theorem dX1_fewestSteps_54 : decode cX1_fewestSteps 54 = .ok (.iconst (-1), 1) := by decide +kernel
theorem dX1_fewestSteps_55 : decode cX1_fewestSteps 55 = .ok (.ireturn, 1) := by decide +kernel
theorem dX2_startAnew_0 : decode cX2_startAnew 0 = .ok (.aload_n 0, 1) := by decide +kernel
theorem dX2_startAnew_1 : decode cX2_startAnew 1 = .ok (.aload_n 1, 1) := by decide +kernel
theorem dX2_startAnew_2 : decode cX2_startAnew 2 = .ok (.putfield 9, 3) := by decide +kernel
theorem dX2_startAnew_5 : decode cX2_startAnew 5 = .ok (.aload_n 0, 1) := by decide +kernel
theorem dX2_startAnew_6 : decode cX2_startAnew 6 = .ok (.iload_n 2, 1) := by decide +kernel
theorem dX2_startAnew_7 : decode cX2_startAnew 7 = .ok (.putfield 22, 3) := by decide +kernel
theorem dX2_startAnew_10 : decode cX2_startAnew 10 = .ok (.aload_n 0, 1) := by decide +kernel
theorem dX2_startAnew_11 : decode cX2_startAnew 11 = .ok (.bipush 30, 2) := by decide +kernel
theorem dX2_startAnew_13 : decode cX2_startAnew 13 = .ok (.putfield 26, 3) := by decide +kernel
theorem dX2_startAnew_16 : decode cX2_startAnew 16 = .ok (.aload_n 0, 1) := by decide +kernel
theorem dX2_startAnew_17 : decode cX2_startAnew 17 = .ok (.iconst 0, 1) := by decide +kernel
theorem dX2_startAnew_18 : decode cX2_startAnew 18 = .ok (.putfield 29, 3) := by decide +kernel
theorem dX2_startAnew_21 : decode cX2_startAnew 21 = .ok (.aload_n 0, 1) := by decide +kernel
theorem dX2_startAnew_22 : decode cX2_startAnew 22 = .ok (.iconst 0, 1) := by decide +kernel
theorem dX2_startAnew_23 : decode cX2_startAnew 23 = .ok (.putfield 32, 3) := by decide +kernel
theorem dX2_startAnew_26 : decode cX2_startAnew 26 = .ok (.aload_n 0, 1) := by decide +kernel
theorem dX2_startAnew_27 : decode cX2_startAnew 27 = .ok (.iload_n 2, 1) := by decide +kernel
theorem dX2_startAnew_28 : decode cX2_startAnew 28 = .ok (.invokestatic 35, 3) := by decide +kernel
theorem dX2_startAnew_31 : decode cX2_startAnew 31 = .ok (.putfield 41, 3) := by decide +kernel
theorem dX2_startAnew_34 : decode cX2_startAnew 34 = .ok (.aload_n 0, 1) := by decide +kernel
theorem dX2_startAnew_35 : decode cX2_startAnew 35 = .ok (.iconst 0, 1) := by decide +kernel
theorem dX2_startAnew_36 : decode cX2_startAnew 36 = .ok (.putfield 45, 3) := by decide +kernel
theorem dX2_startAnew_39 : decode cX2_startAnew 39 = .ok (.return_, 1) := by decide +kernel
theorem dX2_takeFrom_0 : decode cX2_takeFrom 0 = .ok (.aload_n 0, 1) := by decide +kernel
theorem dX2_takeFrom_1 : decode cX2_takeFrom 1 = .ok (.aload_n 1, 1) := by decide +kernel
theorem dX2_takeFrom_2 : decode cX2_takeFrom 2 = .ok (.getfield 9, 3) := by decide +kernel
theorem dX2_takeFrom_5 : decode cX2_takeFrom 5 = .ok (.putfield 9, 3) := by decide +kernel
theorem dX2_takeFrom_8 : decode cX2_takeFrom 8 = .ok (.aload_n 0, 1) := by decide +kernel
theorem dX2_takeFrom_9 : decode cX2_takeFrom 9 = .ok (.aload_n 1, 1) := by decide +kernel
theorem dX2_takeFrom_10 : decode cX2_takeFrom 10 = .ok (.getfield 22, 3) := by decide +kernel
theorem dX2_takeFrom_13 : decode cX2_takeFrom 13 = .ok (.putfield 22, 3) := by decide +kernel
theorem dX2_takeFrom_16 : decode cX2_takeFrom 16 = .ok (.aload_n 0, 1) := by decide +kernel
theorem dX2_takeFrom_17 : decode cX2_takeFrom 17 = .ok (.aload_n 1, 1) := by decide +kernel
theorem dX2_takeFrom_18 : decode cX2_takeFrom 18 = .ok (.getfield 26, 3) := by decide +kernel
theorem dX2_takeFrom_21 : decode cX2_takeFrom 21 = .ok (.putfield 26, 3) := by decide +kernel
theorem dX2_takeFrom_24 : decode cX2_takeFrom 24 = .ok (.aload_n 0, 1) := by decide +kernel
theorem dX2_takeFrom_25 : decode cX2_takeFrom 25 = .ok (.aload_n 1, 1) := by decide +kernel
theorem dX2_takeFrom_26 : decode cX2_takeFrom 26 = .ok (.getfield 29, 3) := by decide +kernel
theorem dX2_takeFrom_29 : decode cX2_takeFrom 29 = .ok (.putfield 29, 3) := by decide +kernel
theorem dX2_takeFrom_32 : decode cX2_takeFrom 32 = .ok (.aload_n 0, 1) := by decide +kernel
theorem dX2_takeFrom_33 : decode cX2_takeFrom 33 = .ok (.aload_n 1, 1) := by decide +kernel
theorem dX2_takeFrom_34 : decode cX2_takeFrom 34 = .ok (.getfield 32, 3) := by decide +kernel
theorem dX2_takeFrom_37 : decode cX2_takeFrom 37 = .ok (.putfield 32, 3) := by decide +kernel
theorem dX2_takeFrom_40 : decode cX2_takeFrom 40 = .ok (.aload_n 1, 1) := by decide +kernel
theorem dX2_takeFrom_41 : decode cX2_takeFrom 41 = .ok (.getfield 15, 3) := by decide +kernel
theorem dX2_takeFrom_44 : decode cX2_takeFrom 44 = .ok (.iconst 0, 1) := by decide +kernel
theorem dX2_takeFrom_45 : decode cX2_takeFrom 45 = .ok (.aload_n 0, 1) := by decide +kernel
theorem dX2_takeFrom_46 : decode cX2_takeFrom 46 = .ok (.getfield 15, 3) := by decide +kernel
theorem dX2_takeFrom_49 : decode cX2_takeFrom 49 = .ok (.iconst 0, 1) := by decide +kernel
theorem dX2_takeFrom_50 : decode cX2_takeFrom 50 = .ok (.bipush 8, 2) := by decide +kernel
theorem dX2_takeFrom_52 : decode cX2_takeFrom 52 = .ok (.invokestatic 48, 3) := by decide +kernel
theorem dX2_takeFrom_55 : decode cX2_takeFrom 55 = .ok (.aload_n 1, 1) := by decide +kernel
theorem dX2_takeFrom_56 : decode cX2_takeFrom 56 = .ok (.getfield 19, 3) := by decide +kernel
theorem dX2_takeFrom_59 : decode cX2_takeFrom 59 = .ok (.iconst 0, 1) := by decide +kernel
theorem dX2_takeFrom_60 : decode cX2_takeFrom 60 = .ok (.aload_n 0, 1) := by decide +kernel
theorem dX2_takeFrom_61 : decode cX2_takeFrom 61 = .ok (.getfield 19, 3) := by decide +kernel
theorem dX2_takeFrom_64 : decode cX2_takeFrom 64 = .ok (.iconst 0, 1) := by decide +kernel
theorem dX2_takeFrom_65 : decode cX2_takeFrom 65 = .ok (.bipush 8, 2) := by decide +kernel
theorem dX2_takeFrom_67 : decode cX2_takeFrom 67 = .ok (.invokestatic 48, 3) := by decide +kernel
theorem dX2_takeFrom_70 : decode cX2_takeFrom 70 = .ok (.aload_n 0, 1) := by decide +kernel
theorem dX2_takeFrom_71 : decode cX2_takeFrom 71 = .ok (.aload_n 1, 1) := by decide +kernel
theorem dX2_takeFrom_72 : decode cX2_takeFrom 72 = .ok (.getfield 41, 3) := by decide +kernel
theorem dX2_takeFrom_75 : decode cX2_takeFrom 75 = .ok (.putfield 41, 3) := by decide +kernel
theorem dX2_takeFrom_78 : decode cX2_takeFrom 78 = .ok (.aload_n 0, 1) := by decide +kernel
theorem dX2_takeFrom_79 : decode cX2_takeFrom 79 = .ok (.aload_n 1, 1) := by decide +kernel
theorem dX2_takeFrom_80 : decode cX2_takeFrom 80 = .ok (.getfield 45, 3) := by decide +kernel
theorem dX2_takeFrom_83 : decode cX2_takeFrom 83 = .ok (.putfield 45, 3) := by decide +kernel
theorem dX2_takeFrom_86 : decode cX2_takeFrom 86 = .ok (.aload_n 0, 1) := by decide +kernel
theorem dX2_takeFrom_87 : decode cX2_takeFrom 87 = .ok (.aload_n 1, 1) := by decide +kernel
theorem dX2_takeFrom_88 : decode cX2_takeFrom 88 = .ok (.getfield 54, 3) := by decide +kernel
theorem dX2_takeFrom_91 : decode cX2_takeFrom 91 = .ok (.putfield 54, 3) := by decide +kernel
theorem dX2_takeFrom_94 : decode cX2_takeFrom 94 = .ok (.aload_n 0, 1) := by decide +kernel
theorem dX2_takeFrom_95 : decode cX2_takeFrom 95 = .ok (.aload_n 1, 1) := by decide +kernel
theorem dX2_takeFrom_96 : decode cX2_takeFrom 96 = .ok (.getfield 57, 3) := by decide +kernel
theorem dX2_takeFrom_99 : decode cX2_takeFrom 99 = .ok (.putfield 57, 3) := by decide +kernel
theorem dX2_takeFrom_102 : decode cX2_takeFrom 102 = .ok (.return_, 1) := by decide +kernel
theorem dX2_hasStroke_0 : decode cX2_hasStroke 0 = .ok (.iload_n 1, 1) := by decide +kernel
theorem dX2_hasStroke_1 : decode cX2_hasStroke 1 = .ok (.ifCond .lt 21, 3) := by decide +kernel
theorem dX2_hasStroke_4 : decode cX2_hasStroke 4 = .ok (.iload_n 1, 1) := by decide +kernel
theorem dX2_hasStroke_5 : decode cX2_hasStroke 5 = .ok (.aload_n 0, 1) := by decide +kernel
theorem dX2_hasStroke_6 : decode cX2_hasStroke 6 = .ok (.getfield 32, 3) := by decide +kernel
theorem dX2_hasStroke_9 : decode cX2_hasStroke 9 = .ok (.if_icmp .ge 13, 3) := by decide +kernel
theorem dX2_hasStroke_12 : decode cX2_hasStroke 12 = .ok (.iload_n 1, 1) := by decide +kernel
theorem dX2_hasStroke_13 : decode cX2_hasStroke 13 = .ok (.bipush 8, 2) := by decide +kernel
theorem dX2_hasStroke_15 : decode cX2_hasStroke 15 = .ok (.if_icmp .ge 7, 3) := by decide +kernel
theorem dX2_hasStroke_18 : decode cX2_hasStroke 18 = .ok (.iconst 1, 1) := by decide +kernel
theorem dX2_hasStroke_19 : decode cX2_hasStroke 19 = .ok (.goto 4, 3) := by decide +kernel
theorem dX2_hasStroke_22 : decode cX2_hasStroke 22 = .ok (.iconst 0, 1) := by decide +kernel
theorem dX2_hasStroke_23 : decode cX2_hasStroke 23 = .ok (.ireturn, 1) := by decide +kernel
theorem dX2_addStroke_0 : decode cX2_addStroke 0 = .ok (.aload_n 0, 1) := by decide +kernel
theorem dX2_addStroke_1 : decode cX2_addStroke 1 = .ok (.getfield 32, 3) := by decide +kernel
theorem dX2_addStroke_4 : decode cX2_addStroke 4 = .ok (.ifCond .lt 12, 3) := by decide +kernel
theorem dX2_addStroke_7 : decode cX2_addStroke 7 = .ok (.aload_n 0, 1) := by decide +kernel
theorem dX2_addStroke_8 : decode cX2_addStroke 8 = .ok (.getfield 32, 3) := by decide +kernel
theorem dX2_addStroke_11 : decode cX2_addStroke 11 = .ok (.bipush 8, 2) := by decide +kernel
theorem dX2_addStroke_13 : decode cX2_addStroke 13 = .ok (.if_icmp .lt 5, 3) := by decide +kernel
theorem dX2_addStroke_16 : decode cX2_addStroke 16 = .ok (.iconst 0, 1) := by decide +kernel
theorem dX2_addStroke_17 : decode cX2_addStroke 17 = .ok (.ireturn, 1) := by decide +kernel
theorem dX2_addStroke_18 : decode cX2_addStroke 18 = .ok (.aload_n 0, 1) := by decide +kernel
theorem dX2_addStroke_19 : decode cX2_addStroke 19 = .ok (.getfield 15, 3) := by decide +kernel
theorem dX2_addStroke_22 : decode cX2_addStroke 22 = .ok (.aload_n 0, 1) := by decide +kernel
theorem dX2_addStroke_23 : decode cX2_addStroke 23 = .ok (.getfield 32, 3) := by decide +kernel
theorem dX2_addStroke_26 : decode cX2_addStroke 26 = .ok (.iload_n 1, 1) := by decide +kernel
theorem dX2_addStroke_27 : decode cX2_addStroke 27 = .ok (.iastore, 1) := by decide +kernel
theorem dX2_addStroke_28 : decode cX2_addStroke 28 = .ok (.aload_n 0, 1) := by decide +kernel
theorem dX2_addStroke_29 : decode cX2_addStroke 29 = .ok (.getfield 19, 3) := by decide +kernel
theorem dX2_addStroke_32 : decode cX2_addStroke 32 = .ok (.aload_n 0, 1) := by decide +kernel
theorem dX2_addStroke_33 : decode cX2_addStroke 33 = .ok (.getfield 32, 3) := by decide +kernel
theorem dX2_addStroke_36 : decode cX2_addStroke 36 = .ok (.iload_n 2, 1) := by decide +kernel
theorem dX2_addStroke_37 : decode cX2_addStroke 37 = .ok (.iastore, 1) := by decide +kernel
theorem dX2_addStroke_38 : decode cX2_addStroke 38 = .ok (.aload_n 0, 1) := by decide +kernel
theorem dX2_addStroke_39 : decode cX2_addStroke 39 = .ok (.dup, 1) := by decide +kernel
theorem dX2_addStroke_40 : decode cX2_addStroke 40 = .ok (.getfield 32, 3) := by decide +kernel
theorem dX2_addStroke_43 : decode cX2_addStroke 43 = .ok (.iconst 1, 1) := by decide +kernel
theorem dX2_addStroke_44 : decode cX2_addStroke 44 = .ok (.iadd, 1) := by decide +kernel
theorem dX2_addStroke_45 : decode cX2_addStroke 45 = .ok (.putfield 32, 3) := by decide +kernel
theorem dX2_addStroke_48 : decode cX2_addStroke 48 = .ok (.iconst 1, 1) := by decide +kernel
theorem dX2_addStroke_49 : decode cX2_addStroke 49 = .ok (.ireturn, 1) := by decide +kernel
theorem dX2_moveTo_0 : decode cX2_moveTo 0 = .ok (.aload_n 0, 1) := by decide +kernel
theorem dX2_moveTo_1 : decode cX2_moveTo 1 = .ok (.iload_n 1, 1) := by decide +kernel
theorem dX2_moveTo_2 : decode cX2_moveTo 2 = .ok (.putfield 22, 3) := by decide +kernel
theorem dX2_moveTo_5 : decode cX2_moveTo 5 = .ok (.aload_n 0, 1) := by decide +kernel
theorem dX2_moveTo_6 : decode cX2_moveTo 6 = .ok (.invokevirtual 60, 3) := by decide +kernel
theorem dX2_moveTo_9 : decode cX2_moveTo 9 = .ok (.return_, 1) := by decide +kernel
theorem dX2_become_0 : decode cX2_become 0 = .ok (.aload_n 0, 1) := by decide +kernel
theorem dX2_become_1 : decode cX2_become 1 = .ok (.aload_n 1, 1) := by decide +kernel
theorem dX2_become_2 : decode cX2_become 2 = .ok (.putfield 9, 3) := by decide +kernel
theorem dX2_become_5 : decode cX2_become 5 = .ok (.aload_n 0, 1) := by decide +kernel
theorem dX2_become_6 : decode cX2_become 6 = .ok (.invokevirtual 60, 3) := by decide +kernel
theorem dX2_become_9 : decode cX2_become 9 = .ok (.return_, 1) := by decide +kernel
theorem dX2_trace_0 : decode cX2_trace 0 = .ok (.aload_n 0, 1) := by decide +kernel
theorem dX2_trace_1 : decode cX2_trace 1 = .ok (.getfield 22, 3) := by decide +kernel
theorem dX2_trace_4 : decode cX2_trace 4 = .ok (.istore_n 1, 1) := by decide +kernel
theorem dX2_trace_5 : decode cX2_trace 5 = .ok (.aload_n 0, 1) := by decide +kernel
theorem dX2_trace_6 : decode cX2_trace 6 = .ok (.iload_n 1, 1) := by decide +kernel
theorem dX2_trace_7 : decode cX2_trace 7 = .ok (.invokestatic 35, 3) := by decide +kernel
theorem dX2_trace_10 : decode cX2_trace 10 = .ok (.putfield 41, 3) := by decide +kernel
theorem dX2_trace_13 : decode cX2_trace 13 = .ok (.aload_n 0, 1) := by decide +kernel
theorem dX2_trace_14 : decode cX2_trace 14 = .ok (.iconst 0, 1) := by decide +kernel
theorem dX2_trace_15 : decode cX2_trace 15 = .ok (.putfield 45, 3) := by decide +kernel
theorem dX2_trace_18 : decode cX2_trace 18 = .ok (.iconst 0, 1) := by decide +kernel
theorem dX2_trace_19 : decode cX2_trace 19 = .ok (.istore_n 2, 1) := by decide +kernel
theorem dX2_trace_20 : decode cX2_trace 20 = .ok (.iload_n 2, 1) := by decide +kernel
theorem dX2_trace_21 : decode cX2_trace 21 = .ok (.aload_n 0, 1) := by decide +kernel
theorem dX2_trace_22 : decode cX2_trace 22 = .ok (.getfield 32, 3) := by decide +kernel
theorem dX2_trace_25 : decode cX2_trace 25 = .ok (.if_icmp .ge 102, 3) := by decide +kernel
theorem dX2_trace_28 : decode cX2_trace 28 = .ok (.iload_n 2, 1) := by decide +kernel
theorem dX2_trace_29 : decode cX2_trace 29 = .ok (.bipush 8, 2) := by decide +kernel
theorem dX2_trace_31 : decode cX2_trace 31 = .ok (.if_icmp .ge 96, 3) := by decide +kernel
theorem dX2_trace_34 : decode cX2_trace 34 = .ok (.aload_n 0, 1) := by decide +kernel
theorem dX2_trace_35 : decode cX2_trace 35 = .ok (.getfield 9, 3) := by decide +kernel
theorem dX2_trace_38 : decode cX2_trace 38 = .ok (.aload_n 0, 1) := by decide +kernel
theorem dX2_trace_39 : decode cX2_trace 39 = .ok (.getfield 15, 3) := by decide +kernel
theorem dX2_trace_42 : decode cX2_trace 42 = .ok (.iload_n 2, 1) := by decide +kernel
theorem dX2_trace_43 : decode cX2_trace 43 = .ok (.iaload, 1) := by decide +kernel
theorem dX2_trace_44 : decode cX2_trace 44 = .ok (.invokevirtual 63, 3) := by decide +kernel
theorem dX2_trace_47 : decode cX2_trace 47 = .ok (.istore_n 3, 1) := by decide +kernel
theorem dX2_trace_48 : decode cX2_trace 48 = .ok (.aload_n 0, 1) := by decide +kernel
theorem dX2_trace_49 : decode cX2_trace 49 = .ok (.getfield 9, 3) := by decide +kernel
theorem dX2_trace_52 : decode cX2_trace 52 = .ok (.iload_n 2, 1) := by decide +kernel
theorem dX2_trace_53 : decode cX2_trace 53 = .ok (.aload_n 0, 1) := by decide +kernel
theorem dX2_trace_54 : decode cX2_trace 54 = .ok (.getfield 19, 3) := by decide +kernel
theorem dX2_trace_57 : decode cX2_trace 57 = .ok (.iload_n 2, 1) := by decide +kernel
theorem dX2_trace_58 : decode cX2_trace 58 = .ok (.iaload, 1) := by decide +kernel
theorem dX2_trace_59 : decode cX2_trace 59 = .ok (.invokevirtual 69, 3) := by decide +kernel
theorem dX2_trace_62 : decode cX2_trace 62 = .ok (.istore 4, 2) := by decide +kernel
theorem dX2_trace_64 : decode cX2_trace 64 = .ok (.iconst 0, 1) := by decide +kernel
theorem dX2_trace_65 : decode cX2_trace 65 = .ok (.istore 5, 2) := by decide +kernel
theorem dX2_trace_67 : decode cX2_trace 67 = .ok (.iload 5, 2) := by decide +kernel
theorem dX2_trace_69 : decode cX2_trace 69 = .ok (.iload 4, 2) := by decide +kernel
theorem dX2_trace_71 : decode cX2_trace 71 = .ok (.if_icmp .ge 50, 3) := by decide +kernel
theorem dX2_trace_74 : decode cX2_trace 74 = .ok (.iload_n 1, 1) := by decide +kernel
theorem dX2_trace_75 : decode cX2_trace 75 = .ok (.iload_n 3, 1) := by decide +kernel
theorem dX2_trace_76 : decode cX2_trace 76 = .ok (.invokestatic 73, 3) := by decide +kernel
theorem dX2_trace_79 : decode cX2_trace 79 = .ok (.istore 6, 2) := by decide +kernel
theorem dX2_trace_81 : decode cX2_trace 81 = .ok (.iload 6, 2) := by decide +kernel
theorem dX2_trace_83 : decode cX2_trace 83 = .ok (.ifCond .ge 6, 3) := by decide +kernel
theorem dX2_trace_86 : decode cX2_trace 86 = .ok (.goto 35, 3) := by decide +kernel
theorem dX2_trace_89 : decode cX2_trace 89 = .ok (.iload 6, 2) := by decide +kernel
theorem dX2_trace_91 : decode cX2_trace 91 = .ok (.istore_n 1, 1) := by decide +kernel
theorem dX2_trace_92 : decode cX2_trace 92 = .ok (.aload_n 0, 1) := by decide +kernel
theorem dX2_trace_93 : decode cX2_trace 93 = .ok (.dup, 1) := by decide +kernel
theorem dX2_trace_94 : decode cX2_trace 94 = .ok (.getfield 41, 3) := by decide +kernel
theorem dX2_trace_97 : decode cX2_trace 97 = .ok (.iload_n 1, 1) := by decide +kernel
theorem dX2_trace_98 : decode cX2_trace 98 = .ok (.invokestatic 35, 3) := by decide +kernel
theorem dX2_trace_101 : decode cX2_trace 101 = .ok (.lor, 1) := by decide +kernel
theorem dX2_trace_102 : decode cX2_trace 102 = .ok (.putfield 41, 3) := by decide +kernel
theorem dX2_trace_105 : decode cX2_trace 105 = .ok (.aload_n 0, 1) := by decide +kernel
theorem dX2_trace_106 : decode cX2_trace 106 = .ok (.dup, 1) := by decide +kernel
theorem dX2_trace_107 : decode cX2_trace 107 = .ok (.getfield 45, 3) := by decide +kernel
theorem dX2_trace_110 : decode cX2_trace 110 = .ok (.iconst 1, 1) := by decide +kernel
theorem dX2_trace_111 : decode cX2_trace 111 = .ok (.iadd, 1) := by decide +kernel
theorem dX2_trace_112 : decode cX2_trace 112 = .ok (.putfield 45, 3) := by decide +kernel
theorem dX2_trace_115 : decode cX2_trace 115 = .ok (.iinc 5 1, 3) := by decide +kernel
theorem dX2_trace_118 : decode cX2_trace 118 = .ok (.goto (-51), 3) := by decide +kernel
theorem dX2_trace_121 : decode cX2_trace 121 = .ok (.iinc 2 1, 3) := by decide +kernel
theorem dX2_trace_124 : decode cX2_trace 124 = .ok (.goto (-104), 3) := by decide +kernel
theorem dX2_trace_127 : decode cX2_trace 127 = .ok (.return_, 1) := by decide +kernel
theorem dX2_writes_0 : decode cX2_writes 0 = .ok (.aload_n 0, 1) := by decide +kernel
theorem dX2_writes_1 : decode cX2_writes 1 = .ok (.getfield 26, 3) := by decide +kernel
theorem dX2_writes_4 : decode cX2_writes 4 = .ok (.aload_n 0, 1) := by decide +kernel
theorem dX2_writes_5 : decode cX2_writes 5 = .ok (.getfield 45, 3) := by decide +kernel
theorem dX2_writes_8 : decode cX2_writes 8 = .ok (.if_icmp .lt 7, 3) := by decide +kernel
theorem dX2_writes_11 : decode cX2_writes 11 = .ok (.iconst 1, 1) := by decide +kernel
theorem dX2_writes_12 : decode cX2_writes 12 = .ok (.goto 4, 3) := by decide +kernel
theorem dX2_writes_15 : decode cX2_writes 15 = .ok (.iconst 0, 1) := by decide +kernel
theorem dX2_writes_16 : decode cX2_writes 16 = .ok (.ireturn, 1) := by decide +kernel
theorem dX2_lineUnder_0 : decode cX2_lineUnder 0 = .ok (.aload_n 0, 1) := by decide +kernel
theorem dX2_lineUnder_1 : decode cX2_lineUnder 1 = .ok (.getfield 41, 3) := by decide +kernel
theorem dX2_lineUnder_4 : decode cX2_lineUnder 4 = .ok (.lload_n 1, 1) := by decide +kernel
theorem dX2_lineUnder_5 : decode cX2_lineUnder 5 = .ok (.ldc2_w 76, 3) := by decide +kernel
theorem dX2_lineUnder_8 : decode cX2_lineUnder 8 = .ok (.lxor, 1) := by decide +kernel
theorem dX2_lineUnder_9 : decode cX2_lineUnder 9 = .ok (.land, 1) := by decide +kernel
theorem dX2_lineUnder_10 : decode cX2_lineUnder 10 = .ok (.lreturn, 1) := by decide +kernel
theorem dX2_insideUnder_0 : decode cX2_insideUnder 0 = .ok (.aload_n 0, 1) := by decide +kernel
theorem dX2_insideUnder_1 : decode cX2_insideUnder 1 = .ok (.lload_n 1, 1) := by decide +kernel
theorem dX2_insideUnder_2 : decode cX2_insideUnder 2 = .ok (.invokevirtual 78, 3) := by decide +kernel
theorem dX2_insideUnder_5 : decode cX2_insideUnder 5 = .ok (.lstore_n 3, 1) := by decide +kernel
theorem dX2_insideUnder_6 : decode cX2_insideUnder 6 = .ok (.lload_n 3, 1) := by decide +kernel
theorem dX2_insideUnder_7 : decode cX2_insideUnder 7 = .ok (.aload_n 0, 1) := by decide +kernel
theorem dX2_insideUnder_8 : decode cX2_insideUnder 8 = .ok (.getfield 54, 3) := by decide +kernel
theorem dX2_insideUnder_11 : decode cX2_insideUnder 11 = .ok (.lcmp, 1) := by decide +kernel
theorem dX2_insideUnder_12 : decode cX2_insideUnder 12 = .ok (.ifCond .eq 16, 3) := by decide +kernel
theorem dX2_insideUnder_15 : decode cX2_insideUnder 15 = .ok (.aload_n 0, 1) := by decide +kernel
theorem dX2_insideUnder_16 : decode cX2_insideUnder 16 = .ok (.lload_n 3, 1) := by decide +kernel
theorem dX2_insideUnder_17 : decode cX2_insideUnder 17 = .ok (.putfield 54, 3) := by decide +kernel
theorem dX2_insideUnder_20 : decode cX2_insideUnder 20 = .ok (.aload_n 0, 1) := by decide +kernel
theorem dX2_insideUnder_21 : decode cX2_insideUnder 21 = .ok (.lload_n 3, 1) := by decide +kernel
theorem dX2_insideUnder_22 : decode cX2_insideUnder 22 = .ok (.invokestatic 82, 3) := by decide +kernel
theorem dX2_insideUnder_25 : decode cX2_insideUnder 25 = .ok (.putfield 57, 3) := by decide +kernel
theorem dX2_insideUnder_28 : decode cX2_insideUnder 28 = .ok (.aload_n 0, 1) := by decide +kernel
theorem dX2_insideUnder_29 : decode cX2_insideUnder 29 = .ok (.getfield 57, 3) := by decide +kernel
theorem dX2_insideUnder_32 : decode cX2_insideUnder 32 = .ok (.lreturn, 1) := by decide +kernel
theorem dX2_howManyInside_0 : decode cX2_howManyInside 0 = .ok (.aload_n 0, 1) := by decide +kernel
theorem dX2_howManyInside_1 : decode cX2_howManyInside 1 = .ok (.lload_n 1, 1) := by decide +kernel
theorem dX2_howManyInside_2 : decode cX2_howManyInside 2 = .ok (.invokevirtual 85, 3) := by decide +kernel
theorem dX2_howManyInside_5 : decode cX2_howManyInside 5 = .ok (.invokestatic 88, 3) := by decide +kernel
theorem dX2_howManyInside_8 : decode cX2_howManyInside 8 = .ok (.ireturn, 1) := by decide +kernel
theorem dX2_howManyInsideWithLonger_0 : decode cX2_howManyInsideWithLonger 0 = .ok (.aload_n 0, 1) := by decide +kernel
theorem dX2_howManyInsideWithLonger_1 : decode cX2_howManyInsideWithLonger 1 = .ok (.iload_n 1, 1) := by decide +kernel
theorem dX2_howManyInsideWithLonger_2 : decode cX2_howManyInsideWithLonger 2 = .ok (.invokevirtual 94, 3) := by decide +kernel
theorem dX2_howManyInsideWithLonger_5 : decode cX2_howManyInsideWithLonger 5 = .ok (.ifCond .eq 14, 3) := by decide +kernel
theorem dX2_howManyInsideWithLonger_8 : decode cX2_howManyInsideWithLonger 8 = .ok (.aload_n 0, 1) := by decide +kernel
theorem dX2_howManyInsideWithLonger_9 : decode cX2_howManyInsideWithLonger 9 = .ok (.getfield 19, 3) := by decide +kernel
theorem dX2_howManyInsideWithLonger_12 : decode cX2_howManyInsideWithLonger 12 = .ok (.iload_n 1, 1) := by decide +kernel
theorem dX2_howManyInsideWithLonger_13 : decode cX2_howManyInsideWithLonger 13 = .ok (.iaload, 1) := by decide +kernel
theorem dX2_howManyInsideWithLonger_14 : decode cX2_howManyInsideWithLonger 14 = .ok (.bipush 7, 2) := by decide +kernel
theorem dX2_howManyInsideWithLonger_16 : decode cX2_howManyInsideWithLonger 16 = .ok (.if_icmp .lt 9, 3) := by decide +kernel
theorem dX2_howManyInsideWithLonger_19 : decode cX2_howManyInsideWithLonger 19 = .ok (.aload_n 0, 1) := by decide +kernel
theorem dX2_howManyInsideWithLonger_20 : decode cX2_howManyInsideWithLonger 20 = .ok (.lload_n 2, 1) := by decide +kernel
theorem dX2_howManyInsideWithLonger_21 : decode cX2_howManyInsideWithLonger 21 = .ok (.invokevirtual 98, 3) := by decide +kernel
theorem dX2_howManyInsideWithLonger_24 : decode cX2_howManyInsideWithLonger 24 = .ok (.ireturn, 1) := by decide +kernel
theorem dX2_howManyInsideWithLonger_25 : decode cX2_howManyInsideWithLonger 25 = .ok (.aload_n 0, 1) := by decide +kernel
theorem dX2_howManyInsideWithLonger_26 : decode cX2_howManyInsideWithLonger 26 = .ok (.getfield 19, 3) := by decide +kernel
theorem dX2_howManyInsideWithLonger_29 : decode cX2_howManyInsideWithLonger 29 = .ok (.iload_n 1, 1) := by decide +kernel
theorem dX2_howManyInsideWithLonger_30 : decode cX2_howManyInsideWithLonger 30 = .ok (.dup2, 1) := by decide +kernel
theorem dX2_howManyInsideWithLonger_31 : decode cX2_howManyInsideWithLonger 31 = .ok (.iaload, 1) := by decide +kernel
theorem dX2_howManyInsideWithLonger_32 : decode cX2_howManyInsideWithLonger 32 = .ok (.iconst 1, 1) := by decide +kernel
theorem dX2_howManyInsideWithLonger_33 : decode cX2_howManyInsideWithLonger 33 = .ok (.iadd, 1) := by decide +kernel
theorem dX2_howManyInsideWithLonger_34 : decode cX2_howManyInsideWithLonger 34 = .ok (.iastore, 1) := by decide +kernel
theorem dX2_howManyInsideWithLonger_35 : decode cX2_howManyInsideWithLonger 35 = .ok (.aload_n 0, 1) := by decide +kernel
theorem dX2_howManyInsideWithLonger_36 : decode cX2_howManyInsideWithLonger 36 = .ok (.invokevirtual 60, 3) := by decide +kernel
theorem dX2_howManyInsideWithLonger_39 : decode cX2_howManyInsideWithLonger 39 = .ok (.aload_n 0, 1) := by decide +kernel
theorem dX2_howManyInsideWithLonger_40 : decode cX2_howManyInsideWithLonger 40 = .ok (.lload_n 2, 1) := by decide +kernel
theorem dX2_howManyInsideWithLonger_41 : decode cX2_howManyInsideWithLonger 41 = .ok (.invokevirtual 98, 3) := by decide +kernel
theorem dX2_howManyInsideWithLonger_44 : decode cX2_howManyInsideWithLonger 44 = .ok (.istore 4, 2) := by decide +kernel
theorem dX2_howManyInsideWithLonger_46 : decode cX2_howManyInsideWithLonger 46 = .ok (.aload_n 0, 1) := by decide +kernel
theorem dX2_howManyInsideWithLonger_47 : decode cX2_howManyInsideWithLonger 47 = .ok (.getfield 19, 3) := by decide +kernel
theorem dX2_howManyInsideWithLonger_50 : decode cX2_howManyInsideWithLonger 50 = .ok (.iload_n 1, 1) := by decide +kernel
theorem dX2_howManyInsideWithLonger_51 : decode cX2_howManyInsideWithLonger 51 = .ok (.dup2, 1) := by decide +kernel
theorem dX2_howManyInsideWithLonger_52 : decode cX2_howManyInsideWithLonger 52 = .ok (.iaload, 1) := by decide +kernel
theorem dX2_howManyInsideWithLonger_53 : decode cX2_howManyInsideWithLonger 53 = .ok (.iconst 1, 1) := by decide +kernel
theorem dX2_howManyInsideWithLonger_54 : decode cX2_howManyInsideWithLonger 54 = .ok (.isub, 1) := by decide +kernel
theorem dX2_howManyInsideWithLonger_55 : decode cX2_howManyInsideWithLonger 55 = .ok (.iastore, 1) := by decide +kernel
theorem dX2_howManyInsideWithLonger_56 : decode cX2_howManyInsideWithLonger 56 = .ok (.aload_n 0, 1) := by decide +kernel
theorem dX2_howManyInsideWithLonger_57 : decode cX2_howManyInsideWithLonger 57 = .ok (.invokevirtual 60, 3) := by decide +kernel
theorem dX2_howManyInsideWithLonger_60 : decode cX2_howManyInsideWithLonger 60 = .ok (.iload 4, 2) := by decide +kernel
theorem dX2_howManyInsideWithLonger_62 : decode cX2_howManyInsideWithLonger 62 = .ok (.ireturn, 1) := by decide +kernel
theorem dX2_goYear_0 : decode cX2_goYear 0 = .ok (.aload_n 0, 1) := by decide +kernel
theorem dX2_goYear_1 : decode cX2_goYear 1 = .ok (.invokevirtual 101, 3) := by decide +kernel
theorem dX2_goYear_4 : decode cX2_goYear 4 = .ok (.ifCond .eq 50, 3) := by decide +kernel
theorem dX2_goYear_7 : decode cX2_goYear 7 = .ok (.aload_n 0, 1) := by decide +kernel
theorem dX2_goYear_8 : decode cX2_goYear 8 = .ok (.sipush 999, 3) := by decide +kernel
theorem dX2_goYear_11 : decode cX2_goYear 11 = .ok (.aload_n 0, 1) := by decide +kernel
theorem dX2_goYear_12 : decode cX2_goYear 12 = .ok (.getfield 26, 3) := by decide +kernel
theorem dX2_goYear_15 : decode cX2_goYear 15 = .ok (.aload_n 0, 1) := by decide +kernel
theorem dX2_goYear_16 : decode cX2_goYear 16 = .ok (.getfield 45, 3) := by decide +kernel
theorem dX2_goYear_19 : decode cX2_goYear 19 = .ok (.isub, 1) := by decide +kernel
theorem dX2_goYear_20 : decode cX2_goYear 20 = .ok (.iload_n 1, 1) := by decide +kernel
theorem dX2_goYear_21 : decode cX2_goYear 21 = .ok (.iadd, 1) := by decide +kernel
theorem dX2_goYear_22 : decode cX2_goYear 22 = .ok (.invokestatic 105, 3) := by decide +kernel
theorem dX2_goYear_25 : decode cX2_goYear 25 = .ok (.putfield 26, 3) := by decide +kernel
theorem dX2_goYear_28 : decode cX2_goYear 28 = .ok (.aload_n 0, 1) := by decide +kernel
theorem dX2_goYear_29 : decode cX2_goYear 29 = .ok (.ldc 110, 2) := by decide +kernel
theorem dX2_goYear_31 : decode cX2_goYear 31 = .ok (.aload_n 0, 1) := by decide +kernel
theorem dX2_goYear_32 : decode cX2_goYear 32 = .ok (.getfield 29, 3) := by decide +kernel
theorem dX2_goYear_35 : decode cX2_goYear 35 = .ok (.aload_n 0, 1) := by decide +kernel
theorem dX2_goYear_36 : decode cX2_goYear 36 = .ok (.getfield 9, 3) := by decide +kernel
theorem dX2_goYear_39 : decode cX2_goYear 39 = .ok (.invokevirtual 111, 3) := by decide +kernel
theorem dX2_goYear_42 : decode cX2_goYear 42 = .ok (.iload_n 1, 1) := by decide +kernel
theorem dX2_goYear_43 : decode cX2_goYear 43 = .ok (.imul, 1) := by decide +kernel
theorem dX2_goYear_44 : decode cX2_goYear 44 = .ok (.iadd, 1) := by decide +kernel
theorem dX2_goYear_45 : decode cX2_goYear 45 = .ok (.invokestatic 105, 3) := by decide +kernel
theorem dX2_goYear_48 : decode cX2_goYear 48 = .ok (.putfield 29, 3) := by decide +kernel
theorem dX2_goYear_51 : decode cX2_goYear 51 = .ok (.goto 19, 3) := by decide +kernel
theorem dX2_goYear_54 : decode cX2_goYear 54 = .ok (.aload_n 0, 1) := by decide +kernel
theorem dX2_goYear_55 : decode cX2_goYear 55 = .ok (.sipush 999, 3) := by decide +kernel
theorem dX2_goYear_58 : decode cX2_goYear 58 = .ok (.aload_n 0, 1) := by decide +kernel
theorem dX2_goYear_59 : decode cX2_goYear 59 = .ok (.getfield 26, 3) := by decide +kernel
theorem dX2_goYear_62 : decode cX2_goYear 62 = .ok (.iconst 5, 1) := by decide +kernel
theorem dX2_goYear_63 : decode cX2_goYear 63 = .ok (.iadd, 1) := by decide +kernel
theorem dX2_goYear_64 : decode cX2_goYear 64 = .ok (.invokestatic 105, 3) := by decide +kernel
theorem dX2_goYear_67 : decode cX2_goYear 67 = .ok (.putfield 26, 3) := by decide +kernel
theorem dX2_goYear_70 : decode cX2_goYear 70 = .ok (.return_, 1) := by decide +kernel
theorem dX3_isOf_0 : decode cX3_isOf 0 = .ok (.iload_n 1, 1) := by decide +kernel
theorem dX3_isOf_1 : decode cX3_isOf 1 = .ok (.ifCond .ne 7, 3) := by decide +kernel
theorem dX3_isOf_4 : decode cX3_isOf 4 = .ok (.iconst 1, 1) := by decide +kernel
theorem dX3_isOf_5 : decode cX3_isOf 5 = .ok (.goto 4, 3) := by decide +kernel
theorem dX3_isOf_8 : decode cX3_isOf 8 = .ok (.iconst 0, 1) := by decide +kernel
theorem dX3_isOf_9 : decode cX3_isOf 9 = .ok (.ireturn, 1) := by decide +kernel
theorem dX3_steps_0 : decode cX3_steps 0 = .ok (.iload_n 2, 1) := by decide +kernel
theorem dX3_steps_1 : decode cX3_steps 1 = .ok (.ireturn, 1) := by decide +kernel
theorem dX3_turns_0 : decode cX3_turns 0 = .ok (.iload_n 1, 1) := by decide +kernel
theorem dX3_turns_1 : decode cX3_turns 1 = .ok (.ireturn, 1) := by decide +kernel
theorem dX3_crop_0 : decode cX3_crop 0 = .ok (.iconst 2, 1) := by decide +kernel
theorem dX3_crop_1 : decode cX3_crop 1 = .ok (.ireturn, 1) := by decide +kernel
theorem dX4_isOf_0 : decode cX4_isOf 0 = .ok (.iload_n 1, 1) := by decide +kernel
theorem dX4_isOf_1 : decode cX4_isOf 1 = .ok (.iconst 4, 1) := by decide +kernel
theorem dX4_isOf_2 : decode cX4_isOf 2 = .ok (.if_icmp .eq 11, 3) := by decide +kernel
theorem dX4_isOf_5 : decode cX4_isOf 5 = .ok (.aload_n 0, 1) := by decide +kernel
theorem dX4_isOf_6 : decode cX4_isOf 6 = .ok (.iload_n 1, 1) := by decide +kernel
theorem dX4_isOf_7 : decode cX4_isOf 7 = .ok (.invokespecial 7, 3) := by decide +kernel
theorem dX4_isOf_10 : decode cX4_isOf 10 = .ok (.ifCond .eq 7, 3) := by decide +kernel
theorem dX4_isOf_13 : decode cX4_isOf 13 = .ok (.iconst 1, 1) := by decide +kernel
theorem dX4_isOf_14 : decode cX4_isOf 14 = .ok (.goto 4, 3) := by decide +kernel
theorem dX4_isOf_17 : decode cX4_isOf 17 = .ok (.iconst 0, 1) := by decide +kernel
theorem dX4_isOf_18 : decode cX4_isOf 18 = .ok (.ireturn, 1) := by decide +kernel
theorem dX4_steps_0 : decode cX4_steps 0 = .ok (.aload_n 0, 1) := by decide +kernel
theorem dX4_steps_1 : decode cX4_steps 1 = .ok (.iload_n 1, 1) := by decide +kernel
theorem dX4_steps_2 : decode cX4_steps 2 = .ok (.iload_n 2, 1) := by decide +kernel
theorem dX4_steps_3 : decode cX4_steps 3 = .ok (.invokespecial 11, 3) := by decide +kernel
theorem dX4_steps_6 : decode cX4_steps 6 = .ok (.istore_n 3, 1) := by decide +kernel
theorem dX4_steps_7 : decode cX4_steps 7 = .ok (.iload_n 1, 1) := by decide +kernel
theorem dX4_steps_8 : decode cX4_steps 8 = .ok (.ifCond .ne 9, 3) := by decide +kernel
theorem dX4_steps_11 : decode cX4_steps 11 = .ok (.iload_n 3, 1) := by decide +kernel
theorem dX4_steps_12 : decode cX4_steps 12 = .ok (.iconst 1, 1) := by decide +kernel
theorem dX4_steps_13 : decode cX4_steps 13 = .ok (.iadd, 1) := by decide +kernel
theorem dX4_steps_14 : decode cX4_steps 14 = .ok (.goto 4, 3) := by decide +kernel
theorem dX4_steps_17 : decode cX4_steps 17 = .ok (.iload_n 3, 1) := by decide +kernel
theorem dX4_steps_18 : decode cX4_steps 18 = .ok (.ireturn, 1) := by decide +kernel
theorem dX4_crop_0 : decode cX4_crop 0 = .ok (.aload_n 0, 1) := by decide +kernel
theorem dX4_crop_1 : decode cX4_crop 1 = .ok (.invokespecial 15, 3) := by decide +kernel
theorem dX4_crop_4 : decode cX4_crop 4 = .ok (.iconst 1, 1) := by decide +kernel
theorem dX4_crop_5 : decode cX4_crop 5 = .ok (.isub, 1) := by decide +kernel
theorem dX4_crop_6 : decode cX4_crop 6 = .ok (.ireturn, 1) := by decide +kernel
theorem dX5_takeFrom_0 : decode cX5_takeFrom 0 = .ok (.aload_n 0, 1) := by decide +kernel
theorem dX5_takeFrom_1 : decode cX5_takeFrom 1 = .ok (.aload_n 1, 1) := by decide +kernel
theorem dX5_takeFrom_2 : decode cX5_takeFrom 2 = .ok (.getfield 28, 3) := by decide +kernel
theorem dX5_takeFrom_5 : decode cX5_takeFrom 5 = .ok (.putfield 28, 3) := by decide +kernel
theorem dX5_takeFrom_8 : decode cX5_takeFrom 8 = .ok (.aload_n 0, 1) := by decide +kernel
theorem dX5_takeFrom_9 : decode cX5_takeFrom 9 = .ok (.aload_n 1, 1) := by decide +kernel
theorem dX5_takeFrom_10 : decode cX5_takeFrom 10 = .ok (.getfield 32, 3) := by decide +kernel
theorem dX5_takeFrom_13 : decode cX5_takeFrom 13 = .ok (.putfield 32, 3) := by decide +kernel
theorem dX5_takeFrom_16 : decode cX5_takeFrom 16 = .ok (.aload_n 0, 1) := by decide +kernel
theorem dX5_takeFrom_17 : decode cX5_takeFrom 17 = .ok (.aload_n 1, 1) := by decide +kernel
theorem dX5_takeFrom_18 : decode cX5_takeFrom 18 = .ok (.getfield 36, 3) := by decide +kernel
theorem dX5_takeFrom_21 : decode cX5_takeFrom 21 = .ok (.putfield 36, 3) := by decide +kernel
theorem dX5_takeFrom_24 : decode cX5_takeFrom 24 = .ok (.iconst 0, 1) := by decide +kernel
theorem dX5_takeFrom_25 : decode cX5_takeFrom 25 = .ok (.istore_n 2, 1) := by decide +kernel
theorem dX5_takeFrom_26 : decode cX5_takeFrom 26 = .ok (.iload_n 2, 1) := by decide +kernel
theorem dX5_takeFrom_27 : decode cX5_takeFrom 27 = .ok (.aload_n 0, 1) := by decide +kernel
theorem dX5_takeFrom_28 : decode cX5_takeFrom 28 = .ok (.getfield 36, 3) := by decide +kernel
theorem dX5_takeFrom_31 : decode cX5_takeFrom 31 = .ok (.if_icmp .ge 33, 3) := by decide +kernel
theorem dX5_takeFrom_34 : decode cX5_takeFrom 34 = .ok (.iload_n 2, 1) := by decide +kernel
theorem dX5_takeFrom_35 : decode cX5_takeFrom 35 = .ok (.aload_n 0, 1) := by decide +kernel
theorem dX5_takeFrom_36 : decode cX5_takeFrom 36 = .ok (.getfield 11, 3) := by decide +kernel
theorem dX5_takeFrom_39 : decode cX5_takeFrom 39 = .ok (.arraylength, 1) := by decide +kernel
theorem dX5_takeFrom_40 : decode cX5_takeFrom 40 = .ok (.if_icmp .ge 24, 3) := by decide +kernel
theorem dX5_takeFrom_43 : decode cX5_takeFrom 43 = .ok (.aload_n 0, 1) := by decide +kernel
theorem dX5_takeFrom_44 : decode cX5_takeFrom 44 = .ok (.getfield 11, 3) := by decide +kernel
theorem dX5_takeFrom_47 : decode cX5_takeFrom 47 = .ok (.iload_n 2, 1) := by decide +kernel
theorem dX5_takeFrom_48 : decode cX5_takeFrom 48 = .ok (.aaload, 1) := by decide +kernel
theorem dX5_takeFrom_49 : decode cX5_takeFrom 49 = .ok (.aload_n 1, 1) := by decide +kernel
theorem dX5_takeFrom_50 : decode cX5_takeFrom 50 = .ok (.getfield 11, 3) := by decide +kernel
theorem dX5_takeFrom_53 : decode cX5_takeFrom 53 = .ok (.iload_n 2, 1) := by decide +kernel
theorem dX5_takeFrom_54 : decode cX5_takeFrom 54 = .ok (.aaload, 1) := by decide +kernel
theorem dX5_takeFrom_55 : decode cX5_takeFrom 55 = .ok (.invokevirtual 39, 3) := by decide +kernel
theorem dX5_takeFrom_58 : decode cX5_takeFrom 58 = .ok (.iinc 2 1, 3) := by decide +kernel
theorem dX5_takeFrom_61 : decode cX5_takeFrom 61 = .ok (.goto (-35), 3) := by decide +kernel
theorem dX5_takeFrom_64 : decode cX5_takeFrom 64 = .ok (.return_, 1) := by decide +kernel
theorem dX5_isFull_0 : decode cX5_isFull 0 = .ok (.aload_n 0, 1) := by decide +kernel
theorem dX5_isFull_1 : decode cX5_isFull 1 = .ok (.getfield 36, 3) := by decide +kernel
theorem dX5_isFull_4 : decode cX5_isFull 4 = .ok (.bipush 6, 2) := by decide +kernel
theorem dX5_isFull_6 : decode cX5_isFull 6 = .ok (.if_icmp .lt 7, 3) := by decide +kernel
theorem dX5_isFull_9 : decode cX5_isFull 9 = .ok (.iconst 1, 1) := by decide +kernel
theorem dX5_isFull_10 : decode cX5_isFull 10 = .ok (.goto 4, 3) := by decide +kernel
theorem dX5_isFull_13 : decode cX5_isFull 13 = .ok (.iconst 0, 1) := by decide +kernel
theorem dX5_isFull_14 : decode cX5_isFull 14 = .ok (.ireturn, 1) := by decide +kernel
theorem dX5_newHand_0 : decode cX5_newHand 0 = .ok (.aload_n 0, 1) := by decide +kernel
theorem dX5_newHand_1 : decode cX5_newHand 1 = .ok (.invokevirtual 43, 3) := by decide +kernel
theorem dX5_newHand_4 : decode cX5_newHand 4 = .ok (.ifCond .eq 5, 3) := by decide +kernel
theorem dX5_newHand_7 : decode cX5_newHand 7 = .ok (.aconst_null, 1) := by decide +kernel
theorem dX5_newHand_8 : decode cX5_newHand 8 = .ok (.areturn, 1) := by decide +kernel
theorem dX5_newHand_9 : decode cX5_newHand 9 = .ok (.aload_n 0, 1) := by decide +kernel
theorem dX5_newHand_10 : decode cX5_newHand 10 = .ok (.getfield 11, 3) := by decide +kernel
theorem dX5_newHand_13 : decode cX5_newHand 13 = .ok (.aload_n 0, 1) := by decide +kernel
theorem dX5_newHand_14 : decode cX5_newHand 14 = .ok (.getfield 36, 3) := by decide +kernel
theorem dX5_newHand_17 : decode cX5_newHand 17 = .ok (.aaload, 1) := by decide +kernel
theorem dX5_newHand_18 : decode cX5_newHand 18 = .ok (.astore_n 3, 1) := by decide +kernel
theorem dX5_newHand_19 : decode cX5_newHand 19 = .ok (.aload_n 3, 1) := by decide +kernel
theorem dX5_newHand_20 : decode cX5_newHand 20 = .ok (.aload_n 1, 1) := by decide +kernel
theorem dX5_newHand_21 : decode cX5_newHand 21 = .ok (.iload_n 2, 1) := by decide +kernel
theorem dX5_newHand_22 : decode cX5_newHand 22 = .ok (.invokevirtual 47, 3) := by decide +kernel
theorem dX5_newHand_25 : decode cX5_newHand 25 = .ok (.aload_n 0, 1) := by decide +kernel
theorem dX5_newHand_26 : decode cX5_newHand 26 = .ok (.dup, 1) := by decide +kernel
theorem dX5_newHand_27 : decode cX5_newHand 27 = .ok (.getfield 36, 3) := by decide +kernel
theorem dX5_newHand_30 : decode cX5_newHand 30 = .ok (.iconst 1, 1) := by decide +kernel
theorem dX5_newHand_31 : decode cX5_newHand 31 = .ok (.iadd, 1) := by decide +kernel
theorem dX5_newHand_32 : decode cX5_newHand 32 = .ok (.putfield 36, 3) := by decide +kernel
theorem dX5_newHand_35 : decode cX5_newHand 35 = .ok (.aload_n 3, 1) := by decide +kernel
theorem dX5_newHand_36 : decode cX5_newHand 36 = .ok (.areturn, 1) := by decide +kernel
theorem dX5_handOf_0 : decode cX5_handOf 0 = .ok (.iload_n 1, 1) := by decide +kernel
theorem dX5_handOf_1 : decode cX5_handOf 1 = .ok (.ifCond .lt 29, 3) := by decide +kernel
theorem dX5_handOf_4 : decode cX5_handOf 4 = .ok (.iload_n 1, 1) := by decide +kernel
theorem dX5_handOf_5 : decode cX5_handOf 5 = .ok (.aload_n 0, 1) := by decide +kernel
theorem dX5_handOf_6 : decode cX5_handOf 6 = .ok (.getfield 36, 3) := by decide +kernel
theorem dX5_handOf_9 : decode cX5_handOf 9 = .ok (.if_icmp .ge 21, 3) := by decide +kernel
theorem dX5_handOf_12 : decode cX5_handOf 12 = .ok (.iload_n 1, 1) := by decide +kernel
theorem dX5_handOf_13 : decode cX5_handOf 13 = .ok (.aload_n 0, 1) := by decide +kernel
theorem dX5_handOf_14 : decode cX5_handOf 14 = .ok (.getfield 11, 3) := by decide +kernel
theorem dX5_handOf_17 : decode cX5_handOf 17 = .ok (.arraylength, 1) := by decide +kernel
theorem dX5_handOf_18 : decode cX5_handOf 18 = .ok (.if_icmp .ge 12, 3) := by decide +kernel
theorem dX5_handOf_21 : decode cX5_handOf 21 = .ok (.aload_n 0, 1) := by decide +kernel
theorem dX5_handOf_22 : decode cX5_handOf 22 = .ok (.getfield 11, 3) := by decide +kernel
theorem dX5_handOf_25 : decode cX5_handOf 25 = .ok (.iload_n 1, 1) := by decide +kernel
theorem dX5_handOf_26 : decode cX5_handOf 26 = .ok (.aaload, 1) := by decide +kernel
theorem dX5_handOf_27 : decode cX5_handOf 27 = .ok (.goto 4, 3) := by decide +kernel
theorem dX5_handOf_30 : decode cX5_handOf 30 = .ok (.aconst_null, 1) := by decide +kernel
theorem dX5_handOf_31 : decode cX5_handOf 31 = .ok (.areturn, 1) := by decide +kernel
theorem dX5_traceHands_0 : decode cX5_traceHands 0 = .ok (.iconst 0, 1) := by decide +kernel
theorem dX5_traceHands_1 : decode cX5_traceHands 1 = .ok (.istore_n 1, 1) := by decide +kernel
theorem dX5_traceHands_2 : decode cX5_traceHands 2 = .ok (.iload_n 1, 1) := by decide +kernel
theorem dX5_traceHands_3 : decode cX5_traceHands 3 = .ok (.aload_n 0, 1) := by decide +kernel
theorem dX5_traceHands_4 : decode cX5_traceHands 4 = .ok (.getfield 36, 3) := by decide +kernel
theorem dX5_traceHands_7 : decode cX5_traceHands 7 = .ok (.if_icmp .ge 18, 3) := by decide +kernel
theorem dX5_traceHands_10 : decode cX5_traceHands 10 = .ok (.aload_n 0, 1) := by decide +kernel
theorem dX5_traceHands_11 : decode cX5_traceHands 11 = .ok (.getfield 11, 3) := by decide +kernel
theorem dX5_traceHands_14 : decode cX5_traceHands 14 = .ok (.iload_n 1, 1) := by decide +kernel
theorem dX5_traceHands_15 : decode cX5_traceHands 15 = .ok (.aaload, 1) := by decide +kernel
theorem dX5_traceHands_16 : decode cX5_traceHands 16 = .ok (.invokevirtual 51, 3) := by decide +kernel
theorem dX5_traceHands_19 : decode cX5_traceHands 19 = .ok (.iinc 1 1, 3) := by decide +kernel
theorem dX5_traceHands_22 : decode cX5_traceHands 22 = .ok (.goto (-20), 3) := by decide +kernel
theorem dX5_traceHands_25 : decode cX5_traceHands 25 = .ok (.return_, 1) := by decide +kernel
theorem dX5_makeSmudged_0 : decode cX5_makeSmudged 0 = .ok (.aload_n 0, 1) := by decide +kernel
theorem dX5_makeSmudged_1 : decode cX5_makeSmudged 1 = .ok (.iload_n 2, 1) := by decide +kernel
theorem dX5_makeSmudged_2 : decode cX5_makeSmudged 2 = .ok (.ifCond .eq 15, 3) := by decide +kernel
theorem dX5_makeSmudged_5 : decode cX5_makeSmudged 5 = .ok (.aload_n 0, 1) := by decide +kernel
theorem dX5_makeSmudged_6 : decode cX5_makeSmudged 6 = .ok (.getfield 28, 3) := by decide +kernel
theorem dX5_makeSmudged_9 : decode cX5_makeSmudged 9 = .ok (.iload_n 1, 1) := by decide +kernel
theorem dX5_makeSmudged_10 : decode cX5_makeSmudged 10 = .ok (.invokestatic 54, 3) := by decide +kernel
theorem dX5_makeSmudged_13 : decode cX5_makeSmudged 13 = .ok (.lor, 1) := by decide +kernel
theorem dX5_makeSmudged_14 : decode cX5_makeSmudged 14 = .ok (.goto 16, 3) := by decide +kernel
theorem dX5_makeSmudged_17 : decode cX5_makeSmudged 17 = .ok (.aload_n 0, 1) := by decide +kernel
theorem dX5_makeSmudged_18 : decode cX5_makeSmudged 18 = .ok (.getfield 28, 3) := by decide +kernel
theorem dX5_makeSmudged_21 : decode cX5_makeSmudged 21 = .ok (.iload_n 1, 1) := by decide +kernel
theorem dX5_makeSmudged_22 : decode cX5_makeSmudged 22 = .ok (.invokestatic 54, 3) := by decide +kernel
theorem dX5_makeSmudged_25 : decode cX5_makeSmudged 25 = .ok (.ldc2_w 60, 3) := by decide +kernel
theorem dX5_makeSmudged_28 : decode cX5_makeSmudged 28 = .ok (.lxor, 1) := by decide +kernel
theorem dX5_makeSmudged_29 : decode cX5_makeSmudged 29 = .ok (.land, 1) := by decide +kernel
theorem dX5_makeSmudged_30 : decode cX5_makeSmudged 30 = .ok (.putfield 28, 3) := by decide +kernel
theorem dX5_makeSmudged_33 : decode cX5_makeSmudged 33 = .ok (.return_, 1) := by decide +kernel
theorem dX5_handsOnWhoseLines_0 : decode cX5_handsOnWhoseLines 0 = .ok (.iconst 0, 1) := by decide +kernel
theorem dX5_handsOnWhoseLines_1 : decode cX5_handsOnWhoseLines 1 = .ok (.istore_n 2, 1) := by decide +kernel
theorem dX5_handsOnWhoseLines_2 : decode cX5_handsOnWhoseLines 2 = .ok (.iconst 0, 1) := by decide +kernel
theorem dX5_handsOnWhoseLines_3 : decode cX5_handsOnWhoseLines 3 = .ok (.istore_n 3, 1) := by decide +kernel
theorem dX5_handsOnWhoseLines_4 : decode cX5_handsOnWhoseLines 4 = .ok (.iload_n 3, 1) := by decide +kernel
theorem dX5_handsOnWhoseLines_5 : decode cX5_handsOnWhoseLines 5 = .ok (.aload_n 0, 1) := by decide +kernel
theorem dX5_handsOnWhoseLines_6 : decode cX5_handsOnWhoseLines 6 = .ok (.getfield 36, 3) := by decide +kernel
theorem dX5_handsOnWhoseLines_9 : decode cX5_handsOnWhoseLines 9 = .ok (.if_icmp .ge 31, 3) := by decide +kernel
theorem dX5_handsOnWhoseLines_12 : decode cX5_handsOnWhoseLines 12 = .ok (.iload_n 2, 1) := by decide +kernel
theorem dX5_handsOnWhoseLines_13 : decode cX5_handsOnWhoseLines 13 = .ok (.aload_n 0, 1) := by decide +kernel
theorem dX5_handsOnWhoseLines_14 : decode cX5_handsOnWhoseLines 14 = .ok (.getfield 11, 3) := by decide +kernel
theorem dX5_handsOnWhoseLines_17 : decode cX5_handsOnWhoseLines 17 = .ok (.iload_n 3, 1) := by decide +kernel
theorem dX5_handsOnWhoseLines_18 : decode cX5_handsOnWhoseLines 18 = .ok (.aaload, 1) := by decide +kernel
theorem dX5_handsOnWhoseLines_19 : decode cX5_handsOnWhoseLines 19 = .ok (.aload_n 0, 1) := by decide +kernel
theorem dX5_handsOnWhoseLines_20 : decode cX5_handsOnWhoseLines 20 = .ok (.getfield 28, 3) := by decide +kernel
theorem dX5_handsOnWhoseLines_23 : decode cX5_handsOnWhoseLines 23 = .ok (.invokevirtual 62, 3) := by decide +kernel
theorem dX5_handsOnWhoseLines_26 : decode cX5_handsOnWhoseLines 26 = .ok (.iload_n 1, 1) := by decide +kernel
theorem dX5_handsOnWhoseLines_27 : decode cX5_handsOnWhoseLines 27 = .ok (.invokestatic 66, 3) := by decide +kernel
theorem dX5_handsOnWhoseLines_30 : decode cX5_handsOnWhoseLines 30 = .ok (.iload_n 3, 1) := by decide +kernel
theorem dX5_handsOnWhoseLines_31 : decode cX5_handsOnWhoseLines 31 = .ok (.ishl, 1) := by decide +kernel
theorem dX5_handsOnWhoseLines_32 : decode cX5_handsOnWhoseLines 32 = .ok (.ior, 1) := by decide +kernel
theorem dX5_handsOnWhoseLines_33 : decode cX5_handsOnWhoseLines 33 = .ok (.istore_n 2, 1) := by decide +kernel
theorem dX5_handsOnWhoseLines_34 : decode cX5_handsOnWhoseLines 34 = .ok (.iinc 3 1, 3) := by decide +kernel
theorem dX5_handsOnWhoseLines_37 : decode cX5_handsOnWhoseLines 37 = .ok (.goto (-33), 3) := by decide +kernel
theorem dX5_handsOnWhoseLines_40 : decode cX5_handsOnWhoseLines 40 = .ok (.iload_n 2, 1) := by decide +kernel
theorem dX5_handsOnWhoseLines_41 : decode cX5_handsOnWhoseLines 41 = .ok (.ireturn, 1) := by decide +kernel
theorem dX5_handsAround_0 : decode cX5_handsAround 0 = .ok (.iconst 0, 1) := by decide +kernel
theorem dX5_handsAround_1 : decode cX5_handsAround 1 = .ok (.istore_n 2, 1) := by decide +kernel
theorem dX5_handsAround_2 : decode cX5_handsAround 2 = .ok (.iconst 0, 1) := by decide +kernel
theorem dX5_handsAround_3 : decode cX5_handsAround 3 = .ok (.istore_n 3, 1) := by decide +kernel
theorem dX5_handsAround_4 : decode cX5_handsAround 4 = .ok (.iload_n 3, 1) := by decide +kernel
theorem dX5_handsAround_5 : decode cX5_handsAround 5 = .ok (.aload_n 0, 1) := by decide +kernel
theorem dX5_handsAround_6 : decode cX5_handsAround 6 = .ok (.getfield 36, 3) := by decide +kernel
theorem dX5_handsAround_9 : decode cX5_handsAround 9 = .ok (.if_icmp .ge 31, 3) := by decide +kernel
theorem dX5_handsAround_12 : decode cX5_handsAround 12 = .ok (.iload_n 2, 1) := by decide +kernel
theorem dX5_handsAround_13 : decode cX5_handsAround 13 = .ok (.aload_n 0, 1) := by decide +kernel
theorem dX5_handsAround_14 : decode cX5_handsAround 14 = .ok (.getfield 11, 3) := by decide +kernel
theorem dX5_handsAround_17 : decode cX5_handsAround 17 = .ok (.iload_n 3, 1) := by decide +kernel
theorem dX5_handsAround_18 : decode cX5_handsAround 18 = .ok (.aaload, 1) := by decide +kernel
theorem dX5_handsAround_19 : decode cX5_handsAround 19 = .ok (.aload_n 0, 1) := by decide +kernel
theorem dX5_handsAround_20 : decode cX5_handsAround 20 = .ok (.getfield 28, 3) := by decide +kernel
theorem dX5_handsAround_23 : decode cX5_handsAround 23 = .ok (.invokevirtual 70, 3) := by decide +kernel
theorem dX5_handsAround_26 : decode cX5_handsAround 26 = .ok (.iload_n 1, 1) := by decide +kernel
theorem dX5_handsAround_27 : decode cX5_handsAround 27 = .ok (.invokestatic 66, 3) := by decide +kernel
theorem dX5_handsAround_30 : decode cX5_handsAround 30 = .ok (.iload_n 3, 1) := by decide +kernel
theorem dX5_handsAround_31 : decode cX5_handsAround 31 = .ok (.ishl, 1) := by decide +kernel
theorem dX5_handsAround_32 : decode cX5_handsAround 32 = .ok (.ior, 1) := by decide +kernel
theorem dX5_handsAround_33 : decode cX5_handsAround 33 = .ok (.istore_n 2, 1) := by decide +kernel
theorem dX5_handsAround_34 : decode cX5_handsAround 34 = .ok (.iinc 3 1, 3) := by decide +kernel
theorem dX5_handsAround_37 : decode cX5_handsAround 37 = .ok (.goto (-33), 3) := by decide +kernel
theorem dX5_handsAround_40 : decode cX5_handsAround 40 = .ok (.iload_n 2, 1) := by decide +kernel
theorem dX5_handsAround_41 : decode cX5_handsAround 41 = .ok (.ireturn, 1) := by decide +kernel
theorem dX5_handsThatWrite_0 : decode cX5_handsThatWrite 0 = .ok (.iconst 0, 1) := by decide +kernel
theorem dX5_handsThatWrite_1 : decode cX5_handsThatWrite 1 = .ok (.istore_n 1, 1) := by decide +kernel
theorem dX5_handsThatWrite_2 : decode cX5_handsThatWrite 2 = .ok (.iconst 0, 1) := by decide +kernel
theorem dX5_handsThatWrite_3 : decode cX5_handsThatWrite 3 = .ok (.istore_n 2, 1) := by decide +kernel
theorem dX5_handsThatWrite_4 : decode cX5_handsThatWrite 4 = .ok (.iload_n 2, 1) := by decide +kernel
theorem dX5_handsThatWrite_5 : decode cX5_handsThatWrite 5 = .ok (.aload_n 0, 1) := by decide +kernel
theorem dX5_handsThatWrite_6 : decode cX5_handsThatWrite 6 = .ok (.getfield 36, 3) := by decide +kernel
theorem dX5_handsThatWrite_9 : decode cX5_handsThatWrite 9 = .ok (.if_icmp .ge 27, 3) := by decide +kernel
theorem dX5_handsThatWrite_12 : decode cX5_handsThatWrite 12 = .ok (.aload_n 0, 1) := by decide +kernel
theorem dX5_handsThatWrite_13 : decode cX5_handsThatWrite 13 = .ok (.getfield 11, 3) := by decide +kernel
theorem dX5_handsThatWrite_16 : decode cX5_handsThatWrite 16 = .ok (.iload_n 2, 1) := by decide +kernel
theorem dX5_handsThatWrite_17 : decode cX5_handsThatWrite 17 = .ok (.aaload, 1) := by decide +kernel
theorem dX5_handsThatWrite_18 : decode cX5_handsThatWrite 18 = .ok (.invokevirtual 73, 3) := by decide +kernel
theorem dX5_handsThatWrite_21 : decode cX5_handsThatWrite 21 = .ok (.ifCond .eq 9, 3) := by decide +kernel
theorem dX5_handsThatWrite_24 : decode cX5_handsThatWrite 24 = .ok (.iload_n 1, 1) := by decide +kernel
theorem dX5_handsThatWrite_25 : decode cX5_handsThatWrite 25 = .ok (.iconst 1, 1) := by decide +kernel
theorem dX5_handsThatWrite_26 : decode cX5_handsThatWrite 26 = .ok (.iload_n 2, 1) := by decide +kernel
theorem dX5_handsThatWrite_27 : decode cX5_handsThatWrite 27 = .ok (.ishl, 1) := by decide +kernel
theorem dX5_handsThatWrite_28 : decode cX5_handsThatWrite 28 = .ok (.ior, 1) := by decide +kernel
theorem dX5_handsThatWrite_29 : decode cX5_handsThatWrite 29 = .ok (.istore_n 1, 1) := by decide +kernel
theorem dX5_handsThatWrite_30 : decode cX5_handsThatWrite 30 = .ok (.iinc 2 1, 3) := by decide +kernel
theorem dX5_handsThatWrite_33 : decode cX5_handsThatWrite 33 = .ok (.goto (-29), 3) := by decide +kernel
theorem dX5_handsThatWrite_36 : decode cX5_handsThatWrite 36 = .ok (.iload_n 1, 1) := by decide +kernel
theorem dX5_handsThatWrite_37 : decode cX5_handsThatWrite 37 = .ok (.ireturn, 1) := by decide +kernel
theorem dX5_stakeClaims_0 : decode cX5_stakeClaims 0 = .ok (.iconst 0, 1) := by decide +kernel
theorem dX5_stakeClaims_1 : decode cX5_stakeClaims 1 = .ok (.istore_n 1, 1) := by decide +kernel
theorem dX5_stakeClaims_2 : decode cX5_stakeClaims 2 = .ok (.iload_n 1, 1) := by decide +kernel
theorem dX5_stakeClaims_3 : decode cX5_stakeClaims 3 = .ok (.aload_n 0, 1) := by decide +kernel
theorem dX5_stakeClaims_4 : decode cX5_stakeClaims 4 = .ok (.getfield 36, 3) := by decide +kernel
theorem dX5_stakeClaims_7 : decode cX5_stakeClaims 7 = .ok (.if_icmp .ge 44, 3) := by decide +kernel
theorem dX5_stakeClaims_10 : decode cX5_stakeClaims 10 = .ok (.aload_n 0, 1) := by decide +kernel
theorem dX5_stakeClaims_11 : decode cX5_stakeClaims 11 = .ok (.getfield 20, 3) := by decide +kernel
theorem dX5_stakeClaims_14 : decode cX5_stakeClaims 14 = .ok (.iload_n 1, 1) := by decide +kernel
theorem dX5_stakeClaims_15 : decode cX5_stakeClaims 15 = .ok (.aload_n 0, 1) := by decide +kernel
theorem dX5_stakeClaims_16 : decode cX5_stakeClaims 16 = .ok (.getfield 11, 3) := by decide +kernel
theorem dX5_stakeClaims_19 : decode cX5_stakeClaims 19 = .ok (.iload_n 1, 1) := by decide +kernel
theorem dX5_stakeClaims_20 : decode cX5_stakeClaims 20 = .ok (.aaload, 1) := by decide +kernel
theorem dX5_stakeClaims_21 : decode cX5_stakeClaims 21 = .ok (.invokevirtual 73, 3) := by decide +kernel
theorem dX5_stakeClaims_24 : decode cX5_stakeClaims 24 = .ok (.ifCond .eq 19, 3) := by decide +kernel
theorem dX5_stakeClaims_27 : decode cX5_stakeClaims 27 = .ok (.aload_n 0, 1) := by decide +kernel
theorem dX5_stakeClaims_28 : decode cX5_stakeClaims 28 = .ok (.getfield 11, 3) := by decide +kernel
theorem dX5_stakeClaims_31 : decode cX5_stakeClaims 31 = .ok (.iload_n 1, 1) := by decide +kernel
theorem dX5_stakeClaims_32 : decode cX5_stakeClaims 32 = .ok (.aaload, 1) := by decide +kernel
theorem dX5_stakeClaims_33 : decode cX5_stakeClaims 33 = .ok (.aload_n 0, 1) := by decide +kernel
theorem dX5_stakeClaims_34 : decode cX5_stakeClaims 34 = .ok (.getfield 28, 3) := by decide +kernel
theorem dX5_stakeClaims_37 : decode cX5_stakeClaims 37 = .ok (.invokevirtual 70, 3) := by decide +kernel
theorem dX5_stakeClaims_40 : decode cX5_stakeClaims 40 = .ok (.goto 4, 3) := by decide +kernel
theorem dX5_stakeClaims_43 : decode cX5_stakeClaims 43 = .ok (.lconst 0, 1) := by decide +kernel
theorem dX5_stakeClaims_44 : decode cX5_stakeClaims 44 = .ok (.lastore, 1) := by decide +kernel
theorem dX5_stakeClaims_45 : decode cX5_stakeClaims 45 = .ok (.iinc 1 1, 3) := by decide +kernel
theorem dX5_stakeClaims_48 : decode cX5_stakeClaims 48 = .ok (.goto (-46), 3) := by decide +kernel
theorem dX5_stakeClaims_51 : decode cX5_stakeClaims 51 = .ok (.return_, 1) := by decide +kernel
theorem dX5_goesBefore_0 : decode cX5_goesBefore 0 = .ok (.aload_n 0, 1) := by decide +kernel
theorem dX5_goesBefore_1 : decode cX5_goesBefore 1 = .ok (.getfield 11, 3) := by decide +kernel
theorem dX5_goesBefore_4 : decode cX5_goesBefore 4 = .ok (.iload_n 1, 1) := by decide +kernel
theorem dX5_goesBefore_5 : decode cX5_goesBefore 5 = .ok (.aaload, 1) := by decide +kernel
theorem dX5_goesBefore_6 : decode cX5_goesBefore 6 = .ok (.getfield 76, 3) := by decide +kernel
theorem dX5_goesBefore_9 : decode cX5_goesBefore 9 = .ok (.istore_n 3, 1) := by decide +kernel
theorem dX5_goesBefore_10 : decode cX5_goesBefore 10 = .ok (.aload_n 0, 1) := by decide +kernel
theorem dX5_goesBefore_11 : decode cX5_goesBefore 11 = .ok (.getfield 11, 3) := by decide +kernel
theorem dX5_goesBefore_14 : decode cX5_goesBefore 14 = .ok (.iload_n 2, 1) := by decide +kernel
theorem dX5_goesBefore_15 : decode cX5_goesBefore 15 = .ok (.aaload, 1) := by decide +kernel
theorem dX5_goesBefore_16 : decode cX5_goesBefore 16 = .ok (.getfield 76, 3) := by decide +kernel
theorem dX5_goesBefore_19 : decode cX5_goesBefore 19 = .ok (.istore 4, 2) := by decide +kernel
theorem dX5_goesBefore_21 : decode cX5_goesBefore 21 = .ok (.iload_n 3, 1) := by decide +kernel
theorem dX5_goesBefore_22 : decode cX5_goesBefore 22 = .ok (.iload 4, 2) := by decide +kernel
theorem dX5_goesBefore_24 : decode cX5_goesBefore 24 = .ok (.if_icmp .gt 14, 3) := by decide +kernel
theorem dX5_goesBefore_27 : decode cX5_goesBefore 27 = .ok (.iload_n 3, 1) := by decide +kernel
theorem dX5_goesBefore_28 : decode cX5_goesBefore 28 = .ok (.iload 4, 2) := by decide +kernel
theorem dX5_goesBefore_30 : decode cX5_goesBefore 30 = .ok (.if_icmp .ne 12, 3) := by decide +kernel
theorem dX5_goesBefore_33 : decode cX5_goesBefore 33 = .ok (.iload_n 1, 1) := by decide +kernel
theorem dX5_goesBefore_34 : decode cX5_goesBefore 34 = .ok (.iload_n 2, 1) := by decide +kernel
theorem dX5_goesBefore_35 : decode cX5_goesBefore 35 = .ok (.if_icmp .ge 7, 3) := by decide +kernel
theorem dX5_goesBefore_38 : decode cX5_goesBefore 38 = .ok (.iconst 1, 1) := by decide +kernel
theorem dX5_goesBefore_39 : decode cX5_goesBefore 39 = .ok (.goto 4, 3) := by decide +kernel
theorem dX5_goesBefore_42 : decode cX5_goesBefore 42 = .ok (.iconst 0, 1) := by decide +kernel
theorem dX5_goesBefore_43 : decode cX5_goesBefore 43 = .ok (.ireturn, 1) := by decide +kernel
theorem dX5_shareOf_0 : decode cX5_shareOf 0 = .ok (.aload_n 0, 1) := by decide +kernel
theorem dX5_shareOf_1 : decode cX5_shareOf 1 = .ok (.getfield 20, 3) := by decide +kernel
theorem dX5_shareOf_4 : decode cX5_shareOf 4 = .ok (.iload_n 1, 1) := by decide +kernel
theorem dX5_shareOf_5 : decode cX5_shareOf 5 = .ok (.laload, 1) := by decide +kernel
theorem dX5_shareOf_6 : decode cX5_shareOf 6 = .ok (.lstore_n 2, 1) := by decide +kernel
theorem dX5_shareOf_7 : decode cX5_shareOf 7 = .ok (.iconst 0, 1) := by decide +kernel
theorem dX5_shareOf_8 : decode cX5_shareOf 8 = .ok (.istore 4, 2) := by decide +kernel
theorem dX5_shareOf_10 : decode cX5_shareOf 10 = .ok (.iload 4, 2) := by decide +kernel
theorem dX5_shareOf_12 : decode cX5_shareOf 12 = .ok (.aload_n 0, 1) := by decide +kernel
theorem dX5_shareOf_13 : decode cX5_shareOf 13 = .ok (.getfield 36, 3) := by decide +kernel
theorem dX5_shareOf_16 : decode cX5_shareOf 16 = .ok (.if_icmp .ge 53, 3) := by decide +kernel
theorem dX5_shareOf_19 : decode cX5_shareOf 19 = .ok (.lload_n 2, 1) := by decide +kernel
theorem dX5_shareOf_20 : decode cX5_shareOf 20 = .ok (.lconst 0, 1) := by decide +kernel
theorem dX5_shareOf_21 : decode cX5_shareOf 21 = .ok (.lcmp, 1) := by decide +kernel
theorem dX5_shareOf_22 : decode cX5_shareOf 22 = .ok (.ifCond .eq 47, 3) := by decide +kernel
theorem dX5_shareOf_25 : decode cX5_shareOf 25 = .ok (.lload_n 2, 1) := by decide +kernel
theorem dX5_shareOf_26 : decode cX5_shareOf 26 = .ok (.aload_n 0, 1) := by decide +kernel
theorem dX5_shareOf_27 : decode cX5_shareOf 27 = .ok (.getfield 20, 3) := by decide +kernel
theorem dX5_shareOf_30 : decode cX5_shareOf 30 = .ok (.iload 4, 2) := by decide +kernel
theorem dX5_shareOf_32 : decode cX5_shareOf 32 = .ok (.laload, 1) := by decide +kernel
theorem dX5_shareOf_33 : decode cX5_shareOf 33 = .ok (.land, 1) := by decide +kernel
theorem dX5_shareOf_34 : decode cX5_shareOf 34 = .ok (.lconst 0, 1) := by decide +kernel
theorem dX5_shareOf_35 : decode cX5_shareOf 35 = .ok (.lcmp, 1) := by decide +kernel
theorem dX5_shareOf_36 : decode cX5_shareOf 36 = .ok (.ifCond .eq 27, 3) := by decide +kernel
theorem dX5_shareOf_39 : decode cX5_shareOf 39 = .ok (.aload_n 0, 1) := by decide +kernel
theorem dX5_shareOf_40 : decode cX5_shareOf 40 = .ok (.iload 4, 2) := by decide +kernel
theorem dX5_shareOf_42 : decode cX5_shareOf 42 = .ok (.iload_n 1, 1) := by decide +kernel
theorem dX5_shareOf_43 : decode cX5_shareOf 43 = .ok (.invokevirtual 79, 3) := by decide +kernel
theorem dX5_shareOf_46 : decode cX5_shareOf 46 = .ok (.ifCond .eq 17, 3) := by decide +kernel
theorem dX5_shareOf_49 : decode cX5_shareOf 49 = .ok (.lload_n 2, 1) := by decide +kernel
theorem dX5_shareOf_50 : decode cX5_shareOf 50 = .ok (.aload_n 0, 1) := by decide +kernel
theorem dX5_shareOf_51 : decode cX5_shareOf 51 = .ok (.getfield 20, 3) := by decide +kernel
theorem dX5_shareOf_54 : decode cX5_shareOf 54 = .ok (.iload 4, 2) := by decide +kernel
theorem dX5_shareOf_56 : decode cX5_shareOf 56 = .ok (.laload, 1) := by decide +kernel
theorem dX5_shareOf_57 : decode cX5_shareOf 57 = .ok (.ldc2_w 60, 3) := by decide +kernel
theorem dX5_shareOf_60 : decode cX5_shareOf 60 = .ok (.lxor, 1) := by decide +kernel
theorem dX5_shareOf_61 : decode cX5_shareOf 61 = .ok (.land, 1) := by decide +kernel
theorem dX5_shareOf_62 : decode cX5_shareOf 62 = .ok (.lstore_n 2, 1) := by decide +kernel
theorem dX5_shareOf_63 : decode cX5_shareOf 63 = .ok (.iinc 4 1, 3) := by decide +kernel
theorem dX5_shareOf_66 : decode cX5_shareOf 66 = .ok (.goto (-56), 3) := by decide +kernel
theorem dX5_shareOf_69 : decode cX5_shareOf 69 = .ok (.lload_n 2, 1) := by decide +kernel
theorem dX5_shareOf_70 : decode cX5_shareOf 70 = .ok (.lreturn, 1) := by decide +kernel
theorem dX5_ownerOf_0 : decode cX5_ownerOf 0 = .ok (.aload_n 0, 1) := by decide +kernel
theorem dX5_ownerOf_1 : decode cX5_ownerOf 1 = .ok (.invokevirtual 83, 3) := by decide +kernel
theorem dX5_ownerOf_4 : decode cX5_ownerOf 4 = .ok (.iconst 0, 1) := by decide +kernel
theorem dX5_ownerOf_5 : decode cX5_ownerOf 5 = .ok (.istore_n 2, 1) := by decide +kernel
theorem dX5_ownerOf_6 : decode cX5_ownerOf 6 = .ok (.iload_n 2, 1) := by decide +kernel
theorem dX5_ownerOf_7 : decode cX5_ownerOf 7 = .ok (.aload_n 0, 1) := by decide +kernel
theorem dX5_ownerOf_8 : decode cX5_ownerOf 8 = .ok (.getfield 36, 3) := by decide +kernel
theorem dX5_ownerOf_11 : decode cX5_ownerOf 11 = .ok (.if_icmp .ge 24, 3) := by decide +kernel
theorem dX5_ownerOf_14 : decode cX5_ownerOf 14 = .ok (.aload_n 0, 1) := by decide +kernel
theorem dX5_ownerOf_15 : decode cX5_ownerOf 15 = .ok (.iload_n 2, 1) := by decide +kernel
theorem dX5_ownerOf_16 : decode cX5_ownerOf 16 = .ok (.invokevirtual 86, 3) := by decide +kernel
theorem dX5_ownerOf_19 : decode cX5_ownerOf 19 = .ok (.iload_n 1, 1) := by decide +kernel
theorem dX5_ownerOf_20 : decode cX5_ownerOf 20 = .ok (.invokestatic 66, 3) := by decide +kernel
theorem dX5_ownerOf_23 : decode cX5_ownerOf 23 = .ok (.iconst 1, 1) := by decide +kernel
theorem dX5_ownerOf_24 : decode cX5_ownerOf 24 = .ok (.if_icmp .ne 5, 3) := by decide +kernel
theorem dX5_ownerOf_27 : decode cX5_ownerOf 27 = .ok (.iload_n 2, 1) := by decide +kernel
theorem dX5_ownerOf_28 : decode cX5_ownerOf 28 = .ok (.ireturn, 1) := by decide +kernel
theorem dX5_ownerOf_29 : decode cX5_ownerOf 29 = .ok (.iinc 2 1, 3) := by decide +kernel
theorem dX5_ownerOf_32 : decode cX5_ownerOf 32 = .ok (.goto (-26), 3) := by decide +kernel
theorem dX5_ownerOf_35 : decode cX5_ownerOf 35 = .ok (.iconst (-1), 1) := by decide +kernel
theorem dX5_ownerOf_36 : decode cX5_ownerOf 36 = .ok (.ireturn, 1) := by decide +kernel
theorem dX5_howManyOwnedBy_0 : decode cX5_howManyOwnedBy 0 = .ok (.aload_n 0, 1) := by decide +kernel
theorem dX5_howManyOwnedBy_1 : decode cX5_howManyOwnedBy 1 = .ok (.iload_n 1, 1) := by decide +kernel
theorem dX5_howManyOwnedBy_2 : decode cX5_howManyOwnedBy 2 = .ok (.invokevirtual 89, 3) := by decide +kernel
theorem dX5_howManyOwnedBy_5 : decode cX5_howManyOwnedBy 5 = .ok (.ifnonnull 5, 3) := by decide +kernel
theorem dX5_howManyOwnedBy_8 : decode cX5_howManyOwnedBy 8 = .ok (.iconst 0, 1) := by decide +kernel
theorem dX5_howManyOwnedBy_9 : decode cX5_howManyOwnedBy 9 = .ok (.ireturn, 1) := by decide +kernel
theorem dX5_howManyOwnedBy_10 : decode cX5_howManyOwnedBy 10 = .ok (.aload_n 0, 1) := by decide +kernel
theorem dX5_howManyOwnedBy_11 : decode cX5_howManyOwnedBy 11 = .ok (.invokevirtual 83, 3) := by decide +kernel
theorem dX5_howManyOwnedBy_14 : decode cX5_howManyOwnedBy 14 = .ok (.aload_n 0, 1) := by decide +kernel
theorem dX5_howManyOwnedBy_15 : decode cX5_howManyOwnedBy 15 = .ok (.iload_n 1, 1) := by decide +kernel
theorem dX5_howManyOwnedBy_16 : decode cX5_howManyOwnedBy 16 = .ok (.invokevirtual 86, 3) := by decide +kernel
theorem dX5_howManyOwnedBy_19 : decode cX5_howManyOwnedBy 19 = .ok (.invokestatic 93, 3) := by decide +kernel
theorem dX5_howManyOwnedBy_22 : decode cX5_howManyOwnedBy 22 = .ok (.ireturn, 1) := by decide +kernel
theorem dX5_owned_0 : decode cX5_owned 0 = .ok (.aload_n 0, 1) := by decide +kernel
theorem dX5_owned_1 : decode cX5_owned 1 = .ok (.invokevirtual 83, 3) := by decide +kernel
theorem dX5_owned_4 : decode cX5_owned 4 = .ok (.lconst 0, 1) := by decide +kernel
theorem dX5_owned_5 : decode cX5_owned 5 = .ok (.lstore_n 1, 1) := by decide +kernel
theorem dX5_owned_6 : decode cX5_owned 6 = .ok (.iconst 0, 1) := by decide +kernel
theorem dX5_owned_7 : decode cX5_owned 7 = .ok (.istore_n 3, 1) := by decide +kernel
theorem dX5_owned_8 : decode cX5_owned 8 = .ok (.iload_n 3, 1) := by decide +kernel
theorem dX5_owned_9 : decode cX5_owned 9 = .ok (.aload_n 0, 1) := by decide +kernel
theorem dX5_owned_10 : decode cX5_owned 10 = .ok (.getfield 36, 3) := by decide +kernel
theorem dX5_owned_13 : decode cX5_owned 13 = .ok (.if_icmp .ge 18, 3) := by decide +kernel
theorem dX5_owned_16 : decode cX5_owned 16 = .ok (.lload_n 1, 1) := by decide +kernel
theorem dX5_owned_17 : decode cX5_owned 17 = .ok (.aload_n 0, 1) := by decide +kernel
theorem dX5_owned_18 : decode cX5_owned 18 = .ok (.getfield 20, 3) := by decide +kernel
theorem dX5_owned_21 : decode cX5_owned 21 = .ok (.iload_n 3, 1) := by decide +kernel
theorem dX5_owned_22 : decode cX5_owned 22 = .ok (.laload, 1) := by decide +kernel
theorem dX5_owned_23 : decode cX5_owned 23 = .ok (.lor, 1) := by decide +kernel
theorem dX5_owned_24 : decode cX5_owned 24 = .ok (.lstore_n 1, 1) := by decide +kernel
theorem dX5_owned_25 : decode cX5_owned 25 = .ok (.iinc 3 1, 3) := by decide +kernel
theorem dX5_owned_28 : decode cX5_owned 28 = .ok (.goto (-20), 3) := by decide +kernel
theorem dX5_owned_31 : decode cX5_owned 31 = .ok (.lload_n 1, 1) := by decide +kernel
theorem dX5_owned_32 : decode cX5_owned 32 = .ok (.lreturn, 1) := by decide +kernel
theorem dX5_disputed_0 : decode cX5_disputed 0 = .ok (.aload_n 0, 1) := by decide +kernel
theorem dX5_disputed_1 : decode cX5_disputed 1 = .ok (.invokevirtual 83, 3) := by decide +kernel
theorem dX5_disputed_4 : decode cX5_disputed 4 = .ok (.lconst 0, 1) := by decide +kernel
theorem dX5_disputed_5 : decode cX5_disputed 5 = .ok (.lstore_n 1, 1) := by decide +kernel
theorem dX5_disputed_6 : decode cX5_disputed 6 = .ok (.lconst 0, 1) := by decide +kernel
theorem dX5_disputed_7 : decode cX5_disputed 7 = .ok (.lstore_n 3, 1) := by decide +kernel
theorem dX5_disputed_8 : decode cX5_disputed 8 = .ok (.iconst 0, 1) := by decide +kernel
theorem dX5_disputed_9 : decode cX5_disputed 9 = .ok (.istore 5, 2) := by decide +kernel
theorem dX5_disputed_11 : decode cX5_disputed 11 = .ok (.iload 5, 2) := by decide +kernel
theorem dX5_disputed_13 : decode cX5_disputed 13 = .ok (.aload_n 0, 1) := by decide +kernel
theorem dX5_disputed_14 : decode cX5_disputed 14 = .ok (.getfield 36, 3) := by decide +kernel
theorem dX5_disputed_17 : decode cX5_disputed 17 = .ok (.if_icmp .ge 31, 3) := by decide +kernel
theorem dX5_disputed_20 : decode cX5_disputed 20 = .ok (.lload_n 3, 1) := by decide +kernel
theorem dX5_disputed_21 : decode cX5_disputed 21 = .ok (.lload_n 1, 1) := by decide +kernel
theorem dX5_disputed_22 : decode cX5_disputed 22 = .ok (.aload_n 0, 1) := by decide +kernel
theorem dX5_disputed_23 : decode cX5_disputed 23 = .ok (.getfield 20, 3) := by decide +kernel
theorem dX5_disputed_26 : decode cX5_disputed 26 = .ok (.iload 5, 2) := by decide +kernel
theorem dX5_disputed_28 : decode cX5_disputed 28 = .ok (.laload, 1) := by decide +kernel
theorem dX5_disputed_29 : decode cX5_disputed 29 = .ok (.land, 1) := by decide +kernel
theorem dX5_disputed_30 : decode cX5_disputed 30 = .ok (.lor, 1) := by decide +kernel
theorem dX5_disputed_31 : decode cX5_disputed 31 = .ok (.lstore_n 3, 1) := by decide +kernel
theorem dX5_disputed_32 : decode cX5_disputed 32 = .ok (.lload_n 1, 1) := by decide +kernel
theorem dX5_disputed_33 : decode cX5_disputed 33 = .ok (.aload_n 0, 1) := by decide +kernel
theorem dX5_disputed_34 : decode cX5_disputed 34 = .ok (.getfield 20, 3) := by decide +kernel
theorem dX5_disputed_37 : decode cX5_disputed 37 = .ok (.iload 5, 2) := by decide +kernel
theorem dX5_disputed_39 : decode cX5_disputed 39 = .ok (.laload, 1) := by decide +kernel
theorem dX5_disputed_40 : decode cX5_disputed 40 = .ok (.lor, 1) := by decide +kernel
theorem dX5_disputed_41 : decode cX5_disputed 41 = .ok (.lstore_n 1, 1) := by decide +kernel
theorem dX5_disputed_42 : decode cX5_disputed 42 = .ok (.iinc 5 1, 3) := by decide +kernel
theorem dX5_disputed_45 : decode cX5_disputed 45 = .ok (.goto (-34), 3) := by decide +kernel
theorem dX5_disputed_48 : decode cX5_disputed 48 = .ok (.lload_n 3, 1) := by decide +kernel
theorem dX5_disputed_49 : decode cX5_disputed 49 = .ok (.lreturn, 1) := by decide +kernel
theorem dX5_goYear_0 : decode cX5_goYear 0 = .ok (.aload_n 0, 1) := by decide +kernel
theorem dX5_goYear_1 : decode cX5_goYear 1 = .ok (.invokevirtual 83, 3) := by decide +kernel
theorem dX5_goYear_4 : decode cX5_goYear 4 = .ok (.iconst 0, 1) := by decide +kernel
theorem dX5_goYear_5 : decode cX5_goYear 5 = .ok (.istore_n 1, 1) := by decide +kernel
theorem dX5_goYear_6 : decode cX5_goYear 6 = .ok (.iload_n 1, 1) := by decide +kernel
theorem dX5_goYear_7 : decode cX5_goYear 7 = .ok (.aload_n 0, 1) := by decide +kernel
theorem dX5_goYear_8 : decode cX5_goYear 8 = .ok (.getfield 36, 3) := by decide +kernel
theorem dX5_goYear_11 : decode cX5_goYear 11 = .ok (.if_icmp .ge 23, 3) := by decide +kernel
theorem dX5_goYear_14 : decode cX5_goYear 14 = .ok (.aload_n 0, 1) := by decide +kernel
theorem dX5_goYear_15 : decode cX5_goYear 15 = .ok (.getfield 24, 3) := by decide +kernel
theorem dX5_goYear_18 : decode cX5_goYear 18 = .ok (.iload_n 1, 1) := by decide +kernel
theorem dX5_goYear_19 : decode cX5_goYear 19 = .ok (.aload_n 0, 1) := by decide +kernel
theorem dX5_goYear_20 : decode cX5_goYear 20 = .ok (.iload_n 1, 1) := by decide +kernel
theorem dX5_goYear_21 : decode cX5_goYear 21 = .ok (.invokevirtual 86, 3) := by decide +kernel
theorem dX5_goYear_24 : decode cX5_goYear 24 = .ok (.invokestatic 93, 3) := by decide +kernel
theorem dX5_goYear_27 : decode cX5_goYear 27 = .ok (.iastore, 1) := by decide +kernel
theorem dX5_goYear_28 : decode cX5_goYear 28 = .ok (.iinc 1 1, 3) := by decide +kernel
theorem dX5_goYear_31 : decode cX5_goYear 31 = .ok (.goto (-25), 3) := by decide +kernel
theorem dX5_goYear_34 : decode cX5_goYear 34 = .ok (.iconst 0, 1) := by decide +kernel
theorem dX5_goYear_35 : decode cX5_goYear 35 = .ok (.istore_n 1, 1) := by decide +kernel
theorem dX5_goYear_36 : decode cX5_goYear 36 = .ok (.iload_n 1, 1) := by decide +kernel
theorem dX5_goYear_37 : decode cX5_goYear 37 = .ok (.aload_n 0, 1) := by decide +kernel
theorem dX5_goYear_38 : decode cX5_goYear 38 = .ok (.getfield 36, 3) := by decide +kernel
theorem dX5_goYear_41 : decode cX5_goYear 41 = .ok (.if_icmp .ge 24, 3) := by decide +kernel
theorem dX5_goYear_44 : decode cX5_goYear 44 = .ok (.aload_n 0, 1) := by decide +kernel
theorem dX5_goYear_45 : decode cX5_goYear 45 = .ok (.getfield 11, 3) := by decide +kernel
theorem dX5_goYear_48 : decode cX5_goYear 48 = .ok (.iload_n 1, 1) := by decide +kernel
theorem dX5_goYear_49 : decode cX5_goYear 49 = .ok (.aaload, 1) := by decide +kernel
theorem dX5_goYear_50 : decode cX5_goYear 50 = .ok (.aload_n 0, 1) := by decide +kernel
theorem dX5_goYear_51 : decode cX5_goYear 51 = .ok (.getfield 24, 3) := by decide +kernel
theorem dX5_goYear_54 : decode cX5_goYear 54 = .ok (.iload_n 1, 1) := by decide +kernel
theorem dX5_goYear_55 : decode cX5_goYear 55 = .ok (.iaload, 1) := by decide +kernel
theorem dX5_goYear_56 : decode cX5_goYear 56 = .ok (.invokevirtual 99, 3) := by decide +kernel
theorem dX5_goYear_59 : decode cX5_goYear 59 = .ok (.iinc 1 1, 3) := by decide +kernel
theorem dX5_goYear_62 : decode cX5_goYear 62 = .ok (.goto (-26), 3) := by decide +kernel
theorem dX5_goYear_65 : decode cX5_goYear 65 = .ok (.aload_n 0, 1) := by decide +kernel
theorem dX5_goYear_66 : decode cX5_goYear 66 = .ok (.dup, 1) := by decide +kernel
theorem dX5_goYear_67 : decode cX5_goYear 67 = .ok (.getfield 28, 3) := by decide +kernel
theorem dX5_goYear_70 : decode cX5_goYear 70 = .ok (.aload_n 0, 1) := by decide +kernel
theorem dX5_goYear_71 : decode cX5_goYear 71 = .ok (.getfield 28, 3) := by decide +kernel
theorem dX5_goYear_74 : decode cX5_goYear 74 = .ok (.lconst 1, 1) := by decide +kernel
theorem dX5_goYear_75 : decode cX5_goYear 75 = .ok (.lsub, 1) := by decide +kernel
theorem dX5_goYear_76 : decode cX5_goYear 76 = .ok (.land, 1) := by decide +kernel
theorem dX5_goYear_77 : decode cX5_goYear 77 = .ok (.putfield 28, 3) := by decide +kernel
theorem dX5_goYear_80 : decode cX5_goYear 80 = .ok (.aload_n 0, 1) := by decide +kernel
theorem dX5_goYear_81 : decode cX5_goYear 81 = .ok (.dup, 1) := by decide +kernel
theorem dX5_goYear_82 : decode cX5_goYear 82 = .ok (.getfield 32, 3) := by decide +kernel
theorem dX5_goYear_85 : decode cX5_goYear 85 = .ok (.iconst 1, 1) := by decide +kernel
theorem dX5_goYear_86 : decode cX5_goYear 86 = .ok (.iadd, 1) := by decide +kernel
theorem dX5_goYear_87 : decode cX5_goYear 87 = .ok (.putfield 32, 3) := by decide +kernel
theorem dX5_goYear_90 : decode cX5_goYear 90 = .ok (.return_, 1) := by decide +kernel
theorem dX5_goYears_0 : decode cX5_goYears 0 = .ok (.iconst 0, 1) := by decide +kernel
theorem dX5_goYears_1 : decode cX5_goYears 1 = .ok (.istore_n 2, 1) := by decide +kernel
theorem dX5_goYears_2 : decode cX5_goYears 2 = .ok (.iload_n 2, 1) := by decide +kernel
theorem dX5_goYears_3 : decode cX5_goYears 3 = .ok (.iload_n 1, 1) := by decide +kernel
theorem dX5_goYears_4 : decode cX5_goYears 4 = .ok (.if_icmp .ge 13, 3) := by decide +kernel
theorem dX5_goYears_7 : decode cX5_goYears 7 = .ok (.aload_n 0, 1) := by decide +kernel
theorem dX5_goYears_8 : decode cX5_goYears 8 = .ok (.invokevirtual 103, 3) := by decide +kernel
theorem dX5_goYears_11 : decode cX5_goYears 11 = .ok (.iinc 2 1, 3) := by decide +kernel
theorem dX5_goYears_14 : decode cX5_goYears 14 = .ok (.goto (-12), 3) := by decide +kernel
theorem dX5_goYears_17 : decode cX5_goYears 17 = .ok (.return_, 1) := by decide +kernel
theorem dX5_richest_0 : decode cX5_richest 0 = .ok (.iconst (-1), 1) := by decide +kernel
theorem dX5_richest_1 : decode cX5_richest 1 = .ok (.istore_n 1, 1) := by decide +kernel
theorem dX5_richest_2 : decode cX5_richest 2 = .ok (.iconst (-1), 1) := by decide +kernel
theorem dX5_richest_3 : decode cX5_richest 3 = .ok (.istore_n 2, 1) := by decide +kernel
theorem dX5_richest_4 : decode cX5_richest 4 = .ok (.iconst 0, 1) := by decide +kernel
theorem dX5_richest_5 : decode cX5_richest 5 = .ok (.istore_n 3, 1) := by decide +kernel
theorem dX5_richest_6 : decode cX5_richest 6 = .ok (.iload_n 3, 1) := by decide +kernel
theorem dX5_richest_7 : decode cX5_richest 7 = .ok (.aload_n 0, 1) := by decide +kernel
theorem dX5_richest_8 : decode cX5_richest 8 = .ok (.getfield 36, 3) := by decide +kernel
theorem dX5_richest_11 : decode cX5_richest 11 = .ok (.if_icmp .ge 34, 3) := by decide +kernel
theorem dX5_richest_14 : decode cX5_richest 14 = .ok (.aload_n 0, 1) := by decide +kernel
theorem dX5_richest_15 : decode cX5_richest 15 = .ok (.getfield 11, 3) := by decide +kernel
theorem dX5_richest_18 : decode cX5_richest 18 = .ok (.iload_n 3, 1) := by decide +kernel
theorem dX5_richest_19 : decode cX5_richest 19 = .ok (.aaload, 1) := by decide +kernel
theorem dX5_richest_20 : decode cX5_richest 20 = .ok (.getfield 105, 3) := by decide +kernel
theorem dX5_richest_23 : decode cX5_richest 23 = .ok (.iload_n 2, 1) := by decide +kernel
theorem dX5_richest_24 : decode cX5_richest 24 = .ok (.if_icmp .le 15, 3) := by decide +kernel
theorem dX5_richest_27 : decode cX5_richest 27 = .ok (.aload_n 0, 1) := by decide +kernel
theorem dX5_richest_28 : decode cX5_richest 28 = .ok (.getfield 11, 3) := by decide +kernel
theorem dX5_richest_31 : decode cX5_richest 31 = .ok (.iload_n 3, 1) := by decide +kernel
theorem dX5_richest_32 : decode cX5_richest 32 = .ok (.aaload, 1) := by decide +kernel
theorem dX5_richest_33 : decode cX5_richest 33 = .ok (.getfield 105, 3) := by decide +kernel
theorem dX5_richest_36 : decode cX5_richest 36 = .ok (.istore_n 2, 1) := by decide +kernel
theorem dX5_richest_37 : decode cX5_richest 37 = .ok (.iload_n 3, 1) := by decide +kernel
theorem dX5_richest_38 : decode cX5_richest 38 = .ok (.istore_n 1, 1) := by decide +kernel
theorem dX5_richest_39 : decode cX5_richest 39 = .ok (.iinc 3 1, 3) := by decide +kernel
theorem dX5_richest_42 : decode cX5_richest 42 = .ok (.goto (-36), 3) := by decide +kernel
theorem dX5_richest_45 : decode cX5_richest 45 = .ok (.iload_n 1, 1) := by decide +kernel
theorem dX5_richest_46 : decode cX5_richest 46 = .ok (.ireturn, 1) := by decide +kernel
theorem dX5_cornOfAll_0 : decode cX5_cornOfAll 0 = .ok (.iconst 0, 1) := by decide +kernel
theorem dX5_cornOfAll_1 : decode cX5_cornOfAll 1 = .ok (.istore_n 1, 1) := by decide +kernel
theorem dX5_cornOfAll_2 : decode cX5_cornOfAll 2 = .ok (.iconst 0, 1) := by decide +kernel
theorem dX5_cornOfAll_3 : decode cX5_cornOfAll 3 = .ok (.istore_n 2, 1) := by decide +kernel
theorem dX5_cornOfAll_4 : decode cX5_cornOfAll 4 = .ok (.iload_n 2, 1) := by decide +kernel
theorem dX5_cornOfAll_5 : decode cX5_cornOfAll 5 = .ok (.aload_n 0, 1) := by decide +kernel
theorem dX5_cornOfAll_6 : decode cX5_cornOfAll 6 = .ok (.getfield 36, 3) := by decide +kernel
theorem dX5_cornOfAll_9 : decode cX5_cornOfAll 9 = .ok (.if_icmp .ge 21, 3) := by decide +kernel
theorem dX5_cornOfAll_12 : decode cX5_cornOfAll 12 = .ok (.iload_n 1, 1) := by decide +kernel
theorem dX5_cornOfAll_13 : decode cX5_cornOfAll 13 = .ok (.aload_n 0, 1) := by decide +kernel
theorem dX5_cornOfAll_14 : decode cX5_cornOfAll 14 = .ok (.getfield 11, 3) := by decide +kernel
theorem dX5_cornOfAll_17 : decode cX5_cornOfAll 17 = .ok (.iload_n 2, 1) := by decide +kernel
theorem dX5_cornOfAll_18 : decode cX5_cornOfAll 18 = .ok (.aaload, 1) := by decide +kernel
theorem dX5_cornOfAll_19 : decode cX5_cornOfAll 19 = .ok (.getfield 105, 3) := by decide +kernel
theorem dX5_cornOfAll_22 : decode cX5_cornOfAll 22 = .ok (.iadd, 1) := by decide +kernel
theorem dX5_cornOfAll_23 : decode cX5_cornOfAll 23 = .ok (.istore_n 1, 1) := by decide +kernel
theorem dX5_cornOfAll_24 : decode cX5_cornOfAll 24 = .ok (.iinc 2 1, 3) := by decide +kernel
theorem dX5_cornOfAll_27 : decode cX5_cornOfAll 27 = .ok (.goto (-23), 3) := by decide +kernel
theorem dX5_cornOfAll_30 : decode cX5_cornOfAll 30 = .ok (.iload_n 1, 1) := by decide +kernel
theorem dX5_cornOfAll_31 : decode cX5_cornOfAll 31 = .ok (.ireturn, 1) := by decide +kernel
theorem dX5_inkOfAll_0 : decode cX5_inkOfAll 0 = .ok (.iconst 0, 1) := by decide +kernel
theorem dX5_inkOfAll_1 : decode cX5_inkOfAll 1 = .ok (.istore_n 1, 1) := by decide +kernel
theorem dX5_inkOfAll_2 : decode cX5_inkOfAll 2 = .ok (.iconst 0, 1) := by decide +kernel
theorem dX5_inkOfAll_3 : decode cX5_inkOfAll 3 = .ok (.istore_n 2, 1) := by decide +kernel
theorem dX5_inkOfAll_4 : decode cX5_inkOfAll 4 = .ok (.iload_n 2, 1) := by decide +kernel
theorem dX5_inkOfAll_5 : decode cX5_inkOfAll 5 = .ok (.aload_n 0, 1) := by decide +kernel
theorem dX5_inkOfAll_6 : decode cX5_inkOfAll 6 = .ok (.getfield 36, 3) := by decide +kernel
theorem dX5_inkOfAll_9 : decode cX5_inkOfAll 9 = .ok (.if_icmp .ge 21, 3) := by decide +kernel
theorem dX5_inkOfAll_12 : decode cX5_inkOfAll 12 = .ok (.iload_n 1, 1) := by decide +kernel
theorem dX5_inkOfAll_13 : decode cX5_inkOfAll 13 = .ok (.aload_n 0, 1) := by decide +kernel
theorem dX5_inkOfAll_14 : decode cX5_inkOfAll 14 = .ok (.getfield 11, 3) := by decide +kernel
theorem dX5_inkOfAll_17 : decode cX5_inkOfAll 17 = .ok (.iload_n 2, 1) := by decide +kernel
theorem dX5_inkOfAll_18 : decode cX5_inkOfAll 18 = .ok (.aaload, 1) := by decide +kernel
theorem dX5_inkOfAll_19 : decode cX5_inkOfAll 19 = .ok (.getfield 76, 3) := by decide +kernel
theorem dX5_inkOfAll_22 : decode cX5_inkOfAll 22 = .ok (.iadd, 1) := by decide +kernel
theorem dX5_inkOfAll_23 : decode cX5_inkOfAll 23 = .ok (.istore_n 1, 1) := by decide +kernel
theorem dX5_inkOfAll_24 : decode cX5_inkOfAll 24 = .ok (.iinc 2 1, 3) := by decide +kernel
theorem dX5_inkOfAll_27 : decode cX5_inkOfAll 27 = .ok (.goto (-23), 3) := by decide +kernel
theorem dX5_inkOfAll_30 : decode cX5_inkOfAll 30 = .ok (.iload_n 1, 1) := by decide +kernel
theorem dX5_inkOfAll_31 : decode cX5_inkOfAll 31 = .ok (.ireturn, 1) := by decide +kernel
theorem dX5_strokesOfAll_0 : decode cX5_strokesOfAll 0 = .ok (.iconst 0, 1) := by decide +kernel
theorem dX5_strokesOfAll_1 : decode cX5_strokesOfAll 1 = .ok (.istore_n 1, 1) := by decide +kernel
theorem dX5_strokesOfAll_2 : decode cX5_strokesOfAll 2 = .ok (.iconst 0, 1) := by decide +kernel
theorem dX5_strokesOfAll_3 : decode cX5_strokesOfAll 3 = .ok (.istore_n 2, 1) := by decide +kernel
theorem dX5_strokesOfAll_4 : decode cX5_strokesOfAll 4 = .ok (.iload_n 2, 1) := by decide +kernel
theorem dX5_strokesOfAll_5 : decode cX5_strokesOfAll 5 = .ok (.aload_n 0, 1) := by decide +kernel
theorem dX5_strokesOfAll_6 : decode cX5_strokesOfAll 6 = .ok (.getfield 36, 3) := by decide +kernel
theorem dX5_strokesOfAll_9 : decode cX5_strokesOfAll 9 = .ok (.if_icmp .ge 21, 3) := by decide +kernel
theorem dX5_strokesOfAll_12 : decode cX5_strokesOfAll 12 = .ok (.iload_n 1, 1) := by decide +kernel
theorem dX5_strokesOfAll_13 : decode cX5_strokesOfAll 13 = .ok (.aload_n 0, 1) := by decide +kernel
theorem dX5_strokesOfAll_14 : decode cX5_strokesOfAll 14 = .ok (.getfield 11, 3) := by decide +kernel
theorem dX5_strokesOfAll_17 : decode cX5_strokesOfAll 17 = .ok (.iload_n 2, 1) := by decide +kernel
theorem dX5_strokesOfAll_18 : decode cX5_strokesOfAll 18 = .ok (.aaload, 1) := by decide +kernel
theorem dX5_strokesOfAll_19 : decode cX5_strokesOfAll 19 = .ok (.getfield 108, 3) := by decide +kernel
theorem dX5_strokesOfAll_22 : decode cX5_strokesOfAll 22 = .ok (.iadd, 1) := by decide +kernel
theorem dX5_strokesOfAll_23 : decode cX5_strokesOfAll 23 = .ok (.istore_n 1, 1) := by decide +kernel
theorem dX5_strokesOfAll_24 : decode cX5_strokesOfAll 24 = .ok (.iinc 2 1, 3) := by decide +kernel
theorem dX5_strokesOfAll_27 : decode cX5_strokesOfAll 27 = .ok (.goto (-23), 3) := by decide +kernel
theorem dX5_strokesOfAll_30 : decode cX5_strokesOfAll 30 = .ok (.iload_n 1, 1) := by decide +kernel
theorem dX5_strokesOfAll_31 : decode cX5_strokesOfAll 31 = .ok (.ireturn, 1) := by decide +kernel
theorem dX5_costsOfAll_0 : decode cX5_costsOfAll 0 = .ok (.iconst 0, 1) := by decide +kernel
theorem dX5_costsOfAll_1 : decode cX5_costsOfAll 1 = .ok (.istore_n 1, 1) := by decide +kernel
theorem dX5_costsOfAll_2 : decode cX5_costsOfAll 2 = .ok (.iconst 0, 1) := by decide +kernel
theorem dX5_costsOfAll_3 : decode cX5_costsOfAll 3 = .ok (.istore_n 2, 1) := by decide +kernel
theorem dX5_costsOfAll_4 : decode cX5_costsOfAll 4 = .ok (.iload_n 2, 1) := by decide +kernel
theorem dX5_costsOfAll_5 : decode cX5_costsOfAll 5 = .ok (.aload_n 0, 1) := by decide +kernel
theorem dX5_costsOfAll_6 : decode cX5_costsOfAll 6 = .ok (.getfield 36, 3) := by decide +kernel
theorem dX5_costsOfAll_9 : decode cX5_costsOfAll 9 = .ok (.if_icmp .ge 21, 3) := by decide +kernel
theorem dX5_costsOfAll_12 : decode cX5_costsOfAll 12 = .ok (.iload_n 1, 1) := by decide +kernel
theorem dX5_costsOfAll_13 : decode cX5_costsOfAll 13 = .ok (.aload_n 0, 1) := by decide +kernel
theorem dX5_costsOfAll_14 : decode cX5_costsOfAll 14 = .ok (.getfield 11, 3) := by decide +kernel
theorem dX5_costsOfAll_17 : decode cX5_costsOfAll 17 = .ok (.iload_n 2, 1) := by decide +kernel
theorem dX5_costsOfAll_18 : decode cX5_costsOfAll 18 = .ok (.aaload, 1) := by decide +kernel
theorem dX5_costsOfAll_19 : decode cX5_costsOfAll 19 = .ok (.getfield 111, 3) := by decide +kernel
theorem dX5_costsOfAll_22 : decode cX5_costsOfAll 22 = .ok (.iadd, 1) := by decide +kernel
theorem dX5_costsOfAll_23 : decode cX5_costsOfAll 23 = .ok (.istore_n 1, 1) := by decide +kernel
theorem dX5_costsOfAll_24 : decode cX5_costsOfAll 24 = .ok (.iinc 2 1, 3) := by decide +kernel
theorem dX5_costsOfAll_27 : decode cX5_costsOfAll 27 = .ok (.goto (-23), 3) := by decide +kernel
theorem dX5_costsOfAll_30 : decode cX5_costsOfAll 30 = .ok (.iload_n 1, 1) := by decide +kernel
theorem dX5_costsOfAll_31 : decode cX5_costsOfAll 31 = .ok (.ireturn, 1) := by decide +kernel
theorem dX6_isOf_0 : decode cX6_isOf 0 = .ok (.iload_n 1, 1) := by decide +kernel
theorem dX6_isOf_1 : decode cX6_isOf 1 = .ok (.iconst 5, 1) := by decide +kernel
theorem dX6_isOf_2 : decode cX6_isOf 2 = .ok (.if_icmp .eq 11, 3) := by decide +kernel
theorem dX6_isOf_5 : decode cX6_isOf 5 = .ok (.aload_n 0, 1) := by decide +kernel
theorem dX6_isOf_6 : decode cX6_isOf 6 = .ok (.iload_n 1, 1) := by decide +kernel
theorem dX6_isOf_7 : decode cX6_isOf 7 = .ok (.invokespecial 9, 3) := by decide +kernel
theorem dX6_isOf_10 : decode cX6_isOf 10 = .ok (.ifCond .eq 7, 3) := by decide +kernel
theorem dX6_isOf_13 : decode cX6_isOf 13 = .ok (.iconst 1, 1) := by decide +kernel
theorem dX6_isOf_14 : decode cX6_isOf 14 = .ok (.goto 4, 3) := by decide +kernel
theorem dX6_isOf_17 : decode cX6_isOf 17 = .ok (.iconst 0, 1) := by decide +kernel
theorem dX6_isOf_18 : decode cX6_isOf 18 = .ok (.ireturn, 1) := by decide +kernel
theorem dX6_turns_0 : decode cX6_turns 0 = .ok (.iload_n 1, 1) := by decide +kernel
theorem dX6_turns_1 : decode cX6_turns 1 = .ok (.iconst 1, 1) := by decide +kernel
theorem dX6_turns_2 : decode cX6_turns 2 = .ok (.if_icmp .ne 5, 3) := by decide +kernel
theorem dX6_turns_5 : decode cX6_turns 5 = .ok (.iconst 3, 1) := by decide +kernel
theorem dX6_turns_6 : decode cX6_turns 6 = .ok (.ireturn, 1) := by decide +kernel
theorem dX6_turns_7 : decode cX6_turns 7 = .ok (.iload_n 1, 1) := by decide +kernel
theorem dX6_turns_8 : decode cX6_turns 8 = .ok (.iconst 3, 1) := by decide +kernel
theorem dX6_turns_9 : decode cX6_turns 9 = .ok (.if_icmp .ne 7, 3) := by decide +kernel
theorem dX6_turns_12 : decode cX6_turns 12 = .ok (.iconst 1, 1) := by decide +kernel
theorem dX6_turns_13 : decode cX6_turns 13 = .ok (.goto 8, 3) := by decide +kernel
theorem dX6_turns_16 : decode cX6_turns 16 = .ok (.aload_n 0, 1) := by decide +kernel
theorem dX6_turns_17 : decode cX6_turns 17 = .ok (.iload_n 1, 1) := by decide +kernel
theorem dX6_turns_18 : decode cX6_turns 18 = .ok (.invokespecial 13, 3) := by decide +kernel
theorem dX6_turns_21 : decode cX6_turns 21 = .ok (.ireturn, 1) := by decide +kernel
theorem dX6_crop_0 : decode cX6_crop 0 = .ok (.aload_n 0, 1) := by decide +kernel
theorem dX6_crop_1 : decode cX6_crop 1 = .ok (.invokespecial 17, 3) := by decide +kernel
theorem dX6_crop_4 : decode cX6_crop 4 = .ok (.iconst 2, 1) := by decide +kernel
theorem dX6_crop_5 : decode cX6_crop 5 = .ok (.idiv, 1) := by decide +kernel
theorem dX6_crop_6 : decode cX6_crop 6 = .ok (.ireturn, 1) := by decide +kernel
theorem dX7_isOf_0 : decode cX7_isOf 0 = .ok (.iload_n 1, 1) := by decide +kernel
theorem dX7_isOf_1 : decode cX7_isOf 1 = .ok (.iconst 1, 1) := by decide +kernel
theorem dX7_isOf_2 : decode cX7_isOf 2 = .ok (.if_icmp .eq 11, 3) := by decide +kernel
theorem dX7_isOf_5 : decode cX7_isOf 5 = .ok (.aload_n 0, 1) := by decide +kernel
theorem dX7_isOf_6 : decode cX7_isOf 6 = .ok (.iload_n 1, 1) := by decide +kernel
theorem dX7_isOf_7 : decode cX7_isOf 7 = .ok (.invokespecial 7, 3) := by decide +kernel
theorem dX7_isOf_10 : decode cX7_isOf 10 = .ok (.ifCond .eq 7, 3) := by decide +kernel
theorem dX7_isOf_13 : decode cX7_isOf 13 = .ok (.iconst 1, 1) := by decide +kernel
theorem dX7_isOf_14 : decode cX7_isOf 14 = .ok (.goto 4, 3) := by decide +kernel
theorem dX7_isOf_17 : decode cX7_isOf 17 = .ok (.iconst 0, 1) := by decide +kernel
theorem dX7_isOf_18 : decode cX7_isOf 18 = .ok (.ireturn, 1) := by decide +kernel
theorem dX7_steps_0 : decode cX7_steps 0 = .ok (.iconst 1, 1) := by decide +kernel
theorem dX7_steps_1 : decode cX7_steps 1 = .ok (.aload_n 0, 1) := by decide +kernel
theorem dX7_steps_2 : decode cX7_steps 2 = .ok (.iload_n 1, 1) := by decide +kernel
theorem dX7_steps_3 : decode cX7_steps 3 = .ok (.iload_n 2, 1) := by decide +kernel
theorem dX7_steps_4 : decode cX7_steps 4 = .ok (.invokespecial 11, 3) := by decide +kernel
theorem dX7_steps_7 : decode cX7_steps 7 = .ok (.iconst 2, 1) := by decide +kernel
theorem dX7_steps_8 : decode cX7_steps 8 = .ok (.idiv, 1) := by decide +kernel
theorem dX7_steps_9 : decode cX7_steps 9 = .ok (.invokestatic 15, 3) := by decide +kernel
theorem dX7_steps_12 : decode cX7_steps 12 = .ok (.ireturn, 1) := by decide +kernel
theorem dX7_crop_0 : decode cX7_crop 0 = .ok (.iconst 2, 1) := by decide +kernel
theorem dX7_crop_1 : decode cX7_crop 1 = .ok (.aload_n 0, 1) := by decide +kernel
theorem dX7_crop_2 : decode cX7_crop 2 = .ok (.invokespecial 20, 3) := by decide +kernel
theorem dX7_crop_5 : decode cX7_crop 5 = .ok (.imul, 1) := by decide +kernel
theorem dX7_crop_6 : decode cX7_crop 6 = .ok (.ireturn, 1) := by decide +kernel
theorem dX8_isOf_0 : decode cX8_isOf 0 = .ok (.iload_n 1, 1) := by decide +kernel
theorem dX8_isOf_1 : decode cX8_isOf 1 = .ok (.iconst 3, 1) := by decide +kernel
theorem dX8_isOf_2 : decode cX8_isOf 2 = .ok (.if_icmp .eq 11, 3) := by decide +kernel
theorem dX8_isOf_5 : decode cX8_isOf 5 = .ok (.aload_n 0, 1) := by decide +kernel
theorem dX8_isOf_6 : decode cX8_isOf 6 = .ok (.iload_n 1, 1) := by decide +kernel
theorem dX8_isOf_7 : decode cX8_isOf 7 = .ok (.invokespecial 7, 3) := by decide +kernel
theorem dX8_isOf_10 : decode cX8_isOf 10 = .ok (.ifCond .eq 7, 3) := by decide +kernel
theorem dX8_isOf_13 : decode cX8_isOf 13 = .ok (.iconst 1, 1) := by decide +kernel
theorem dX8_isOf_14 : decode cX8_isOf 14 = .ok (.goto 4, 3) := by decide +kernel
theorem dX8_isOf_17 : decode cX8_isOf 17 = .ok (.iconst 0, 1) := by decide +kernel
theorem dX8_isOf_18 : decode cX8_isOf 18 = .ok (.ireturn, 1) := by decide +kernel
theorem dX8_steps_0 : decode cX8_steps 0 = .ok (.iconst 1, 1) := by decide +kernel
theorem dX8_steps_1 : decode cX8_steps 1 = .ok (.aload_n 0, 1) := by decide +kernel
theorem dX8_steps_2 : decode cX8_steps 2 = .ok (.iload_n 1, 1) := by decide +kernel
theorem dX8_steps_3 : decode cX8_steps 3 = .ok (.iload_n 2, 1) := by decide +kernel
theorem dX8_steps_4 : decode cX8_steps 4 = .ok (.invokespecial 11, 3) := by decide +kernel
theorem dX8_steps_7 : decode cX8_steps 7 = .ok (.iload_n 1, 1) := by decide +kernel
theorem dX8_steps_8 : decode cX8_steps 8 = .ok (.iconst 2, 1) := by decide +kernel
theorem dX8_steps_9 : decode cX8_steps 9 = .ok (.irem, 1) := by decide +kernel
theorem dX8_steps_10 : decode cX8_steps 10 = .ok (.isub, 1) := by decide +kernel
theorem dX8_steps_11 : decode cX8_steps 11 = .ok (.invokestatic 15, 3) := by decide +kernel
theorem dX8_steps_14 : decode cX8_steps 14 = .ok (.ireturn, 1) := by decide +kernel
theorem dX8_crop_0 : decode cX8_crop 0 = .ok (.aload_n 0, 1) := by decide +kernel
theorem dX8_crop_1 : decode cX8_crop 1 = .ok (.invokespecial 20, 3) := by decide +kernel
theorem dX8_crop_4 : decode cX8_crop 4 = .ok (.iconst 1, 1) := by decide +kernel
theorem dX8_crop_5 : decode cX8_crop 5 = .ok (.iadd, 1) := by decide +kernel
theorem dX8_crop_6 : decode cX8_crop 6 = .ok (.ireturn, 1) := by decide +kernel
theorem dX9_isMissing_0 : decode cX9_isMissing 0 = .ok (.aload_n 0, 1) := by decide +kernel
theorem dX9_isMissing_1 : decode cX9_isMissing 1 = .ok (.getfield 15, 3) := by decide +kernel
theorem dX9_isMissing_4 : decode cX9_isMissing 4 = .ok (.ifCond .ne 7, 3) := by decide +kernel
theorem dX9_isMissing_7 : decode cX9_isMissing 7 = .ok (.iconst 1, 1) := by decide +kernel
theorem dX9_isMissing_8 : decode cX9_isMissing 8 = .ok (.goto 4, 3) := by decide +kernel
theorem dX9_isMissing_11 : decode cX9_isMissing 11 = .ok (.iconst 0, 1) := by decide +kernel
theorem dX9_isMissing_12 : decode cX9_isMissing 12 = .ok (.ireturn, 1) := by decide +kernel
theorem dX9_become_0 : decode cX9_become 0 = .ok (.aload_n 0, 1) := by decide +kernel
theorem dX9_become_1 : decode cX9_become 1 = .ok (.iload_n 1, 1) := by decide +kernel
theorem dX9_become_2 : decode cX9_become 2 = .ok (.putfield 15, 3) := by decide +kernel
theorem dX9_become_5 : decode cX9_become 5 = .ok (.aload_n 0, 1) := by decide +kernel
theorem dX9_become_6 : decode cX9_become 6 = .ok (.iload_n 2, 1) := by decide +kernel
theorem dX9_become_7 : decode cX9_become 7 = .ok (.putfield 19, 3) := by decide +kernel
theorem dX9_become_10 : decode cX9_become 10 = .ok (.iconst 0, 1) := by decide +kernel
theorem dX9_become_11 : decode cX9_become 11 = .ok (.istore_n 3, 1) := by decide +kernel
theorem dX9_become_12 : decode cX9_become 12 = .ok (.iload_n 3, 1) := by decide +kernel
theorem dX9_become_13 : decode cX9_become 13 = .ok (.aload_n 0, 1) := by decide +kernel
theorem dX9_become_14 : decode cX9_become 14 = .ok (.getfield 9, 3) := by decide +kernel
theorem dX9_become_17 : decode cX9_become 17 = .ok (.arraylength, 1) := by decide +kernel
theorem dX9_become_18 : decode cX9_become 18 = .ok (.if_icmp .ge 16, 3) := by decide +kernel
theorem dX9_become_21 : decode cX9_become 21 = .ok (.aload_n 0, 1) := by decide +kernel
theorem dX9_become_22 : decode cX9_become 22 = .ok (.getfield 9, 3) := by decide +kernel
theorem dX9_become_25 : decode cX9_become 25 = .ok (.iload_n 3, 1) := by decide +kernel
theorem dX9_become_26 : decode cX9_become 26 = .ok (.lconst 0, 1) := by decide +kernel
theorem dX9_become_27 : decode cX9_become 27 = .ok (.lastore, 1) := by decide +kernel
theorem dX9_become_28 : decode cX9_become 28 = .ok (.iinc 3 1, 3) := by decide +kernel
theorem dX9_become_31 : decode cX9_become 31 = .ok (.goto (-19), 3) := by decide +kernel
theorem dX9_become_34 : decode cX9_become 34 = .ok (.return_, 1) := by decide +kernel
theorem dX9_put_0 : decode cX9_put 0 = .ok (.iload_n 1, 1) := by decide +kernel
theorem dX9_put_1 : decode cX9_put 1 = .ok (.ifCond .lt 31, 3) := by decide +kernel
theorem dX9_put_4 : decode cX9_put 4 = .ok (.iload_n 1, 1) := by decide +kernel
theorem dX9_put_5 : decode cX9_put 5 = .ok (.aload_n 0, 1) := by decide +kernel
theorem dX9_put_6 : decode cX9_put 6 = .ok (.getfield 19, 3) := by decide +kernel
theorem dX9_put_9 : decode cX9_put 9 = .ok (.if_icmp .ge 23, 3) := by decide +kernel
theorem dX9_put_12 : decode cX9_put 12 = .ok (.iload_n 1, 1) := by decide +kernel
theorem dX9_put_13 : decode cX9_put 13 = .ok (.aload_n 0, 1) := by decide +kernel
theorem dX9_put_14 : decode cX9_put 14 = .ok (.getfield 9, 3) := by decide +kernel
theorem dX9_put_17 : decode cX9_put 17 = .ok (.arraylength, 1) := by decide +kernel
theorem dX9_put_18 : decode cX9_put 18 = .ok (.if_icmp .ge 14, 3) := by decide +kernel
theorem dX9_put_21 : decode cX9_put 21 = .ok (.aload_n 0, 1) := by decide +kernel
theorem dX9_put_22 : decode cX9_put 22 = .ok (.getfield 9, 3) := by decide +kernel
theorem dX9_put_25 : decode cX9_put 25 = .ok (.iload_n 1, 1) := by decide +kernel
theorem dX9_put_26 : decode cX9_put 26 = .ok (.aload_n 0, 1) := by decide +kernel
theorem dX9_put_27 : decode cX9_put 27 = .ok (.lload_n 2, 1) := by decide +kernel
theorem dX9_put_28 : decode cX9_put 28 = .ok (.invokevirtual 22, 3) := by decide +kernel
theorem dX9_put_31 : decode cX9_put 31 = .ok (.lastore, 1) := by decide +kernel
theorem dX9_put_32 : decode cX9_put 32 = .ok (.return_, 1) := by decide +kernel
theorem dX9_lowestBits_0 : decode cX9_lowestBits 0 = .ok (.aload_n 0, 1) := by decide +kernel
theorem dX9_lowestBits_1 : decode cX9_lowestBits 1 = .ok (.getfield 15, 3) := by decide +kernel
theorem dX9_lowestBits_4 : decode cX9_lowestBits 4 = .ok (.bipush 8, 2) := by decide +kernel
theorem dX9_lowestBits_6 : decode cX9_lowestBits 6 = .ok (.if_icmp .ne 8, 3) := by decide +kernel
theorem dX9_lowestBits_9 : decode cX9_lowestBits 9 = .ok (.lload_n 1, 1) := by decide +kernel
theorem dX9_lowestBits_10 : decode cX9_lowestBits 10 = .ok (.l2i, 1) := by decide +kernel
theorem dX9_lowestBits_11 : decode cX9_lowestBits 11 = .ok (.i2b, 1) := by decide +kernel
theorem dX9_lowestBits_12 : decode cX9_lowestBits 12 = .ok (.i2l, 1) := by decide +kernel
theorem dX9_lowestBits_13 : decode cX9_lowestBits 13 = .ok (.lreturn, 1) := by decide +kernel
theorem dX9_lowestBits_14 : decode cX9_lowestBits 14 = .ok (.aload_n 0, 1) := by decide +kernel
theorem dX9_lowestBits_15 : decode cX9_lowestBits 15 = .ok (.getfield 15, 3) := by decide +kernel
theorem dX9_lowestBits_18 : decode cX9_lowestBits 18 = .ok (.bipush 16, 2) := by decide +kernel
theorem dX9_lowestBits_20 : decode cX9_lowestBits 20 = .ok (.if_icmp .ne 10, 3) := by decide +kernel
theorem dX9_lowestBits_23 : decode cX9_lowestBits 23 = .ok (.lload_n 1, 1) := by decide +kernel
theorem dX9_lowestBits_24 : decode cX9_lowestBits 24 = .ok (.l2i, 1) := by decide +kernel
theorem dX9_lowestBits_25 : decode cX9_lowestBits 25 = .ok (.i2s, 1) := by decide +kernel
theorem dX9_lowestBits_26 : decode cX9_lowestBits 26 = .ok (.i2l, 1) := by decide +kernel
theorem dX9_lowestBits_27 : decode cX9_lowestBits 27 = .ok (.goto 4, 3) := by decide +kernel
theorem dX9_lowestBits_30 : decode cX9_lowestBits 30 = .ok (.lload_n 1, 1) := by decide +kernel
theorem dX9_lowestBits_31 : decode cX9_lowestBits 31 = .ok (.lreturn, 1) := by decide +kernel
theorem dX9_hasNumbers_0 : decode cX9_hasNumbers 0 = .ok (.iload_n 1, 1) := by decide +kernel
theorem dX9_hasNumbers_1 : decode cX9_hasNumbers 1 = .ok (.ifCond .lt 29, 3) := by decide +kernel
theorem dX9_hasNumbers_4 : decode cX9_hasNumbers 4 = .ok (.iload_n 2, 1) := by decide +kernel
theorem dX9_hasNumbers_5 : decode cX9_hasNumbers 5 = .ok (.ifCond .lt 25, 3) := by decide +kernel
theorem dX9_hasNumbers_8 : decode cX9_hasNumbers 8 = .ok (.iload_n 2, 1) := by decide +kernel
theorem dX9_hasNumbers_9 : decode cX9_hasNumbers 9 = .ok (.aload_n 0, 1) := by decide +kernel
theorem dX9_hasNumbers_10 : decode cX9_hasNumbers 10 = .ok (.getfield 19, 3) := by decide +kernel
theorem dX9_hasNumbers_13 : decode cX9_hasNumbers 13 = .ok (.if_icmp .gt 17, 3) := by decide +kernel
theorem dX9_hasNumbers_16 : decode cX9_hasNumbers 16 = .ok (.iload_n 1, 1) := by decide +kernel
theorem dX9_hasNumbers_17 : decode cX9_hasNumbers 17 = .ok (.aload_n 0, 1) := by decide +kernel
theorem dX9_hasNumbers_18 : decode cX9_hasNumbers 18 = .ok (.getfield 19, 3) := by decide +kernel
theorem dX9_hasNumbers_21 : decode cX9_hasNumbers 21 = .ok (.iload_n 2, 1) := by decide +kernel
theorem dX9_hasNumbers_22 : decode cX9_hasNumbers 22 = .ok (.isub, 1) := by decide +kernel
theorem dX9_hasNumbers_23 : decode cX9_hasNumbers 23 = .ok (.if_icmp .gt 7, 3) := by decide +kernel
theorem dX9_hasNumbers_26 : decode cX9_hasNumbers 26 = .ok (.iconst 1, 1) := by decide +kernel
theorem dX9_hasNumbers_27 : decode cX9_hasNumbers 27 = .ok (.goto 4, 3) := by decide +kernel
theorem dX9_hasNumbers_30 : decode cX9_hasNumbers 30 = .ok (.iconst 0, 1) := by decide +kernel
theorem dX9_hasNumbers_31 : decode cX9_hasNumbers 31 = .ok (.ireturn, 1) := by decide +kernel
theorem dX10_add_0 : decode cX10_add 0 = .ok (.aload_n 0, 1) := by decide +kernel
theorem dX10_add_1 : decode cX10_add 1 = .ok (.getfield 15, 3) := by decide +kernel
theorem dX10_add_4 : decode cX10_add 4 = .ok (.ifCond .lt 36, 3) := by decide +kernel
theorem dX10_add_7 : decode cX10_add 7 = .ok (.aload_n 0, 1) := by decide +kernel
theorem dX10_add_8 : decode cX10_add 8 = .ok (.getfield 15, 3) := by decide +kernel
theorem dX10_add_11 : decode cX10_add 11 = .ok (.aload_n 0, 1) := by decide +kernel
theorem dX10_add_12 : decode cX10_add 12 = .ok (.getfield 9, 3) := by decide +kernel
theorem dX10_add_15 : decode cX10_add 15 = .ok (.arraylength, 1) := by decide +kernel
theorem dX10_add_16 : decode cX10_add 16 = .ok (.if_icmp .ge 24, 3) := by decide +kernel
theorem dX10_add_19 : decode cX10_add 19 = .ok (.aload_n 0, 1) := by decide +kernel
theorem dX10_add_20 : decode cX10_add 20 = .ok (.getfield 9, 3) := by decide +kernel
theorem dX10_add_23 : decode cX10_add 23 = .ok (.aload_n 0, 1) := by decide +kernel
theorem dX10_add_24 : decode cX10_add 24 = .ok (.getfield 15, 3) := by decide +kernel
theorem dX10_add_27 : decode cX10_add 27 = .ok (.iload_n 1, 1) := by decide +kernel
theorem dX10_add_28 : decode cX10_add 28 = .ok (.i2c, 1) := by decide +kernel
theorem dX10_add_29 : decode cX10_add 29 = .ok (.castore, 1) := by decide +kernel
theorem dX10_add_30 : decode cX10_add 30 = .ok (.aload_n 0, 1) := by decide +kernel
theorem dX10_add_31 : decode cX10_add 31 = .ok (.dup, 1) := by decide +kernel
theorem dX10_add_32 : decode cX10_add 32 = .ok (.getfield 15, 3) := by decide +kernel
theorem dX10_add_35 : decode cX10_add 35 = .ok (.iconst 1, 1) := by decide +kernel
theorem dX10_add_36 : decode cX10_add 36 = .ok (.iadd, 1) := by decide +kernel
theorem dX10_add_37 : decode cX10_add 37 = .ok (.putfield 15, 3) := by decide +kernel
theorem dX10_add_40 : decode cX10_add 40 = .ok (.return_, 1) := by decide +kernel
theorem dX10_tellTo_0 : decode cX10_tellTo 0 = .ok (.aload_n 0, 1) := by decide +kernel
theorem dX10_tellTo_1 : decode cX10_tellTo 1 = .ok (.iconst 0, 1) := by decide +kernel
theorem dX10_tellTo_2 : decode cX10_tellTo 2 = .ok (.putfield 19, 3) := by decide +kernel
theorem dX10_tellTo_5 : decode cX10_tellTo 5 = .ok (.aload_n 0, 1) := by decide +kernel
theorem dX10_tellTo_6 : decode cX10_tellTo 6 = .ok (.invokevirtual 22, 3) := by decide +kernel
theorem dX10_tellTo_9 : decode cX10_tellTo 9 = .ok (.iconst 1, 1) := by decide +kernel
theorem dX10_tellTo_10 : decode cX10_tellTo 10 = .ok (.istore_n 3, 1) := by decide +kernel
theorem dX10_tellTo_11 : decode cX10_tellTo 11 = .ok (.iload_n 3, 1) := by decide +kernel
theorem dX10_tellTo_12 : decode cX10_tellTo 12 = .ok (.bipush 120, 2) := by decide +kernel
theorem dX10_tellTo_14 : decode cX10_tellTo 14 = .ok (.if_icmp .gt 53, 3) := by decide +kernel
theorem dX10_tellTo_17 : decode cX10_tellTo 17 = .ok (.aload_n 0, 1) := by decide +kernel
theorem dX10_tellTo_18 : decode cX10_tellTo 18 = .ok (.aload_n 1, 1) := by decide +kernel
theorem dX10_tellTo_19 : decode cX10_tellTo 19 = .ok (.aload_n 2, 1) := by decide +kernel
theorem dX10_tellTo_20 : decode cX10_tellTo 20 = .ok (.invokevirtual 25, 3) := by decide +kernel
theorem dX10_tellTo_23 : decode cX10_tellTo 23 = .ok (.ifCond .ne 10, 3) := by decide +kernel
theorem dX10_tellTo_26 : decode cX10_tellTo 26 = .ok (.iconst (-1), 1) := by decide +kernel
theorem dX10_tellTo_27 : decode cX10_tellTo 27 = .ok (.aload_n 0, 1) := by decide +kernel
theorem dX10_tellTo_28 : decode cX10_tellTo 28 = .ok (.getfield 29, 3) := by decide +kernel
theorem dX10_tellTo_31 : decode cX10_tellTo 31 = .ok (.isub, 1) := by decide +kernel
theorem dX10_tellTo_32 : decode cX10_tellTo 32 = .ok (.ireturn, 1) := by decide +kernel
theorem dX10_tellTo_33 : decode cX10_tellTo 33 = .ok (.aload_n 0, 1) := by decide +kernel
theorem dX10_tellTo_34 : decode cX10_tellTo 34 = .ok (.getfield 32, 3) := by decide +kernel
theorem dX10_tellTo_37 : decode cX10_tellTo 37 = .ok (.ifCond .ne 5, 3) := by decide +kernel
theorem dX10_tellTo_40 : decode cX10_tellTo 40 = .ok (.iload_n 3, 1) := by decide +kernel
theorem dX10_tellTo_41 : decode cX10_tellTo 41 = .ok (.ireturn, 1) := by decide +kernel
theorem dX10_tellTo_42 : decode cX10_tellTo 42 = .ok (.aload_n 0, 1) := by decide +kernel
theorem dX10_tellTo_43 : decode cX10_tellTo 43 = .ok (.getfield 32, 3) := by decide +kernel
theorem dX10_tellTo_46 : decode cX10_tellTo 46 = .ok (.iconst 3, 1) := by decide +kernel
theorem dX10_tellTo_47 : decode cX10_tellTo 47 = .ok (.if_icmp .eq 10, 3) := by decide +kernel
theorem dX10_tellTo_50 : decode cX10_tellTo 50 = .ok (.iconst (-1), 1) := by decide +kernel
theorem dX10_tellTo_51 : decode cX10_tellTo 51 = .ok (.aload_n 0, 1) := by decide +kernel
theorem dX10_tellTo_52 : decode cX10_tellTo 52 = .ok (.getfield 29, 3) := by decide +kernel
theorem dX10_tellTo_55 : decode cX10_tellTo 55 = .ok (.isub, 1) := by decide +kernel
theorem dX10_tellTo_56 : decode cX10_tellTo 56 = .ok (.ireturn, 1) := by decide +kernel
theorem dX10_tellTo_57 : decode cX10_tellTo 57 = .ok (.aload_n 0, 1) := by decide +kernel
theorem dX10_tellTo_58 : decode cX10_tellTo 58 = .ok (.invokevirtual 22, 3) := by decide +kernel
theorem dX10_tellTo_61 : decode cX10_tellTo 61 = .ok (.iinc 3 1, 3) := by decide +kernel
theorem dX10_tellTo_64 : decode cX10_tellTo 64 = .ok (.goto (-53), 3) := by decide +kernel
theorem dX10_tellTo_67 : decode cX10_tellTo 67 = .ok (.iconst (-1), 1) := by decide +kernel
theorem dX10_tellTo_68 : decode cX10_tellTo 68 = .ok (.aload_n 0, 1) := by decide +kernel
theorem dX10_tellTo_69 : decode cX10_tellTo 69 = .ok (.getfield 29, 3) := by decide +kernel
theorem dX10_tellTo_72 : decode cX10_tellTo 72 = .ok (.isub, 1) := by decide +kernel
theorem dX10_tellTo_73 : decode cX10_tellTo 73 = .ok (.ireturn, 1) := by decide +kernel
theorem dX10_takeItem_0 : decode cX10_takeItem 0 = .ok (.aload_n 0, 1) := by decide +kernel
theorem dX10_takeItem_1 : decode cX10_takeItem 1 = .ok (.ldc 35, 2) := by decide +kernel
theorem dX10_takeItem_3 : decode cX10_takeItem 3 = .ok (.invokevirtual 37, 3) := by decide +kernel
theorem dX10_takeItem_6 : decode cX10_takeItem 6 = .ok (.ifCond .eq 10, 3) := by decide +kernel
theorem dX10_takeItem_9 : decode cX10_takeItem 9 = .ok (.aload_n 0, 1) := by decide +kernel
theorem dX10_takeItem_10 : decode cX10_takeItem 10 = .ok (.aload_n 1, 1) := by decide +kernel
theorem dX10_takeItem_11 : decode cX10_takeItem 11 = .ok (.iconst 1, 1) := by decide +kernel
theorem dX10_takeItem_12 : decode cX10_takeItem 12 = .ok (.invokevirtual 41, 3) := by decide +kernel
theorem dX10_takeItem_15 : decode cX10_takeItem 15 = .ok (.ireturn, 1) := by decide +kernel
theorem dX10_takeItem_16 : decode cX10_takeItem 16 = .ok (.aload_n 0, 1) := by decide +kernel
theorem dX10_takeItem_17 : decode cX10_takeItem 17 = .ok (.ldc 45, 2) := by decide +kernel
theorem dX10_takeItem_19 : decode cX10_takeItem 19 = .ok (.invokevirtual 37, 3) := by decide +kernel
theorem dX10_takeItem_22 : decode cX10_takeItem 22 = .ok (.ifCond .eq 10, 3) := by decide +kernel
theorem dX10_takeItem_25 : decode cX10_takeItem 25 = .ok (.aload_n 0, 1) := by decide +kernel
theorem dX10_takeItem_26 : decode cX10_takeItem 26 = .ok (.aload_n 1, 1) := by decide +kernel
theorem dX10_takeItem_27 : decode cX10_takeItem 27 = .ok (.iconst 0, 1) := by decide +kernel
theorem dX10_takeItem_28 : decode cX10_takeItem 28 = .ok (.invokevirtual 41, 3) := by decide +kernel
theorem dX10_takeItem_31 : decode cX10_takeItem 31 = .ok (.ireturn, 1) := by decide +kernel
theorem dX10_takeItem_32 : decode cX10_takeItem 32 = .ok (.aload_n 0, 1) := by decide +kernel
theorem dX10_takeItem_33 : decode cX10_takeItem 33 = .ok (.aload_n 2, 1) := by decide +kernel
theorem dX10_takeItem_34 : decode cX10_takeItem 34 = .ok (.invokevirtual 47, 3) := by decide +kernel
theorem dX10_takeItem_37 : decode cX10_takeItem 37 = .ok (.astore_n 3, 1) := by decide +kernel
theorem dX10_takeItem_38 : decode cX10_takeItem 38 = .ok (.aload_n 3, 1) := by decide +kernel
theorem dX10_takeItem_39 : decode cX10_takeItem 39 = .ok (.ifnull 23, 3) := by decide +kernel
theorem dX10_takeItem_42 : decode cX10_takeItem 42 = .ok (.aload_n 1, 1) := by decide +kernel
theorem dX10_takeItem_43 : decode cX10_takeItem 43 = .ok (.invokevirtual 51, 3) := by decide +kernel
theorem dX10_takeItem_46 : decode cX10_takeItem 46 = .ok (.ifCond .ne 16, 3) := by decide +kernel
theorem dX10_takeItem_49 : decode cX10_takeItem 49 = .ok (.aload_n 0, 1) := by decide +kernel
theorem dX10_takeItem_50 : decode cX10_takeItem 50 = .ok (.aload_n 1, 1) := by decide +kernel
theorem dX10_takeItem_51 : decode cX10_takeItem 51 = .ok (.aload_n 3, 1) := by decide +kernel
theorem dX10_takeItem_52 : decode cX10_takeItem 52 = .ok (.invokevirtual 57, 3) := by decide +kernel
theorem dX10_takeItem_55 : decode cX10_takeItem 55 = .ok (.ifCond .eq 7, 3) := by decide +kernel
theorem dX10_takeItem_58 : decode cX10_takeItem 58 = .ok (.iconst 1, 1) := by decide +kernel
theorem dX10_takeItem_59 : decode cX10_takeItem 59 = .ok (.goto 4, 3) := by decide +kernel
theorem dX10_takeItem_62 : decode cX10_takeItem 62 = .ok (.iconst 0, 1) := by decide +kernel
theorem dX10_takeItem_63 : decode cX10_takeItem 63 = .ok (.ireturn, 1) := by decide +kernel
theorem dX10_takeSmudge_0 : decode cX10_takeSmudge 0 = .ok (.aload_n 0, 1) := by decide +kernel
theorem dX10_takeSmudge_1 : decode cX10_takeSmudge 1 = .ok (.invokevirtual 22, 3) := by decide +kernel
theorem dX10_takeSmudge_4 : decode cX10_takeSmudge 4 = .ok (.aload_n 0, 1) := by decide +kernel
theorem dX10_takeSmudge_5 : decode cX10_takeSmudge 5 = .ok (.iconst 0, 1) := by decide +kernel
theorem dX10_takeSmudge_6 : decode cX10_takeSmudge 6 = .ok (.bipush 47, 2) := by decide +kernel
theorem dX10_takeSmudge_8 : decode cX10_takeSmudge 8 = .ok (.invokevirtual 61, 3) := by decide +kernel
theorem dX10_takeSmudge_11 : decode cX10_takeSmudge 11 = .ok (.ifCond .ne 5, 3) := by decide +kernel
theorem dX10_takeSmudge_14 : decode cX10_takeSmudge 14 = .ok (.iconst 0, 1) := by decide +kernel
theorem dX10_takeSmudge_15 : decode cX10_takeSmudge 15 = .ok (.ireturn, 1) := by decide +kernel
theorem dX10_takeSmudge_16 : decode cX10_takeSmudge 16 = .ok (.aload_n 1, 1) := by decide +kernel
theorem dX10_takeSmudge_17 : decode cX10_takeSmudge 17 = .ok (.aload_n 0, 1) := by decide +kernel
theorem dX10_takeSmudge_18 : decode cX10_takeSmudge 18 = .ok (.getfield 65, 3) := by decide +kernel
theorem dX10_takeSmudge_21 : decode cX10_takeSmudge 21 = .ok (.iload_n 2, 1) := by decide +kernel
theorem dX10_takeSmudge_22 : decode cX10_takeSmudge 22 = .ok (.invokevirtual 68, 3) := by decide +kernel
theorem dX10_takeSmudge_25 : decode cX10_takeSmudge 25 = .ok (.aload_n 0, 1) := by decide +kernel
theorem dX10_takeSmudge_26 : decode cX10_takeSmudge 26 = .ok (.invokevirtual 22, 3) := by decide +kernel
theorem dX10_takeSmudge_29 : decode cX10_takeSmudge 29 = .ok (.iconst 1, 1) := by decide +kernel
theorem dX10_takeSmudge_30 : decode cX10_takeSmudge 30 = .ok (.ireturn, 1) := by decide +kernel
theorem dX10_takeHand_0 : decode cX10_takeHand 0 = .ok (.aload_n 0, 1) := by decide +kernel
theorem dX10_takeHand_1 : decode cX10_takeHand 1 = .ok (.invokevirtual 22, 3) := by decide +kernel
theorem dX10_takeHand_4 : decode cX10_takeHand 4 = .ok (.aload_n 0, 1) := by decide +kernel
theorem dX10_takeHand_5 : decode cX10_takeHand 5 = .ok (.ldc 72, 2) := by decide +kernel
theorem dX10_takeHand_7 : decode cX10_takeHand 7 = .ok (.invokevirtual 37, 3) := by decide +kernel
theorem dX10_takeHand_10 : decode cX10_takeHand 10 = .ok (.ifCond .ne 5, 3) := by decide +kernel
theorem dX10_takeHand_13 : decode cX10_takeHand 13 = .ok (.iconst 0, 1) := by decide +kernel
theorem dX10_takeHand_14 : decode cX10_takeHand 14 = .ok (.ireturn, 1) := by decide +kernel
theorem dX10_takeHand_15 : decode cX10_takeHand 15 = .ok (.aload_n 0, 1) := by decide +kernel
theorem dX10_takeHand_16 : decode cX10_takeHand 16 = .ok (.invokevirtual 22, 3) := by decide +kernel
theorem dX10_takeHand_19 : decode cX10_takeHand 19 = .ok (.aload_n 0, 1) := by decide +kernel
theorem dX10_takeHand_20 : decode cX10_takeHand 20 = .ok (.iconst 0, 1) := by decide +kernel
theorem dX10_takeHand_21 : decode cX10_takeHand 21 = .ok (.bipush 47, 2) := by decide +kernel
theorem dX10_takeHand_23 : decode cX10_takeHand 23 = .ok (.invokevirtual 61, 3) := by decide +kernel
theorem dX10_takeHand_26 : decode cX10_takeHand 26 = .ok (.ifCond .ne 5, 3) := by decide +kernel
theorem dX10_takeHand_29 : decode cX10_takeHand 29 = .ok (.iconst 0, 1) := by decide +kernel
theorem dX10_takeHand_30 : decode cX10_takeHand 30 = .ok (.ireturn, 1) := by decide +kernel
theorem dX10_takeHand_31 : decode cX10_takeHand 31 = .ok (.aload_n 1, 1) := by decide +kernel
theorem dX10_takeHand_32 : decode cX10_takeHand 32 = .ok (.aload_n 2, 1) := by decide +kernel
theorem dX10_takeHand_33 : decode cX10_takeHand 33 = .ok (.aload_n 0, 1) := by decide +kernel
theorem dX10_takeHand_34 : decode cX10_takeHand 34 = .ok (.getfield 65, 3) := by decide +kernel
theorem dX10_takeHand_37 : decode cX10_takeHand 37 = .ok (.invokevirtual 74, 3) := by decide +kernel
theorem dX10_takeHand_40 : decode cX10_takeHand 40 = .ok (.astore_n 3, 1) := by decide +kernel
theorem dX10_takeHand_41 : decode cX10_takeHand 41 = .ok (.aload_n 3, 1) := by decide +kernel
theorem dX10_takeHand_42 : decode cX10_takeHand 42 = .ok (.ifnonnull 5, 3) := by decide +kernel
theorem dX10_takeHand_45 : decode cX10_takeHand 45 = .ok (.iconst 0, 1) := by decide +kernel
theorem dX10_takeHand_46 : decode cX10_takeHand 46 = .ok (.ireturn, 1) := by decide +kernel
theorem dX10_takeHand_47 : decode cX10_takeHand 47 = .ok (.aload_n 0, 1) := by decide +kernel
theorem dX10_takeHand_48 : decode cX10_takeHand 48 = .ok (.invokevirtual 22, 3) := by decide +kernel
theorem dX10_takeHand_51 : decode cX10_takeHand 51 = .ok (.aload_n 0, 1) := by decide +kernel
theorem dX10_takeHand_52 : decode cX10_takeHand 52 = .ok (.aload_n 3, 1) := by decide +kernel
theorem dX10_takeHand_53 : decode cX10_takeHand 53 = .ok (.invokevirtual 78, 3) := by decide +kernel
theorem dX10_takeHand_56 : decode cX10_takeHand 56 = .ok (.ifCond .eq 15, 3) := by decide +kernel
theorem dX10_takeHand_59 : decode cX10_takeHand 59 = .ok (.aload_n 0, 1) := by decide +kernel
theorem dX10_takeHand_60 : decode cX10_takeHand 60 = .ok (.aload_n 3, 1) := by decide +kernel
theorem dX10_takeHand_61 : decode cX10_takeHand 61 = .ok (.invokevirtual 82, 3) := by decide +kernel
theorem dX10_takeHand_64 : decode cX10_takeHand 64 = .ok (.ifCond .eq 7, 3) := by decide +kernel
theorem dX10_takeHand_67 : decode cX10_takeHand 67 = .ok (.iconst 1, 1) := by decide +kernel
theorem dX10_takeHand_68 : decode cX10_takeHand 68 = .ok (.goto 4, 3) := by decide +kernel
theorem dX10_takeHand_71 : decode cX10_takeHand 71 = .ok (.iconst 0, 1) := by decide +kernel
theorem dX10_takeHand_72 : decode cX10_takeHand 72 = .ok (.ireturn, 1) := by decide +kernel
theorem dX10_takeInk_0 : decode cX10_takeInk 0 = .ok (.aload_n 0, 1) := by decide +kernel
theorem dX10_takeInk_1 : decode cX10_takeInk 1 = .ok (.ldc 85, 2) := by decide +kernel
theorem dX10_takeInk_3 : decode cX10_takeInk 3 = .ok (.invokevirtual 37, 3) := by decide +kernel
theorem dX10_takeInk_6 : decode cX10_takeInk 6 = .ok (.ifCond .ne 5, 3) := by decide +kernel
theorem dX10_takeInk_9 : decode cX10_takeInk 9 = .ok (.iconst 1, 1) := by decide +kernel
theorem dX10_takeInk_10 : decode cX10_takeInk 10 = .ok (.ireturn, 1) := by decide +kernel
theorem dX10_takeInk_11 : decode cX10_takeInk 11 = .ok (.aload_n 0, 1) := by decide +kernel
theorem dX10_takeInk_12 : decode cX10_takeInk 12 = .ok (.invokevirtual 22, 3) := by decide +kernel
theorem dX10_takeInk_15 : decode cX10_takeInk 15 = .ok (.aload_n 0, 1) := by decide +kernel
theorem dX10_takeInk_16 : decode cX10_takeInk 16 = .ok (.iconst 0, 1) := by decide +kernel
theorem dX10_takeInk_17 : decode cX10_takeInk 17 = .ok (.sipush 999, 3) := by decide +kernel
theorem dX10_takeInk_20 : decode cX10_takeInk 20 = .ok (.invokevirtual 61, 3) := by decide +kernel
theorem dX10_takeInk_23 : decode cX10_takeInk 23 = .ok (.ifCond .ne 5, 3) := by decide +kernel
theorem dX10_takeInk_26 : decode cX10_takeInk 26 = .ok (.iconst 0, 1) := by decide +kernel
theorem dX10_takeInk_27 : decode cX10_takeInk 27 = .ok (.ireturn, 1) := by decide +kernel
theorem dX10_takeInk_28 : decode cX10_takeInk 28 = .ok (.aload_n 1, 1) := by decide +kernel
theorem dX10_takeInk_29 : decode cX10_takeInk 29 = .ok (.aload_n 0, 1) := by decide +kernel
theorem dX10_takeInk_30 : decode cX10_takeInk 30 = .ok (.getfield 65, 3) := by decide +kernel
theorem dX10_takeInk_33 : decode cX10_takeInk 33 = .ok (.putfield 87, 3) := by decide +kernel
theorem dX10_takeInk_36 : decode cX10_takeInk 36 = .ok (.aload_n 0, 1) := by decide +kernel
theorem dX10_takeInk_37 : decode cX10_takeInk 37 = .ok (.invokevirtual 22, 3) := by decide +kernel
theorem dX10_takeInk_40 : decode cX10_takeInk 40 = .ok (.iconst 1, 1) := by decide +kernel
theorem dX10_takeInk_41 : decode cX10_takeInk 41 = .ok (.ireturn, 1) := by decide +kernel
theorem dX10_takeStrokes_0 : decode cX10_takeStrokes 0 = .ok (.iconst 0, 1) := by decide +kernel
theorem dX10_takeStrokes_1 : decode cX10_takeStrokes 1 = .ok (.istore_n 2, 1) := by decide +kernel
theorem dX10_takeStrokes_2 : decode cX10_takeStrokes 2 = .ok (.iload_n 2, 1) := by decide +kernel
theorem dX10_takeStrokes_3 : decode cX10_takeStrokes 3 = .ok (.bipush 8, 2) := by decide +kernel
theorem dX10_takeStrokes_5 : decode cX10_takeStrokes 5 = .ok (.if_icmp .ge 50, 3) := by decide +kernel
theorem dX10_takeStrokes_8 : decode cX10_takeStrokes 8 = .ok (.aload_n 0, 1) := by decide +kernel
theorem dX10_takeStrokes_9 : decode cX10_takeStrokes 9 = .ok (.invokevirtual 91, 3) := by decide +kernel
theorem dX10_takeStrokes_12 : decode cX10_takeStrokes 12 = .ok (.istore_n 3, 1) := by decide +kernel
theorem dX10_takeStrokes_13 : decode cX10_takeStrokes 13 = .ok (.iload_n 3, 1) := by decide +kernel
theorem dX10_takeStrokes_14 : decode cX10_takeStrokes 14 = .ok (.ifCond .ge 5, 3) := by decide +kernel
theorem dX10_takeStrokes_17 : decode cX10_takeStrokes 17 = .ok (.iconst 1, 1) := by decide +kernel
theorem dX10_takeStrokes_18 : decode cX10_takeStrokes 18 = .ok (.ireturn, 1) := by decide +kernel
theorem dX10_takeStrokes_19 : decode cX10_takeStrokes 19 = .ok (.aload_n 0, 1) := by decide +kernel
theorem dX10_takeStrokes_20 : decode cX10_takeStrokes 20 = .ok (.invokevirtual 22, 3) := by decide +kernel
theorem dX10_takeStrokes_23 : decode cX10_takeStrokes 23 = .ok (.aload_n 0, 1) := by decide +kernel
theorem dX10_takeStrokes_24 : decode cX10_takeStrokes 24 = .ok (.iconst 1, 1) := by decide +kernel
theorem dX10_takeStrokes_25 : decode cX10_takeStrokes 25 = .ok (.bipush 7, 2) := by decide +kernel
theorem dX10_takeStrokes_27 : decode cX10_takeStrokes 27 = .ok (.invokevirtual 61, 3) := by decide +kernel
theorem dX10_takeStrokes_30 : decode cX10_takeStrokes 30 = .ok (.ifCond .ne 5, 3) := by decide +kernel
theorem dX10_takeStrokes_33 : decode cX10_takeStrokes 33 = .ok (.iconst 0, 1) := by decide +kernel
theorem dX10_takeStrokes_34 : decode cX10_takeStrokes 34 = .ok (.ireturn, 1) := by decide +kernel
theorem dX10_takeStrokes_35 : decode cX10_takeStrokes 35 = .ok (.aload_n 1, 1) := by decide +kernel
theorem dX10_takeStrokes_36 : decode cX10_takeStrokes 36 = .ok (.iload_n 3, 1) := by decide +kernel
theorem dX10_takeStrokes_37 : decode cX10_takeStrokes 37 = .ok (.aload_n 0, 1) := by decide +kernel
theorem dX10_takeStrokes_38 : decode cX10_takeStrokes 38 = .ok (.getfield 65, 3) := by decide +kernel
theorem dX10_takeStrokes_41 : decode cX10_takeStrokes 41 = .ok (.invokevirtual 95, 3) := by decide +kernel
theorem dX10_takeStrokes_44 : decode cX10_takeStrokes 44 = .ok (.pop, 1) := by decide +kernel
theorem dX10_takeStrokes_45 : decode cX10_takeStrokes 45 = .ok (.aload_n 0, 1) := by decide +kernel
theorem dX10_takeStrokes_46 : decode cX10_takeStrokes 46 = .ok (.invokevirtual 22, 3) := by decide +kernel
theorem dX10_takeStrokes_49 : decode cX10_takeStrokes 49 = .ok (.iinc 2 1, 3) := by decide +kernel
theorem dX10_takeStrokes_52 : decode cX10_takeStrokes 52 = .ok (.goto (-50), 3) := by decide +kernel
theorem dX10_takeStrokes_55 : decode cX10_takeStrokes 55 = .ok (.iconst 1, 1) := by decide +kernel
theorem dX10_takeStrokes_56 : decode cX10_takeStrokes 56 = .ok (.ireturn, 1) := by decide +kernel
theorem dX10_kindNamed_0 : decode cX10_kindNamed 0 = .ok (.iconst 0, 1) := by decide +kernel
theorem dX10_kindNamed_1 : decode cX10_kindNamed 1 = .ok (.istore_n 2, 1) := by decide +kernel
theorem dX10_kindNamed_2 : decode cX10_kindNamed 2 = .ok (.iload_n 2, 1) := by decide +kernel
theorem dX10_kindNamed_3 : decode cX10_kindNamed 3 = .ok (.aload_n 1, 1) := by decide +kernel
theorem dX10_kindNamed_4 : decode cX10_kindNamed 4 = .ok (.arraylength, 1) := by decide +kernel
theorem dX10_kindNamed_5 : decode cX10_kindNamed 5 = .ok (.if_icmp .ge 26, 3) := by decide +kernel
theorem dX10_kindNamed_8 : decode cX10_kindNamed 8 = .ok (.aload_n 0, 1) := by decide +kernel
theorem dX10_kindNamed_9 : decode cX10_kindNamed 9 = .ok (.aload_n 1, 1) := by decide +kernel
theorem dX10_kindNamed_10 : decode cX10_kindNamed 10 = .ok (.iload_n 2, 1) := by decide +kernel
theorem dX10_kindNamed_11 : decode cX10_kindNamed 11 = .ok (.aaload, 1) := by decide +kernel
theorem dX10_kindNamed_12 : decode cX10_kindNamed 12 = .ok (.getfield 98, 3) := by decide +kernel
theorem dX10_kindNamed_15 : decode cX10_kindNamed 15 = .ok (.invokevirtual 37, 3) := by decide +kernel
theorem dX10_kindNamed_18 : decode cX10_kindNamed 18 = .ok (.ifCond .eq 7, 3) := by decide +kernel
theorem dX10_kindNamed_21 : decode cX10_kindNamed 21 = .ok (.aload_n 1, 1) := by decide +kernel
theorem dX10_kindNamed_22 : decode cX10_kindNamed 22 = .ok (.iload_n 2, 1) := by decide +kernel
theorem dX10_kindNamed_23 : decode cX10_kindNamed 23 = .ok (.aaload, 1) := by decide +kernel
theorem dX10_kindNamed_24 : decode cX10_kindNamed 24 = .ok (.areturn, 1) := by decide +kernel
theorem dX10_kindNamed_25 : decode cX10_kindNamed 25 = .ok (.iinc 2 1, 3) := by decide +kernel
theorem dX10_kindNamed_28 : decode cX10_kindNamed 28 = .ok (.goto (-26), 3) := by decide +kernel
theorem dX10_kindNamed_31 : decode cX10_kindNamed 31 = .ok (.aconst_null, 1) := by decide +kernel
theorem dX10_kindNamed_32 : decode cX10_kindNamed 32 = .ok (.areturn, 1) := by decide +kernel
theorem dX10_wayNamed_0 : decode cX10_wayNamed 0 = .ok (.aload_n 0, 1) := by decide +kernel
theorem dX10_wayNamed_1 : decode cX10_wayNamed 1 = .ok (.ldc 104, 2) := by decide +kernel
theorem dX10_wayNamed_3 : decode cX10_wayNamed 3 = .ok (.invokevirtual 37, 3) := by decide +kernel
theorem dX10_wayNamed_6 : decode cX10_wayNamed 6 = .ok (.ifCond .eq 5, 3) := by decide +kernel
theorem dX10_wayNamed_9 : decode cX10_wayNamed 9 = .ok (.iconst 0, 1) := by decide +kernel
theorem dX10_wayNamed_10 : decode cX10_wayNamed 10 = .ok (.ireturn, 1) := by decide +kernel
theorem dX10_wayNamed_11 : decode cX10_wayNamed 11 = .ok (.aload_n 0, 1) := by decide +kernel
theorem dX10_wayNamed_12 : decode cX10_wayNamed 12 = .ok (.ldc 106, 2) := by decide +kernel
theorem dX10_wayNamed_14 : decode cX10_wayNamed 14 = .ok (.invokevirtual 37, 3) := by decide +kernel
theorem dX10_wayNamed_17 : decode cX10_wayNamed 17 = .ok (.ifCond .eq 5, 3) := by decide +kernel
theorem dX10_wayNamed_20 : decode cX10_wayNamed 20 = .ok (.iconst 1, 1) := by decide +kernel
theorem dX10_wayNamed_21 : decode cX10_wayNamed 21 = .ok (.ireturn, 1) := by decide +kernel
theorem dX10_wayNamed_22 : decode cX10_wayNamed 22 = .ok (.aload_n 0, 1) := by decide +kernel
theorem dX10_wayNamed_23 : decode cX10_wayNamed 23 = .ok (.ldc 108, 2) := by decide +kernel
theorem dX10_wayNamed_25 : decode cX10_wayNamed 25 = .ok (.invokevirtual 37, 3) := by decide +kernel
theorem dX10_wayNamed_28 : decode cX10_wayNamed 28 = .ok (.ifCond .eq 5, 3) := by decide +kernel
theorem dX10_wayNamed_31 : decode cX10_wayNamed 31 = .ok (.iconst 2, 1) := by decide +kernel
theorem dX10_wayNamed_32 : decode cX10_wayNamed 32 = .ok (.ireturn, 1) := by decide +kernel
theorem dX10_wayNamed_33 : decode cX10_wayNamed 33 = .ok (.aload_n 0, 1) := by decide +kernel
theorem dX10_wayNamed_34 : decode cX10_wayNamed 34 = .ok (.ldc 110, 2) := by decide +kernel
theorem dX10_wayNamed_36 : decode cX10_wayNamed 36 = .ok (.invokevirtual 37, 3) := by decide +kernel
theorem dX10_wayNamed_39 : decode cX10_wayNamed 39 = .ok (.ifCond .eq 7, 3) := by decide +kernel
theorem dX10_wayNamed_42 : decode cX10_wayNamed 42 = .ok (.iconst 3, 1) := by decide +kernel
theorem dX10_wayNamed_43 : decode cX10_wayNamed 43 = .ok (.goto 4, 3) := by decide +kernel
theorem dX10_wayNamed_46 : decode cX10_wayNamed 46 = .ok (.iconst (-1), 1) := by decide +kernel
theorem dX10_wayNamed_47 : decode cX10_wayNamed 47 = .ok (.ireturn, 1) := by decide +kernel
theorem dX10_isWord_0 : decode cX10_isWord 0 = .ok (.aload_n 0, 1) := by decide +kernel
theorem dX10_isWord_1 : decode cX10_isWord 1 = .ok (.getfield 32, 3) := by decide +kernel
theorem dX10_isWord_4 : decode cX10_isWord 4 = .ok (.iconst 1, 1) := by decide +kernel
theorem dX10_isWord_5 : decode cX10_isWord 5 = .ok (.if_icmp .ne 19, 3) := by decide +kernel
theorem dX10_isWord_8 : decode cX10_isWord 8 = .ok (.aload_n 0, 1) := by decide +kernel
theorem dX10_isWord_9 : decode cX10_isWord 9 = .ok (.getfield 19, 3) := by decide +kernel
theorem dX10_isWord_12 : decode cX10_isWord 12 = .ok (.aload_n 0, 1) := by decide +kernel
theorem dX10_isWord_13 : decode cX10_isWord 13 = .ok (.getfield 29, 3) := by decide +kernel
theorem dX10_isWord_16 : decode cX10_isWord 16 = .ok (.isub, 1) := by decide +kernel
theorem dX10_isWord_17 : decode cX10_isWord 17 = .ok (.aload_n 1, 1) := by decide +kernel
theorem dX10_isWord_18 : decode cX10_isWord 18 = .ok (.invokevirtual 112, 3) := by decide +kernel
theorem dX10_isWord_21 : decode cX10_isWord 21 = .ok (.if_icmp .eq 5, 3) := by decide +kernel
theorem dX10_isWord_24 : decode cX10_isWord 24 = .ok (.iconst 0, 1) := by decide +kernel
theorem dX10_isWord_25 : decode cX10_isWord 25 = .ok (.ireturn, 1) := by decide +kernel
theorem dX10_isWord_26 : decode cX10_isWord 26 = .ok (.iconst 0, 1) := by decide +kernel
theorem dX10_isWord_27 : decode cX10_isWord 27 = .ok (.istore_n 2, 1) := by decide +kernel
theorem dX10_isWord_28 : decode cX10_isWord 28 = .ok (.iload_n 2, 1) := by decide +kernel
theorem dX10_isWord_29 : decode cX10_isWord 29 = .ok (.aload_n 1, 1) := by decide +kernel
theorem dX10_isWord_30 : decode cX10_isWord 30 = .ok (.invokevirtual 112, 3) := by decide +kernel
theorem dX10_isWord_33 : decode cX10_isWord 33 = .ok (.if_icmp .ge 29, 3) := by decide +kernel
theorem dX10_isWord_36 : decode cX10_isWord 36 = .ok (.aload_n 0, 1) := by decide +kernel
theorem dX10_isWord_37 : decode cX10_isWord 37 = .ok (.aload_n 0, 1) := by decide +kernel
theorem dX10_isWord_38 : decode cX10_isWord 38 = .ok (.getfield 29, 3) := by decide +kernel
theorem dX10_isWord_41 : decode cX10_isWord 41 = .ok (.iload_n 2, 1) := by decide +kernel
theorem dX10_isWord_42 : decode cX10_isWord 42 = .ok (.iadd, 1) := by decide +kernel
theorem dX10_isWord_43 : decode cX10_isWord 43 = .ok (.invokevirtual 117, 3) := by decide +kernel
theorem dX10_isWord_46 : decode cX10_isWord 46 = .ok (.aload_n 1, 1) := by decide +kernel
theorem dX10_isWord_47 : decode cX10_isWord 47 = .ok (.iload_n 2, 1) := by decide +kernel
theorem dX10_isWord_48 : decode cX10_isWord 48 = .ok (.invokevirtual 121, 3) := by decide +kernel
theorem dX10_isWord_51 : decode cX10_isWord 51 = .ok (.if_icmp .eq 5, 3) := by decide +kernel
theorem dX10_isWord_54 : decode cX10_isWord 54 = .ok (.iconst 0, 1) := by decide +kernel
theorem dX10_isWord_55 : decode cX10_isWord 55 = .ok (.ireturn, 1) := by decide +kernel
theorem dX10_isWord_56 : decode cX10_isWord 56 = .ok (.iinc 2 1, 3) := by decide +kernel
theorem dX10_isWord_59 : decode cX10_isWord 59 = .ok (.goto (-31), 3) := by decide +kernel
theorem dX10_isWord_62 : decode cX10_isWord 62 = .ok (.iconst 1, 1) := by decide +kernel
theorem dX10_isWord_63 : decode cX10_isWord 63 = .ok (.ireturn, 1) := by decide +kernel
theorem dX10_isNumber_0 : decode cX10_isNumber 0 = .ok (.aload_n 0, 1) := by decide +kernel
theorem dX10_isNumber_1 : decode cX10_isNumber 1 = .ok (.getfield 32, 3) := by decide +kernel
theorem dX10_isNumber_4 : decode cX10_isNumber 4 = .ok (.iconst 2, 1) := by decide +kernel
theorem dX10_isNumber_5 : decode cX10_isNumber 5 = .ok (.if_icmp .ne 23, 3) := by decide +kernel
theorem dX10_isNumber_8 : decode cX10_isNumber 8 = .ok (.aload_n 0, 1) := by decide +kernel
theorem dX10_isNumber_9 : decode cX10_isNumber 9 = .ok (.getfield 65, 3) := by decide +kernel
theorem dX10_isNumber_12 : decode cX10_isNumber 12 = .ok (.iload_n 1, 1) := by decide +kernel
theorem dX10_isNumber_13 : decode cX10_isNumber 13 = .ok (.if_icmp .lt 15, 3) := by decide +kernel
theorem dX10_isNumber_16 : decode cX10_isNumber 16 = .ok (.aload_n 0, 1) := by decide +kernel
theorem dX10_isNumber_17 : decode cX10_isNumber 17 = .ok (.getfield 65, 3) := by decide +kernel
theorem dX10_isNumber_20 : decode cX10_isNumber 20 = .ok (.iload_n 2, 1) := by decide +kernel
theorem dX10_isNumber_21 : decode cX10_isNumber 21 = .ok (.if_icmp .gt 7, 3) := by decide +kernel
theorem dX10_isNumber_24 : decode cX10_isNumber 24 = .ok (.iconst 1, 1) := by decide +kernel
theorem dX10_isNumber_25 : decode cX10_isNumber 25 = .ok (.goto 4, 3) := by decide +kernel
theorem dX10_isNumber_28 : decode cX10_isNumber 28 = .ok (.iconst 0, 1) := by decide +kernel
theorem dX10_isNumber_29 : decode cX10_isNumber 29 = .ok (.ireturn, 1) := by decide +kernel
theorem dX10_goOn_0 : decode cX10_goOn 0 = .ok (.aload_n 0, 1) := by decide +kernel
theorem dX10_goOn_1 : decode cX10_goOn 1 = .ok (.aload_n 0, 1) := by decide +kernel
theorem dX10_goOn_2 : decode cX10_goOn 2 = .ok (.getfield 19, 3) := by decide +kernel
theorem dX10_goOn_5 : decode cX10_goOn 5 = .ok (.putfield 29, 3) := by decide +kernel
theorem dX10_goOn_8 : decode cX10_goOn 8 = .ok (.aload_n 0, 1) := by decide +kernel
theorem dX10_goOn_9 : decode cX10_goOn 9 = .ok (.getfield 29, 3) := by decide +kernel
theorem dX10_goOn_12 : decode cX10_goOn 12 = .ok (.aload_n 0, 1) := by decide +kernel
theorem dX10_goOn_13 : decode cX10_goOn 13 = .ok (.getfield 15, 3) := by decide +kernel
theorem dX10_goOn_16 : decode cX10_goOn 16 = .ok (.if_icmp .ge 29, 3) := by decide +kernel
theorem dX10_goOn_19 : decode cX10_goOn 19 = .ok (.aload_n 0, 1) := by decide +kernel
theorem dX10_goOn_20 : decode cX10_goOn 20 = .ok (.aload_n 0, 1) := by decide +kernel
theorem dX10_goOn_21 : decode cX10_goOn 21 = .ok (.getfield 29, 3) := by decide +kernel
theorem dX10_goOn_24 : decode cX10_goOn 24 = .ok (.invokevirtual 117, 3) := by decide +kernel
theorem dX10_goOn_27 : decode cX10_goOn 27 = .ok (.bipush 32, 2) := by decide +kernel
theorem dX10_goOn_29 : decode cX10_goOn 29 = .ok (.if_icmp .ne 16, 3) := by decide +kernel
theorem dX10_goOn_32 : decode cX10_goOn 32 = .ok (.aload_n 0, 1) := by decide +kernel
theorem dX10_goOn_33 : decode cX10_goOn 33 = .ok (.dup, 1) := by decide +kernel
theorem dX10_goOn_34 : decode cX10_goOn 34 = .ok (.getfield 29, 3) := by decide +kernel
theorem dX10_goOn_37 : decode cX10_goOn 37 = .ok (.iconst 1, 1) := by decide +kernel
theorem dX10_goOn_38 : decode cX10_goOn 38 = .ok (.iadd, 1) := by decide +kernel
theorem dX10_goOn_39 : decode cX10_goOn 39 = .ok (.putfield 29, 3) := by decide +kernel
theorem dX10_goOn_42 : decode cX10_goOn 42 = .ok (.goto (-34), 3) := by decide +kernel
theorem dX10_goOn_45 : decode cX10_goOn 45 = .ok (.aload_n 0, 1) := by decide +kernel
theorem dX10_goOn_46 : decode cX10_goOn 46 = .ok (.aload_n 0, 1) := by decide +kernel
theorem dX10_goOn_47 : decode cX10_goOn 47 = .ok (.getfield 29, 3) := by decide +kernel
theorem dX10_goOn_50 : decode cX10_goOn 50 = .ok (.putfield 19, 3) := by decide +kernel
theorem dX10_goOn_53 : decode cX10_goOn 53 = .ok (.aload_n 0, 1) := by decide +kernel
theorem dX10_goOn_54 : decode cX10_goOn 54 = .ok (.getfield 29, 3) := by decide +kernel
theorem dX10_goOn_57 : decode cX10_goOn 57 = .ok (.aload_n 0, 1) := by decide +kernel
theorem dX10_goOn_58 : decode cX10_goOn 58 = .ok (.getfield 15, 3) := by decide +kernel
theorem dX10_goOn_61 : decode cX10_goOn 61 = .ok (.if_icmp .lt 11, 3) := by decide +kernel
theorem dX10_goOn_64 : decode cX10_goOn 64 = .ok (.aload_n 0, 1) := by decide +kernel
theorem dX10_goOn_65 : decode cX10_goOn 65 = .ok (.iconst 0, 1) := by decide +kernel
theorem dX10_goOn_66 : decode cX10_goOn 66 = .ok (.putfield 32, 3) := by decide +kernel
theorem dX10_goOn_69 : decode cX10_goOn 69 = .ok (.goto 77, 3) := by decide +kernel
theorem dX10_goOn_72 : decode cX10_goOn 72 = .ok (.aload_n 0, 1) := by decide +kernel
theorem dX10_goOn_73 : decode cX10_goOn 73 = .ok (.aload_n 0, 1) := by decide +kernel
theorem dX10_goOn_74 : decode cX10_goOn 74 = .ok (.getfield 29, 3) := by decide +kernel
theorem dX10_goOn_77 : decode cX10_goOn 77 = .ok (.invokevirtual 117, 3) := by decide +kernel
theorem dX10_goOn_80 : decode cX10_goOn 80 = .ok (.invokestatic 124, 3) := by decide +kernel
theorem dX10_goOn_83 : decode cX10_goOn 83 = .ok (.ifCond .eq 10, 3) := by decide +kernel
theorem dX10_goOn_86 : decode cX10_goOn 86 = .ok (.aload_n 0, 1) := by decide +kernel
theorem dX10_goOn_87 : decode cX10_goOn 87 = .ok (.invokevirtual 128, 3) := by decide +kernel
theorem dX10_goOn_90 : decode cX10_goOn 90 = .ok (.goto 56, 3) := by decide +kernel
theorem dX10_goOn_93 : decode cX10_goOn 93 = .ok (.aload_n 0, 1) := by decide +kernel
theorem dX10_goOn_94 : decode cX10_goOn 94 = .ok (.aload_n 0, 1) := by decide +kernel
theorem dX10_goOn_95 : decode cX10_goOn 95 = .ok (.getfield 29, 3) := by decide +kernel
theorem dX10_goOn_98 : decode cX10_goOn 98 = .ok (.invokevirtual 117, 3) := by decide +kernel
theorem dX10_goOn_101 : decode cX10_goOn 101 = .ok (.invokestatic 131, 3) := by decide +kernel
theorem dX10_goOn_104 : decode cX10_goOn 104 = .ok (.ifCond .eq 10, 3) := by decide +kernel
theorem dX10_goOn_107 : decode cX10_goOn 107 = .ok (.aload_n 0, 1) := by decide +kernel
theorem dX10_goOn_108 : decode cX10_goOn 108 = .ok (.invokevirtual 134, 3) := by decide +kernel
theorem dX10_goOn_111 : decode cX10_goOn 111 = .ok (.goto 35, 3) := by decide +kernel
theorem dX10_goOn_114 : decode cX10_goOn 114 = .ok (.aload_n 0, 1) := by decide +kernel
theorem dX10_goOn_115 : decode cX10_goOn 115 = .ok (.aload_n 0, 1) := by decide +kernel
theorem dX10_goOn_116 : decode cX10_goOn 116 = .ok (.aload_n 0, 1) := by decide +kernel
theorem dX10_goOn_117 : decode cX10_goOn 117 = .ok (.getfield 29, 3) := by decide +kernel
theorem dX10_goOn_120 : decode cX10_goOn 120 = .ok (.invokevirtual 117, 3) := by decide +kernel
theorem dX10_goOn_123 : decode cX10_goOn 123 = .ok (.bipush 59, 2) := by decide +kernel
theorem dX10_goOn_125 : decode cX10_goOn 125 = .ok (.if_icmp .ne 7, 3) := by decide +kernel
theorem dX10_goOn_128 : decode cX10_goOn 128 = .ok (.iconst 3, 1) := by decide +kernel
theorem dX10_goOn_129 : decode cX10_goOn 129 = .ok (.goto 4, 3) := by decide +kernel
theorem dX10_goOn_132 : decode cX10_goOn 132 = .ok (.iconst 4, 1) := by decide +kernel
theorem dX10_goOn_133 : decode cX10_goOn 133 = .ok (.putfield 32, 3) := by decide +kernel
theorem dX10_goOn_136 : decode cX10_goOn 136 = .ok (.aload_n 0, 1) := by decide +kernel
theorem dX10_goOn_137 : decode cX10_goOn 137 = .ok (.aload_n 0, 1) := by decide +kernel
theorem dX10_goOn_138 : decode cX10_goOn 138 = .ok (.getfield 29, 3) := by decide +kernel
theorem dX10_goOn_141 : decode cX10_goOn 141 = .ok (.iconst 1, 1) := by decide +kernel
theorem dX10_goOn_142 : decode cX10_goOn 142 = .ok (.iadd, 1) := by decide +kernel
theorem dX10_goOn_143 : decode cX10_goOn 143 = .ok (.putfield 19, 3) := by decide +kernel
theorem dX10_goOn_146 : decode cX10_goOn 146 = .ok (.return_, 1) := by decide +kernel
theorem dX10_goOverWord_0 : decode cX10_goOverWord 0 = .ok (.aload_n 0, 1) := by decide +kernel
theorem dX10_goOverWord_1 : decode cX10_goOverWord 1 = .ok (.iconst 1, 1) := by decide +kernel
theorem dX10_goOverWord_2 : decode cX10_goOverWord 2 = .ok (.putfield 32, 3) := by decide +kernel
theorem dX10_goOverWord_5 : decode cX10_goOverWord 5 = .ok (.aload_n 0, 1) := by decide +kernel
theorem dX10_goOverWord_6 : decode cX10_goOverWord 6 = .ok (.getfield 19, 3) := by decide +kernel
theorem dX10_goOverWord_9 : decode cX10_goOverWord 9 = .ok (.aload_n 0, 1) := by decide +kernel
theorem dX10_goOverWord_10 : decode cX10_goOverWord 10 = .ok (.getfield 15, 3) := by decide +kernel
theorem dX10_goOverWord_13 : decode cX10_goOverWord 13 = .ok (.if_icmp .ge 30, 3) := by decide +kernel
theorem dX10_goOverWord_16 : decode cX10_goOverWord 16 = .ok (.aload_n 0, 1) := by decide +kernel
theorem dX10_goOverWord_17 : decode cX10_goOverWord 17 = .ok (.aload_n 0, 1) := by decide +kernel
theorem dX10_goOverWord_18 : decode cX10_goOverWord 18 = .ok (.getfield 19, 3) := by decide +kernel
theorem dX10_goOverWord_21 : decode cX10_goOverWord 21 = .ok (.invokevirtual 117, 3) := by decide +kernel
theorem dX10_goOverWord_24 : decode cX10_goOverWord 24 = .ok (.invokestatic 124, 3) := by decide +kernel
theorem dX10_goOverWord_27 : decode cX10_goOverWord 27 = .ok (.ifCond .eq 16, 3) := by decide +kernel
theorem dX10_goOverWord_30 : decode cX10_goOverWord 30 = .ok (.aload_n 0, 1) := by decide +kernel
theorem dX10_goOverWord_31 : decode cX10_goOverWord 31 = .ok (.dup, 1) := by decide +kernel
theorem dX10_goOverWord_32 : decode cX10_goOverWord 32 = .ok (.getfield 19, 3) := by decide +kernel
theorem dX10_goOverWord_35 : decode cX10_goOverWord 35 = .ok (.iconst 1, 1) := by decide +kernel
theorem dX10_goOverWord_36 : decode cX10_goOverWord 36 = .ok (.iadd, 1) := by decide +kernel
theorem dX10_goOverWord_37 : decode cX10_goOverWord 37 = .ok (.putfield 19, 3) := by decide +kernel
theorem dX10_goOverWord_40 : decode cX10_goOverWord 40 = .ok (.goto (-35), 3) := by decide +kernel
theorem dX10_goOverWord_43 : decode cX10_goOverWord 43 = .ok (.return_, 1) := by decide +kernel
theorem dX10_goOverNumber_0 : decode cX10_goOverNumber 0 = .ok (.aload_n 0, 1) := by decide +kernel
theorem dX10_goOverNumber_1 : decode cX10_goOverNumber 1 = .ok (.iconst 2, 1) := by decide +kernel
theorem dX10_goOverNumber_2 : decode cX10_goOverNumber 2 = .ok (.putfield 32, 3) := by decide +kernel
theorem dX10_goOverNumber_5 : decode cX10_goOverNumber 5 = .ok (.aload_n 0, 1) := by decide +kernel
theorem dX10_goOverNumber_6 : decode cX10_goOverNumber 6 = .ok (.iconst 0, 1) := by decide +kernel
theorem dX10_goOverNumber_7 : decode cX10_goOverNumber 7 = .ok (.putfield 65, 3) := by decide +kernel
theorem dX10_goOverNumber_10 : decode cX10_goOverNumber 10 = .ok (.aload_n 0, 1) := by decide +kernel
theorem dX10_goOverNumber_11 : decode cX10_goOverNumber 11 = .ok (.getfield 19, 3) := by decide +kernel
theorem dX10_goOverNumber_14 : decode cX10_goOverNumber 14 = .ok (.aload_n 0, 1) := by decide +kernel
theorem dX10_goOverNumber_15 : decode cX10_goOverNumber 15 = .ok (.getfield 15, 3) := by decide +kernel
theorem dX10_goOverNumber_18 : decode cX10_goOverNumber 18 = .ok (.if_icmp .ge 59, 3) := by decide +kernel
theorem dX10_goOverNumber_21 : decode cX10_goOverNumber 21 = .ok (.aload_n 0, 1) := by decide +kernel
theorem dX10_goOverNumber_22 : decode cX10_goOverNumber 22 = .ok (.aload_n 0, 1) := by decide +kernel
theorem dX10_goOverNumber_23 : decode cX10_goOverNumber 23 = .ok (.getfield 19, 3) := by decide +kernel
theorem dX10_goOverNumber_26 : decode cX10_goOverNumber 26 = .ok (.invokevirtual 117, 3) := by decide +kernel
theorem dX10_goOverNumber_29 : decode cX10_goOverNumber 29 = .ok (.invokestatic 131, 3) := by decide +kernel
theorem dX10_goOverNumber_32 : decode cX10_goOverNumber 32 = .ok (.ifCond .eq 45, 3) := by decide +kernel
theorem dX10_goOverNumber_35 : decode cX10_goOverNumber 35 = .ok (.aload_n 0, 1) := by decide +kernel
theorem dX10_goOverNumber_36 : decode cX10_goOverNumber 36 = .ok (.sipush 1000, 3) := by decide +kernel
theorem dX10_goOverNumber_39 : decode cX10_goOverNumber 39 = .ok (.bipush 10, 2) := by decide +kernel
theorem dX10_goOverNumber_41 : decode cX10_goOverNumber 41 = .ok (.aload_n 0, 1) := by decide +kernel
theorem dX10_goOverNumber_42 : decode cX10_goOverNumber 42 = .ok (.getfield 65, 3) := by decide +kernel
theorem dX10_goOverNumber_45 : decode cX10_goOverNumber 45 = .ok (.imul, 1) := by decide +kernel
theorem dX10_goOverNumber_46 : decode cX10_goOverNumber 46 = .ok (.aload_n 0, 1) := by decide +kernel
theorem dX10_goOverNumber_47 : decode cX10_goOverNumber 47 = .ok (.aload_n 0, 1) := by decide +kernel
theorem dX10_goOverNumber_48 : decode cX10_goOverNumber 48 = .ok (.getfield 19, 3) := by decide +kernel
theorem dX10_goOverNumber_51 : decode cX10_goOverNumber 51 = .ok (.invokevirtual 117, 3) := by decide +kernel
theorem dX10_goOverNumber_54 : decode cX10_goOverNumber 54 = .ok (.bipush 48, 2) := by decide +kernel
theorem dX10_goOverNumber_56 : decode cX10_goOverNumber 56 = .ok (.isub, 1) := by decide +kernel
theorem dX10_goOverNumber_57 : decode cX10_goOverNumber 57 = .ok (.iadd, 1) := by decide +kernel
theorem dX10_goOverNumber_58 : decode cX10_goOverNumber 58 = .ok (.invokestatic 137, 3) := by decide +kernel
theorem dX10_goOverNumber_61 : decode cX10_goOverNumber 61 = .ok (.putfield 65, 3) := by decide +kernel
theorem dX10_goOverNumber_64 : decode cX10_goOverNumber 64 = .ok (.aload_n 0, 1) := by decide +kernel
theorem dX10_goOverNumber_65 : decode cX10_goOverNumber 65 = .ok (.dup, 1) := by decide +kernel
theorem dX10_goOverNumber_66 : decode cX10_goOverNumber 66 = .ok (.getfield 19, 3) := by decide +kernel
theorem dX10_goOverNumber_69 : decode cX10_goOverNumber 69 = .ok (.iconst 1, 1) := by decide +kernel
theorem dX10_goOverNumber_70 : decode cX10_goOverNumber 70 = .ok (.iadd, 1) := by decide +kernel
theorem dX10_goOverNumber_71 : decode cX10_goOverNumber 71 = .ok (.putfield 19, 3) := by decide +kernel
theorem dX10_goOverNumber_74 : decode cX10_goOverNumber 74 = .ok (.goto (-64), 3) := by decide +kernel
theorem dX10_goOverNumber_77 : decode cX10_goOverNumber 77 = .ok (.return_, 1) := by decide +kernel
theorem dX10_byteAt_0 : decode cX10_byteAt 0 = .ok (.iload_n 1, 1) := by decide +kernel
theorem dX10_byteAt_1 : decode cX10_byteAt 1 = .ok (.ifCond .lt 29, 3) := by decide +kernel
theorem dX10_byteAt_4 : decode cX10_byteAt 4 = .ok (.iload_n 1, 1) := by decide +kernel
theorem dX10_byteAt_5 : decode cX10_byteAt 5 = .ok (.aload_n 0, 1) := by decide +kernel
theorem dX10_byteAt_6 : decode cX10_byteAt 6 = .ok (.getfield 15, 3) := by decide +kernel
theorem dX10_byteAt_9 : decode cX10_byteAt 9 = .ok (.if_icmp .ge 21, 3) := by decide +kernel
theorem dX10_byteAt_12 : decode cX10_byteAt 12 = .ok (.iload_n 1, 1) := by decide +kernel
theorem dX10_byteAt_13 : decode cX10_byteAt 13 = .ok (.aload_n 0, 1) := by decide +kernel
theorem dX10_byteAt_14 : decode cX10_byteAt 14 = .ok (.getfield 9, 3) := by decide +kernel
theorem dX10_byteAt_17 : decode cX10_byteAt 17 = .ok (.arraylength, 1) := by decide +kernel
theorem dX10_byteAt_18 : decode cX10_byteAt 18 = .ok (.if_icmp .ge 12, 3) := by decide +kernel
theorem dX10_byteAt_21 : decode cX10_byteAt 21 = .ok (.aload_n 0, 1) := by decide +kernel
theorem dX10_byteAt_22 : decode cX10_byteAt 22 = .ok (.getfield 9, 3) := by decide +kernel
theorem dX10_byteAt_25 : decode cX10_byteAt 25 = .ok (.iload_n 1, 1) := by decide +kernel
theorem dX10_byteAt_26 : decode cX10_byteAt 26 = .ok (.caload, 1) := by decide +kernel
theorem dX10_byteAt_27 : decode cX10_byteAt 27 = .ok (.goto 4, 3) := by decide +kernel
theorem dX10_byteAt_30 : decode cX10_byteAt 30 = .ok (.iconst 0, 1) := by decide +kernel
theorem dX10_byteAt_31 : decode cX10_byteAt 31 = .ok (.ireturn, 1) := by decide +kernel
theorem dX10_isLetter_0 : decode cX10_isLetter 0 = .ok (.iload_n 0, 1) := by decide +kernel
theorem dX10_isLetter_1 : decode cX10_isLetter 1 = .ok (.bipush 97, 2) := by decide +kernel
theorem dX10_isLetter_3 : decode cX10_isLetter 3 = .ok (.if_icmp .lt 13, 3) := by decide +kernel
theorem dX10_isLetter_6 : decode cX10_isLetter 6 = .ok (.iload_n 0, 1) := by decide +kernel
theorem dX10_isLetter_7 : decode cX10_isLetter 7 = .ok (.bipush 122, 2) := by decide +kernel
theorem dX10_isLetter_9 : decode cX10_isLetter 9 = .ok (.if_icmp .gt 7, 3) := by decide +kernel
theorem dX10_isLetter_12 : decode cX10_isLetter 12 = .ok (.iconst 1, 1) := by decide +kernel
theorem dX10_isLetter_13 : decode cX10_isLetter 13 = .ok (.goto 4, 3) := by decide +kernel
theorem dX10_isLetter_16 : decode cX10_isLetter 16 = .ok (.iconst 0, 1) := by decide +kernel
theorem dX10_isLetter_17 : decode cX10_isLetter 17 = .ok (.ireturn, 1) := by decide +kernel
theorem dX10_isDigit_0 : decode cX10_isDigit 0 = .ok (.iload_n 0, 1) := by decide +kernel
theorem dX10_isDigit_1 : decode cX10_isDigit 1 = .ok (.bipush 48, 2) := by decide +kernel
theorem dX10_isDigit_3 : decode cX10_isDigit 3 = .ok (.if_icmp .lt 13, 3) := by decide +kernel
theorem dX10_isDigit_6 : decode cX10_isDigit 6 = .ok (.iload_n 0, 1) := by decide +kernel
theorem dX10_isDigit_7 : decode cX10_isDigit 7 = .ok (.bipush 57, 2) := by decide +kernel
theorem dX10_isDigit_9 : decode cX10_isDigit 9 = .ok (.if_icmp .gt 7, 3) := by decide +kernel
theorem dX10_isDigit_12 : decode cX10_isDigit 12 = .ok (.iconst 1, 1) := by decide +kernel
theorem dX10_isDigit_13 : decode cX10_isDigit 13 = .ok (.goto 4, 3) := by decide +kernel
theorem dX10_isDigit_16 : decode cX10_isDigit 16 = .ok (.iconst 0, 1) := by decide +kernel
theorem dX10_isDigit_17 : decode cX10_isDigit 17 = .ok (.ireturn, 1) := by decide +kernel
theorem dX11_smudge_0 : decode cX11_smudge 0 = .ok (.iload_n 1, 1) := by decide +kernel
theorem dX11_smudge_1 : decode cX11_smudge 1 = .ok (.invokestatic 78, 3) := by decide +kernel
theorem dX11_smudge_4 : decode cX11_smudge 4 = .ok (.ifCond .eq 12, 3) := by decide +kernel
theorem dX11_smudge_7 : decode cX11_smudge 7 = .ok (.iload_n 2, 1) := by decide +kernel
theorem dX11_smudge_8 : decode cX11_smudge 8 = .ok (.iconst 0, 1) := by decide +kernel
theorem dX11_smudge_9 : decode cX11_smudge 9 = .ok (.iconst 1, 1) := by decide +kernel
theorem dX11_smudge_10 : decode cX11_smudge 10 = .ok (.invokestatic 82, 3) := by decide +kernel
theorem dX11_smudge_13 : decode cX11_smudge 13 = .ok (.ifCond .ne 10, 3) := by decide +kernel
theorem dX11_smudge_16 : decode cX11_smudge 16 = .ok (.aload_n 0, 1) := by decide +kernel
theorem dX11_smudge_17 : decode cX11_smudge 17 = .ok (.ldc 86, 2) := by decide +kernel
theorem dX11_smudge_19 : decode cX11_smudge 19 = .ok (.invokevirtual 87, 3) := by decide +kernel
theorem dX11_smudge_22 : decode cX11_smudge 22 = .ok (.ireturn, 1) := by decide +kernel
theorem dX11_smudge_23 : decode cX11_smudge 23 = .ok (.aload_n 0, 1) := by decide +kernel
theorem dX11_smudge_24 : decode cX11_smudge 24 = .ok (.getfield 50, 3) := by decide +kernel
theorem dX11_smudge_27 : decode cX11_smudge 27 = .ok (.getfield 91, 3) := by decide +kernel
theorem dX11_smudge_30 : decode cX11_smudge 30 = .ok (.iload_n 1, 1) := by decide +kernel
theorem dX11_smudge_31 : decode cX11_smudge 31 = .ok (.invokestatic 95, 3) := by decide +kernel
theorem dX11_smudge_34 : decode cX11_smudge 34 = .ok (.istore_n 3, 1) := by decide +kernel
theorem dX11_smudge_35 : decode cX11_smudge 35 = .ok (.aload_n 0, 1) := by decide +kernel
theorem dX11_smudge_36 : decode cX11_smudge 36 = .ok (.getfield 50, 3) := by decide +kernel
theorem dX11_smudge_39 : decode cX11_smudge 39 = .ok (.iload_n 1, 1) := by decide +kernel
theorem dX11_smudge_40 : decode cX11_smudge 40 = .ok (.iload_n 2, 1) := by decide +kernel
theorem dX11_smudge_41 : decode cX11_smudge 41 = .ok (.iconst 1, 1) := by decide +kernel
theorem dX11_smudge_42 : decode cX11_smudge 42 = .ok (.if_icmp .ne 7, 3) := by decide +kernel
theorem dX11_smudge_45 : decode cX11_smudge 45 = .ok (.iconst 1, 1) := by decide +kernel
theorem dX11_smudge_46 : decode cX11_smudge 46 = .ok (.goto 4, 3) := by decide +kernel
theorem dX11_smudge_49 : decode cX11_smudge 49 = .ok (.iconst 0, 1) := by decide +kernel
theorem dX11_smudge_50 : decode cX11_smudge 50 = .ok (.invokevirtual 99, 3) := by decide +kernel
theorem dX11_smudge_53 : decode cX11_smudge 53 = .ok (.iload_n 3, 1) := by decide +kernel
theorem dX11_smudge_54 : decode cX11_smudge 54 = .ok (.ireturn, 1) := by decide +kernel
theorem dX11_cell_0 : decode cX11_cell 0 = .ok (.iload_n 1, 1) := by decide +kernel
theorem dX11_cell_1 : decode cX11_cell 1 = .ok (.invokestatic 78, 3) := by decide +kernel
theorem dX11_cell_4 : decode cX11_cell 4 = .ok (.ifCond .ne 10, 3) := by decide +kernel
theorem dX11_cell_7 : decode cX11_cell 7 = .ok (.aload_n 0, 1) := by decide +kernel
theorem dX11_cell_8 : decode cX11_cell 8 = .ok (.ldc 86, 2) := by decide +kernel
theorem dX11_cell_10 : decode cX11_cell 10 = .ok (.invokevirtual 87, 3) := by decide +kernel
theorem dX11_cell_13 : decode cX11_cell 13 = .ok (.ireturn, 1) := by decide +kernel
theorem dX11_cell_14 : decode cX11_cell 14 = .ok (.iload_n 2, 1) := by decide +kernel
theorem dX11_cell_15 : decode cX11_cell 15 = .ok (.tableswitch 68 0 3 #[29, 41, 50, 59], 29) := by decide +kernel
theorem dX11_cell_44 : decode cX11_cell 44 = .ok (.aload_n 0, 1) := by decide +kernel
theorem dX11_cell_45 : decode cX11_cell 45 = .ok (.getfield 50, 3) := by decide +kernel
theorem dX11_cell_48 : decode cX11_cell 48 = .ok (.getfield 91, 3) := by decide +kernel
theorem dX11_cell_51 : decode cX11_cell 51 = .ok (.iload_n 1, 1) := by decide +kernel
theorem dX11_cell_52 : decode cX11_cell 52 = .ok (.invokestatic 95, 3) := by decide +kernel
theorem dX11_cell_55 : decode cX11_cell 55 = .ok (.ireturn, 1) := by decide +kernel
theorem dX11_cell_56 : decode cX11_cell 56 = .ok (.aload_n 0, 1) := by decide +kernel
theorem dX11_cell_57 : decode cX11_cell 57 = .ok (.getfield 50, 3) := by decide +kernel
theorem dX11_cell_60 : decode cX11_cell 60 = .ok (.iload_n 1, 1) := by decide +kernel
theorem dX11_cell_61 : decode cX11_cell 61 = .ok (.invokevirtual 103, 3) := by decide +kernel
theorem dX11_cell_64 : decode cX11_cell 64 = .ok (.ireturn, 1) := by decide +kernel
theorem dX11_cell_65 : decode cX11_cell 65 = .ok (.aload_n 0, 1) := by decide +kernel
theorem dX11_cell_66 : decode cX11_cell 66 = .ok (.getfield 50, 3) := by decide +kernel
theorem dX11_cell_69 : decode cX11_cell 69 = .ok (.iload_n 1, 1) := by decide +kernel
theorem dX11_cell_70 : decode cX11_cell 70 = .ok (.invokevirtual 106, 3) := by decide +kernel
theorem dX11_cell_73 : decode cX11_cell 73 = .ok (.ireturn, 1) := by decide +kernel
theorem dX11_cell_74 : decode cX11_cell 74 = .ok (.aload_n 0, 1) := by decide +kernel
theorem dX11_cell_75 : decode cX11_cell 75 = .ok (.getfield 50, 3) := by decide +kernel
theorem dX11_cell_78 : decode cX11_cell 78 = .ok (.iload_n 1, 1) := by decide +kernel
theorem dX11_cell_79 : decode cX11_cell 79 = .ok (.invokevirtual 109, 3) := by decide +kernel
theorem dX11_cell_82 : decode cX11_cell 82 = .ok (.ireturn, 1) := by decide +kernel
theorem dX11_cell_83 : decode cX11_cell 83 = .ok (.aload_n 0, 1) := by decide +kernel
theorem dX11_cell_84 : decode cX11_cell 84 = .ok (.ldc 86, 2) := by decide +kernel
theorem dX11_cell_86 : decode cX11_cell 86 = .ok (.invokevirtual 87, 3) := by decide +kernel
theorem dX11_cell_89 : decode cX11_cell 89 = .ok (.ireturn, 1) := by decide +kernel
theorem dX11_cells_0 : decode cX11_cells 0 = .ok (.iload_n 1, 1) := by decide +kernel
theorem dX11_cells_1 : decode cX11_cells 1 = .ok (.tableswitch 51 0 2 #[27, 35, 43], 27) := by decide +kernel
theorem dX11_cells_28 : decode cX11_cells 28 = .ok (.aload_n 0, 1) := by decide +kernel
theorem dX11_cells_29 : decode cX11_cells 29 = .ok (.getfield 50, 3) := by decide +kernel
theorem dX11_cells_32 : decode cX11_cells 32 = .ok (.getfield 91, 3) := by decide +kernel
theorem dX11_cells_35 : decode cX11_cells 35 = .ok (.lreturn, 1) := by decide +kernel
theorem dX11_cells_36 : decode cX11_cells 36 = .ok (.aload_n 0, 1) := by decide +kernel
theorem dX11_cells_37 : decode cX11_cells 37 = .ok (.getfield 50, 3) := by decide +kernel
theorem dX11_cells_40 : decode cX11_cells 40 = .ok (.invokevirtual 112, 3) := by decide +kernel
theorem dX11_cells_43 : decode cX11_cells 43 = .ok (.lreturn, 1) := by decide +kernel
theorem dX11_cells_44 : decode cX11_cells 44 = .ok (.aload_n 0, 1) := by decide +kernel
theorem dX11_cells_45 : decode cX11_cells 45 = .ok (.getfield 50, 3) := by decide +kernel
theorem dX11_cells_48 : decode cX11_cells 48 = .ok (.invokevirtual 116, 3) := by decide +kernel
theorem dX11_cells_51 : decode cX11_cells 51 = .ok (.lreturn, 1) := by decide +kernel
theorem dX11_cells_52 : decode cX11_cells 52 = .ok (.aload_n 0, 1) := by decide +kernel
theorem dX11_cells_53 : decode cX11_cells 53 = .ok (.ldc 86, 2) := by decide +kernel
theorem dX11_cells_55 : decode cX11_cells 55 = .ok (.invokevirtual 87, 3) := by decide +kernel
theorem dX11_cells_58 : decode cX11_cells 58 = .ok (.i2l, 1) := by decide +kernel
theorem dX11_cells_59 : decode cX11_cells 59 = .ok (.lreturn, 1) := by decide +kernel
theorem dX11_hand_0 : decode cX11_hand 0 = .ok (.iload_n 1, 1) := by decide +kernel
theorem dX11_hand_1 : decode cX11_hand 1 = .ok (.invokestatic 119, 3) := by decide +kernel
theorem dX11_hand_4 : decode cX11_hand 4 = .ok (.ifCond .eq 10, 3) := by decide +kernel
theorem dX11_hand_7 : decode cX11_hand 7 = .ok (.iload_n 2, 1) := by decide +kernel
theorem dX11_hand_8 : decode cX11_hand 8 = .ok (.invokestatic 78, 3) := by decide +kernel
theorem dX11_hand_11 : decode cX11_hand 11 = .ok (.ifCond .ne 10, 3) := by decide +kernel
theorem dX11_hand_14 : decode cX11_hand 14 = .ok (.aload_n 0, 1) := by decide +kernel
theorem dX11_hand_15 : decode cX11_hand 15 = .ok (.ldc 86, 2) := by decide +kernel
theorem dX11_hand_17 : decode cX11_hand 17 = .ok (.invokevirtual 87, 3) := by decide +kernel
theorem dX11_hand_20 : decode cX11_hand 20 = .ok (.ireturn, 1) := by decide +kernel
theorem dX11_hand_21 : decode cX11_hand 21 = .ok (.aload_n 0, 1) := by decide +kernel
theorem dX11_hand_22 : decode cX11_hand 22 = .ok (.getfield 50, 3) := by decide +kernel
theorem dX11_hand_25 : decode cX11_hand 25 = .ok (.aload_n 0, 1) := by decide +kernel
theorem dX11_hand_26 : decode cX11_hand 26 = .ok (.getfield 41, 3) := by decide +kernel
theorem dX11_hand_29 : decode cX11_hand 29 = .ok (.iload_n 1, 1) := by decide +kernel
theorem dX11_hand_30 : decode cX11_hand 30 = .ok (.aaload, 1) := by decide +kernel
theorem dX11_hand_31 : decode cX11_hand 31 = .ok (.iload_n 2, 1) := by decide +kernel
theorem dX11_hand_32 : decode cX11_hand 32 = .ok (.invokevirtual 122, 3) := by decide +kernel
theorem dX11_hand_35 : decode cX11_hand 35 = .ok (.astore_n 3, 1) := by decide +kernel
theorem dX11_hand_36 : decode cX11_hand 36 = .ok (.aload_n 3, 1) := by decide +kernel
theorem dX11_hand_37 : decode cX11_hand 37 = .ok (.ifnonnull 12, 3) := by decide +kernel
theorem dX11_hand_40 : decode cX11_hand 40 = .ok (.aload_n 0, 1) := by decide +kernel
theorem dX11_hand_41 : decode cX11_hand 41 = .ok (.ldc 126, 2) := by decide +kernel
theorem dX11_hand_43 : decode cX11_hand 43 = .ok (.invokevirtual 87, 3) := by decide +kernel
theorem dX11_hand_46 : decode cX11_hand 46 = .ok (.goto 12, 3) := by decide +kernel
theorem dX11_hand_49 : decode cX11_hand 49 = .ok (.aload_n 0, 1) := by decide +kernel
theorem dX11_hand_50 : decode cX11_hand 50 = .ok (.getfield 50, 3) := by decide +kernel
theorem dX11_hand_53 : decode cX11_hand 53 = .ok (.getfield 127, 3) := by decide +kernel
theorem dX11_hand_56 : decode cX11_hand 56 = .ok (.iconst 1, 1) := by decide +kernel
theorem dX11_hand_57 : decode cX11_hand 57 = .ok (.isub, 1) := by decide +kernel
theorem dX11_hand_58 : decode cX11_hand 58 = .ok (.ireturn, 1) := by decide +kernel
theorem dX11_stroke_0 : decode cX11_stroke 0 = .ok (.aload_n 0, 1) := by decide +kernel
theorem dX11_stroke_1 : decode cX11_stroke 1 = .ok (.getfield 50, 3) := by decide +kernel
theorem dX11_stroke_4 : decode cX11_stroke 4 = .ok (.iload_n 1, 1) := by decide +kernel
theorem dX11_stroke_5 : decode cX11_stroke 5 = .ok (.invokevirtual 131, 3) := by decide +kernel
theorem dX11_stroke_8 : decode cX11_stroke 8 = .ok (.astore 4, 2) := by decide +kernel
theorem dX11_stroke_10 : decode cX11_stroke 10 = .ok (.aload 4, 2) := by decide +kernel
theorem dX11_stroke_12 : decode cX11_stroke 12 = .ok (.ifnull 17, 3) := by decide +kernel
theorem dX11_stroke_15 : decode cX11_stroke 15 = .ok (.iload_n 2, 1) := by decide +kernel
theorem dX11_stroke_16 : decode cX11_stroke 16 = .ok (.invokestatic 135, 3) := by decide +kernel
theorem dX11_stroke_19 : decode cX11_stroke 19 = .ok (.ifCond .eq 10, 3) := by decide +kernel
theorem dX11_stroke_22 : decode cX11_stroke 22 = .ok (.iload_n 3, 1) := by decide +kernel
theorem dX11_stroke_23 : decode cX11_stroke 23 = .ok (.invokestatic 138, 3) := by decide +kernel
theorem dX11_stroke_26 : decode cX11_stroke 26 = .ok (.ifCond .ne 10, 3) := by decide +kernel
theorem dX11_stroke_29 : decode cX11_stroke 29 = .ok (.aload_n 0, 1) := by decide +kernel
theorem dX11_stroke_30 : decode cX11_stroke 30 = .ok (.ldc 86, 2) := by decide +kernel
theorem dX11_stroke_32 : decode cX11_stroke 32 = .ok (.invokevirtual 87, 3) := by decide +kernel
theorem dX11_stroke_35 : decode cX11_stroke 35 = .ok (.ireturn, 1) := by decide +kernel
theorem dX11_stroke_36 : decode cX11_stroke 36 = .ok (.aload 4, 2) := by decide +kernel
theorem dX11_stroke_38 : decode cX11_stroke 38 = .ok (.iload_n 2, 1) := by decide +kernel
theorem dX11_stroke_39 : decode cX11_stroke 39 = .ok (.iload_n 3, 1) := by decide +kernel
theorem dX11_stroke_40 : decode cX11_stroke 40 = .ok (.invokevirtual 141, 3) := by decide +kernel
theorem dX11_stroke_43 : decode cX11_stroke 43 = .ok (.ifCond .ne 10, 3) := by decide +kernel
theorem dX11_stroke_46 : decode cX11_stroke 46 = .ok (.aload_n 0, 1) := by decide +kernel
theorem dX11_stroke_47 : decode cX11_stroke 47 = .ok (.ldc 126, 2) := by decide +kernel
theorem dX11_stroke_49 : decode cX11_stroke 49 = .ok (.invokevirtual 87, 3) := by decide +kernel
theorem dX11_stroke_52 : decode cX11_stroke 52 = .ok (.ireturn, 1) := by decide +kernel
theorem dX11_stroke_53 : decode cX11_stroke 53 = .ok (.aload 4, 2) := by decide +kernel
theorem dX11_stroke_55 : decode cX11_stroke 55 = .ok (.invokevirtual 147, 3) := by decide +kernel
theorem dX11_stroke_58 : decode cX11_stroke 58 = .ok (.aload 4, 2) := by decide +kernel
theorem dX11_stroke_60 : decode cX11_stroke 60 = .ok (.getfield 150, 3) := by decide +kernel
theorem dX11_stroke_63 : decode cX11_stroke 63 = .ok (.ireturn, 1) := by decide +kernel
theorem dX11_of_0 : decode cX11_of 0 = .ok (.aload_n 0, 1) := by decide +kernel
theorem dX11_of_1 : decode cX11_of 1 = .ok (.getfield 50, 3) := by decide +kernel
theorem dX11_of_4 : decode cX11_of 4 = .ok (.iload_n 1, 1) := by decide +kernel
theorem dX11_of_5 : decode cX11_of 5 = .ok (.invokevirtual 131, 3) := by decide +kernel
theorem dX11_of_8 : decode cX11_of 8 = .ok (.astore_n 3, 1) := by decide +kernel
theorem dX11_of_9 : decode cX11_of 9 = .ok (.aload_n 3, 1) := by decide +kernel
theorem dX11_of_10 : decode cX11_of 10 = .ok (.ifnonnull 10, 3) := by decide +kernel
theorem dX11_of_13 : decode cX11_of 13 = .ok (.aload_n 0, 1) := by decide +kernel
theorem dX11_of_14 : decode cX11_of 14 = .ok (.ldc 86, 2) := by decide +kernel
theorem dX11_of_16 : decode cX11_of 16 = .ok (.invokevirtual 87, 3) := by decide +kernel
theorem dX11_of_19 : decode cX11_of 19 = .ok (.ireturn, 1) := by decide +kernel
theorem dX11_of_20 : decode cX11_of 20 = .ok (.iload_n 2, 1) := by decide +kernel
theorem dX11_of_21 : decode cX11_of 21 = .ok (.tableswitch 130 0 9 #[55, 63, 68, 73, 78, 83, 88, 101, 113, 122], 55) := by decide +kernel
theorem dX11_of_76 : decode cX11_of 76 = .ok (.aload_n 3, 1) := by decide +kernel
theorem dX11_of_77 : decode cX11_of 77 = .ok (.getfield 153, 3) := by decide +kernel
theorem dX11_of_80 : decode cX11_of 80 = .ok (.getfield 157, 3) := by decide +kernel
theorem dX11_of_83 : decode cX11_of 83 = .ok (.ireturn, 1) := by decide +kernel
theorem dX11_of_84 : decode cX11_of 84 = .ok (.aload_n 3, 1) := by decide +kernel
theorem dX11_of_85 : decode cX11_of 85 = .ok (.getfield 160, 3) := by decide +kernel
theorem dX11_of_88 : decode cX11_of 88 = .ok (.ireturn, 1) := by decide +kernel
theorem dX11_of_89 : decode cX11_of 89 = .ok (.aload_n 3, 1) := by decide +kernel
theorem dX11_of_90 : decode cX11_of 90 = .ok (.getfield 163, 3) := by decide +kernel
theorem dX11_of_93 : decode cX11_of 93 = .ok (.ireturn, 1) := by decide +kernel
theorem dX11_of_94 : decode cX11_of 94 = .ok (.aload_n 3, 1) := by decide +kernel
theorem dX11_of_95 : decode cX11_of 95 = .ok (.getfield 166, 3) := by decide +kernel
theorem dX11_of_98 : decode cX11_of 98 = .ok (.ireturn, 1) := by decide +kernel
theorem dX11_of_99 : decode cX11_of 99 = .ok (.aload_n 3, 1) := by decide +kernel
theorem dX11_of_100 : decode cX11_of 100 = .ok (.getfield 150, 3) := by decide +kernel
theorem dX11_of_103 : decode cX11_of 103 = .ok (.ireturn, 1) := by decide +kernel
theorem dX11_of_104 : decode cX11_of 104 = .ok (.aload_n 3, 1) := by decide +kernel
theorem dX11_of_105 : decode cX11_of 105 = .ok (.getfield 169, 3) := by decide +kernel
theorem dX11_of_108 : decode cX11_of 108 = .ok (.ireturn, 1) := by decide +kernel
theorem dX11_of_109 : decode cX11_of 109 = .ok (.aload_n 3, 1) := by decide +kernel
theorem dX11_of_110 : decode cX11_of 110 = .ok (.invokevirtual 172, 3) := by decide +kernel
theorem dX11_of_113 : decode cX11_of 113 = .ok (.ifCond .eq 7, 3) := by decide +kernel
theorem dX11_of_116 : decode cX11_of 116 = .ok (.iconst 1, 1) := by decide +kernel
theorem dX11_of_117 : decode cX11_of 117 = .ok (.goto 4, 3) := by decide +kernel
theorem dX11_of_120 : decode cX11_of 120 = .ok (.iconst 0, 1) := by decide +kernel
theorem dX11_of_121 : decode cX11_of 121 = .ok (.ireturn, 1) := by decide +kernel
theorem dX11_of_122 : decode cX11_of 122 = .ok (.aload_n 3, 1) := by decide +kernel
theorem dX11_of_123 : decode cX11_of 123 = .ok (.aload_n 0, 1) := by decide +kernel
theorem dX11_of_124 : decode cX11_of 124 = .ok (.getfield 50, 3) := by decide +kernel
theorem dX11_of_127 : decode cX11_of 127 = .ok (.getfield 91, 3) := by decide +kernel
theorem dX11_of_130 : decode cX11_of 130 = .ok (.invokevirtual 176, 3) := by decide +kernel
theorem dX11_of_133 : decode cX11_of 133 = .ok (.ireturn, 1) := by decide +kernel
theorem dX11_of_134 : decode cX11_of 134 = .ok (.aload_n 0, 1) := by decide +kernel
theorem dX11_of_135 : decode cX11_of 135 = .ok (.getfield 50, 3) := by decide +kernel
theorem dX11_of_138 : decode cX11_of 138 = .ok (.iload_n 1, 1) := by decide +kernel
theorem dX11_of_139 : decode cX11_of 139 = .ok (.invokevirtual 180, 3) := by decide +kernel
theorem dX11_of_142 : decode cX11_of 142 = .ok (.ireturn, 1) := by decide +kernel
theorem dX11_of_143 : decode cX11_of 143 = .ok (.aload_n 3, 1) := by decide +kernel
theorem dX11_of_144 : decode cX11_of 144 = .ok (.getfield 153, 3) := by decide +kernel
theorem dX11_of_147 : decode cX11_of 147 = .ok (.invokevirtual 183, 3) := by decide +kernel
theorem dX11_of_150 : decode cX11_of 150 = .ok (.ireturn, 1) := by decide +kernel
theorem dX11_of_151 : decode cX11_of 151 = .ok (.aload_n 0, 1) := by decide +kernel
theorem dX11_of_152 : decode cX11_of 152 = .ok (.ldc 86, 2) := by decide +kernel
theorem dX11_of_154 : decode cX11_of 154 = .ok (.invokevirtual 87, 3) := by decide +kernel
theorem dX11_of_157 : decode cX11_of 157 = .ok (.ireturn, 1) := by decide +kernel
theorem dX11_told_0 : decode cX11_told 0 = .ok (.aload_n 0, 1) := by decide +kernel
theorem dX11_told_1 : decode cX11_told 1 = .ok (.getfield 50, 3) := by decide +kernel
theorem dX11_told_4 : decode cX11_told 4 = .ok (.iload_n 1, 1) := by decide +kernel
theorem dX11_told_5 : decode cX11_told 5 = .ok (.invokevirtual 131, 3) := by decide +kernel
theorem dX11_told_8 : decode cX11_told 8 = .ok (.astore 4, 2) := by decide +kernel
theorem dX11_told_10 : decode cX11_told 10 = .ok (.aload 4, 2) := by decide +kernel
theorem dX11_told_12 : decode cX11_told 12 = .ok (.ifnull 12, 3) := by decide +kernel
theorem dX11_told_15 : decode cX11_told 15 = .ok (.aload 4, 2) := by decide +kernel
theorem dX11_told_17 : decode cX11_told 17 = .ok (.iload_n 2, 1) := by decide +kernel
theorem dX11_told_18 : decode cX11_told 18 = .ok (.invokevirtual 187, 3) := by decide +kernel
theorem dX11_told_21 : decode cX11_told 21 = .ok (.ifCond .ne 10, 3) := by decide +kernel
theorem dX11_told_24 : decode cX11_told 24 = .ok (.aload_n 0, 1) := by decide +kernel
theorem dX11_told_25 : decode cX11_told 25 = .ok (.ldc 86, 2) := by decide +kernel
theorem dX11_told_27 : decode cX11_told 27 = .ok (.invokevirtual 87, 3) := by decide +kernel
theorem dX11_told_30 : decode cX11_told 30 = .ok (.ireturn, 1) := by decide +kernel
theorem dX11_told_31 : decode cX11_told 31 = .ok (.iload_n 3, 1) := by decide +kernel
theorem dX11_told_32 : decode cX11_told 32 = .ok (.tableswitch 81 0 3 #[32, 40, 48, 65], 32) := by decide +kernel
theorem dX11_told_64 : decode cX11_told 64 = .ok (.aload 4, 2) := by decide +kernel
theorem dX11_told_66 : decode cX11_told 66 = .ok (.getfield 190, 3) := by decide +kernel
theorem dX11_told_69 : decode cX11_told 69 = .ok (.iload_n 2, 1) := by decide +kernel
theorem dX11_told_70 : decode cX11_told 70 = .ok (.iaload, 1) := by decide +kernel
theorem dX11_told_71 : decode cX11_told 71 = .ok (.ireturn, 1) := by decide +kernel
theorem dX11_told_72 : decode cX11_told 72 = .ok (.aload 4, 2) := by decide +kernel
theorem dX11_told_74 : decode cX11_told 74 = .ok (.getfield 193, 3) := by decide +kernel
theorem dX11_told_77 : decode cX11_told 77 = .ok (.iload_n 2, 1) := by decide +kernel
theorem dX11_told_78 : decode cX11_told 78 = .ok (.iaload, 1) := by decide +kernel
theorem dX11_told_79 : decode cX11_told 79 = .ok (.ireturn, 1) := by decide +kernel
theorem dX11_told_80 : decode cX11_told 80 = .ok (.aload 4, 2) := by decide +kernel
theorem dX11_told_82 : decode cX11_told 82 = .ok (.getfield 153, 3) := by decide +kernel
theorem dX11_told_85 : decode cX11_told 85 = .ok (.iload_n 2, 1) := by decide +kernel
theorem dX11_told_86 : decode cX11_told 86 = .ok (.aload 4, 2) := by decide +kernel
theorem dX11_told_88 : decode cX11_told 88 = .ok (.getfield 193, 3) := by decide +kernel
theorem dX11_told_91 : decode cX11_told 91 = .ok (.iload_n 2, 1) := by decide +kernel
theorem dX11_told_92 : decode cX11_told 92 = .ok (.iaload, 1) := by decide +kernel
theorem dX11_told_93 : decode cX11_told 93 = .ok (.invokevirtual 196, 3) := by decide +kernel
theorem dX11_told_96 : decode cX11_told 96 = .ok (.ireturn, 1) := by decide +kernel
theorem dX11_told_97 : decode cX11_told 97 = .ok (.aload 4, 2) := by decide +kernel
theorem dX11_told_99 : decode cX11_told 99 = .ok (.getfield 153, 3) := by decide +kernel
theorem dX11_told_102 : decode cX11_told 102 = .ok (.aload 4, 2) := by decide +kernel
theorem dX11_told_104 : decode cX11_told 104 = .ok (.getfield 190, 3) := by decide +kernel
theorem dX11_told_107 : decode cX11_told 107 = .ok (.iload_n 2, 1) := by decide +kernel
theorem dX11_told_108 : decode cX11_told 108 = .ok (.iaload, 1) := by decide +kernel
theorem dX11_told_109 : decode cX11_told 109 = .ok (.invokevirtual 200, 3) := by decide +kernel
theorem dX11_told_112 : decode cX11_told 112 = .ok (.ireturn, 1) := by decide +kernel
theorem dX11_told_113 : decode cX11_told 113 = .ok (.aload_n 0, 1) := by decide +kernel
theorem dX11_told_114 : decode cX11_told 114 = .ok (.ldc 86, 2) := by decide +kernel
theorem dX11_told_116 : decode cX11_told 116 = .ok (.invokevirtual 87, 3) := by decide +kernel
theorem dX11_told_119 : decode cX11_told 119 = .ok (.ireturn, 1) := by decide +kernel
theorem dX11_set_0 : decode cX11_set 0 = .ok (.aload_n 0, 1) := by decide +kernel
theorem dX11_set_1 : decode cX11_set 1 = .ok (.getfield 50, 3) := by decide +kernel
theorem dX11_set_4 : decode cX11_set 4 = .ok (.iload_n 1, 1) := by decide +kernel
theorem dX11_set_5 : decode cX11_set 5 = .ok (.invokevirtual 131, 3) := by decide +kernel
theorem dX11_set_8 : decode cX11_set 8 = .ok (.astore 4, 2) := by decide +kernel
theorem dX11_set_10 : decode cX11_set 10 = .ok (.aload 4, 2) := by decide +kernel
theorem dX11_set_12 : decode cX11_set 12 = .ok (.ifnull 31, 3) := by decide +kernel
theorem dX11_set_15 : decode cX11_set 15 = .ok (.iload_n 2, 1) := by decide +kernel
theorem dX11_set_16 : decode cX11_set 16 = .ok (.iconst 1, 1) := by decide +kernel
theorem dX11_set_17 : decode cX11_set 17 = .ok (.if_icmp .ne 26, 3) := by decide +kernel
theorem dX11_set_20 : decode cX11_set 20 = .ok (.iload_n 3, 1) := by decide +kernel
theorem dX11_set_21 : decode cX11_set 21 = .ok (.invokestatic 78, 3) := by decide +kernel
theorem dX11_set_24 : decode cX11_set 24 = .ok (.ifCond .eq 19, 3) := by decide +kernel
theorem dX11_set_27 : decode cX11_set 27 = .ok (.aload 4, 2) := by decide +kernel
theorem dX11_set_29 : decode cX11_set 29 = .ok (.getfield 160, 3) := by decide +kernel
theorem dX11_set_32 : decode cX11_set 32 = .ok (.istore 5, 2) := by decide +kernel
theorem dX11_set_34 : decode cX11_set 34 = .ok (.aload 4, 2) := by decide +kernel
theorem dX11_set_36 : decode cX11_set 36 = .ok (.iload_n 3, 1) := by decide +kernel
theorem dX11_set_37 : decode cX11_set 37 = .ok (.invokevirtual 203, 3) := by decide +kernel
theorem dX11_set_40 : decode cX11_set 40 = .ok (.iload 5, 2) := by decide +kernel
theorem dX11_set_42 : decode cX11_set 42 = .ok (.ireturn, 1) := by decide +kernel
theorem dX11_set_43 : decode cX11_set 43 = .ok (.aload 4, 2) := by decide +kernel
theorem dX11_set_45 : decode cX11_set 45 = .ok (.ifnull 31, 3) := by decide +kernel
theorem dX11_set_48 : decode cX11_set 48 = .ok (.iload_n 2, 1) := by decide +kernel
theorem dX11_set_49 : decode cX11_set 49 = .ok (.iconst 2, 1) := by decide +kernel
theorem dX11_set_50 : decode cX11_set 50 = .ok (.if_icmp .ne 26, 3) := by decide +kernel
theorem dX11_set_53 : decode cX11_set 53 = .ok (.iload_n 3, 1) := by decide +kernel
theorem dX11_set_54 : decode cX11_set 54 = .ok (.invokestatic 207, 3) := by decide +kernel
theorem dX11_set_57 : decode cX11_set 57 = .ok (.ifCond .eq 19, 3) := by decide +kernel
theorem dX11_set_60 : decode cX11_set 60 = .ok (.aload 4, 2) := by decide +kernel
theorem dX11_set_62 : decode cX11_set 62 = .ok (.getfield 163, 3) := by decide +kernel
theorem dX11_set_65 : decode cX11_set 65 = .ok (.istore 5, 2) := by decide +kernel
theorem dX11_set_67 : decode cX11_set 67 = .ok (.aload 4, 2) := by decide +kernel
theorem dX11_set_69 : decode cX11_set 69 = .ok (.iload_n 3, 1) := by decide +kernel
theorem dX11_set_70 : decode cX11_set 70 = .ok (.putfield 163, 3) := by decide +kernel
theorem dX11_set_73 : decode cX11_set 73 = .ok (.iload 5, 2) := by decide +kernel
theorem dX11_set_75 : decode cX11_set 75 = .ok (.ireturn, 1) := by decide +kernel
theorem dX11_set_76 : decode cX11_set 76 = .ok (.aload_n 0, 1) := by decide +kernel
theorem dX11_set_77 : decode cX11_set 77 = .ok (.ldc 86, 2) := by decide +kernel
theorem dX11_set_79 : decode cX11_set 79 = .ok (.invokevirtual 87, 3) := by decide +kernel
theorem dX11_set_82 : decode cX11_set 82 = .ok (.ireturn, 1) := by decide +kernel
theorem dX11_alter_0 : decode cX11_alter 0 = .ok (.aload_n 0, 1) := by decide +kernel
theorem dX11_alter_1 : decode cX11_alter 1 = .ok (.getfield 50, 3) := by decide +kernel
theorem dX11_alter_4 : decode cX11_alter 4 = .ok (.iload_n 1, 1) := by decide +kernel
theorem dX11_alter_5 : decode cX11_alter 5 = .ok (.invokevirtual 131, 3) := by decide +kernel
theorem dX11_alter_8 : decode cX11_alter 8 = .ok (.astore 5, 2) := by decide +kernel
theorem dX11_alter_10 : decode cX11_alter 10 = .ok (.aload 5, 2) := by decide +kernel
theorem dX11_alter_12 : decode cX11_alter 12 = .ok (.ifnull 12, 3) := by decide +kernel
theorem dX11_alter_15 : decode cX11_alter 15 = .ok (.aload 5, 2) := by decide +kernel
theorem dX11_alter_17 : decode cX11_alter 17 = .ok (.iload_n 2, 1) := by decide +kernel
theorem dX11_alter_18 : decode cX11_alter 18 = .ok (.invokevirtual 187, 3) := by decide +kernel
theorem dX11_alter_21 : decode cX11_alter 21 = .ok (.ifCond .ne 10, 3) := by decide +kernel
theorem dX11_alter_24 : decode cX11_alter 24 = .ok (.aload_n 0, 1) := by decide +kernel
theorem dX11_alter_25 : decode cX11_alter 25 = .ok (.ldc 86, 2) := by decide +kernel
theorem dX11_alter_27 : decode cX11_alter 27 = .ok (.invokevirtual 87, 3) := by decide +kernel
theorem dX11_alter_30 : decode cX11_alter 30 = .ok (.ireturn, 1) := by decide +kernel
theorem dX11_alter_31 : decode cX11_alter 31 = .ok (.iload_n 3, 1) := by decide +kernel
theorem dX11_alter_32 : decode cX11_alter 32 = .ok (.ifCond .ne 37, 3) := by decide +kernel
theorem dX11_alter_35 : decode cX11_alter 35 = .ok (.iload 4, 2) := by decide +kernel
theorem dX11_alter_37 : decode cX11_alter 37 = .ok (.invokestatic 135, 3) := by decide +kernel
theorem dX11_alter_40 : decode cX11_alter 40 = .ok (.ifCond .eq 29, 3) := by decide +kernel
theorem dX11_alter_43 : decode cX11_alter 43 = .ok (.aload 5, 2) := by decide +kernel
theorem dX11_alter_45 : decode cX11_alter 45 = .ok (.getfield 190, 3) := by decide +kernel
theorem dX11_alter_48 : decode cX11_alter 48 = .ok (.iload_n 2, 1) := by decide +kernel
theorem dX11_alter_49 : decode cX11_alter 49 = .ok (.iaload, 1) := by decide +kernel
theorem dX11_alter_50 : decode cX11_alter 50 = .ok (.istore 6, 2) := by decide +kernel
theorem dX11_alter_52 : decode cX11_alter 52 = .ok (.aload 5, 2) := by decide +kernel
theorem dX11_alter_54 : decode cX11_alter 54 = .ok (.getfield 190, 3) := by decide +kernel
theorem dX11_alter_57 : decode cX11_alter 57 = .ok (.iload_n 2, 1) := by decide +kernel
theorem dX11_alter_58 : decode cX11_alter 58 = .ok (.iload 4, 2) := by decide +kernel
theorem dX11_alter_60 : decode cX11_alter 60 = .ok (.iastore, 1) := by decide +kernel
theorem dX11_alter_61 : decode cX11_alter 61 = .ok (.aload 5, 2) := by decide +kernel
theorem dX11_alter_63 : decode cX11_alter 63 = .ok (.invokevirtual 147, 3) := by decide +kernel
theorem dX11_alter_66 : decode cX11_alter 66 = .ok (.iload 6, 2) := by decide +kernel
theorem dX11_alter_68 : decode cX11_alter 68 = .ok (.ireturn, 1) := by decide +kernel
theorem dX11_alter_69 : decode cX11_alter 69 = .ok (.iload_n 3, 1) := by decide +kernel
theorem dX11_alter_70 : decode cX11_alter 70 = .ok (.iconst 1, 1) := by decide +kernel
theorem dX11_alter_71 : decode cX11_alter 71 = .ok (.if_icmp .ne 37, 3) := by decide +kernel
theorem dX11_alter_74 : decode cX11_alter 74 = .ok (.iload 4, 2) := by decide +kernel
theorem dX11_alter_76 : decode cX11_alter 76 = .ok (.invokestatic 138, 3) := by decide +kernel
theorem dX11_alter_79 : decode cX11_alter 79 = .ok (.ifCond .eq 29, 3) := by decide +kernel
theorem dX11_alter_82 : decode cX11_alter 82 = .ok (.aload 5, 2) := by decide +kernel
theorem dX11_alter_84 : decode cX11_alter 84 = .ok (.getfield 193, 3) := by decide +kernel
theorem dX11_alter_87 : decode cX11_alter 87 = .ok (.iload_n 2, 1) := by decide +kernel
theorem dX11_alter_88 : decode cX11_alter 88 = .ok (.iaload, 1) := by decide +kernel
theorem dX11_alter_89 : decode cX11_alter 89 = .ok (.istore 6, 2) := by decide +kernel
theorem dX11_alter_91 : decode cX11_alter 91 = .ok (.aload 5, 2) := by decide +kernel
theorem dX11_alter_93 : decode cX11_alter 93 = .ok (.getfield 193, 3) := by decide +kernel
theorem dX11_alter_96 : decode cX11_alter 96 = .ok (.iload_n 2, 1) := by decide +kernel
theorem dX11_alter_97 : decode cX11_alter 97 = .ok (.iload 4, 2) := by decide +kernel
theorem dX11_alter_99 : decode cX11_alter 99 = .ok (.iastore, 1) := by decide +kernel
theorem dX11_alter_100 : decode cX11_alter 100 = .ok (.aload 5, 2) := by decide +kernel
theorem dX11_alter_102 : decode cX11_alter 102 = .ok (.invokevirtual 147, 3) := by decide +kernel
theorem dX11_alter_105 : decode cX11_alter 105 = .ok (.iload 6, 2) := by decide +kernel
theorem dX11_alter_107 : decode cX11_alter 107 = .ok (.ireturn, 1) := by decide +kernel
theorem dX11_alter_108 : decode cX11_alter 108 = .ok (.aload_n 0, 1) := by decide +kernel
theorem dX11_alter_109 : decode cX11_alter 109 = .ok (.ldc 86, 2) := by decide +kernel
theorem dX11_alter_111 : decode cX11_alter 111 = .ok (.invokevirtual 87, 3) := by decide +kernel
theorem dX11_alter_114 : decode cX11_alter 114 = .ok (.ireturn, 1) := by decide +kernel
theorem dX11_cut_0 : decode cX11_cut 0 = .ok (.aload_n 0, 1) := by decide +kernel
theorem dX11_cut_1 : decode cX11_cut 1 = .ok (.getfield 50, 3) := by decide +kernel
theorem dX11_cut_4 : decode cX11_cut 4 = .ok (.iload_n 1, 1) := by decide +kernel
theorem dX11_cut_5 : decode cX11_cut 5 = .ok (.invokevirtual 131, 3) := by decide +kernel
theorem dX11_cut_8 : decode cX11_cut 8 = .ok (.astore_n 3, 1) := by decide +kernel
theorem dX11_cut_9 : decode cX11_cut 9 = .ok (.aload_n 3, 1) := by decide +kernel
theorem dX11_cut_10 : decode cX11_cut 10 = .ok (.ifnull 15, 3) := by decide +kernel
theorem dX11_cut_13 : decode cX11_cut 13 = .ok (.iload_n 2, 1) := by decide +kernel
theorem dX11_cut_14 : decode cX11_cut 14 = .ok (.iconst 0, 1) := by decide +kernel
theorem dX11_cut_15 : decode cX11_cut 15 = .ok (.aload_n 3, 1) := by decide +kernel
theorem dX11_cut_16 : decode cX11_cut 16 = .ok (.getfield 150, 3) := by decide +kernel
theorem dX11_cut_19 : decode cX11_cut 19 = .ok (.invokestatic 82, 3) := by decide +kernel
theorem dX11_cut_22 : decode cX11_cut 22 = .ok (.ifCond .ne 10, 3) := by decide +kernel
theorem dX11_cut_25 : decode cX11_cut 25 = .ok (.aload_n 0, 1) := by decide +kernel
theorem dX11_cut_26 : decode cX11_cut 26 = .ok (.ldc 86, 2) := by decide +kernel
theorem dX11_cut_28 : decode cX11_cut 28 = .ok (.invokevirtual 87, 3) := by decide +kernel
theorem dX11_cut_31 : decode cX11_cut 31 = .ok (.ireturn, 1) := by decide +kernel
theorem dX11_cut_32 : decode cX11_cut 32 = .ok (.aload_n 3, 1) := by decide +kernel
theorem dX11_cut_33 : decode cX11_cut 33 = .ok (.getfield 150, 3) := by decide +kernel
theorem dX11_cut_36 : decode cX11_cut 36 = .ok (.istore 4, 2) := by decide +kernel
theorem dX11_cut_38 : decode cX11_cut 38 = .ok (.aload_n 3, 1) := by decide +kernel
theorem dX11_cut_39 : decode cX11_cut 39 = .ok (.iload_n 2, 1) := by decide +kernel
theorem dX11_cut_40 : decode cX11_cut 40 = .ok (.putfield 150, 3) := by decide +kernel
theorem dX11_cut_43 : decode cX11_cut 43 = .ok (.aload_n 3, 1) := by decide +kernel
theorem dX11_cut_44 : decode cX11_cut 44 = .ok (.invokevirtual 147, 3) := by decide +kernel
theorem dX11_cut_47 : decode cX11_cut 47 = .ok (.iload 4, 2) := by decide +kernel
theorem dX11_cut_49 : decode cX11_cut 49 = .ok (.ireturn, 1) := by decide +kernel
theorem dX11_turn_0 : decode cX11_turn 0 = .ok (.aload_n 0, 1) := by decide +kernel
theorem dX11_turn_1 : decode cX11_turn 1 = .ok (.getfield 50, 3) := by decide +kernel
theorem dX11_turn_4 : decode cX11_turn 4 = .ok (.iload_n 1, 1) := by decide +kernel
theorem dX11_turn_5 : decode cX11_turn 5 = .ok (.invokevirtual 131, 3) := by decide +kernel
theorem dX11_turn_8 : decode cX11_turn 8 = .ok (.astore_n 3, 1) := by decide +kernel
theorem dX11_turn_9 : decode cX11_turn 9 = .ok (.aload_n 3, 1) := by decide +kernel
theorem dX11_turn_10 : decode cX11_turn 10 = .ok (.ifnull 10, 3) := by decide +kernel
theorem dX11_turn_13 : decode cX11_turn 13 = .ok (.iload_n 2, 1) := by decide +kernel
theorem dX11_turn_14 : decode cX11_turn 14 = .ok (.invokestatic 119, 3) := by decide +kernel
theorem dX11_turn_17 : decode cX11_turn 17 = .ok (.ifCond .ne 10, 3) := by decide +kernel
theorem dX11_turn_20 : decode cX11_turn 20 = .ok (.aload_n 0, 1) := by decide +kernel
theorem dX11_turn_21 : decode cX11_turn 21 = .ok (.ldc 86, 2) := by decide +kernel
theorem dX11_turn_23 : decode cX11_turn 23 = .ok (.invokevirtual 87, 3) := by decide +kernel
theorem dX11_turn_26 : decode cX11_turn 26 = .ok (.ireturn, 1) := by decide +kernel
theorem dX11_turn_27 : decode cX11_turn 27 = .ok (.aload_n 3, 1) := by decide +kernel
theorem dX11_turn_28 : decode cX11_turn 28 = .ok (.getfield 153, 3) := by decide +kernel
theorem dX11_turn_31 : decode cX11_turn 31 = .ok (.getfield 157, 3) := by decide +kernel
theorem dX11_turn_34 : decode cX11_turn 34 = .ok (.istore 4, 2) := by decide +kernel
theorem dX11_turn_36 : decode cX11_turn 36 = .ok (.aload_n 3, 1) := by decide +kernel
theorem dX11_turn_37 : decode cX11_turn 37 = .ok (.aload_n 0, 1) := by decide +kernel
theorem dX11_turn_38 : decode cX11_turn 38 = .ok (.getfield 41, 3) := by decide +kernel
theorem dX11_turn_41 : decode cX11_turn 41 = .ok (.iload_n 2, 1) := by decide +kernel
theorem dX11_turn_42 : decode cX11_turn 42 = .ok (.aaload, 1) := by decide +kernel
theorem dX11_turn_43 : decode cX11_turn 43 = .ok (.invokevirtual 210, 3) := by decide +kernel
theorem dX11_turn_46 : decode cX11_turn 46 = .ok (.iload 4, 2) := by decide +kernel
theorem dX11_turn_48 : decode cX11_turn 48 = .ok (.ireturn, 1) := by decide +kernel
theorem dX11_as_0 : decode cX11_as 0 = .ok (.aload_n 0, 1) := by decide +kernel
theorem dX11_as_1 : decode cX11_as 1 = .ok (.getfield 50, 3) := by decide +kernel
theorem dX11_as_4 : decode cX11_as 4 = .ok (.iload_n 1, 1) := by decide +kernel
theorem dX11_as_5 : decode cX11_as 5 = .ok (.invokevirtual 131, 3) := by decide +kernel
theorem dX11_as_8 : decode cX11_as 8 = .ok (.astore_n 3, 1) := by decide +kernel
theorem dX11_as_9 : decode cX11_as 9 = .ok (.aload_n 3, 1) := by decide +kernel
theorem dX11_as_10 : decode cX11_as 10 = .ok (.ifnull 10, 3) := by decide +kernel
theorem dX11_as_13 : decode cX11_as 13 = .ok (.iload_n 2, 1) := by decide +kernel
theorem dX11_as_14 : decode cX11_as 14 = .ok (.invokestatic 119, 3) := by decide +kernel
theorem dX11_as_17 : decode cX11_as 17 = .ok (.ifCond .ne 10, 3) := by decide +kernel
theorem dX11_as_20 : decode cX11_as 20 = .ok (.aload_n 0, 1) := by decide +kernel
theorem dX11_as_21 : decode cX11_as 21 = .ok (.ldc 86, 2) := by decide +kernel
theorem dX11_as_23 : decode cX11_as 23 = .ok (.invokevirtual 87, 3) := by decide +kernel
theorem dX11_as_26 : decode cX11_as 26 = .ok (.ireturn, 1) := by decide +kernel
theorem dX11_as_27 : decode cX11_as 27 = .ok (.aload_n 3, 1) := by decide +kernel
theorem dX11_as_28 : decode cX11_as 28 = .ok (.getfield 153, 3) := by decide +kernel
theorem dX11_as_31 : decode cX11_as 31 = .ok (.iload_n 2, 1) := by decide +kernel
theorem dX11_as_32 : decode cX11_as 32 = .ok (.invokevirtual 213, 3) := by decide +kernel
theorem dX11_as_35 : decode cX11_as 35 = .ok (.ifCond .eq 10, 3) := by decide +kernel
theorem dX11_as_38 : decode cX11_as 38 = .ok (.aload_n 3, 1) := by decide +kernel
theorem dX11_as_39 : decode cX11_as 39 = .ok (.getfield 163, 3) := by decide +kernel
theorem dX11_as_42 : decode cX11_as 42 = .ok (.goto 9, 3) := by decide +kernel
theorem dX11_as_45 : decode cX11_as 45 = .ok (.aload_n 0, 1) := by decide +kernel
theorem dX11_as_46 : decode cX11_as 46 = .ok (.ldc 216, 2) := by decide +kernel
theorem dX11_as_48 : decode cX11_as 48 = .ok (.invokevirtual 87, 3) := by decide +kernel
theorem dX11_as_51 : decode cX11_as 51 = .ok (.ireturn, 1) := by decide +kernel
theorem dX11_line_0 : decode cX11_line 0 = .ok (.aload_n 0, 1) := by decide +kernel
theorem dX11_line_1 : decode cX11_line 1 = .ok (.getfield 50, 3) := by decide +kernel
theorem dX11_line_4 : decode cX11_line 4 = .ok (.iload_n 1, 1) := by decide +kernel
theorem dX11_line_5 : decode cX11_line 5 = .ok (.invokevirtual 131, 3) := by decide +kernel
theorem dX11_line_8 : decode cX11_line 8 = .ok (.astore_n 2, 1) := by decide +kernel
theorem dX11_line_9 : decode cX11_line 9 = .ok (.aload_n 2, 1) := by decide +kernel
theorem dX11_line_10 : decode cX11_line 10 = .ok (.ifnonnull 13, 3) := by decide +kernel
theorem dX11_line_13 : decode cX11_line 13 = .ok (.aload_n 0, 1) := by decide +kernel
theorem dX11_line_14 : decode cX11_line 14 = .ok (.ldc 86, 2) := by decide +kernel
theorem dX11_line_16 : decode cX11_line 16 = .ok (.invokevirtual 87, 3) := by decide +kernel
theorem dX11_line_19 : decode cX11_line 19 = .ok (.i2l, 1) := by decide +kernel
theorem dX11_line_20 : decode cX11_line 20 = .ok (.goto 14, 3) := by decide +kernel
theorem dX11_line_23 : decode cX11_line 23 = .ok (.aload_n 2, 1) := by decide +kernel
theorem dX11_line_24 : decode cX11_line 24 = .ok (.aload_n 0, 1) := by decide +kernel
theorem dX11_line_25 : decode cX11_line 25 = .ok (.getfield 50, 3) := by decide +kernel
theorem dX11_line_28 : decode cX11_line 28 = .ok (.getfield 91, 3) := by decide +kernel
theorem dX11_line_31 : decode cX11_line 31 = .ok (.invokevirtual 217, 3) := by decide +kernel
theorem dX11_line_34 : decode cX11_line 34 = .ok (.lreturn, 1) := by decide +kernel
theorem dX11_inside_0 : decode cX11_inside 0 = .ok (.aload_n 0, 1) := by decide +kernel
theorem dX11_inside_1 : decode cX11_inside 1 = .ok (.getfield 50, 3) := by decide +kernel
theorem dX11_inside_4 : decode cX11_inside 4 = .ok (.iload_n 1, 1) := by decide +kernel
theorem dX11_inside_5 : decode cX11_inside 5 = .ok (.invokevirtual 131, 3) := by decide +kernel
theorem dX11_inside_8 : decode cX11_inside 8 = .ok (.astore_n 2, 1) := by decide +kernel
theorem dX11_inside_9 : decode cX11_inside 9 = .ok (.aload_n 2, 1) := by decide +kernel
theorem dX11_inside_10 : decode cX11_inside 10 = .ok (.ifnonnull 13, 3) := by decide +kernel
theorem dX11_inside_13 : decode cX11_inside 13 = .ok (.aload_n 0, 1) := by decide +kernel
theorem dX11_inside_14 : decode cX11_inside 14 = .ok (.ldc 86, 2) := by decide +kernel
theorem dX11_inside_16 : decode cX11_inside 16 = .ok (.invokevirtual 87, 3) := by decide +kernel
theorem dX11_inside_19 : decode cX11_inside 19 = .ok (.i2l, 1) := by decide +kernel
theorem dX11_inside_20 : decode cX11_inside 20 = .ok (.goto 14, 3) := by decide +kernel
theorem dX11_inside_23 : decode cX11_inside 23 = .ok (.aload_n 2, 1) := by decide +kernel
theorem dX11_inside_24 : decode cX11_inside 24 = .ok (.aload_n 0, 1) := by decide +kernel
theorem dX11_inside_25 : decode cX11_inside 25 = .ok (.getfield 50, 3) := by decide +kernel
theorem dX11_inside_28 : decode cX11_inside 28 = .ok (.getfield 91, 3) := by decide +kernel
theorem dX11_inside_31 : decode cX11_inside 31 = .ok (.invokevirtual 221, 3) := by decide +kernel
theorem dX11_inside_34 : decode cX11_inside 34 = .ok (.lreturn, 1) := by decide +kernel
theorem dX11_years_0 : decode cX11_years 0 = .ok (.iload_n 1, 1) := by decide +kernel
theorem dX11_years_1 : decode cX11_years 1 = .ok (.iconst 1, 1) := by decide +kernel
theorem dX11_years_2 : decode cX11_years 2 = .ok (.bipush 60, 2) := by decide +kernel
theorem dX11_years_4 : decode cX11_years 4 = .ok (.invokestatic 82, 3) := by decide +kernel
theorem dX11_years_7 : decode cX11_years 7 = .ok (.ifCond .ne 10, 3) := by decide +kernel
theorem dX11_years_10 : decode cX11_years 10 = .ok (.aload_n 0, 1) := by decide +kernel
theorem dX11_years_11 : decode cX11_years 11 = .ok (.ldc 86, 2) := by decide +kernel
theorem dX11_years_13 : decode cX11_years 13 = .ok (.invokevirtual 87, 3) := by decide +kernel
theorem dX11_years_16 : decode cX11_years 16 = .ok (.ireturn, 1) := by decide +kernel
theorem dX11_years_17 : decode cX11_years 17 = .ok (.aload_n 0, 1) := by decide +kernel
theorem dX11_years_18 : decode cX11_years 18 = .ok (.getfield 50, 3) := by decide +kernel
theorem dX11_years_21 : decode cX11_years 21 = .ok (.getfield 224, 3) := by decide +kernel
theorem dX11_years_24 : decode cX11_years 24 = .ok (.iload_n 1, 1) := by decide +kernel
theorem dX11_years_25 : decode cX11_years 25 = .ok (.iadd, 1) := by decide +kernel
theorem dX11_years_26 : decode cX11_years 26 = .ok (.sipush 9999, 3) := by decide +kernel
theorem dX11_years_29 : decode cX11_years 29 = .ok (.if_icmp .le 10, 3) := by decide +kernel
theorem dX11_years_32 : decode cX11_years 32 = .ok (.aload_n 0, 1) := by decide +kernel
theorem dX11_years_33 : decode cX11_years 33 = .ok (.ldc 227, 2) := by decide +kernel
theorem dX11_years_35 : decode cX11_years 35 = .ok (.invokevirtual 87, 3) := by decide +kernel
theorem dX11_years_38 : decode cX11_years 38 = .ok (.ireturn, 1) := by decide +kernel
theorem dX11_years_39 : decode cX11_years 39 = .ok (.aload_n 0, 1) := by decide +kernel
theorem dX11_years_40 : decode cX11_years 40 = .ok (.getfield 50, 3) := by decide +kernel
theorem dX11_years_43 : decode cX11_years 43 = .ok (.iload_n 1, 1) := by decide +kernel
theorem dX11_years_44 : decode cX11_years 44 = .ok (.invokevirtual 228, 3) := by decide +kernel
theorem dX11_years_47 : decode cX11_years 47 = .ok (.aload_n 0, 1) := by decide +kernel
theorem dX11_years_48 : decode cX11_years 48 = .ok (.getfield 50, 3) := by decide +kernel
theorem dX11_years_51 : decode cX11_years 51 = .ok (.invokevirtual 231, 3) := by decide +kernel
theorem dX11_years_54 : decode cX11_years 54 = .ok (.ireturn, 1) := by decide +kernel
theorem dX11_now_0 : decode cX11_now 0 = .ok (.iload_n 1, 1) := by decide +kernel
theorem dX11_now_1 : decode cX11_now 1 = .ok (.tableswitch 78 0 4 #[35, 43, 51, 59, 67], 35) := by decide +kernel
theorem dX11_now_36 : decode cX11_now 36 = .ok (.aload_n 0, 1) := by decide +kernel
theorem dX11_now_37 : decode cX11_now 37 = .ok (.getfield 50, 3) := by decide +kernel
theorem dX11_now_40 : decode cX11_now 40 = .ok (.getfield 224, 3) := by decide +kernel
theorem dX11_now_43 : decode cX11_now 43 = .ok (.ireturn, 1) := by decide +kernel
theorem dX11_now_44 : decode cX11_now 44 = .ok (.aload_n 0, 1) := by decide +kernel
theorem dX11_now_45 : decode cX11_now 45 = .ok (.getfield 50, 3) := by decide +kernel
theorem dX11_now_48 : decode cX11_now 48 = .ok (.invokevirtual 231, 3) := by decide +kernel
theorem dX11_now_51 : decode cX11_now 51 = .ok (.ireturn, 1) := by decide +kernel
theorem dX11_now_52 : decode cX11_now 52 = .ok (.aload_n 0, 1) := by decide +kernel
theorem dX11_now_53 : decode cX11_now 53 = .ok (.getfield 50, 3) := by decide +kernel
theorem dX11_now_56 : decode cX11_now 56 = .ok (.invokevirtual 234, 3) := by decide +kernel
theorem dX11_now_59 : decode cX11_now 59 = .ok (.ireturn, 1) := by decide +kernel
theorem dX11_now_60 : decode cX11_now 60 = .ok (.aload_n 0, 1) := by decide +kernel
theorem dX11_now_61 : decode cX11_now 61 = .ok (.getfield 50, 3) := by decide +kernel
theorem dX11_now_64 : decode cX11_now 64 = .ok (.invokevirtual 237, 3) := by decide +kernel
theorem dX11_now_67 : decode cX11_now 67 = .ok (.ireturn, 1) := by decide +kernel
theorem dX11_now_68 : decode cX11_now 68 = .ok (.aload_n 0, 1) := by decide +kernel
theorem dX11_now_69 : decode cX11_now 69 = .ok (.getfield 50, 3) := by decide +kernel
theorem dX11_now_72 : decode cX11_now 72 = .ok (.getfield 91, 3) := by decide +kernel
theorem dX11_now_75 : decode cX11_now 75 = .ok (.invokestatic 240, 3) := by decide +kernel
theorem dX11_now_78 : decode cX11_now 78 = .ok (.ireturn, 1) := by decide +kernel
theorem dX11_now_79 : decode cX11_now 79 = .ok (.aload_n 0, 1) := by decide +kernel
theorem dX11_now_80 : decode cX11_now 80 = .ok (.ldc 86, 2) := by decide +kernel
theorem dX11_now_82 : decode cX11_now 82 = .ok (.invokevirtual 87, 3) := by decide +kernel
theorem dX11_now_85 : decode cX11_now 85 = .ok (.ireturn, 1) := by decide +kernel
theorem dX11_on_0 : decode cX11_on 0 = .ok (.aload_n 0, 1) := by decide +kernel
theorem dX11_on_1 : decode cX11_on 1 = .ok (.iload_n 1, 1) := by decide +kernel
theorem dX11_on_2 : decode cX11_on 2 = .ok (.invokevirtual 245, 3) := by decide +kernel
theorem dX11_on_5 : decode cX11_on 5 = .ok (.astore 4, 2) := by decide +kernel
theorem dX11_on_7 : decode cX11_on 7 = .ok (.aload 4, 2) := by decide +kernel
theorem dX11_on_9 : decode cX11_on 9 = .ok (.ifnull 19, 3) := by decide +kernel
theorem dX11_on_12 : decode cX11_on 12 = .ok (.iload_n 2, 1) := by decide +kernel
theorem dX11_on_13 : decode cX11_on 13 = .ok (.invokestatic 248, 3) := by decide +kernel
theorem dX11_on_16 : decode cX11_on 16 = .ok (.ifCond .eq 12, 3) := by decide +kernel
theorem dX11_on_19 : decode cX11_on 19 = .ok (.iload_n 3, 1) := by decide +kernel
theorem dX11_on_20 : decode cX11_on 20 = .ok (.iconst 0, 1) := by decide +kernel
theorem dX11_on_21 : decode cX11_on 21 = .ok (.iconst 2, 1) := by decide +kernel
theorem dX11_on_22 : decode cX11_on 22 = .ok (.invokestatic 82, 3) := by decide +kernel
theorem dX11_on_25 : decode cX11_on 25 = .ok (.ifCond .ne 10, 3) := by decide +kernel
theorem dX11_on_28 : decode cX11_on 28 = .ok (.aload_n 0, 1) := by decide +kernel
theorem dX11_on_29 : decode cX11_on 29 = .ok (.ldc 86, 2) := by decide +kernel
theorem dX11_on_31 : decode cX11_on 31 = .ok (.invokevirtual 87, 3) := by decide +kernel
theorem dX11_on_34 : decode cX11_on 34 = .ok (.ireturn, 1) := by decide +kernel
theorem dX11_on_35 : decode cX11_on 35 = .ok (.aload_n 0, 1) := by decide +kernel
theorem dX11_on_36 : decode cX11_on 36 = .ok (.getfield 54, 3) := by decide +kernel
theorem dX11_on_39 : decode cX11_on 39 = .ok (.iload_n 2, 1) := by decide +kernel
theorem dX11_on_40 : decode cX11_on 40 = .ok (.invokevirtual 228, 3) := by decide +kernel
theorem dX11_on_43 : decode cX11_on 43 = .ok (.iload_n 3, 1) := by decide +kernel
theorem dX11_on_44 : decode cX11_on 44 = .ok (.ifCond .ne 9, 3) := by decide +kernel
theorem dX11_on_47 : decode cX11_on 47 = .ok (.aload 4, 2) := by decide +kernel
theorem dX11_on_49 : decode cX11_on 49 = .ok (.getfield 163, 3) := by decide +kernel
theorem dX11_on_52 : decode cX11_on 52 = .ok (.ireturn, 1) := by decide +kernel
theorem dX11_on_53 : decode cX11_on 53 = .ok (.iload_n 3, 1) := by decide +kernel
theorem dX11_on_54 : decode cX11_on 54 = .ok (.iconst 1, 1) := by decide +kernel
theorem dX11_on_55 : decode cX11_on 55 = .ok (.if_icmp .ne 11, 3) := by decide +kernel
theorem dX11_on_58 : decode cX11_on 58 = .ok (.aload 4, 2) := by decide +kernel
theorem dX11_on_60 : decode cX11_on 60 = .ok (.getfield 166, 3) := by decide +kernel
theorem dX11_on_63 : decode cX11_on 63 = .ok (.goto 11, 3) := by decide +kernel
theorem dX11_on_66 : decode cX11_on 66 = .ok (.aload_n 0, 1) := by decide +kernel
theorem dX11_on_67 : decode cX11_on 67 = .ok (.getfield 54, 3) := by decide +kernel
theorem dX11_on_70 : decode cX11_on 70 = .ok (.iload_n 1, 1) := by decide +kernel
theorem dX11_on_71 : decode cX11_on 71 = .ok (.invokevirtual 180, 3) := by decide +kernel
theorem dX11_on_74 : decode cX11_on 74 = .ok (.ireturn, 1) := by decide +kernel
theorem dX11_dry_0 : decode cX11_dry 0 = .ok (.aload_n 0, 1) := by decide +kernel
theorem dX11_dry_1 : decode cX11_dry 1 = .ok (.iload_n 1, 1) := by decide +kernel
theorem dX11_dry_2 : decode cX11_dry 2 = .ok (.invokevirtual 245, 3) := by decide +kernel
theorem dX11_dry_5 : decode cX11_dry 5 = .ok (.astore_n 2, 1) := by decide +kernel
theorem dX11_dry_6 : decode cX11_dry 6 = .ok (.aload_n 2, 1) := by decide +kernel
theorem dX11_dry_7 : decode cX11_dry 7 = .ok (.ifnonnull 10, 3) := by decide +kernel
theorem dX11_dry_10 : decode cX11_dry 10 = .ok (.aload_n 0, 1) := by decide +kernel
theorem dX11_dry_11 : decode cX11_dry 11 = .ok (.ldc 86, 2) := by decide +kernel
theorem dX11_dry_13 : decode cX11_dry 13 = .ok (.invokevirtual 87, 3) := by decide +kernel
theorem dX11_dry_16 : decode cX11_dry 16 = .ok (.ireturn, 1) := by decide +kernel
theorem dX11_dry_17 : decode cX11_dry 17 = .ok (.iconst 0, 1) := by decide +kernel
theorem dX11_dry_18 : decode cX11_dry 18 = .ok (.istore_n 3, 1) := by decide +kernel
theorem dX11_dry_19 : decode cX11_dry 19 = .ok (.iload_n 3, 1) := by decide +kernel
theorem dX11_dry_20 : decode cX11_dry 20 = .ok (.bipush 60, 2) := by decide +kernel
theorem dX11_dry_22 : decode cX11_dry 22 = .ok (.if_icmp .gt 25, 3) := by decide +kernel
theorem dX11_dry_25 : decode cX11_dry 25 = .ok (.aload_n 2, 1) := by decide +kernel
theorem dX11_dry_26 : decode cX11_dry 26 = .ok (.invokevirtual 172, 3) := by decide +kernel
theorem dX11_dry_29 : decode cX11_dry 29 = .ok (.ifCond .ne 5, 3) := by decide +kernel
theorem dX11_dry_32 : decode cX11_dry 32 = .ok (.iload_n 3, 1) := by decide +kernel
theorem dX11_dry_33 : decode cX11_dry 33 = .ok (.ireturn, 1) := by decide +kernel
theorem dX11_dry_34 : decode cX11_dry 34 = .ok (.aload_n 0, 1) := by decide +kernel
theorem dX11_dry_35 : decode cX11_dry 35 = .ok (.getfield 54, 3) := by decide +kernel
theorem dX11_dry_38 : decode cX11_dry 38 = .ok (.invokevirtual 251, 3) := by decide +kernel
theorem dX11_dry_41 : decode cX11_dry 41 = .ok (.iinc 3 1, 3) := by decide +kernel
theorem dX11_dry_44 : decode cX11_dry 44 = .ok (.goto (-25), 3) := by decide +kernel
theorem dX11_dry_47 : decode cX11_dry 47 = .ok (.aload_n 0, 1) := by decide +kernel
theorem dX11_dry_48 : decode cX11_dry 48 = .ok (.ldc 254, 2) := by decide +kernel
theorem dX11_dry_50 : decode cX11_dry 50 = .ok (.invokevirtual 87, 3) := by decide +kernel
theorem dX11_dry_53 : decode cX11_dry 53 = .ok (.ireturn, 1) := by decide +kernel
theorem dX11_rich_0 : decode cX11_rich 0 = .ok (.iload_n 1, 1) := by decide +kernel
theorem dX11_rich_1 : decode cX11_rich 1 = .ok (.invokestatic 248, 3) := by decide +kernel
theorem dX11_rich_4 : decode cX11_rich 4 = .ok (.ifCond .ne 10, 3) := by decide +kernel
theorem dX11_rich_7 : decode cX11_rich 7 = .ok (.aload_n 0, 1) := by decide +kernel
theorem dX11_rich_8 : decode cX11_rich 8 = .ok (.ldc 86, 2) := by decide +kernel
theorem dX11_rich_10 : decode cX11_rich 10 = .ok (.invokevirtual 87, 3) := by decide +kernel
theorem dX11_rich_13 : decode cX11_rich 13 = .ok (.ireturn, 1) := by decide +kernel
theorem dX11_rich_14 : decode cX11_rich 14 = .ok (.aload_n 0, 1) := by decide +kernel
theorem dX11_rich_15 : decode cX11_rich 15 = .ok (.getfield 54, 3) := by decide +kernel
theorem dX11_rich_18 : decode cX11_rich 18 = .ok (.aload_n 0, 1) := by decide +kernel
theorem dX11_rich_19 : decode cX11_rich 19 = .ok (.getfield 50, 3) := by decide +kernel
theorem dX11_rich_22 : decode cX11_rich 22 = .ok (.invokevirtual 255, 3) := by decide +kernel
theorem dX11_rich_25 : decode cX11_rich 25 = .ok (.aload_n 0, 1) := by decide +kernel
theorem dX11_rich_26 : decode cX11_rich 26 = .ok (.getfield 54, 3) := by decide +kernel
theorem dX11_rich_29 : decode cX11_rich 29 = .ok (.iload_n 1, 1) := by decide +kernel
theorem dX11_rich_30 : decode cX11_rich 30 = .ok (.invokevirtual 228, 3) := by decide +kernel
theorem dX11_rich_33 : decode cX11_rich 33 = .ok (.aload_n 0, 1) := by decide +kernel
theorem dX11_rich_34 : decode cX11_rich 34 = .ok (.getfield 54, 3) := by decide +kernel
theorem dX11_rich_37 : decode cX11_rich 37 = .ok (.invokevirtual 259, 3) := by decide +kernel
theorem dX11_rich_40 : decode cX11_rich 40 = .ok (.istore_n 2, 1) := by decide +kernel
theorem dX11_rich_41 : decode cX11_rich 41 = .ok (.iload_n 2, 1) := by decide +kernel
theorem dX11_rich_42 : decode cX11_rich 42 = .ok (.ifCond .ge 12, 3) := by decide +kernel
theorem dX11_rich_45 : decode cX11_rich 45 = .ok (.aload_n 0, 1) := by decide +kernel
theorem dX11_rich_46 : decode cX11_rich 46 = .ok (.ldc 254, 2) := by decide +kernel
theorem dX11_rich_48 : decode cX11_rich 48 = .ok (.invokevirtual 87, 3) := by decide +kernel
theorem dX11_rich_51 : decode cX11_rich 51 = .ok (.goto 4, 3) := by decide +kernel
theorem dX11_rich_54 : decode cX11_rich 54 = .ok (.iload_n 2, 1) := by decide +kernel
theorem dX11_rich_55 : decode cX11_rich 55 = .ok (.ireturn, 1) := by decide +kernel
theorem dX11_rain_0 : decode cX11_rain 0 = .ok (.aload_n 0, 1) := by decide +kernel
theorem dX11_rain_1 : decode cX11_rain 1 = .ok (.getfield 50, 3) := by decide +kernel
theorem dX11_rain_4 : decode cX11_rain 4 = .ok (.iload_n 1, 1) := by decide +kernel
theorem dX11_rain_5 : decode cX11_rain 5 = .ok (.invokevirtual 131, 3) := by decide +kernel
theorem dX11_rain_8 : decode cX11_rain 8 = .ok (.astore_n 2, 1) := by decide +kernel
theorem dX11_rain_9 : decode cX11_rain 9 = .ok (.aload_n 2, 1) := by decide +kernel
theorem dX11_rain_10 : decode cX11_rain 10 = .ok (.ifnonnull 10, 3) := by decide +kernel
theorem dX11_rain_13 : decode cX11_rain 13 = .ok (.aload_n 0, 1) := by decide +kernel
theorem dX11_rain_14 : decode cX11_rain 14 = .ok (.ldc 86, 2) := by decide +kernel
theorem dX11_rain_16 : decode cX11_rain 16 = .ok (.invokevirtual 87, 3) := by decide +kernel
theorem dX11_rain_19 : decode cX11_rain 19 = .ok (.ireturn, 1) := by decide +kernel
theorem dX11_rain_20 : decode cX11_rain 20 = .ok (.aload_n 2, 1) := by decide +kernel
theorem dX11_rain_21 : decode cX11_rain 21 = .ok (.aload_n 0, 1) := by decide +kernel
theorem dX11_rain_22 : decode cX11_rain 22 = .ok (.getfield 50, 3) := by decide +kernel
theorem dX11_rain_25 : decode cX11_rain 25 = .ok (.getfield 91, 3) := by decide +kernel
theorem dX11_rain_28 : decode cX11_rain 28 = .ok (.invokevirtual 217, 3) := by decide +kernel
theorem dX11_rain_31 : decode cX11_rain 31 = .ok (.lstore_n 3, 1) := by decide +kernel
theorem dX11_rain_32 : decode cX11_rain 32 = .ok (.aload_n 2, 1) := by decide +kernel
theorem dX11_rain_33 : decode cX11_rain 33 = .ok (.aload_n 0, 1) := by decide +kernel
theorem dX11_rain_34 : decode cX11_rain 34 = .ok (.getfield 50, 3) := by decide +kernel
theorem dX11_rain_37 : decode cX11_rain 37 = .ok (.getfield 91, 3) := by decide +kernel
theorem dX11_rain_40 : decode cX11_rain 40 = .ok (.invokevirtual 176, 3) := by decide +kernel
theorem dX11_rain_43 : decode cX11_rain 43 = .ok (.istore 5, 2) := by decide +kernel
theorem dX11_rain_45 : decode cX11_rain 45 = .ok (.ldc 254, 2) := by decide +kernel
theorem dX11_rain_47 : decode cX11_rain 47 = .ok (.istore 6, 2) := by decide +kernel
theorem dX11_rain_49 : decode cX11_rain 49 = .ok (.iconst 0, 1) := by decide +kernel
theorem dX11_rain_50 : decode cX11_rain 50 = .ok (.istore 7, 2) := by decide +kernel
theorem dX11_rain_52 : decode cX11_rain 52 = .ok (.iload 7, 2) := by decide +kernel
theorem dX11_rain_54 : decode cX11_rain 54 = .ok (.bipush 48, 2) := by decide +kernel
theorem dX11_rain_56 : decode cX11_rain 56 = .ok (.if_icmp .ge 53, 3) := by decide +kernel
theorem dX11_rain_59 : decode cX11_rain 59 = .ok (.lload_n 3, 1) := by decide +kernel
theorem dX11_rain_60 : decode cX11_rain 60 = .ok (.iload 7, 2) := by decide +kernel
theorem dX11_rain_62 : decode cX11_rain 62 = .ok (.invokestatic 95, 3) := by decide +kernel
theorem dX11_rain_65 : decode cX11_rain 65 = .ok (.iconst 1, 1) := by decide +kernel
theorem dX11_rain_66 : decode cX11_rain 66 = .ok (.if_icmp .ne 37, 3) := by decide +kernel
theorem dX11_rain_69 : decode cX11_rain 69 = .ok (.lload_n 3, 1) := by decide +kernel
theorem dX11_rain_70 : decode cX11_rain 70 = .ok (.iload 7, 2) := by decide +kernel
theorem dX11_rain_72 : decode cX11_rain 72 = .ok (.invokestatic 262, 3) := by decide +kernel
theorem dX11_rain_75 : decode cX11_rain 75 = .ok (.ldc2_w 268, 3) := by decide +kernel
theorem dX11_rain_78 : decode cX11_rain 78 = .ok (.lxor, 1) := by decide +kernel
theorem dX11_rain_79 : decode cX11_rain 79 = .ok (.land, 1) := by decide +kernel
theorem dX11_rain_80 : decode cX11_rain 80 = .ok (.invokestatic 270, 3) := by decide +kernel
theorem dX11_rain_83 : decode cX11_rain 83 = .ok (.invokestatic 240, 3) := by decide +kernel
theorem dX11_rain_86 : decode cX11_rain 86 = .ok (.istore 8, 2) := by decide +kernel
theorem dX11_rain_88 : decode cX11_rain 88 = .ok (.iload 8, 2) := by decide +kernel
theorem dX11_rain_90 : decode cX11_rain 90 = .ok (.iload 5, 2) := by decide +kernel
theorem dX11_rain_92 : decode cX11_rain 92 = .ok (.if_icmp .ge 11, 3) := by decide +kernel
theorem dX11_rain_95 : decode cX11_rain 95 = .ok (.iload 8, 2) := by decide +kernel
theorem dX11_rain_97 : decode cX11_rain 97 = .ok (.istore 5, 2) := by decide +kernel
theorem dX11_rain_99 : decode cX11_rain 99 = .ok (.iload 7, 2) := by decide +kernel
theorem dX11_rain_101 : decode cX11_rain 101 = .ok (.istore 6, 2) := by decide +kernel
theorem dX11_rain_103 : decode cX11_rain 103 = .ok (.iinc 7 1, 3) := by decide +kernel
theorem dX11_rain_106 : decode cX11_rain 106 = .ok (.goto (-54), 3) := by decide +kernel
theorem dX11_rain_109 : decode cX11_rain 109 = .ok (.iload 6, 2) := by decide +kernel
theorem dX11_rain_111 : decode cX11_rain 111 = .ok (.ldc 254, 2) := by decide +kernel
theorem dX11_rain_113 : decode cX11_rain 113 = .ok (.if_icmp .ne 12, 3) := by decide +kernel
theorem dX11_rain_116 : decode cX11_rain 116 = .ok (.aload_n 0, 1) := by decide +kernel
theorem dX11_rain_117 : decode cX11_rain 117 = .ok (.ldc 254, 2) := by decide +kernel
theorem dX11_rain_119 : decode cX11_rain 119 = .ok (.invokevirtual 87, 3) := by decide +kernel
theorem dX11_rain_122 : decode cX11_rain 122 = .ok (.goto 5, 3) := by decide +kernel
theorem dX11_rain_125 : decode cX11_rain 125 = .ok (.iload 6, 2) := by decide +kernel
theorem dX11_rain_127 : decode cX11_rain 127 = .ok (.ireturn, 1) := by decide +kernel
theorem dX11_longer_0 : decode cX11_longer 0 = .ok (.aload_n 0, 1) := by decide +kernel
theorem dX11_longer_1 : decode cX11_longer 1 = .ok (.iload_n 1, 1) := by decide +kernel
theorem dX11_longer_2 : decode cX11_longer 2 = .ok (.invokevirtual 245, 3) := by decide +kernel
theorem dX11_longer_5 : decode cX11_longer 5 = .ok (.astore_n 2, 1) := by decide +kernel
theorem dX11_longer_6 : decode cX11_longer 6 = .ok (.aload_n 2, 1) := by decide +kernel
theorem dX11_longer_7 : decode cX11_longer 7 = .ok (.ifnonnull 10, 3) := by decide +kernel
theorem dX11_longer_10 : decode cX11_longer 10 = .ok (.aload_n 0, 1) := by decide +kernel
theorem dX11_longer_11 : decode cX11_longer 11 = .ok (.ldc 86, 2) := by decide +kernel
theorem dX11_longer_13 : decode cX11_longer 13 = .ok (.invokevirtual 87, 3) := by decide +kernel
theorem dX11_longer_16 : decode cX11_longer 16 = .ok (.ireturn, 1) := by decide +kernel
theorem dX11_longer_17 : decode cX11_longer 17 = .ok (.aload_n 2, 1) := by decide +kernel
theorem dX11_longer_18 : decode cX11_longer 18 = .ok (.aload_n 0, 1) := by decide +kernel
theorem dX11_longer_19 : decode cX11_longer 19 = .ok (.getfield 54, 3) := by decide +kernel
theorem dX11_longer_22 : decode cX11_longer 22 = .ok (.getfield 91, 3) := by decide +kernel
theorem dX11_longer_25 : decode cX11_longer 25 = .ok (.invokevirtual 176, 3) := by decide +kernel
theorem dX11_longer_28 : decode cX11_longer 28 = .ok (.istore_n 3, 1) := by decide +kernel
theorem dX11_longer_29 : decode cX11_longer 29 = .ok (.ldc 254, 2) := by decide +kernel
theorem dX11_longer_31 : decode cX11_longer 31 = .ok (.istore 4, 2) := by decide +kernel
theorem dX11_longer_33 : decode cX11_longer 33 = .ok (.iconst 0, 1) := by decide +kernel
theorem dX11_longer_34 : decode cX11_longer 34 = .ok (.istore 5, 2) := by decide +kernel
theorem dX11_longer_36 : decode cX11_longer 36 = .ok (.iload 5, 2) := by decide +kernel
theorem dX11_longer_38 : decode cX11_longer 38 = .ok (.aload_n 2, 1) := by decide +kernel
theorem dX11_longer_39 : decode cX11_longer 39 = .ok (.getfield 150, 3) := by decide +kernel
theorem dX11_longer_42 : decode cX11_longer 42 = .ok (.if_icmp .ge 37, 3) := by decide +kernel
theorem dX11_longer_45 : decode cX11_longer 45 = .ok (.aload_n 2, 1) := by decide +kernel
theorem dX11_longer_46 : decode cX11_longer 46 = .ok (.iload 5, 2) := by decide +kernel
theorem dX11_longer_48 : decode cX11_longer 48 = .ok (.aload_n 0, 1) := by decide +kernel
theorem dX11_longer_49 : decode cX11_longer 49 = .ok (.getfield 54, 3) := by decide +kernel
theorem dX11_longer_52 : decode cX11_longer 52 = .ok (.getfield 91, 3) := by decide +kernel
theorem dX11_longer_55 : decode cX11_longer 55 = .ok (.invokevirtual 273, 3) := by decide +kernel
theorem dX11_longer_58 : decode cX11_longer 58 = .ok (.istore 6, 2) := by decide +kernel
theorem dX11_longer_60 : decode cX11_longer 60 = .ok (.iload 6, 2) := by decide +kernel
theorem dX11_longer_62 : decode cX11_longer 62 = .ok (.iload_n 3, 1) := by decide +kernel
theorem dX11_longer_63 : decode cX11_longer 63 = .ok (.if_icmp .le 10, 3) := by decide +kernel
theorem dX11_longer_66 : decode cX11_longer 66 = .ok (.iload 6, 2) := by decide +kernel
theorem dX11_longer_68 : decode cX11_longer 68 = .ok (.istore_n 3, 1) := by decide +kernel
theorem dX11_longer_69 : decode cX11_longer 69 = .ok (.iload 5, 2) := by decide +kernel
theorem dX11_longer_71 : decode cX11_longer 71 = .ok (.istore 4, 2) := by decide +kernel
theorem dX11_longer_73 : decode cX11_longer 73 = .ok (.iinc 5 1, 3) := by decide +kernel
theorem dX11_longer_76 : decode cX11_longer 76 = .ok (.goto (-40), 3) := by decide +kernel
theorem dX11_longer_79 : decode cX11_longer 79 = .ok (.iload 4, 2) := by decide +kernel
theorem dX11_longer_81 : decode cX11_longer 81 = .ok (.ldc 254, 2) := by decide +kernel
theorem dX11_longer_83 : decode cX11_longer 83 = .ok (.if_icmp .ne 12, 3) := by decide +kernel
theorem dX11_longer_86 : decode cX11_longer 86 = .ok (.aload_n 0, 1) := by decide +kernel
theorem dX11_longer_87 : decode cX11_longer 87 = .ok (.ldc 254, 2) := by decide +kernel
theorem dX11_longer_89 : decode cX11_longer 89 = .ok (.invokevirtual 87, 3) := by decide +kernel
theorem dX11_longer_92 : decode cX11_longer 92 = .ok (.goto 5, 3) := by decide +kernel
theorem dX11_longer_95 : decode cX11_longer 95 = .ok (.iload 4, 2) := by decide +kernel
theorem dX11_longer_97 : decode cX11_longer 97 = .ok (.ireturn, 1) := by decide +kernel
theorem dX11_begin_0 : decode cX11_begin 0 = .ok (.aload_n 0, 1) := by decide +kernel
theorem dX11_begin_1 : decode cX11_begin 1 = .ok (.iload_n 1, 1) := by decide +kernel
theorem dX11_begin_2 : decode cX11_begin 2 = .ok (.invokevirtual 245, 3) := by decide +kernel
theorem dX11_begin_5 : decode cX11_begin 5 = .ok (.astore_n 2, 1) := by decide +kernel
theorem dX11_begin_6 : decode cX11_begin 6 = .ok (.aload_n 2, 1) := by decide +kernel
theorem dX11_begin_7 : decode cX11_begin 7 = .ok (.ifnonnull 10, 3) := by decide +kernel
theorem dX11_begin_10 : decode cX11_begin 10 = .ok (.aload_n 0, 1) := by decide +kernel
theorem dX11_begin_11 : decode cX11_begin 11 = .ok (.ldc 86, 2) := by decide +kernel
theorem dX11_begin_13 : decode cX11_begin 13 = .ok (.invokevirtual 87, 3) := by decide +kernel
theorem dX11_begin_16 : decode cX11_begin 16 = .ok (.ireturn, 1) := by decide +kernel
theorem dX11_begin_17 : decode cX11_begin 17 = .ok (.iconst (-1), 1) := by decide +kernel
theorem dX11_begin_18 : decode cX11_begin 18 = .ok (.istore_n 3, 1) := by decide +kernel
theorem dX11_begin_19 : decode cX11_begin 19 = .ok (.iconst 0, 1) := by decide +kernel
theorem dX11_begin_20 : decode cX11_begin 20 = .ok (.istore 4, 2) := by decide +kernel
theorem dX11_begin_22 : decode cX11_begin 22 = .ok (.iconst 0, 1) := by decide +kernel
theorem dX11_begin_23 : decode cX11_begin 23 = .ok (.istore 5, 2) := by decide +kernel
theorem dX11_begin_25 : decode cX11_begin 25 = .ok (.iload 5, 2) := by decide +kernel
theorem dX11_begin_27 : decode cX11_begin 27 = .ok (.bipush 48, 2) := by decide +kernel
theorem dX11_begin_29 : decode cX11_begin 29 = .ok (.if_icmp .ge 41, 3) := by decide +kernel
theorem dX11_begin_32 : decode cX11_begin 32 = .ok (.aload_n 2, 1) := by decide +kernel
theorem dX11_begin_33 : decode cX11_begin 33 = .ok (.iload 5, 2) := by decide +kernel
theorem dX11_begin_35 : decode cX11_begin 35 = .ok (.invokevirtual 203, 3) := by decide +kernel
theorem dX11_begin_38 : decode cX11_begin 38 = .ok (.aload_n 2, 1) := by decide +kernel
theorem dX11_begin_39 : decode cX11_begin 39 = .ok (.aload_n 0, 1) := by decide +kernel
theorem dX11_begin_40 : decode cX11_begin 40 = .ok (.getfield 54, 3) := by decide +kernel
theorem dX11_begin_43 : decode cX11_begin 43 = .ok (.getfield 91, 3) := by decide +kernel
theorem dX11_begin_46 : decode cX11_begin 46 = .ok (.invokevirtual 176, 3) := by decide +kernel
theorem dX11_begin_49 : decode cX11_begin 49 = .ok (.istore 6, 2) := by decide +kernel
theorem dX11_begin_51 : decode cX11_begin 51 = .ok (.iload 6, 2) := by decide +kernel
theorem dX11_begin_53 : decode cX11_begin 53 = .ok (.iload_n 3, 1) := by decide +kernel
theorem dX11_begin_54 : decode cX11_begin 54 = .ok (.if_icmp .le 10, 3) := by decide +kernel
theorem dX11_begin_57 : decode cX11_begin 57 = .ok (.iload 6, 2) := by decide +kernel
theorem dX11_begin_59 : decode cX11_begin 59 = .ok (.istore_n 3, 1) := by decide +kernel
theorem dX11_begin_60 : decode cX11_begin 60 = .ok (.iload 5, 2) := by decide +kernel
theorem dX11_begin_62 : decode cX11_begin 62 = .ok (.istore 4, 2) := by decide +kernel
theorem dX11_begin_64 : decode cX11_begin 64 = .ok (.iinc 5 1, 3) := by decide +kernel
theorem dX11_begin_67 : decode cX11_begin 67 = .ok (.goto (-42), 3) := by decide +kernel
theorem dX11_begin_70 : decode cX11_begin 70 = .ok (.iload 4, 2) := by decide +kernel
theorem dX11_begin_72 : decode cX11_begin 72 = .ok (.ireturn, 1) := by decide +kernel
theorem dX11_kind_0 : decode cX11_kind 0 = .ok (.aload_n 0, 1) := by decide +kernel
theorem dX11_kind_1 : decode cX11_kind 1 = .ok (.iload_n 1, 1) := by decide +kernel
theorem dX11_kind_2 : decode cX11_kind 2 = .ok (.invokevirtual 245, 3) := by decide +kernel
theorem dX11_kind_5 : decode cX11_kind 5 = .ok (.astore_n 2, 1) := by decide +kernel
theorem dX11_kind_6 : decode cX11_kind 6 = .ok (.aload_n 2, 1) := by decide +kernel
theorem dX11_kind_7 : decode cX11_kind 7 = .ok (.ifnonnull 10, 3) := by decide +kernel
theorem dX11_kind_10 : decode cX11_kind 10 = .ok (.aload_n 0, 1) := by decide +kernel
theorem dX11_kind_11 : decode cX11_kind 11 = .ok (.ldc 86, 2) := by decide +kernel
theorem dX11_kind_13 : decode cX11_kind 13 = .ok (.invokevirtual 87, 3) := by decide +kernel
theorem dX11_kind_16 : decode cX11_kind 16 = .ok (.ireturn, 1) := by decide +kernel
theorem dX11_kind_17 : decode cX11_kind 17 = .ok (.iconst (-1), 1) := by decide +kernel
theorem dX11_kind_18 : decode cX11_kind 18 = .ok (.istore_n 3, 1) := by decide +kernel
theorem dX11_kind_19 : decode cX11_kind 19 = .ok (.iconst 0, 1) := by decide +kernel
theorem dX11_kind_20 : decode cX11_kind 20 = .ok (.istore 4, 2) := by decide +kernel
theorem dX11_kind_22 : decode cX11_kind 22 = .ok (.iconst 0, 1) := by decide +kernel
theorem dX11_kind_23 : decode cX11_kind 23 = .ok (.istore 5, 2) := by decide +kernel
theorem dX11_kind_25 : decode cX11_kind 25 = .ok (.iload 5, 2) := by decide +kernel
theorem dX11_kind_27 : decode cX11_kind 27 = .ok (.aload_n 0, 1) := by decide +kernel
theorem dX11_kind_28 : decode cX11_kind 28 = .ok (.getfield 41, 3) := by decide +kernel
theorem dX11_kind_31 : decode cX11_kind 31 = .ok (.arraylength, 1) := by decide +kernel
theorem dX11_kind_32 : decode cX11_kind 32 = .ok (.if_icmp .ge 43, 3) := by decide +kernel
theorem dX11_kind_35 : decode cX11_kind 35 = .ok (.aload_n 2, 1) := by decide +kernel
theorem dX11_kind_36 : decode cX11_kind 36 = .ok (.aload_n 0, 1) := by decide +kernel
theorem dX11_kind_37 : decode cX11_kind 37 = .ok (.getfield 41, 3) := by decide +kernel
theorem dX11_kind_40 : decode cX11_kind 40 = .ok (.iload 5, 2) := by decide +kernel
theorem dX11_kind_42 : decode cX11_kind 42 = .ok (.aaload, 1) := by decide +kernel
theorem dX11_kind_43 : decode cX11_kind 43 = .ok (.invokevirtual 210, 3) := by decide +kernel
theorem dX11_kind_46 : decode cX11_kind 46 = .ok (.aload_n 0, 1) := by decide +kernel
theorem dX11_kind_47 : decode cX11_kind 47 = .ok (.getfield 54, 3) := by decide +kernel
theorem dX11_kind_50 : decode cX11_kind 50 = .ok (.iload_n 1, 1) := by decide +kernel
theorem dX11_kind_51 : decode cX11_kind 51 = .ok (.invokevirtual 180, 3) := by decide +kernel
theorem dX11_kind_54 : decode cX11_kind 54 = .ok (.istore 6, 2) := by decide +kernel
theorem dX11_kind_56 : decode cX11_kind 56 = .ok (.iload 6, 2) := by decide +kernel
theorem dX11_kind_58 : decode cX11_kind 58 = .ok (.iload_n 3, 1) := by decide +kernel
theorem dX11_kind_59 : decode cX11_kind 59 = .ok (.if_icmp .le 10, 3) := by decide +kernel
theorem dX11_kind_62 : decode cX11_kind 62 = .ok (.iload 6, 2) := by decide +kernel
theorem dX11_kind_64 : decode cX11_kind 64 = .ok (.istore_n 3, 1) := by decide +kernel
theorem dX11_kind_65 : decode cX11_kind 65 = .ok (.iload 5, 2) := by decide +kernel
theorem dX11_kind_67 : decode cX11_kind 67 = .ok (.istore 4, 2) := by decide +kernel
theorem dX11_kind_69 : decode cX11_kind 69 = .ok (.iinc 5 1, 3) := by decide +kernel
theorem dX11_kind_72 : decode cX11_kind 72 = .ok (.goto (-47), 3) := by decide +kernel
theorem dX11_kind_75 : decode cX11_kind 75 = .ok (.iload 4, 2) := by decide +kernel
theorem dX11_kind_77 : decode cX11_kind 77 = .ok (.ireturn, 1) := by decide +kernel
theorem dX11_ink_0 : decode cX11_ink 0 = .ok (.aload_n 0, 1) := by decide +kernel
theorem dX11_ink_1 : decode cX11_ink 1 = .ok (.iload_n 1, 1) := by decide +kernel
theorem dX11_ink_2 : decode cX11_ink 2 = .ok (.invokevirtual 245, 3) := by decide +kernel
theorem dX11_ink_5 : decode cX11_ink 5 = .ok (.astore_n 2, 1) := by decide +kernel
theorem dX11_ink_6 : decode cX11_ink 6 = .ok (.aload_n 2, 1) := by decide +kernel
theorem dX11_ink_7 : decode cX11_ink 7 = .ok (.ifnonnull 10, 3) := by decide +kernel
theorem dX11_ink_10 : decode cX11_ink 10 = .ok (.aload_n 0, 1) := by decide +kernel
theorem dX11_ink_11 : decode cX11_ink 11 = .ok (.ldc 86, 2) := by decide +kernel
theorem dX11_ink_13 : decode cX11_ink 13 = .ok (.invokevirtual 87, 3) := by decide +kernel
theorem dX11_ink_16 : decode cX11_ink 16 = .ok (.ireturn, 1) := by decide +kernel
theorem dX11_ink_17 : decode cX11_ink 17 = .ok (.aload_n 2, 1) := by decide +kernel
theorem dX11_ink_18 : decode cX11_ink 18 = .ok (.sipush 999, 3) := by decide +kernel
theorem dX11_ink_21 : decode cX11_ink 21 = .ok (.putfield 163, 3) := by decide +kernel
theorem dX11_ink_24 : decode cX11_ink 24 = .ok (.aload_n 0, 1) := by decide +kernel
theorem dX11_ink_25 : decode cX11_ink 25 = .ok (.getfield 54, 3) := by decide +kernel
theorem dX11_ink_28 : decode cX11_ink 28 = .ok (.iload_n 1, 1) := by decide +kernel
theorem dX11_ink_29 : decode cX11_ink 29 = .ok (.invokevirtual 180, 3) := by decide +kernel
theorem dX11_ink_32 : decode cX11_ink 32 = .ok (.istore_n 3, 1) := by decide +kernel
theorem dX11_ink_33 : decode cX11_ink 33 = .ok (.iconst 0, 1) := by decide +kernel
theorem dX11_ink_34 : decode cX11_ink 34 = .ok (.istore 4, 2) := by decide +kernel
theorem dX11_ink_36 : decode cX11_ink 36 = .ok (.sipush 999, 3) := by decide +kernel
theorem dX11_ink_39 : decode cX11_ink 39 = .ok (.istore 5, 2) := by decide +kernel
theorem dX11_ink_41 : decode cX11_ink 41 = .ok (.iconst 0, 1) := by decide +kernel
theorem dX11_ink_42 : decode cX11_ink 42 = .ok (.istore 6, 2) := by decide +kernel
theorem dX11_ink_44 : decode cX11_ink 44 = .ok (.iload 6, 2) := by decide +kernel
theorem dX11_ink_46 : decode cX11_ink 46 = .ok (.sipush 999, 3) := by decide +kernel
theorem dX11_ink_49 : decode cX11_ink 49 = .ok (.if_icmp .ge 56, 3) := by decide +kernel
theorem dX11_ink_52 : decode cX11_ink 52 = .ok (.iload 4, 2) := by decide +kernel
theorem dX11_ink_54 : decode cX11_ink 54 = .ok (.iload 5, 2) := by decide +kernel
theorem dX11_ink_56 : decode cX11_ink 56 = .ok (.if_icmp .ge 49, 3) := by decide +kernel
theorem dX11_ink_59 : decode cX11_ink 59 = .ok (.aload_n 2, 1) := by decide +kernel
theorem dX11_ink_60 : decode cX11_ink 60 = .ok (.iload 4, 2) := by decide +kernel
theorem dX11_ink_62 : decode cX11_ink 62 = .ok (.iload 5, 2) := by decide +kernel
theorem dX11_ink_64 : decode cX11_ink 64 = .ok (.iadd, 1) := by decide +kernel
theorem dX11_ink_65 : decode cX11_ink 65 = .ok (.iconst 2, 1) := by decide +kernel
theorem dX11_ink_66 : decode cX11_ink 66 = .ok (.idiv, 1) := by decide +kernel
theorem dX11_ink_67 : decode cX11_ink 67 = .ok (.putfield 163, 3) := by decide +kernel
theorem dX11_ink_70 : decode cX11_ink 70 = .ok (.aload_n 0, 1) := by decide +kernel
theorem dX11_ink_71 : decode cX11_ink 71 = .ok (.getfield 54, 3) := by decide +kernel
theorem dX11_ink_74 : decode cX11_ink 74 = .ok (.iload_n 1, 1) := by decide +kernel
theorem dX11_ink_75 : decode cX11_ink 75 = .ok (.invokevirtual 180, 3) := by decide +kernel
theorem dX11_ink_78 : decode cX11_ink 78 = .ok (.iload_n 3, 1) := by decide +kernel
theorem dX11_ink_79 : decode cX11_ink 79 = .ok (.if_icmp .ne 12, 3) := by decide +kernel
theorem dX11_ink_82 : decode cX11_ink 82 = .ok (.aload_n 2, 1) := by decide +kernel
theorem dX11_ink_83 : decode cX11_ink 83 = .ok (.getfield 163, 3) := by decide +kernel
theorem dX11_ink_86 : decode cX11_ink 86 = .ok (.istore 5, 2) := by decide +kernel
theorem dX11_ink_88 : decode cX11_ink 88 = .ok (.goto 11, 3) := by decide +kernel
theorem dX11_ink_91 : decode cX11_ink 91 = .ok (.aload_n 2, 1) := by decide +kernel
theorem dX11_ink_92 : decode cX11_ink 92 = .ok (.getfield 163, 3) := by decide +kernel
theorem dX11_ink_95 : decode cX11_ink 95 = .ok (.iconst 1, 1) := by decide +kernel
theorem dX11_ink_96 : decode cX11_ink 96 = .ok (.iadd, 1) := by decide +kernel
theorem dX11_ink_97 : decode cX11_ink 97 = .ok (.istore 4, 2) := by decide +kernel
theorem dX11_ink_99 : decode cX11_ink 99 = .ok (.iinc 6 1, 3) := by decide +kernel
theorem dX11_ink_102 : decode cX11_ink 102 = .ok (.goto (-58), 3) := by decide +kernel
theorem dX11_ink_105 : decode cX11_ink 105 = .ok (.iload 5, 2) := by decide +kernel
theorem dX11_ink_107 : decode cX11_ink 107 = .ok (.ireturn, 1) := by decide +kernel
theorem dX11_court_0 : decode cX11_court 0 = .ok (.aload_n 0, 1) := by decide +kernel
theorem dX11_court_1 : decode cX11_court 1 = .ok (.getfield 50, 3) := by decide +kernel
theorem dX11_court_4 : decode cX11_court 4 = .ok (.iload_n 1, 1) := by decide +kernel
theorem dX11_court_5 : decode cX11_court 5 = .ok (.invokevirtual 131, 3) := by decide +kernel
theorem dX11_court_8 : decode cX11_court 8 = .ok (.astore_n 3, 1) := by decide +kernel
theorem dX11_court_9 : decode cX11_court 9 = .ok (.aload_n 0, 1) := by decide +kernel
theorem dX11_court_10 : decode cX11_court 10 = .ok (.getfield 50, 3) := by decide +kernel
theorem dX11_court_13 : decode cX11_court 13 = .ok (.iload_n 2, 1) := by decide +kernel
theorem dX11_court_14 : decode cX11_court 14 = .ok (.invokevirtual 131, 3) := by decide +kernel
theorem dX11_court_17 : decode cX11_court 17 = .ok (.astore 4, 2) := by decide +kernel
theorem dX11_court_19 : decode cX11_court 19 = .ok (.aload_n 3, 1) := by decide +kernel
theorem dX11_court_20 : decode cX11_court 20 = .ok (.ifnull 13, 3) := by decide +kernel
theorem dX11_court_23 : decode cX11_court 23 = .ok (.aload 4, 2) := by decide +kernel
theorem dX11_court_25 : decode cX11_court 25 = .ok (.ifnull 8, 3) := by decide +kernel
theorem dX11_court_28 : decode cX11_court 28 = .ok (.iload_n 1, 1) := by decide +kernel
theorem dX11_court_29 : decode cX11_court 29 = .ok (.iload_n 2, 1) := by decide +kernel
theorem dX11_court_30 : decode cX11_court 30 = .ok (.if_icmp .ne 10, 3) := by decide +kernel
theorem dX11_court_33 : decode cX11_court 33 = .ok (.aload_n 0, 1) := by decide +kernel
theorem dX11_court_34 : decode cX11_court 34 = .ok (.ldc 86, 2) := by decide +kernel
theorem dX11_court_36 : decode cX11_court 36 = .ok (.invokevirtual 87, 3) := by decide +kernel
theorem dX11_court_39 : decode cX11_court 39 = .ok (.ireturn, 1) := by decide +kernel
theorem dX11_court_40 : decode cX11_court 40 = .ok (.aload_n 3, 1) := by decide +kernel
theorem dX11_court_41 : decode cX11_court 41 = .ok (.aload_n 0, 1) := by decide +kernel
theorem dX11_court_42 : decode cX11_court 42 = .ok (.getfield 50, 3) := by decide +kernel
theorem dX11_court_45 : decode cX11_court 45 = .ok (.getfield 91, 3) := by decide +kernel
theorem dX11_court_48 : decode cX11_court 48 = .ok (.invokevirtual 221, 3) := by decide +kernel
theorem dX11_court_51 : decode cX11_court 51 = .ok (.aload 4, 2) := by decide +kernel
theorem dX11_court_53 : decode cX11_court 53 = .ok (.aload_n 0, 1) := by decide +kernel
theorem dX11_court_54 : decode cX11_court 54 = .ok (.getfield 50, 3) := by decide +kernel
theorem dX11_court_57 : decode cX11_court 57 = .ok (.getfield 91, 3) := by decide +kernel
theorem dX11_court_60 : decode cX11_court 60 = .ok (.invokevirtual 221, 3) := by decide +kernel
theorem dX11_court_63 : decode cX11_court 63 = .ok (.land, 1) := by decide +kernel
theorem dX11_court_64 : decode cX11_court 64 = .ok (.invokestatic 240, 3) := by decide +kernel
theorem dX11_court_67 : decode cX11_court 67 = .ok (.ireturn, 1) := by decide +kernel
theorem dX11_way_0 : decode cX11_way 0 = .ok (.aload_n 0, 1) := by decide +kernel
theorem dX11_way_1 : decode cX11_way 1 = .ok (.getfield 50, 3) := by decide +kernel
theorem dX11_way_4 : decode cX11_way 4 = .ok (.iload_n 1, 1) := by decide +kernel
theorem dX11_way_5 : decode cX11_way 5 = .ok (.invokevirtual 131, 3) := by decide +kernel
theorem dX11_way_8 : decode cX11_way 8 = .ok (.astore 4, 2) := by decide +kernel
theorem dX11_way_10 : decode cX11_way 10 = .ok (.aload 4, 2) := by decide +kernel
theorem dX11_way_12 : decode cX11_way 12 = .ok (.ifnull 17, 3) := by decide +kernel
theorem dX11_way_15 : decode cX11_way 15 = .ok (.iload_n 2, 1) := by decide +kernel
theorem dX11_way_16 : decode cX11_way 16 = .ok (.invokestatic 78, 3) := by decide +kernel
theorem dX11_way_19 : decode cX11_way 19 = .ok (.ifCond .eq 10, 3) := by decide +kernel
theorem dX11_way_22 : decode cX11_way 22 = .ok (.iload_n 3, 1) := by decide +kernel
theorem dX11_way_23 : decode cX11_way 23 = .ok (.invokestatic 78, 3) := by decide +kernel
theorem dX11_way_26 : decode cX11_way 26 = .ok (.ifCond .ne 10, 3) := by decide +kernel
theorem dX11_way_29 : decode cX11_way 29 = .ok (.aload_n 0, 1) := by decide +kernel
theorem dX11_way_30 : decode cX11_way 30 = .ok (.ldc 86, 2) := by decide +kernel
theorem dX11_way_32 : decode cX11_way 32 = .ok (.invokevirtual 87, 3) := by decide +kernel
theorem dX11_way_35 : decode cX11_way 35 = .ok (.ireturn, 1) := by decide +kernel
theorem dX11_way_36 : decode cX11_way 36 = .ok (.aload 4, 2) := by decide +kernel
theorem dX11_way_38 : decode cX11_way 38 = .ok (.aload_n 0, 1) := by decide +kernel
theorem dX11_way_39 : decode cX11_way 39 = .ok (.getfield 50, 3) := by decide +kernel
theorem dX11_way_42 : decode cX11_way 42 = .ok (.getfield 91, 3) := by decide +kernel
theorem dX11_way_45 : decode cX11_way 45 = .ok (.invokevirtual 217, 3) := by decide +kernel
theorem dX11_way_48 : decode cX11_way 48 = .ok (.iload_n 2, 1) := by decide +kernel
theorem dX11_way_49 : decode cX11_way 49 = .ok (.iload_n 3, 1) := by decide +kernel
theorem dX11_way_50 : decode cX11_way 50 = .ok (.invokestatic 277, 3) := by decide +kernel
theorem dX11_way_53 : decode cX11_way 53 = .ok (.istore 5, 2) := by decide +kernel
theorem dX11_way_55 : decode cX11_way 55 = .ok (.iload 5, 2) := by decide +kernel
theorem dX11_way_57 : decode cX11_way 57 = .ok (.ifCond .ge 12, 3) := by decide +kernel
theorem dX11_way_60 : decode cX11_way 60 = .ok (.aload_n 0, 1) := by decide +kernel
theorem dX11_way_61 : decode cX11_way 61 = .ok (.ldc 254, 2) := by decide +kernel
theorem dX11_way_63 : decode cX11_way 63 = .ok (.invokevirtual 87, 3) := by decide +kernel
theorem dX11_way_66 : decode cX11_way 66 = .ok (.goto 5, 3) := by decide +kernel
theorem dX11_way_69 : decode cX11_way 69 = .ok (.iload 5, 2) := by decide +kernel
theorem dX11_way_71 : decode cX11_way 71 = .ok (.ireturn, 1) := by decide +kernel
theorem dX11_sea_0 : decode cX11_sea 0 = .ok (.aload_n 0, 1) := by decide +kernel
theorem dX11_sea_1 : decode cX11_sea 1 = .ok (.getfield 50, 3) := by decide +kernel
theorem dX11_sea_4 : decode cX11_sea 4 = .ok (.invokevirtual 116, 3) := by decide +kernel
theorem dX11_sea_7 : decode cX11_sea 7 = .ok (.lstore_n 1, 1) := by decide +kernel
theorem dX11_sea_8 : decode cX11_sea 8 = .ok (.iconst 0, 1) := by decide +kernel
theorem dX11_sea_9 : decode cX11_sea 9 = .ok (.istore_n 3, 1) := by decide +kernel
theorem dX11_sea_10 : decode cX11_sea 10 = .ok (.iload_n 3, 1) := by decide +kernel
theorem dX11_sea_11 : decode cX11_sea 11 = .ok (.bipush 6, 2) := by decide +kernel
theorem dX11_sea_13 : decode cX11_sea 13 = .ok (.if_icmp .ge 26, 3) := by decide +kernel
theorem dX11_sea_16 : decode cX11_sea 16 = .ok (.lload_n 1, 1) := by decide +kernel
theorem dX11_sea_17 : decode cX11_sea 17 = .ok (.ldc2_w 281, 3) := by decide +kernel
theorem dX11_sea_20 : decode cX11_sea 20 = .ok (.iload_n 3, 1) := by decide +kernel
theorem dX11_sea_21 : decode cX11_sea 21 = .ok (.bipush 8, 2) := by decide +kernel
theorem dX11_sea_23 : decode cX11_sea 23 = .ok (.imul, 1) := by decide +kernel
theorem dX11_sea_24 : decode cX11_sea 24 = .ok (.lshl, 1) := by decide +kernel
theorem dX11_sea_25 : decode cX11_sea 25 = .ok (.land, 1) := by decide +kernel
theorem dX11_sea_26 : decode cX11_sea 26 = .ok (.lconst 0, 1) := by decide +kernel
theorem dX11_sea_27 : decode cX11_sea 27 = .ok (.lcmp, 1) := by decide +kernel
theorem dX11_sea_28 : decode cX11_sea 28 = .ok (.ifCond .ne 5, 3) := by decide +kernel
theorem dX11_sea_31 : decode cX11_sea 31 = .ok (.iload_n 3, 1) := by decide +kernel
theorem dX11_sea_32 : decode cX11_sea 32 = .ok (.ireturn, 1) := by decide +kernel
theorem dX11_sea_33 : decode cX11_sea 33 = .ok (.iinc 3 1, 3) := by decide +kernel
theorem dX11_sea_36 : decode cX11_sea 36 = .ok (.goto (-26), 3) := by decide +kernel
theorem dX11_sea_39 : decode cX11_sea 39 = .ok (.aload_n 0, 1) := by decide +kernel
theorem dX11_sea_40 : decode cX11_sea 40 = .ok (.ldc 254, 2) := by decide +kernel
theorem dX11_sea_42 : decode cX11_sea 42 = .ok (.invokevirtual 87, 3) := by decide +kernel
theorem dX11_sea_45 : decode cX11_sea 45 = .ok (.ireturn, 1) := by decide +kernel
theorem dX11_feed_0 : decode cX11_feed 0 = .ok (.iload_n 2, 1) := by decide +kernel
theorem dX11_feed_1 : decode cX11_feed 1 = .ok (.iconst 1, 1) := by decide +kernel
theorem dX11_feed_2 : decode cX11_feed 2 = .ok (.iconst 4, 1) := by decide +kernel
theorem dX11_feed_3 : decode cX11_feed 3 = .ok (.invokestatic 82, 3) := by decide +kernel
theorem dX11_feed_6 : decode cX11_feed 6 = .ok (.ifCond .ne 10, 3) := by decide +kernel
theorem dX11_feed_9 : decode cX11_feed 9 = .ok (.aload_n 0, 1) := by decide +kernel
theorem dX11_feed_10 : decode cX11_feed 10 = .ok (.ldc 86, 2) := by decide +kernel
theorem dX11_feed_12 : decode cX11_feed 12 = .ok (.invokevirtual 87, 3) := by decide +kernel
theorem dX11_feed_15 : decode cX11_feed 15 = .ok (.ireturn, 1) := by decide +kernel
theorem dX11_feed_16 : decode cX11_feed 16 = .ok (.aload_n 0, 1) := by decide +kernel
theorem dX11_feed_17 : decode cX11_feed 17 = .ok (.getfield 63, 3) := by decide +kernel
theorem dX11_feed_20 : decode cX11_feed 20 = .ok (.getfield 283, 3) := by decide +kernel
theorem dX11_feed_23 : decode cX11_feed 23 = .ok (.iload_n 2, 1) := by decide +kernel
theorem dX11_feed_24 : decode cX11_feed 24 = .ok (.iadd, 1) := by decide +kernel
theorem dX11_feed_25 : decode cX11_feed 25 = .ok (.bipush 120, 2) := by decide +kernel
theorem dX11_feed_27 : decode cX11_feed 27 = .ok (.if_icmp .le 10, 3) := by decide +kernel
theorem dX11_feed_30 : decode cX11_feed 30 = .ok (.aload_n 0, 1) := by decide +kernel
theorem dX11_feed_31 : decode cX11_feed 31 = .ok (.ldc 126, 2) := by decide +kernel
theorem dX11_feed_33 : decode cX11_feed 33 = .ok (.invokevirtual 87, 3) := by decide +kernel
theorem dX11_feed_36 : decode cX11_feed 36 = .ok (.ireturn, 1) := by decide +kernel
theorem dX11_feed_37 : decode cX11_feed 37 = .ok (.iload_n 2, 1) := by decide +kernel
theorem dX11_feed_38 : decode cX11_feed 38 = .ok (.iconst 1, 1) := by decide +kernel
theorem dX11_feed_39 : decode cX11_feed 39 = .ok (.isub, 1) := by decide +kernel
theorem dX11_feed_40 : decode cX11_feed 40 = .ok (.istore_n 3, 1) := by decide +kernel
theorem dX11_feed_41 : decode cX11_feed 41 = .ok (.iload_n 3, 1) := by decide +kernel
theorem dX11_feed_42 : decode cX11_feed 42 = .ok (.ifCond .lt 26, 3) := by decide +kernel
theorem dX11_feed_45 : decode cX11_feed 45 = .ok (.aload_n 0, 1) := by decide +kernel
theorem dX11_feed_46 : decode cX11_feed 46 = .ok (.getfield 63, 3) := by decide +kernel
theorem dX11_feed_49 : decode cX11_feed 49 = .ok (.iload_n 1, 1) := by decide +kernel
theorem dX11_feed_50 : decode cX11_feed 50 = .ok (.bipush 8, 2) := by decide +kernel
theorem dX11_feed_52 : decode cX11_feed 52 = .ok (.iload_n 3, 1) := by decide +kernel
theorem dX11_feed_53 : decode cX11_feed 53 = .ok (.imul, 1) := by decide +kernel
theorem dX11_feed_54 : decode cX11_feed 54 = .ok (.iushr, 1) := by decide +kernel
theorem dX11_feed_55 : decode cX11_feed 55 = .ok (.sipush 255, 3) := by decide +kernel
theorem dX11_feed_58 : decode cX11_feed 58 = .ok (.iand, 1) := by decide +kernel
theorem dX11_feed_59 : decode cX11_feed 59 = .ok (.invokevirtual 286, 3) := by decide +kernel
theorem dX11_feed_62 : decode cX11_feed 62 = .ok (.iinc 3 (-1), 3) := by decide +kernel
theorem dX11_feed_65 : decode cX11_feed 65 = .ok (.goto (-24), 3) := by decide +kernel
theorem dX11_feed_68 : decode cX11_feed 68 = .ok (.aload_n 0, 1) := by decide +kernel
theorem dX11_feed_69 : decode cX11_feed 69 = .ok (.getfield 63, 3) := by decide +kernel
theorem dX11_feed_72 : decode cX11_feed 72 = .ok (.getfield 283, 3) := by decide +kernel
theorem dX11_feed_75 : decode cX11_feed 75 = .ok (.ireturn, 1) := by decide +kernel
theorem dX11_wipe_0 : decode cX11_wipe 0 = .ok (.aload_n 0, 1) := by decide +kernel
theorem dX11_wipe_1 : decode cX11_wipe 1 = .ok (.getfield 63, 3) := by decide +kernel
theorem dX11_wipe_4 : decode cX11_wipe 4 = .ok (.getfield 283, 3) := by decide +kernel
theorem dX11_wipe_7 : decode cX11_wipe 7 = .ok (.istore_n 1, 1) := by decide +kernel
theorem dX11_wipe_8 : decode cX11_wipe 8 = .ok (.aload_n 0, 1) := by decide +kernel
theorem dX11_wipe_9 : decode cX11_wipe 9 = .ok (.getfield 63, 3) := by decide +kernel
theorem dX11_wipe_12 : decode cX11_wipe 12 = .ok (.iconst 0, 1) := by decide +kernel
theorem dX11_wipe_13 : decode cX11_wipe 13 = .ok (.putfield 283, 3) := by decide +kernel
theorem dX11_wipe_16 : decode cX11_wipe 16 = .ok (.iload_n 1, 1) := by decide +kernel
theorem dX11_wipe_17 : decode cX11_wipe 17 = .ok (.ireturn, 1) := by decide +kernel
theorem dX11_field_0 : decode cX11_field 0 = .ok (.aload_n 0, 1) := by decide +kernel
theorem dX11_field_1 : decode cX11_field 1 = .ok (.getfield 54, 3) := by decide +kernel
theorem dX11_field_4 : decode cX11_field 4 = .ok (.aload_n 0, 1) := by decide +kernel
theorem dX11_field_5 : decode cX11_field 5 = .ok (.getfield 50, 3) := by decide +kernel
theorem dX11_field_8 : decode cX11_field 8 = .ok (.invokevirtual 255, 3) := by decide +kernel
theorem dX11_field_11 : decode cX11_field 11 = .ok (.aload_n 0, 1) := by decide +kernel
theorem dX11_field_12 : decode cX11_field 12 = .ok (.getfield 63, 3) := by decide +kernel
theorem dX11_field_15 : decode cX11_field 15 = .ok (.aload_n 0, 1) := by decide +kernel
theorem dX11_field_16 : decode cX11_field 16 = .ok (.getfield 54, 3) := by decide +kernel
theorem dX11_field_19 : decode cX11_field 19 = .ok (.aload_n 0, 1) := by decide +kernel
theorem dX11_field_20 : decode cX11_field 20 = .ok (.getfield 41, 3) := by decide +kernel
theorem dX11_field_23 : decode cX11_field 23 = .ok (.invokevirtual 289, 3) := by decide +kernel
theorem dX11_field_26 : decode cX11_field 26 = .ok (.istore_n 1, 1) := by decide +kernel
theorem dX11_field_27 : decode cX11_field 27 = .ok (.aload_n 0, 1) := by decide +kernel
theorem dX11_field_28 : decode cX11_field 28 = .ok (.getfield 63, 3) := by decide +kernel
theorem dX11_field_31 : decode cX11_field 31 = .ok (.iconst 0, 1) := by decide +kernel
theorem dX11_field_32 : decode cX11_field 32 = .ok (.putfield 283, 3) := by decide +kernel
theorem dX11_field_35 : decode cX11_field 35 = .ok (.iload_n 1, 1) := by decide +kernel
theorem dX11_field_36 : decode cX11_field 36 = .ok (.ifCond .lt 21, 3) := by decide +kernel
theorem dX11_field_39 : decode cX11_field 39 = .ok (.aload_n 0, 1) := by decide +kernel
theorem dX11_field_40 : decode cX11_field 40 = .ok (.getfield 54, 3) := by decide +kernel
theorem dX11_field_43 : decode cX11_field 43 = .ok (.invokevirtual 293, 3) := by decide +kernel
theorem dX11_field_46 : decode cX11_field 46 = .ok (.aload_n 0, 1) := by decide +kernel
theorem dX11_field_47 : decode cX11_field 47 = .ok (.getfield 50, 3) := by decide +kernel
theorem dX11_field_50 : decode cX11_field 50 = .ok (.aload_n 0, 1) := by decide +kernel
theorem dX11_field_51 : decode cX11_field 51 = .ok (.getfield 54, 3) := by decide +kernel
theorem dX11_field_54 : decode cX11_field 54 = .ok (.invokevirtual 255, 3) := by decide +kernel
theorem dX11_field_57 : decode cX11_field 57 = .ok (.iload_n 1, 1) := by decide +kernel
theorem dX11_field_58 : decode cX11_field 58 = .ok (.ireturn, 1) := by decide +kernel
theorem dX11_sheet_0 : decode cX11_sheet 0 = .ok (.aload_n 0, 1) := by decide +kernel
theorem dX11_sheet_1 : decode cX11_sheet 1 = .ok (.iload_n 1, 1) := by decide +kernel
theorem dX11_sheet_2 : decode cX11_sheet 2 = .ok (.invokevirtual 296, 3) := by decide +kernel
theorem dX11_sheet_5 : decode cX11_sheet 5 = .ok (.astore 4, 2) := by decide +kernel
theorem dX11_sheet_7 : decode cX11_sheet 7 = .ok (.aload 4, 2) := by decide +kernel
theorem dX11_sheet_9 : decode cX11_sheet 9 = .ok (.ifnull 10, 3) := by decide +kernel
theorem dX11_sheet_12 : decode cX11_sheet 12 = .ok (.iload_n 2, 1) := by decide +kernel
theorem dX11_sheet_13 : decode cX11_sheet 13 = .ok (.invokestatic 300, 3) := by decide +kernel
theorem dX11_sheet_16 : decode cX11_sheet 16 = .ok (.ifCond .ne 10, 3) := by decide +kernel
theorem dX11_sheet_19 : decode cX11_sheet 19 = .ok (.aload_n 0, 1) := by decide +kernel
theorem dX11_sheet_20 : decode cX11_sheet 20 = .ok (.ldc 86, 2) := by decide +kernel
theorem dX11_sheet_22 : decode cX11_sheet 22 = .ok (.invokevirtual 87, 3) := by decide +kernel
theorem dX11_sheet_25 : decode cX11_sheet 25 = .ok (.ireturn, 1) := by decide +kernel
theorem dX11_sheet_26 : decode cX11_sheet 26 = .ok (.iload_n 3, 1) := by decide +kernel
theorem dX11_sheet_27 : decode cX11_sheet 27 = .ok (.ifCond .ge 11, 3) := by decide +kernel
theorem dX11_sheet_30 : decode cX11_sheet 30 = .ok (.aload_n 0, 1) := by decide +kernel
theorem dX11_sheet_31 : decode cX11_sheet 31 = .ok (.ldc_w 303, 3) := by decide +kernel
theorem dX11_sheet_34 : decode cX11_sheet 34 = .ok (.invokevirtual 87, 3) := by decide +kernel
theorem dX11_sheet_37 : decode cX11_sheet 37 = .ok (.ireturn, 1) := by decide +kernel
theorem dX11_sheet_38 : decode cX11_sheet 38 = .ok (.iload_n 3, 1) := by decide +kernel
theorem dX11_sheet_39 : decode cX11_sheet 39 = .ok (.bipush 40, 2) := by decide +kernel
theorem dX11_sheet_41 : decode cX11_sheet 41 = .ok (.if_icmp .le 10, 3) := by decide +kernel
theorem dX11_sheet_44 : decode cX11_sheet 44 = .ok (.aload_n 0, 1) := by decide +kernel
theorem dX11_sheet_45 : decode cX11_sheet 45 = .ok (.ldc 86, 2) := by decide +kernel
theorem dX11_sheet_47 : decode cX11_sheet 47 = .ok (.invokevirtual 87, 3) := by decide +kernel
theorem dX11_sheet_50 : decode cX11_sheet 50 = .ok (.ireturn, 1) := by decide +kernel
theorem dX11_sheet_51 : decode cX11_sheet 51 = .ok (.aload 4, 2) := by decide +kernel
theorem dX11_sheet_53 : decode cX11_sheet 53 = .ok (.iload_n 2, 1) := by decide +kernel
theorem dX11_sheet_54 : decode cX11_sheet 54 = .ok (.iload_n 2, 1) := by decide +kernel
theorem dX11_sheet_55 : decode cX11_sheet 55 = .ok (.ifCond .ne 7, 3) := by decide +kernel
theorem dX11_sheet_58 : decode cX11_sheet 58 = .ok (.iconst 0, 1) := by decide +kernel
theorem dX11_sheet_59 : decode cX11_sheet 59 = .ok (.goto 4, 3) := by decide +kernel
theorem dX11_sheet_62 : decode cX11_sheet 62 = .ok (.iload_n 3, 1) := by decide +kernel
theorem dX11_sheet_63 : decode cX11_sheet 63 = .ok (.invokevirtual 304, 3) := by decide +kernel
theorem dX11_sheet_66 : decode cX11_sheet 66 = .ok (.aload 4, 2) := by decide +kernel
theorem dX11_sheet_68 : decode cX11_sheet 68 = .ok (.getfield 307, 3) := by decide +kernel
theorem dX11_sheet_71 : decode cX11_sheet 71 = .ok (.ireturn, 1) := by decide +kernel
theorem dX11_write_0 : decode cX11_write 0 = .ok (.aload_n 0, 1) := by decide +kernel
theorem dX11_write_1 : decode cX11_write 1 = .ok (.iload_n 1, 1) := by decide +kernel
theorem dX11_write_2 : decode cX11_write 2 = .ok (.invokevirtual 296, 3) := by decide +kernel
theorem dX11_write_5 : decode cX11_write 5 = .ok (.astore 5, 2) := by decide +kernel
theorem dX11_write_7 : decode cX11_write 7 = .ok (.aload 5, 2) := by decide +kernel
theorem dX11_write_9 : decode cX11_write 9 = .ok (.ifnonnull 11, 3) := by decide +kernel
theorem dX11_write_12 : decode cX11_write 12 = .ok (.aload_n 0, 1) := by decide +kernel
theorem dX11_write_13 : decode cX11_write 13 = .ok (.ldc 86, 2) := by decide +kernel
theorem dX11_write_15 : decode cX11_write 15 = .ok (.invokevirtual 87, 3) := by decide +kernel
theorem dX11_write_18 : decode cX11_write 18 = .ok (.i2l, 1) := by decide +kernel
theorem dX11_write_19 : decode cX11_write 19 = .ok (.lreturn, 1) := by decide +kernel
theorem dX11_write_20 : decode cX11_write 20 = .ok (.aload 5, 2) := by decide +kernel
theorem dX11_write_22 : decode cX11_write 22 = .ok (.invokevirtual 308, 3) := by decide +kernel
theorem dX11_write_25 : decode cX11_write 25 = .ok (.ifCond .eq 12, 3) := by decide +kernel
theorem dX11_write_28 : decode cX11_write 28 = .ok (.aload_n 0, 1) := by decide +kernel
theorem dX11_write_29 : decode cX11_write 29 = .ok (.ldc_w 311, 3) := by decide +kernel
theorem dX11_write_32 : decode cX11_write 32 = .ok (.invokevirtual 87, 3) := by decide +kernel
theorem dX11_write_35 : decode cX11_write 35 = .ok (.i2l, 1) := by decide +kernel
theorem dX11_write_36 : decode cX11_write 36 = .ok (.lreturn, 1) := by decide +kernel
theorem dX11_write_37 : decode cX11_write 37 = .ok (.iload_n 2, 1) := by decide +kernel
theorem dX11_write_38 : decode cX11_write 38 = .ok (.iconst 0, 1) := by decide +kernel
theorem dX11_write_39 : decode cX11_write 39 = .ok (.aload 5, 2) := by decide +kernel
theorem dX11_write_41 : decode cX11_write 41 = .ok (.getfield 307, 3) := by decide +kernel
theorem dX11_write_44 : decode cX11_write 44 = .ok (.iconst 1, 1) := by decide +kernel
theorem dX11_write_45 : decode cX11_write 45 = .ok (.isub, 1) := by decide +kernel
theorem dX11_write_46 : decode cX11_write 46 = .ok (.invokestatic 82, 3) := by decide +kernel
theorem dX11_write_49 : decode cX11_write 49 = .ok (.ifCond .ne 11, 3) := by decide +kernel
theorem dX11_write_52 : decode cX11_write 52 = .ok (.aload_n 0, 1) := by decide +kernel
theorem dX11_write_53 : decode cX11_write 53 = .ok (.ldc 86, 2) := by decide +kernel
theorem dX11_write_55 : decode cX11_write 55 = .ok (.invokevirtual 87, 3) := by decide +kernel
theorem dX11_write_58 : decode cX11_write 58 = .ok (.i2l, 1) := by decide +kernel
theorem dX11_write_59 : decode cX11_write 59 = .ok (.lreturn, 1) := by decide +kernel
theorem dX11_write_60 : decode cX11_write 60 = .ok (.aload 5, 2) := by decide +kernel
theorem dX11_write_62 : decode cX11_write 62 = .ok (.getfield 312, 3) := by decide +kernel
theorem dX11_write_65 : decode cX11_write 65 = .ok (.iload_n 2, 1) := by decide +kernel
theorem dX11_write_66 : decode cX11_write 66 = .ok (.laload, 1) := by decide +kernel
theorem dX11_write_67 : decode cX11_write 67 = .ok (.lstore 6, 2) := by decide +kernel
theorem dX11_write_69 : decode cX11_write 69 = .ok (.aload 5, 2) := by decide +kernel
theorem dX11_write_71 : decode cX11_write 71 = .ok (.iload_n 2, 1) := by decide +kernel
theorem dX11_write_72 : decode cX11_write 72 = .ok (.lload_n 3, 1) := by decide +kernel
theorem dX11_write_73 : decode cX11_write 73 = .ok (.invokevirtual 316, 3) := by decide +kernel
theorem dX11_write_76 : decode cX11_write 76 = .ok (.lload 6, 2) := by decide +kernel
theorem dX11_write_78 : decode cX11_write 78 = .ok (.lreturn, 1) := by decide +kernel
theorem dX11_copy_0 : decode cX11_copy 0 = .ok (.aload_n 0, 1) := by decide +kernel
theorem dX11_copy_1 : decode cX11_copy 1 = .ok (.iload_n 1, 1) := by decide +kernel
theorem dX11_copy_2 : decode cX11_copy 2 = .ok (.invokevirtual 296, 3) := by decide +kernel
theorem dX11_copy_5 : decode cX11_copy 5 = .ok (.astore 6, 2) := by decide +kernel
theorem dX11_copy_7 : decode cX11_copy 7 = .ok (.aload_n 0, 1) := by decide +kernel
theorem dX11_copy_8 : decode cX11_copy 8 = .ok (.iload_n 3, 1) := by decide +kernel
theorem dX11_copy_9 : decode cX11_copy 9 = .ok (.invokevirtual 296, 3) := by decide +kernel
theorem dX11_copy_12 : decode cX11_copy 12 = .ok (.astore 7, 2) := by decide +kernel
theorem dX11_copy_14 : decode cX11_copy 14 = .ok (.aload 6, 2) := by decide +kernel
theorem dX11_copy_16 : decode cX11_copy 16 = .ok (.ifnull 8, 3) := by decide +kernel
theorem dX11_copy_19 : decode cX11_copy 19 = .ok (.aload 7, 2) := by decide +kernel
theorem dX11_copy_21 : decode cX11_copy 21 = .ok (.ifnonnull 10, 3) := by decide +kernel
theorem dX11_copy_24 : decode cX11_copy 24 = .ok (.aload_n 0, 1) := by decide +kernel
theorem dX11_copy_25 : decode cX11_copy 25 = .ok (.ldc 86, 2) := by decide +kernel
theorem dX11_copy_27 : decode cX11_copy 27 = .ok (.invokevirtual 87, 3) := by decide +kernel
theorem dX11_copy_30 : decode cX11_copy 30 = .ok (.ireturn, 1) := by decide +kernel
theorem dX11_copy_31 : decode cX11_copy 31 = .ok (.aload 6, 2) := by decide +kernel
theorem dX11_copy_33 : decode cX11_copy 33 = .ok (.invokevirtual 308, 3) := by decide +kernel
theorem dX11_copy_36 : decode cX11_copy 36 = .ok (.ifCond .ne 11, 3) := by decide +kernel
theorem dX11_copy_39 : decode cX11_copy 39 = .ok (.aload 7, 2) := by decide +kernel
theorem dX11_copy_41 : decode cX11_copy 41 = .ok (.invokevirtual 308, 3) := by decide +kernel
theorem dX11_copy_44 : decode cX11_copy 44 = .ok (.ifCond .eq 11, 3) := by decide +kernel
theorem dX11_copy_47 : decode cX11_copy 47 = .ok (.aload_n 0, 1) := by decide +kernel
theorem dX11_copy_48 : decode cX11_copy 48 = .ok (.ldc_w 311, 3) := by decide +kernel
theorem dX11_copy_51 : decode cX11_copy 51 = .ok (.invokevirtual 87, 3) := by decide +kernel
theorem dX11_copy_54 : decode cX11_copy 54 = .ok (.ireturn, 1) := by decide +kernel
theorem dX11_copy_55 : decode cX11_copy 55 = .ok (.aload 6, 2) := by decide +kernel
theorem dX11_copy_57 : decode cX11_copy 57 = .ok (.getfield 320, 3) := by decide +kernel
theorem dX11_copy_60 : decode cX11_copy 60 = .ok (.aload 7, 2) := by decide +kernel
theorem dX11_copy_62 : decode cX11_copy 62 = .ok (.getfield 320, 3) := by decide +kernel
theorem dX11_copy_65 : decode cX11_copy 65 = .ok (.if_icmp .eq 10, 3) := by decide +kernel
theorem dX11_copy_68 : decode cX11_copy 68 = .ok (.aload_n 0, 1) := by decide +kernel
theorem dX11_copy_69 : decode cX11_copy 69 = .ok (.ldc 216, 2) := by decide +kernel
theorem dX11_copy_71 : decode cX11_copy 71 = .ok (.invokevirtual 87, 3) := by decide +kernel
theorem dX11_copy_74 : decode cX11_copy 74 = .ok (.ireturn, 1) := by decide +kernel
theorem dX11_copy_75 : decode cX11_copy 75 = .ok (.aload 6, 2) := by decide +kernel
theorem dX11_copy_77 : decode cX11_copy 77 = .ok (.iload_n 2, 1) := by decide +kernel
theorem dX11_copy_78 : decode cX11_copy 78 = .ok (.iload 5, 2) := by decide +kernel
theorem dX11_copy_80 : decode cX11_copy 80 = .ok (.invokevirtual 323, 3) := by decide +kernel
theorem dX11_copy_83 : decode cX11_copy 83 = .ok (.ifCond .eq 15, 3) := by decide +kernel
theorem dX11_copy_86 : decode cX11_copy 86 = .ok (.aload 7, 2) := by decide +kernel
theorem dX11_copy_88 : decode cX11_copy 88 = .ok (.iload 4, 2) := by decide +kernel
theorem dX11_copy_90 : decode cX11_copy 90 = .ok (.iload 5, 2) := by decide +kernel
theorem dX11_copy_92 : decode cX11_copy 92 = .ok (.invokevirtual 323, 3) := by decide +kernel
theorem dX11_copy_95 : decode cX11_copy 95 = .ok (.ifCond .ne 10, 3) := by decide +kernel
theorem dX11_copy_98 : decode cX11_copy 98 = .ok (.aload_n 0, 1) := by decide +kernel
theorem dX11_copy_99 : decode cX11_copy 99 = .ok (.ldc 86, 2) := by decide +kernel
theorem dX11_copy_101 : decode cX11_copy 101 = .ok (.invokevirtual 87, 3) := by decide +kernel
theorem dX11_copy_104 : decode cX11_copy 104 = .ok (.ireturn, 1) := by decide +kernel
theorem dX11_copy_105 : decode cX11_copy 105 = .ok (.aload 6, 2) := by decide +kernel
theorem dX11_copy_107 : decode cX11_copy 107 = .ok (.getfield 312, 3) := by decide +kernel
theorem dX11_copy_110 : decode cX11_copy 110 = .ok (.iload_n 2, 1) := by decide +kernel
theorem dX11_copy_111 : decode cX11_copy 111 = .ok (.aload 7, 2) := by decide +kernel
theorem dX11_copy_113 : decode cX11_copy 113 = .ok (.getfield 312, 3) := by decide +kernel
theorem dX11_copy_116 : decode cX11_copy 116 = .ok (.iload 4, 2) := by decide +kernel
theorem dX11_copy_118 : decode cX11_copy 118 = .ok (.iload 5, 2) := by decide +kernel
theorem dX11_copy_120 : decode cX11_copy 120 = .ok (.invokestatic 326, 3) := by decide +kernel
theorem dX11_copy_123 : decode cX11_copy 123 = .ok (.iload 5, 2) := by decide +kernel
theorem dX11_copy_125 : decode cX11_copy 125 = .ok (.ireturn, 1) := by decide +kernel
theorem dX11_lays_0 : decode cX11_lays 0 = .ok (.aload_n 0, 1) := by decide +kernel
theorem dX11_lays_1 : decode cX11_lays 1 = .ok (.iload_n 1, 1) := by decide +kernel
theorem dX11_lays_2 : decode cX11_lays 2 = .ok (.invokevirtual 296, 3) := by decide +kernel
theorem dX11_lays_5 : decode cX11_lays 5 = .ok (.astore_n 2, 1) := by decide +kernel
theorem dX11_lays_6 : decode cX11_lays 6 = .ok (.aload_n 2, 1) := by decide +kernel
theorem dX11_lays_7 : decode cX11_lays 7 = .ok (.ifnonnull 10, 3) := by decide +kernel
theorem dX11_lays_10 : decode cX11_lays 10 = .ok (.aload_n 0, 1) := by decide +kernel
theorem dX11_lays_11 : decode cX11_lays 11 = .ok (.ldc 86, 2) := by decide +kernel
theorem dX11_lays_13 : decode cX11_lays 13 = .ok (.invokevirtual 87, 3) := by decide +kernel
theorem dX11_lays_16 : decode cX11_lays 16 = .ok (.ireturn, 1) := by decide +kernel
theorem dX11_lays_17 : decode cX11_lays 17 = .ok (.aload_n 2, 1) := by decide +kernel
theorem dX11_lays_18 : decode cX11_lays 18 = .ok (.invokevirtual 308, 3) := by decide +kernel
theorem dX11_lays_21 : decode cX11_lays 21 = .ok (.ifCond .eq 11, 3) := by decide +kernel
theorem dX11_lays_24 : decode cX11_lays 24 = .ok (.aload_n 0, 1) := by decide +kernel
theorem dX11_lays_25 : decode cX11_lays 25 = .ok (.ldc_w 311, 3) := by decide +kernel
theorem dX11_lays_28 : decode cX11_lays 28 = .ok (.invokevirtual 87, 3) := by decide +kernel
theorem dX11_lays_31 : decode cX11_lays 31 = .ok (.ireturn, 1) := by decide +kernel
theorem dX11_lays_32 : decode cX11_lays 32 = .ok (.iconst 0, 1) := by decide +kernel
theorem dX11_lays_33 : decode cX11_lays 33 = .ok (.istore_n 3, 1) := by decide +kernel
theorem dX11_lays_34 : decode cX11_lays 34 = .ok (.iconst 0, 1) := by decide +kernel
theorem dX11_lays_35 : decode cX11_lays 35 = .ok (.istore 4, 2) := by decide +kernel
theorem dX11_lays_37 : decode cX11_lays 37 = .ok (.iload 4, 2) := by decide +kernel
theorem dX11_lays_39 : decode cX11_lays 39 = .ok (.aload_n 2, 1) := by decide +kernel
theorem dX11_lays_40 : decode cX11_lays 40 = .ok (.getfield 307, 3) := by decide +kernel
theorem dX11_lays_43 : decode cX11_lays 43 = .ok (.if_icmp .ge 61, 3) := by decide +kernel
theorem dX11_lays_46 : decode cX11_lays 46 = .ok (.aload_n 0, 1) := by decide +kernel
theorem dX11_lays_47 : decode cX11_lays 47 = .ok (.getfield 50, 3) := by decide +kernel
theorem dX11_lays_50 : decode cX11_lays 50 = .ok (.iload 4, 2) := by decide +kernel
theorem dX11_lays_52 : decode cX11_lays 52 = .ok (.invokevirtual 131, 3) := by decide +kernel
theorem dX11_lays_55 : decode cX11_lays 55 = .ok (.astore 5, 2) := by decide +kernel
theorem dX11_lays_57 : decode cX11_lays 57 = .ok (.aload_n 2, 1) := by decide +kernel
theorem dX11_lays_58 : decode cX11_lays 58 = .ok (.getfield 312, 3) := by decide +kernel
theorem dX11_lays_61 : decode cX11_lays 61 = .ok (.iload 4, 2) := by decide +kernel
theorem dX11_lays_63 : decode cX11_lays 63 = .ok (.laload, 1) := by decide +kernel
theorem dX11_lays_64 : decode cX11_lays 64 = .ok (.lstore 6, 2) := by decide +kernel
theorem dX11_lays_66 : decode cX11_lays 66 = .ok (.aload 5, 2) := by decide +kernel
theorem dX11_lays_68 : decode cX11_lays 68 = .ok (.ifnull 30, 3) := by decide +kernel
theorem dX11_lays_71 : decode cX11_lays 71 = .ok (.lload 6, 2) := by decide +kernel
theorem dX11_lays_73 : decode cX11_lays 73 = .ok (.lconst 0, 1) := by decide +kernel
theorem dX11_lays_74 : decode cX11_lays 74 = .ok (.lcmp, 1) := by decide +kernel
theorem dX11_lays_75 : decode cX11_lays 75 = .ok (.ifCond .lt 23, 3) := by decide +kernel
theorem dX11_lays_78 : decode cX11_lays 78 = .ok (.lload 6, 2) := by decide +kernel
theorem dX11_lays_80 : decode cX11_lays 80 = .ok (.ldc2_w 332, 3) := by decide +kernel
theorem dX11_lays_83 : decode cX11_lays 83 = .ok (.lcmp, 1) := by decide +kernel
theorem dX11_lays_84 : decode cX11_lays 84 = .ok (.ifCond .gt 14, 3) := by decide +kernel
theorem dX11_lays_87 : decode cX11_lays 87 = .ok (.aload 5, 2) := by decide +kernel
theorem dX11_lays_89 : decode cX11_lays 89 = .ok (.lload 6, 2) := by decide +kernel
theorem dX11_lays_91 : decode cX11_lays 91 = .ok (.l2i, 1) := by decide +kernel
theorem dX11_lays_92 : decode cX11_lays 92 = .ok (.putfield 163, 3) := by decide +kernel
theorem dX11_lays_95 : decode cX11_lays 95 = .ok (.iinc 3 1, 3) := by decide +kernel
theorem dX11_lays_98 : decode cX11_lays 98 = .ok (.iinc 4 1, 3) := by decide +kernel
theorem dX11_lays_101 : decode cX11_lays 101 = .ok (.goto (-64), 3) := by decide +kernel
theorem dX11_lays_104 : decode cX11_lays 104 = .ok (.iload_n 3, 1) := by decide +kernel
theorem dX11_lays_105 : decode cX11_lays 105 = .ok (.ireturn, 1) := by decide +kernel
theorem dX11_book_0 : decode cX11_book 0 = .ok (.aload_n 0, 1) := by decide +kernel
theorem dX11_book_1 : decode cX11_book 1 = .ok (.iload_n 1, 1) := by decide +kernel
theorem dX11_book_2 : decode cX11_book 2 = .ok (.invokevirtual 296, 3) := by decide +kernel
theorem dX11_book_5 : decode cX11_book 5 = .ok (.astore_n 3, 1) := by decide +kernel
theorem dX11_book_6 : decode cX11_book 6 = .ok (.aload_n 3, 1) := by decide +kernel
theorem dX11_book_7 : decode cX11_book 7 = .ok (.ifnonnull 10, 3) := by decide +kernel
theorem dX11_book_10 : decode cX11_book 10 = .ok (.aload_n 0, 1) := by decide +kernel
theorem dX11_book_11 : decode cX11_book 11 = .ok (.ldc 86, 2) := by decide +kernel
theorem dX11_book_13 : decode cX11_book 13 = .ok (.invokevirtual 87, 3) := by decide +kernel
theorem dX11_book_16 : decode cX11_book 16 = .ok (.ireturn, 1) := by decide +kernel
theorem dX11_book_17 : decode cX11_book 17 = .ok (.aload_n 3, 1) := by decide +kernel
theorem dX11_book_18 : decode cX11_book 18 = .ok (.invokevirtual 308, 3) := by decide +kernel
theorem dX11_book_21 : decode cX11_book 21 = .ok (.ifCond .eq 11, 3) := by decide +kernel
theorem dX11_book_24 : decode cX11_book 24 = .ok (.aload_n 0, 1) := by decide +kernel
theorem dX11_book_25 : decode cX11_book 25 = .ok (.ldc_w 311, 3) := by decide +kernel
theorem dX11_book_28 : decode cX11_book 28 = .ok (.invokevirtual 87, 3) := by decide +kernel
theorem dX11_book_31 : decode cX11_book 31 = .ok (.ireturn, 1) := by decide +kernel
theorem dX11_book_32 : decode cX11_book 32 = .ok (.aload_n 0, 1) := by decide +kernel
theorem dX11_book_33 : decode cX11_book 33 = .ok (.iload_n 2, 1) := by decide +kernel
theorem dX11_book_34 : decode cX11_book 34 = .ok (.invokevirtual 245, 3) := by decide +kernel
theorem dX11_book_37 : decode cX11_book 37 = .ok (.astore 4, 2) := by decide +kernel
theorem dX11_book_39 : decode cX11_book 39 = .ok (.aload 4, 2) := by decide +kernel
theorem dX11_book_41 : decode cX11_book 41 = .ok (.ifnonnull 10, 3) := by decide +kernel
theorem dX11_book_44 : decode cX11_book 44 = .ok (.aload_n 0, 1) := by decide +kernel
theorem dX11_book_45 : decode cX11_book 45 = .ok (.ldc 86, 2) := by decide +kernel
theorem dX11_book_47 : decode cX11_book 47 = .ok (.invokevirtual 87, 3) := by decide +kernel
theorem dX11_book_50 : decode cX11_book 50 = .ok (.ireturn, 1) := by decide +kernel
theorem dX11_book_51 : decode cX11_book 51 = .ok (.iconst 0, 1) := by decide +kernel
theorem dX11_book_52 : decode cX11_book 52 = .ok (.istore 5, 2) := by decide +kernel
theorem dX11_book_54 : decode cX11_book 54 = .ok (.iload 5, 2) := by decide +kernel
theorem dX11_book_56 : decode cX11_book 56 = .ok (.aload_n 3, 1) := by decide +kernel
theorem dX11_book_57 : decode cX11_book 57 = .ok (.getfield 307, 3) := by decide +kernel
theorem dX11_book_60 : decode cX11_book 60 = .ok (.if_icmp .ge 28, 3) := by decide +kernel
theorem dX11_book_63 : decode cX11_book 63 = .ok (.aload_n 3, 1) := by decide +kernel
theorem dX11_book_64 : decode cX11_book 64 = .ok (.iload 5, 2) := by decide +kernel
theorem dX11_book_66 : decode cX11_book 66 = .ok (.aload 4, 2) := by decide +kernel
theorem dX11_book_68 : decode cX11_book 68 = .ok (.getfield 166, 3) := by decide +kernel
theorem dX11_book_71 : decode cX11_book 71 = .ok (.i2l, 1) := by decide +kernel
theorem dX11_book_72 : decode cX11_book 72 = .ok (.invokevirtual 316, 3) := by decide +kernel
theorem dX11_book_75 : decode cX11_book 75 = .ok (.aload_n 0, 1) := by decide +kernel
theorem dX11_book_76 : decode cX11_book 76 = .ok (.getfield 54, 3) := by decide +kernel
theorem dX11_book_79 : decode cX11_book 79 = .ok (.invokevirtual 251, 3) := by decide +kernel
theorem dX11_book_82 : decode cX11_book 82 = .ok (.iinc 5 1, 3) := by decide +kernel
theorem dX11_book_85 : decode cX11_book 85 = .ok (.goto (-31), 3) := by decide +kernel
theorem dX11_book_88 : decode cX11_book 88 = .ok (.aload_n 3, 1) := by decide +kernel
theorem dX11_book_89 : decode cX11_book 89 = .ok (.getfield 307, 3) := by decide +kernel
theorem dX11_book_92 : decode cX11_book 92 = .ok (.ireturn, 1) := by decide +kernel
theorem dX11_read_0 : decode cX11_read 0 = .ok (.aload_n 0, 1) := by decide +kernel
theorem dX11_read_1 : decode cX11_read 1 = .ok (.iload_n 1, 1) := by decide +kernel
theorem dX11_read_2 : decode cX11_read 2 = .ok (.invokevirtual 296, 3) := by decide +kernel
theorem dX11_read_5 : decode cX11_read 5 = .ok (.astore_n 3, 1) := by decide +kernel
theorem dX11_read_6 : decode cX11_read 6 = .ok (.aload_n 3, 1) := by decide +kernel
theorem dX11_read_7 : decode cX11_read 7 = .ok (.ifnonnull 10, 3) := by decide +kernel
theorem dX11_read_10 : decode cX11_read 10 = .ok (.aload_n 0, 1) := by decide +kernel
theorem dX11_read_11 : decode cX11_read 11 = .ok (.ldc 86, 2) := by decide +kernel
theorem dX11_read_13 : decode cX11_read 13 = .ok (.invokevirtual 87, 3) := by decide +kernel
theorem dX11_read_16 : decode cX11_read 16 = .ok (.ireturn, 1) := by decide +kernel
theorem dX11_read_17 : decode cX11_read 17 = .ok (.aload_n 3, 1) := by decide +kernel
theorem dX11_read_18 : decode cX11_read 18 = .ok (.invokevirtual 308, 3) := by decide +kernel
theorem dX11_read_21 : decode cX11_read 21 = .ok (.ifCond .eq 11, 3) := by decide +kernel
theorem dX11_read_24 : decode cX11_read 24 = .ok (.aload_n 0, 1) := by decide +kernel
theorem dX11_read_25 : decode cX11_read 25 = .ok (.ldc_w 311, 3) := by decide +kernel
theorem dX11_read_28 : decode cX11_read 28 = .ok (.invokevirtual 87, 3) := by decide +kernel
theorem dX11_read_31 : decode cX11_read 31 = .ok (.ireturn, 1) := by decide +kernel
theorem dX11_read_32 : decode cX11_read 32 = .ok (.aload_n 0, 1) := by decide +kernel
theorem dX11_read_33 : decode cX11_read 33 = .ok (.getfield 50, 3) := by decide +kernel
theorem dX11_read_36 : decode cX11_read 36 = .ok (.iload_n 2, 1) := by decide +kernel
theorem dX11_read_37 : decode cX11_read 37 = .ok (.invokevirtual 131, 3) := by decide +kernel
theorem dX11_read_40 : decode cX11_read 40 = .ok (.ifnonnull 10, 3) := by decide +kernel
theorem dX11_read_43 : decode cX11_read 43 = .ok (.aload_n 0, 1) := by decide +kernel
theorem dX11_read_44 : decode cX11_read 44 = .ok (.ldc 86, 2) := by decide +kernel
theorem dX11_read_46 : decode cX11_read 46 = .ok (.invokevirtual 87, 3) := by decide +kernel
theorem dX11_read_49 : decode cX11_read 49 = .ok (.ireturn, 1) := by decide +kernel
theorem dX11_read_50 : decode cX11_read 50 = .ok (.iconst 0, 1) := by decide +kernel
theorem dX11_read_51 : decode cX11_read 51 = .ok (.istore 4, 2) := by decide +kernel
theorem dX11_read_53 : decode cX11_read 53 = .ok (.iconst 0, 1) := by decide +kernel
theorem dX11_read_54 : decode cX11_read 54 = .ok (.istore 5, 2) := by decide +kernel
theorem dX11_read_56 : decode cX11_read 56 = .ok (.iload 5, 2) := by decide +kernel
theorem dX11_read_58 : decode cX11_read 58 = .ok (.aload_n 0, 1) := by decide +kernel
theorem dX11_read_59 : decode cX11_read 59 = .ok (.getfield 41, 3) := by decide +kernel
theorem dX11_read_62 : decode cX11_read 62 = .ok (.arraylength, 1) := by decide +kernel
theorem dX11_read_63 : decode cX11_read 63 = .ok (.if_icmp .ge 46, 3) := by decide +kernel
theorem dX11_read_66 : decode cX11_read 66 = .ok (.iconst 0, 1) := by decide +kernel
theorem dX11_read_67 : decode cX11_read 67 = .ok (.istore 6, 2) := by decide +kernel
theorem dX11_read_69 : decode cX11_read 69 = .ok (.iload 6, 2) := by decide +kernel
theorem dX11_read_71 : decode cX11_read 71 = .ok (.bipush 48, 2) := by decide +kernel
theorem dX11_read_73 : decode cX11_read 73 = .ok (.if_icmp .ge 30, 3) := by decide +kernel
theorem dX11_read_76 : decode cX11_read 76 = .ok (.aload_n 0, 1) := by decide +kernel
theorem dX11_read_77 : decode cX11_read 77 = .ok (.aload_n 3, 1) := by decide +kernel
theorem dX11_read_78 : decode cX11_read 78 = .ok (.iload_n 2, 1) := by decide +kernel
theorem dX11_read_79 : decode cX11_read 79 = .ok (.aload_n 0, 1) := by decide +kernel
theorem dX11_read_80 : decode cX11_read 80 = .ok (.getfield 41, 3) := by decide +kernel
theorem dX11_read_83 : decode cX11_read 83 = .ok (.iload 5, 2) := by decide +kernel
theorem dX11_read_85 : decode cX11_read 85 = .ok (.aaload, 1) := by decide +kernel
theorem dX11_read_86 : decode cX11_read 86 = .ok (.iload 6, 2) := by decide +kernel
theorem dX11_read_88 : decode cX11_read 88 = .ok (.invokevirtual 334, 3) := by decide +kernel
theorem dX11_read_91 : decode cX11_read 91 = .ok (.ifCond .eq 6, 3) := by decide +kernel
theorem dX11_read_94 : decode cX11_read 94 = .ok (.iinc 4 1, 3) := by decide +kernel
theorem dX11_read_97 : decode cX11_read 97 = .ok (.iinc 6 1, 3) := by decide +kernel
theorem dX11_read_100 : decode cX11_read 100 = .ok (.goto (-31), 3) := by decide +kernel
theorem dX11_read_103 : decode cX11_read 103 = .ok (.iinc 5 1, 3) := by decide +kernel
theorem dX11_read_106 : decode cX11_read 106 = .ok (.goto (-50), 3) := by decide +kernel
theorem dX11_read_109 : decode cX11_read 109 = .ok (.iload 4, 2) := by decide +kernel
theorem dX11_read_111 : decode cX11_read 111 = .ok (.ireturn, 1) := by decide +kernel
theorem dX11_image_0 : decode cX11_image 0 = .ok (.aload_n 0, 1) := by decide +kernel
theorem dX11_image_1 : decode cX11_image 1 = .ok (.getfield 57, 3) := by decide +kernel
theorem dX11_image_4 : decode cX11_image 4 = .ok (.aload_n 0, 1) := by decide +kernel
theorem dX11_image_5 : decode cX11_image 5 = .ok (.getfield 50, 3) := by decide +kernel
theorem dX11_image_8 : decode cX11_image 8 = .ok (.invokevirtual 255, 3) := by decide +kernel
theorem dX11_image_11 : decode cX11_image 11 = .ok (.aload_n 0, 1) := by decide +kernel
theorem dX11_image_12 : decode cX11_image 12 = .ok (.iconst 1, 1) := by decide +kernel
theorem dX11_image_13 : decode cX11_image 13 = .ok (.putfield 338, 3) := by decide +kernel
theorem dX11_image_16 : decode cX11_image 16 = .ok (.iconst 1, 1) := by decide +kernel
theorem dX11_image_17 : decode cX11_image 17 = .ok (.ireturn, 1) := by decide +kernel
theorem dX11_undo_0 : decode cX11_undo 0 = .ok (.aload_n 0, 1) := by decide +kernel
theorem dX11_undo_1 : decode cX11_undo 1 = .ok (.getfield 338, 3) := by decide +kernel
theorem dX11_undo_4 : decode cX11_undo 4 = .ok (.ifCond .ne 10, 3) := by decide +kernel
theorem dX11_undo_7 : decode cX11_undo 7 = .ok (.aload_n 0, 1) := by decide +kernel
theorem dX11_undo_8 : decode cX11_undo 8 = .ok (.ldc 254, 2) := by decide +kernel
theorem dX11_undo_10 : decode cX11_undo 10 = .ok (.invokevirtual 87, 3) := by decide +kernel
theorem dX11_undo_13 : decode cX11_undo 13 = .ok (.ireturn, 1) := by decide +kernel
theorem dX11_undo_14 : decode cX11_undo 14 = .ok (.aload_n 0, 1) := by decide +kernel
theorem dX11_undo_15 : decode cX11_undo 15 = .ok (.getfield 50, 3) := by decide +kernel
theorem dX11_undo_18 : decode cX11_undo 18 = .ok (.aload_n 0, 1) := by decide +kernel
theorem dX11_undo_19 : decode cX11_undo 19 = .ok (.getfield 57, 3) := by decide +kernel
theorem dX11_undo_22 : decode cX11_undo 22 = .ok (.invokevirtual 255, 3) := by decide +kernel
theorem dX11_undo_25 : decode cX11_undo 25 = .ok (.aload_n 0, 1) := by decide +kernel
theorem dX11_undo_26 : decode cX11_undo 26 = .ok (.getfield 50, 3) := by decide +kernel
theorem dX11_undo_29 : decode cX11_undo 29 = .ok (.getfield 127, 3) := by decide +kernel
theorem dX11_undo_32 : decode cX11_undo 32 = .ok (.ireturn, 1) := by decide +kernel
theorem dX11_tear_0 : decode cX11_tear 0 = .ok (.aload_n 0, 1) := by decide +kernel
theorem dX11_tear_1 : decode cX11_tear 1 = .ok (.getfield 338, 3) := by decide +kernel
theorem dX11_tear_4 : decode cX11_tear 4 = .ok (.ifCond .eq 7, 3) := by decide +kernel
theorem dX11_tear_7 : decode cX11_tear 7 = .ok (.iconst 1, 1) := by decide +kernel
theorem dX11_tear_8 : decode cX11_tear 8 = .ok (.goto 4, 3) := by decide +kernel
theorem dX11_tear_11 : decode cX11_tear 11 = .ok (.iconst 0, 1) := by decide +kernel
theorem dX11_tear_12 : decode cX11_tear 12 = .ok (.istore_n 1, 1) := by decide +kernel
theorem dX11_tear_13 : decode cX11_tear 13 = .ok (.aload_n 0, 1) := by decide +kernel
theorem dX11_tear_14 : decode cX11_tear 14 = .ok (.iconst 0, 1) := by decide +kernel
theorem dX11_tear_15 : decode cX11_tear 15 = .ok (.putfield 338, 3) := by decide +kernel
theorem dX11_tear_18 : decode cX11_tear 18 = .ok (.iload_n 1, 1) := by decide +kernel
theorem dX11_tear_19 : decode cX11_tear 19 = .ok (.ireturn, 1) := by decide +kernel
theorem dX11_count_0 : decode cX11_count 0 = .ok (.iload_n 1, 1) := by decide +kernel
theorem dX11_count_1 : decode cX11_count 1 = .ok (.tableswitch 63 0 3 #[31, 39, 47, 55], 31) := by decide +kernel
theorem dX11_count_32 : decode cX11_count 32 = .ok (.aload_n 0, 1) := by decide +kernel
theorem dX11_count_33 : decode cX11_count 33 = .ok (.getfield 50, 3) := by decide +kernel
theorem dX11_count_36 : decode cX11_count 36 = .ok (.getfield 127, 3) := by decide +kernel
theorem dX11_count_39 : decode cX11_count 39 = .ok (.ireturn, 1) := by decide +kernel
theorem dX11_count_40 : decode cX11_count 40 = .ok (.aload_n 0, 1) := by decide +kernel
theorem dX11_count_41 : decode cX11_count 41 = .ok (.getfield 63, 3) := by decide +kernel
theorem dX11_count_44 : decode cX11_count 44 = .ok (.getfield 283, 3) := by decide +kernel
theorem dX11_count_47 : decode cX11_count 47 = .ok (.ireturn, 1) := by decide +kernel
theorem dX11_count_48 : decode cX11_count 48 = .ok (.aload_n 0, 1) := by decide +kernel
theorem dX11_count_49 : decode cX11_count 49 = .ok (.getfield 50, 3) := by decide +kernel
theorem dX11_count_52 : decode cX11_count 52 = .ok (.invokevirtual 342, 3) := by decide +kernel
theorem dX11_count_55 : decode cX11_count 55 = .ok (.ireturn, 1) := by decide +kernel
theorem dX11_count_56 : decode cX11_count 56 = .ok (.aload_n 0, 1) := by decide +kernel
theorem dX11_count_57 : decode cX11_count 57 = .ok (.getfield 50, 3) := by decide +kernel
theorem dX11_count_60 : decode cX11_count 60 = .ok (.invokevirtual 345, 3) := by decide +kernel
theorem dX11_count_63 : decode cX11_count 63 = .ok (.ireturn, 1) := by decide +kernel
theorem dX11_count_64 : decode cX11_count 64 = .ok (.aload_n 0, 1) := by decide +kernel
theorem dX11_count_65 : decode cX11_count 65 = .ok (.ldc 86, 2) := by decide +kernel
theorem dX11_count_67 : decode cX11_count 67 = .ok (.invokevirtual 87, 3) := by decide +kernel
theorem dX11_count_70 : decode cX11_count 70 = .ok (.ireturn, 1) := by decide +kernel
theorem dX11_status_0 : decode cX11_status 0 = .ok (.iload_n 1, 1) := by decide +kernel
theorem dX11_status_1 : decode cX11_status 1 = .ok (.iconst (-1), 1) := by decide +kernel
theorem dX11_status_2 : decode cX11_status 2 = .ok (.if_icmp .ne 33, 3) := by decide +kernel
theorem dX11_status_5 : decode cX11_status 5 = .ok (.iconst 0, 1) := by decide +kernel
theorem dX11_status_6 : decode cX11_status 6 = .ok (.istore_n 2, 1) := by decide +kernel
theorem dX11_status_7 : decode cX11_status 7 = .ok (.iconst 0, 1) := by decide +kernel
theorem dX11_status_8 : decode cX11_status 8 = .ok (.istore_n 3, 1) := by decide +kernel
theorem dX11_status_9 : decode cX11_status 9 = .ok (.iload_n 3, 1) := by decide +kernel
theorem dX11_status_10 : decode cX11_status 10 = .ok (.aload_n 0, 1) := by decide +kernel
theorem dX11_status_11 : decode cX11_status 11 = .ok (.getfield 74, 3) := by decide +kernel
theorem dX11_status_14 : decode cX11_status 14 = .ok (.arraylength, 1) := by decide +kernel
theorem dX11_status_15 : decode cX11_status 15 = .ok (.if_icmp .ge 18, 3) := by decide +kernel
theorem dX11_status_18 : decode cX11_status 18 = .ok (.iload_n 2, 1) := by decide +kernel
theorem dX11_status_19 : decode cX11_status 19 = .ok (.aload_n 0, 1) := by decide +kernel
theorem dX11_status_20 : decode cX11_status 20 = .ok (.getfield 74, 3) := by decide +kernel
theorem dX11_status_23 : decode cX11_status 23 = .ok (.iload_n 3, 1) := by decide +kernel
theorem dX11_status_24 : decode cX11_status 24 = .ok (.iaload, 1) := by decide +kernel
theorem dX11_status_25 : decode cX11_status 25 = .ok (.iadd, 1) := by decide +kernel
theorem dX11_status_26 : decode cX11_status 26 = .ok (.istore_n 2, 1) := by decide +kernel
theorem dX11_status_27 : decode cX11_status 27 = .ok (.iinc 3 1, 3) := by decide +kernel
theorem dX11_status_30 : decode cX11_status 30 = .ok (.goto (-21), 3) := by decide +kernel
theorem dX11_status_33 : decode cX11_status 33 = .ok (.iload_n 2, 1) := by decide +kernel
theorem dX11_status_34 : decode cX11_status 34 = .ok (.ireturn, 1) := by decide +kernel
theorem dX11_status_35 : decode cX11_status 35 = .ok (.iload_n 1, 1) := by decide +kernel
theorem dX11_status_36 : decode cX11_status 36 = .ok (.ifCond .lt 12, 3) := by decide +kernel
theorem dX11_status_39 : decode cX11_status 39 = .ok (.iload_n 1, 1) := by decide +kernel
theorem dX11_status_40 : decode cX11_status 40 = .ok (.aload_n 0, 1) := by decide +kernel
theorem dX11_status_41 : decode cX11_status 41 = .ok (.getfield 74, 3) := by decide +kernel
theorem dX11_status_44 : decode cX11_status 44 = .ok (.arraylength, 1) := by decide +kernel
theorem dX11_status_45 : decode cX11_status 45 = .ok (.if_icmp .lt 10, 3) := by decide +kernel
theorem dX11_status_48 : decode cX11_status 48 = .ok (.aload_n 0, 1) := by decide +kernel
theorem dX11_status_49 : decode cX11_status 49 = .ok (.ldc 86, 2) := by decide +kernel
theorem dX11_status_51 : decode cX11_status 51 = .ok (.invokevirtual 87, 3) := by decide +kernel
theorem dX11_status_54 : decode cX11_status 54 = .ok (.ireturn, 1) := by decide +kernel
theorem dX11_status_55 : decode cX11_status 55 = .ok (.aload_n 0, 1) := by decide +kernel
theorem dX11_status_56 : decode cX11_status 56 = .ok (.getfield 74, 3) := by decide +kernel
theorem dX11_status_59 : decode cX11_status 59 = .ok (.iload_n 1, 1) := by decide +kernel
theorem dX11_status_60 : decode cX11_status 60 = .ok (.iaload, 1) := by decide +kernel
theorem dX11_status_61 : decode cX11_status 61 = .ok (.ireturn, 1) := by decide +kernel
theorem dX11_finding_0 : decode cX11_finding 0 = .ok (.ldc 86, 2) := by decide +kernel
theorem dX11_finding_2 : decode cX11_finding 2 = .ok (.iload_n 1, 1) := by decide +kernel
theorem dX11_finding_3 : decode cX11_finding 3 = .ok (.isub, 1) := by decide +kernel
theorem dX11_finding_4 : decode cX11_finding 4 = .ok (.istore_n 2, 1) := by decide +kernel
theorem dX11_finding_5 : decode cX11_finding 5 = .ok (.iload_n 2, 1) := by decide +kernel
theorem dX11_finding_6 : decode cX11_finding 6 = .ok (.ifCond .lt 22, 3) := by decide +kernel
theorem dX11_finding_9 : decode cX11_finding 9 = .ok (.iload_n 2, 1) := by decide +kernel
theorem dX11_finding_10 : decode cX11_finding 10 = .ok (.aload_n 0, 1) := by decide +kernel
theorem dX11_finding_11 : decode cX11_finding 11 = .ok (.getfield 74, 3) := by decide +kernel
theorem dX11_finding_14 : decode cX11_finding 14 = .ok (.arraylength, 1) := by decide +kernel
theorem dX11_finding_15 : decode cX11_finding 15 = .ok (.if_icmp .ge 13, 3) := by decide +kernel
theorem dX11_finding_18 : decode cX11_finding 18 = .ok (.aload_n 0, 1) := by decide +kernel
theorem dX11_finding_19 : decode cX11_finding 19 = .ok (.getfield 74, 3) := by decide +kernel
theorem dX11_finding_22 : decode cX11_finding 22 = .ok (.iload_n 2, 1) := by decide +kernel
theorem dX11_finding_23 : decode cX11_finding 23 = .ok (.dup2, 1) := by decide +kernel
theorem dX11_finding_24 : decode cX11_finding 24 = .ok (.iaload, 1) := by decide +kernel
theorem dX11_finding_25 : decode cX11_finding 25 = .ok (.iconst 1, 1) := by decide +kernel
theorem dX11_finding_26 : decode cX11_finding 26 = .ok (.iadd, 1) := by decide +kernel
theorem dX11_finding_27 : decode cX11_finding 27 = .ok (.iastore, 1) := by decide +kernel
theorem dX11_finding_28 : decode cX11_finding 28 = .ok (.iload_n 1, 1) := by decide +kernel
theorem dX11_finding_29 : decode cX11_finding 29 = .ok (.ireturn, 1) := by decide +kernel
theorem dX11_onTrial_0 : decode cX11_onTrial 0 = .ok (.aload_n 0, 1) := by decide +kernel
theorem dX11_onTrial_1 : decode cX11_onTrial 1 = .ok (.getfield 50, 3) := by decide +kernel
theorem dX11_onTrial_4 : decode cX11_onTrial 4 = .ok (.iload_n 1, 1) := by decide +kernel
theorem dX11_onTrial_5 : decode cX11_onTrial 5 = .ok (.invokevirtual 131, 3) := by decide +kernel
theorem dX11_onTrial_8 : decode cX11_onTrial 8 = .ok (.ifnonnull 5, 3) := by decide +kernel
theorem dX11_onTrial_11 : decode cX11_onTrial 11 = .ok (.aconst_null, 1) := by decide +kernel
theorem dX11_onTrial_12 : decode cX11_onTrial 12 = .ok (.areturn, 1) := by decide +kernel
theorem dX11_onTrial_13 : decode cX11_onTrial 13 = .ok (.aload_n 0, 1) := by decide +kernel
theorem dX11_onTrial_14 : decode cX11_onTrial 14 = .ok (.getfield 54, 3) := by decide +kernel
theorem dX11_onTrial_17 : decode cX11_onTrial 17 = .ok (.aload_n 0, 1) := by decide +kernel
theorem dX11_onTrial_18 : decode cX11_onTrial 18 = .ok (.getfield 50, 3) := by decide +kernel
theorem dX11_onTrial_21 : decode cX11_onTrial 21 = .ok (.invokevirtual 255, 3) := by decide +kernel
theorem dX11_onTrial_24 : decode cX11_onTrial 24 = .ok (.aload_n 0, 1) := by decide +kernel
theorem dX11_onTrial_25 : decode cX11_onTrial 25 = .ok (.getfield 54, 3) := by decide +kernel
theorem dX11_onTrial_28 : decode cX11_onTrial 28 = .ok (.iload_n 1, 1) := by decide +kernel
theorem dX11_onTrial_29 : decode cX11_onTrial 29 = .ok (.invokevirtual 131, 3) := by decide +kernel
theorem dX11_onTrial_32 : decode cX11_onTrial 32 = .ok (.areturn, 1) := by decide +kernel
theorem dX11_tells_0 : decode cX11_tells 0 = .ok (.aload_n 0, 1) := by decide +kernel
theorem dX11_tells_1 : decode cX11_tells 1 = .ok (.iload_n 2, 1) := by decide +kernel
theorem dX11_tells_2 : decode cX11_tells 2 = .ok (.invokevirtual 245, 3) := by decide +kernel
theorem dX11_tells_5 : decode cX11_tells 5 = .ok (.astore 5, 2) := by decide +kernel
theorem dX11_tells_7 : decode cX11_tells 7 = .ok (.aload 5, 2) := by decide +kernel
theorem dX11_tells_9 : decode cX11_tells 9 = .ok (.ifnonnull 5, 3) := by decide +kernel
theorem dX11_tells_12 : decode cX11_tells 12 = .ok (.iconst 0, 1) := by decide +kernel
theorem dX11_tells_13 : decode cX11_tells 13 = .ok (.ireturn, 1) := by decide +kernel
theorem dX11_tells_14 : decode cX11_tells 14 = .ok (.aload 5, 2) := by decide +kernel
theorem dX11_tells_16 : decode cX11_tells 16 = .ok (.aload_n 3, 1) := by decide +kernel
theorem dX11_tells_17 : decode cX11_tells 17 = .ok (.putfield 153, 3) := by decide +kernel
theorem dX11_tells_20 : decode cX11_tells 20 = .ok (.aload 5, 2) := by decide +kernel
theorem dX11_tells_22 : decode cX11_tells 22 = .ok (.iload 4, 2) := by decide +kernel
theorem dX11_tells_24 : decode cX11_tells 24 = .ok (.invokevirtual 203, 3) := by decide +kernel
theorem dX11_tells_27 : decode cX11_tells 27 = .ok (.iconst 0, 1) := by decide +kernel
theorem dX11_tells_28 : decode cX11_tells 28 = .ok (.istore 6, 2) := by decide +kernel
theorem dX11_tells_30 : decode cX11_tells 30 = .ok (.iload 6, 2) := by decide +kernel
theorem dX11_tells_32 : decode cX11_tells 32 = .ok (.aload_n 1, 1) := by decide +kernel
theorem dX11_tells_33 : decode cX11_tells 33 = .ok (.getfield 307, 3) := by decide +kernel
theorem dX11_tells_36 : decode cX11_tells 36 = .ok (.if_icmp .ge 35, 3) := by decide +kernel
theorem dX11_tells_39 : decode cX11_tells 39 = .ok (.aload_n 1, 1) := by decide +kernel
theorem dX11_tells_40 : decode cX11_tells 40 = .ok (.getfield 312, 3) := by decide +kernel
theorem dX11_tells_43 : decode cX11_tells 43 = .ok (.iload 6, 2) := by decide +kernel
theorem dX11_tells_45 : decode cX11_tells 45 = .ok (.laload, 1) := by decide +kernel
theorem dX11_tells_46 : decode cX11_tells 46 = .ok (.aload 5, 2) := by decide +kernel
theorem dX11_tells_48 : decode cX11_tells 48 = .ok (.getfield 166, 3) := by decide +kernel
theorem dX11_tells_51 : decode cX11_tells 51 = .ok (.i2l, 1) := by decide +kernel
theorem dX11_tells_52 : decode cX11_tells 52 = .ok (.lcmp, 1) := by decide +kernel
theorem dX11_tells_53 : decode cX11_tells 53 = .ok (.ifCond .eq 5, 3) := by decide +kernel
theorem dX11_tells_56 : decode cX11_tells 56 = .ok (.iconst 0, 1) := by decide +kernel
theorem dX11_tells_57 : decode cX11_tells 57 = .ok (.ireturn, 1) := by decide +kernel
theorem dX11_tells_58 : decode cX11_tells 58 = .ok (.aload_n 0, 1) := by decide +kernel
theorem dX11_tells_59 : decode cX11_tells 59 = .ok (.getfield 54, 3) := by decide +kernel
theorem dX11_tells_62 : decode cX11_tells 62 = .ok (.invokevirtual 251, 3) := by decide +kernel
theorem dX11_tells_65 : decode cX11_tells 65 = .ok (.iinc 6 1, 3) := by decide +kernel
theorem dX11_tells_68 : decode cX11_tells 68 = .ok (.goto (-38), 3) := by decide +kernel
theorem dX11_tells_71 : decode cX11_tells 71 = .ok (.iconst 1, 1) := by decide +kernel
theorem dX11_tells_72 : decode cX11_tells 72 = .ok (.ireturn, 1) := by decide +kernel
theorem dX11_sheetOf_0 : decode cX11_sheetOf 0 = .ok (.iload_n 1, 1) := by decide +kernel
theorem dX11_sheetOf_1 : decode cX11_sheetOf 1 = .ok (.iconst 0, 1) := by decide +kernel
theorem dX11_sheetOf_2 : decode cX11_sheetOf 2 = .ok (.aload_n 0, 1) := by decide +kernel
theorem dX11_sheetOf_3 : decode cX11_sheetOf 3 = .ok (.getfield 69, 3) := by decide +kernel
theorem dX11_sheetOf_6 : decode cX11_sheetOf 6 = .ok (.arraylength, 1) := by decide +kernel
theorem dX11_sheetOf_7 : decode cX11_sheetOf 7 = .ok (.iconst 1, 1) := by decide +kernel
theorem dX11_sheetOf_8 : decode cX11_sheetOf 8 = .ok (.isub, 1) := by decide +kernel
theorem dX11_sheetOf_9 : decode cX11_sheetOf 9 = .ok (.invokestatic 82, 3) := by decide +kernel
theorem dX11_sheetOf_12 : decode cX11_sheetOf 12 = .ok (.ifCond .eq 12, 3) := by decide +kernel
theorem dX11_sheetOf_15 : decode cX11_sheetOf 15 = .ok (.aload_n 0, 1) := by decide +kernel
theorem dX11_sheetOf_16 : decode cX11_sheetOf 16 = .ok (.getfield 69, 3) := by decide +kernel
theorem dX11_sheetOf_19 : decode cX11_sheetOf 19 = .ok (.iload_n 1, 1) := by decide +kernel
theorem dX11_sheetOf_20 : decode cX11_sheetOf 20 = .ok (.aaload, 1) := by decide +kernel
theorem dX11_sheetOf_21 : decode cX11_sheetOf 21 = .ok (.goto 4, 3) := by decide +kernel
theorem dX11_sheetOf_24 : decode cX11_sheetOf 24 = .ok (.aconst_null, 1) := by decide +kernel
theorem dX11_sheetOf_25 : decode cX11_sheetOf 25 = .ok (.areturn, 1) := by decide +kernel
theorem dX11_within_0 : decode cX11_within 0 = .ok (.iload_n 0, 1) := by decide +kernel
theorem dX11_within_1 : decode cX11_within 1 = .ok (.iload_n 1, 1) := by decide +kernel
theorem dX11_within_2 : decode cX11_within 2 = .ok (.if_icmp .lt 12, 3) := by decide +kernel
theorem dX11_within_5 : decode cX11_within 5 = .ok (.iload_n 0, 1) := by decide +kernel
theorem dX11_within_6 : decode cX11_within 6 = .ok (.iload_n 2, 1) := by decide +kernel
theorem dX11_within_7 : decode cX11_within 7 = .ok (.if_icmp .gt 7, 3) := by decide +kernel
theorem dX11_within_10 : decode cX11_within 10 = .ok (.iconst 1, 1) := by decide +kernel
theorem dX11_within_11 : decode cX11_within 11 = .ok (.goto 4, 3) := by decide +kernel
theorem dX11_within_14 : decode cX11_within 14 = .ok (.iconst 0, 1) := by decide +kernel
theorem dX11_within_15 : decode cX11_within 15 = .ok (.ireturn, 1) := by decide +kernel
theorem dX11_isCell_0 : decode cX11_isCell 0 = .ok (.iload_n 0, 1) := by decide +kernel
theorem dX11_isCell_1 : decode cX11_isCell 1 = .ok (.iconst 0, 1) := by decide +kernel
theorem dX11_isCell_2 : decode cX11_isCell 2 = .ok (.bipush 47, 2) := by decide +kernel
theorem dX11_isCell_4 : decode cX11_isCell 4 = .ok (.invokestatic 82, 3) := by decide +kernel
theorem dX11_isCell_7 : decode cX11_isCell 7 = .ok (.ireturn, 1) := by decide +kernel
theorem dX11_isKind_0 : decode cX11_isKind 0 = .ok (.iload_n 0, 1) := by decide +kernel
theorem dX11_isKind_1 : decode cX11_isKind 1 = .ok (.iconst 0, 1) := by decide +kernel
theorem dX11_isKind_2 : decode cX11_isKind 2 = .ok (.iconst 5, 1) := by decide +kernel
theorem dX11_isKind_3 : decode cX11_isKind 3 = .ok (.invokestatic 82, 3) := by decide +kernel
theorem dX11_isKind_6 : decode cX11_isKind 6 = .ok (.ireturn, 1) := by decide +kernel
theorem dX11_isWay_0 : decode cX11_isWay 0 = .ok (.iload_n 0, 1) := by decide +kernel
theorem dX11_isWay_1 : decode cX11_isWay 1 = .ok (.iconst 0, 1) := by decide +kernel
theorem dX11_isWay_2 : decode cX11_isWay 2 = .ok (.iconst 3, 1) := by decide +kernel
theorem dX11_isWay_3 : decode cX11_isWay 3 = .ok (.invokestatic 82, 3) := by decide +kernel
theorem dX11_isWay_6 : decode cX11_isWay 6 = .ok (.ireturn, 1) := by decide +kernel
theorem dX11_isLength_0 : decode cX11_isLength 0 = .ok (.iload_n 0, 1) := by decide +kernel
theorem dX11_isLength_1 : decode cX11_isLength 1 = .ok (.iconst 1, 1) := by decide +kernel
theorem dX11_isLength_2 : decode cX11_isLength 2 = .ok (.bipush 7, 2) := by decide +kernel
theorem dX11_isLength_4 : decode cX11_isLength 4 = .ok (.invokestatic 82, 3) := by decide +kernel
theorem dX11_isLength_7 : decode cX11_isLength 7 = .ok (.ireturn, 1) := by decide +kernel
theorem dX11_isInk_0 : decode cX11_isInk 0 = .ok (.iload_n 0, 1) := by decide +kernel
theorem dX11_isInk_1 : decode cX11_isInk 1 = .ok (.iconst 0, 1) := by decide +kernel
theorem dX11_isInk_2 : decode cX11_isInk 2 = .ok (.sipush 999, 3) := by decide +kernel
theorem dX11_isInk_5 : decode cX11_isInk 5 = .ok (.invokestatic 82, 3) := by decide +kernel
theorem dX11_isInk_8 : decode cX11_isInk 8 = .ok (.ireturn, 1) := by decide +kernel
theorem dX11_isYearsOn_0 : decode cX11_isYearsOn 0 = .ok (.iload_n 0, 1) := by decide +kernel
theorem dX11_isYearsOn_1 : decode cX11_isYearsOn 1 = .ok (.iconst 0, 1) := by decide +kernel
theorem dX11_isYearsOn_2 : decode cX11_isYearsOn 2 = .ok (.bipush 60, 2) := by decide +kernel
theorem dX11_isYearsOn_4 : decode cX11_isYearsOn 4 = .ok (.invokestatic 82, 3) := by decide +kernel
theorem dX11_isYearsOn_7 : decode cX11_isYearsOn 7 = .ok (.ireturn, 1) := by decide +kernel
theorem dX11_isBits_0 : decode cX11_isBits 0 = .ok (.iload_n 0, 1) := by decide +kernel
theorem dX11_isBits_1 : decode cX11_isBits 1 = .ok (.ifCond .eq 21, 3) := by decide +kernel
theorem dX11_isBits_4 : decode cX11_isBits 4 = .ok (.iload_n 0, 1) := by decide +kernel
theorem dX11_isBits_5 : decode cX11_isBits 5 = .ok (.bipush 8, 2) := by decide +kernel
theorem dX11_isBits_7 : decode cX11_isBits 7 = .ok (.if_icmp .eq 15, 3) := by decide +kernel
theorem dX11_isBits_10 : decode cX11_isBits 10 = .ok (.iload_n 0, 1) := by decide +kernel
theorem dX11_isBits_11 : decode cX11_isBits 11 = .ok (.bipush 16, 2) := by decide +kernel
theorem dX11_isBits_13 : decode cX11_isBits 13 = .ok (.if_icmp .eq 9, 3) := by decide +kernel
theorem dX11_isBits_16 : decode cX11_isBits 16 = .ok (.iload_n 0, 1) := by decide +kernel
theorem dX11_isBits_17 : decode cX11_isBits 17 = .ok (.bipush 64, 2) := by decide +kernel
theorem dX11_isBits_19 : decode cX11_isBits 19 = .ok (.if_icmp .ne 7, 3) := by decide +kernel
theorem dX11_isBits_22 : decode cX11_isBits 22 = .ok (.iconst 1, 1) := by decide +kernel
theorem dX11_isBits_23 : decode cX11_isBits 23 = .ok (.goto 4, 3) := by decide +kernel
theorem dX11_isBits_26 : decode cX11_isBits 26 = .ok (.iconst 0, 1) := by decide +kernel
theorem dX11_isBits_27 : decode cX11_isBits 27 = .ok (.ireturn, 1) := by decide +kernel
theorem dX11_bitOf_0 : decode cX11_bitOf 0 = .ok (.lload_n 0, 1) := by decide +kernel
theorem dX11_bitOf_1 : decode cX11_bitOf 1 = .ok (.iload_n 2, 1) := by decide +kernel
theorem dX11_bitOf_2 : decode cX11_bitOf 2 = .ok (.lushr, 1) := by decide +kernel
theorem dX11_bitOf_3 : decode cX11_bitOf 3 = .ok (.lconst 1, 1) := by decide +kernel
theorem dX11_bitOf_4 : decode cX11_bitOf 4 = .ok (.land, 1) := by decide +kernel
theorem dX11_bitOf_5 : decode cX11_bitOf 5 = .ok (.l2i, 1) := by decide +kernel
theorem dX11_bitOf_6 : decode cX11_bitOf 6 = .ok (.ireturn, 1) := by decide +kernel
theorem dJ13_bitCount_95d88_0 : decode cJ13_bitCount_95d88 0 = .ok (.lload_n 0, 1) := by decide +kernel
theorem dJ13_bitCount_95d88_1 : decode cJ13_bitCount_95d88 1 = .ok (.lload_n 0, 1) := by decide +kernel
theorem dJ13_bitCount_95d88_2 : decode cJ13_bitCount_95d88 2 = .ok (.iconst 1, 1) := by decide +kernel
theorem dJ13_bitCount_95d88_3 : decode cJ13_bitCount_95d88 3 = .ok (.lushr, 1) := by decide +kernel
theorem dJ13_bitCount_95d88_4 : decode cJ13_bitCount_95d88 4 = .ok (.ldc2_w 314, 3) := by decide +kernel
theorem dJ13_bitCount_95d88_7 : decode cJ13_bitCount_95d88 7 = .ok (.land, 1) := by decide +kernel
theorem dJ13_bitCount_95d88_8 : decode cJ13_bitCount_95d88 8 = .ok (.lsub, 1) := by decide +kernel
theorem dJ13_bitCount_95d88_9 : decode cJ13_bitCount_95d88 9 = .ok (.lstore_n 0, 1) := by decide +kernel
theorem dJ13_bitCount_95d88_10 : decode cJ13_bitCount_95d88 10 = .ok (.lload_n 0, 1) := by decide +kernel
theorem dJ13_bitCount_95d88_11 : decode cJ13_bitCount_95d88 11 = .ok (.ldc2_w 316, 3) := by decide +kernel
theorem dJ13_bitCount_95d88_14 : decode cJ13_bitCount_95d88 14 = .ok (.land, 1) := by decide +kernel
theorem dJ13_bitCount_95d88_15 : decode cJ13_bitCount_95d88 15 = .ok (.lload_n 0, 1) := by decide +kernel
theorem dJ13_bitCount_95d88_16 : decode cJ13_bitCount_95d88 16 = .ok (.iconst 2, 1) := by decide +kernel
theorem dJ13_bitCount_95d88_17 : decode cJ13_bitCount_95d88 17 = .ok (.lushr, 1) := by decide +kernel
theorem dJ13_bitCount_95d88_18 : decode cJ13_bitCount_95d88 18 = .ok (.ldc2_w 316, 3) := by decide +kernel
theorem dJ13_bitCount_95d88_21 : decode cJ13_bitCount_95d88 21 = .ok (.land, 1) := by decide +kernel
theorem dJ13_bitCount_95d88_22 : decode cJ13_bitCount_95d88 22 = .ok (.ladd, 1) := by decide +kernel
theorem dJ13_bitCount_95d88_23 : decode cJ13_bitCount_95d88 23 = .ok (.lstore_n 0, 1) := by decide +kernel
theorem dJ13_bitCount_95d88_24 : decode cJ13_bitCount_95d88 24 = .ok (.lload_n 0, 1) := by decide +kernel
theorem dJ13_bitCount_95d88_25 : decode cJ13_bitCount_95d88 25 = .ok (.lload_n 0, 1) := by decide +kernel
theorem dJ13_bitCount_95d88_26 : decode cJ13_bitCount_95d88 26 = .ok (.iconst 4, 1) := by decide +kernel
theorem dJ13_bitCount_95d88_27 : decode cJ13_bitCount_95d88 27 = .ok (.lushr, 1) := by decide +kernel
theorem dJ13_bitCount_95d88_28 : decode cJ13_bitCount_95d88 28 = .ok (.ladd, 1) := by decide +kernel
theorem dJ13_bitCount_95d88_29 : decode cJ13_bitCount_95d88 29 = .ok (.ldc2_w 318, 3) := by decide +kernel
theorem dJ13_bitCount_95d88_32 : decode cJ13_bitCount_95d88 32 = .ok (.land, 1) := by decide +kernel
theorem dJ13_bitCount_95d88_33 : decode cJ13_bitCount_95d88 33 = .ok (.lstore_n 0, 1) := by decide +kernel
theorem dJ13_bitCount_95d88_34 : decode cJ13_bitCount_95d88 34 = .ok (.lload_n 0, 1) := by decide +kernel
theorem dJ13_bitCount_95d88_35 : decode cJ13_bitCount_95d88 35 = .ok (.lload_n 0, 1) := by decide +kernel
theorem dJ13_bitCount_95d88_36 : decode cJ13_bitCount_95d88 36 = .ok (.bipush 8, 2) := by decide +kernel
theorem dJ13_bitCount_95d88_38 : decode cJ13_bitCount_95d88 38 = .ok (.lushr, 1) := by decide +kernel
theorem dJ13_bitCount_95d88_39 : decode cJ13_bitCount_95d88 39 = .ok (.ladd, 1) := by decide +kernel
theorem dJ13_bitCount_95d88_40 : decode cJ13_bitCount_95d88 40 = .ok (.lstore_n 0, 1) := by decide +kernel
theorem dJ13_bitCount_95d88_41 : decode cJ13_bitCount_95d88 41 = .ok (.lload_n 0, 1) := by decide +kernel
theorem dJ13_bitCount_95d88_42 : decode cJ13_bitCount_95d88 42 = .ok (.lload_n 0, 1) := by decide +kernel
theorem dJ13_bitCount_95d88_43 : decode cJ13_bitCount_95d88 43 = .ok (.bipush 16, 2) := by decide +kernel
theorem dJ13_bitCount_95d88_45 : decode cJ13_bitCount_95d88 45 = .ok (.lushr, 1) := by decide +kernel
theorem dJ13_bitCount_95d88_46 : decode cJ13_bitCount_95d88 46 = .ok (.ladd, 1) := by decide +kernel
theorem dJ13_bitCount_95d88_47 : decode cJ13_bitCount_95d88 47 = .ok (.lstore_n 0, 1) := by decide +kernel
theorem dJ13_bitCount_95d88_48 : decode cJ13_bitCount_95d88 48 = .ok (.lload_n 0, 1) := by decide +kernel
theorem dJ13_bitCount_95d88_49 : decode cJ13_bitCount_95d88 49 = .ok (.lload_n 0, 1) := by decide +kernel
theorem dJ13_bitCount_95d88_50 : decode cJ13_bitCount_95d88 50 = .ok (.bipush 32, 2) := by decide +kernel
theorem dJ13_bitCount_95d88_52 : decode cJ13_bitCount_95d88 52 = .ok (.lushr, 1) := by decide +kernel
theorem dJ13_bitCount_95d88_53 : decode cJ13_bitCount_95d88 53 = .ok (.ladd, 1) := by decide +kernel
theorem dJ13_bitCount_95d88_54 : decode cJ13_bitCount_95d88 54 = .ok (.lstore_n 0, 1) := by decide +kernel
theorem dJ13_bitCount_95d88_55 : decode cJ13_bitCount_95d88 55 = .ok (.lload_n 0, 1) := by decide +kernel
theorem dJ13_bitCount_95d88_56 : decode cJ13_bitCount_95d88 56 = .ok (.l2i, 1) := by decide +kernel
theorem dJ13_bitCount_95d88_57 : decode cJ13_bitCount_95d88 57 = .ok (.bipush 127, 2) := by decide +kernel
theorem dJ13_bitCount_95d88_59 : decode cJ13_bitCount_95d88 59 = .ok (.iand, 1) := by decide +kernel
theorem dJ13_bitCount_95d88_60 : decode cJ13_bitCount_95d88 60 = .ok (.ireturn, 1) := by decide +kernel
theorem dJ0_length_8abf5_0 : decode cJ0_length_8abf5 0 = .ok (.aload_n 0, 1) := by decide +kernel
theorem dJ0_length_8abf5_1 : decode cJ0_length_8abf5 1 = .ok (.getfield 9, 3) := by decide +kernel
theorem dJ0_length_8abf5_4 : decode cJ0_length_8abf5 4 = .ok (.arraylength, 1) := by decide +kernel
theorem dJ0_length_8abf5_5 : decode cJ0_length_8abf5 5 = .ok (.aload_n 0, 1) := by decide +kernel
theorem dJ0_length_8abf5_6 : decode cJ0_length_8abf5 6 = .ok (.invokevirtual 335, 3) := by decide +kernel
theorem dJ0_length_8abf5_9 : decode cJ0_length_8abf5 9 = .ok (.ishr, 1) := by decide +kernel
theorem dJ0_length_8abf5_10 : decode cJ0_length_8abf5 10 = .ok (.ireturn, 1) := by decide +kernel
theorem dJ0_charAt_5068e_0 : decode cJ0_charAt_5068e 0 = .ok (.aload_n 0, 1) := by decide +kernel
theorem dJ0_charAt_5068e_1 : decode cJ0_charAt_5068e 1 = .ok (.invokevirtual 492, 3) := by decide +kernel
theorem dJ0_charAt_5068e_4 : decode cJ0_charAt_5068e 4 = .ok (.ifCond .eq 12, 3) := by decide +kernel
theorem dJ0_charAt_5068e_7 : decode cJ0_charAt_5068e 7 = .ok (.aload_n 0, 1) := by decide +kernel
theorem dJ0_charAt_5068e_8 : decode cJ0_charAt_5068e 8 = .ok (.getfield 9, 3) := by decide +kernel
theorem dJ0_charAt_5068e_11 : decode cJ0_charAt_5068e 11 = .ok (.iload_n 1, 1) := by decide +kernel
theorem dJ0_charAt_5068e_12 : decode cJ0_charAt_5068e 12 = .ok (.invokestatic 495, 3) := by decide +kernel
theorem dJ0_charAt_5068e_15 : decode cJ0_charAt_5068e 15 = .ok (.ireturn, 1) := by decide +kernel
theorem dJ0_charAt_5068e_16 : decode cJ0_charAt_5068e 16 = .ok (.aload_n 0, 1) := by decide +kernel
theorem dJ0_charAt_5068e_17 : decode cJ0_charAt_5068e 17 = .ok (.getfield 9, 3) := by decide +kernel
theorem dJ0_charAt_5068e_20 : decode cJ0_charAt_5068e 20 = .ok (.iload_n 1, 1) := by decide +kernel
theorem dJ0_charAt_5068e_21 : decode cJ0_charAt_5068e 21 = .ok (.invokestatic 498, 3) := by decide +kernel
theorem dJ0_charAt_5068e_24 : decode cJ0_charAt_5068e 24 = .ok (.ireturn, 1) := by decide +kernel
theorem dJ0_coder_7d493_0 : decode cJ0_coder_7d493 0 = .ok (.getstatic 38, 3) := by decide +kernel
theorem dJ0_coder_7d493_3 : decode cJ0_coder_7d493 3 = .ok (.ifCond .eq 10, 3) := by decide +kernel
theorem dJ0_coder_7d493_6 : decode cJ0_coder_7d493 6 = .ok (.aload_n 0, 1) := by decide +kernel
theorem dJ0_coder_7d493_7 : decode cJ0_coder_7d493 7 = .ok (.getfield 15, 3) := by decide +kernel
theorem dJ0_coder_7d493_10 : decode cJ0_coder_7d493 10 = .ok (.goto 4, 3) := by decide +kernel
theorem dJ0_coder_7d493_13 : decode cJ0_coder_7d493 13 = .ok (.iconst 1, 1) := by decide +kernel
theorem dJ0_coder_7d493_14 : decode cJ0_coder_7d493 14 = .ok (.ireturn, 1) := by decide +kernel
theorem dJ0_isLatin1_aae02_0 : decode cJ0_isLatin1_aae02 0 = .ok (.getstatic 38, 3) := by decide +kernel
theorem dJ0_isLatin1_aae02_3 : decode cJ0_isLatin1_aae02 3 = .ok (.ifCond .eq 14, 3) := by decide +kernel
theorem dJ0_isLatin1_aae02_6 : decode cJ0_isLatin1_aae02 6 = .ok (.aload_n 0, 1) := by decide +kernel
theorem dJ0_isLatin1_aae02_7 : decode cJ0_isLatin1_aae02 7 = .ok (.getfield 15, 3) := by decide +kernel
theorem dJ0_isLatin1_aae02_10 : decode cJ0_isLatin1_aae02 10 = .ok (.ifCond .ne 7, 3) := by decide +kernel
theorem dJ0_isLatin1_aae02_13 : decode cJ0_isLatin1_aae02 13 = .ok (.iconst 1, 1) := by decide +kernel
theorem dJ0_isLatin1_aae02_14 : decode cJ0_isLatin1_aae02 14 = .ok (.goto 4, 3) := by decide +kernel
theorem dJ0_isLatin1_aae02_17 : decode cJ0_isLatin1_aae02 17 = .ok (.iconst 0, 1) := by decide +kernel
theorem dJ0_isLatin1_aae02_18 : decode cJ0_isLatin1_aae02 18 = .ok (.ireturn, 1) := by decide +kernel
theorem dJ0_checkIndex_df160_0 : decode cJ0_checkIndex_df160 0 = .ok (.iload_n 0, 1) := by decide +kernel
theorem dJ0_checkIndex_df160_1 : decode cJ0_checkIndex_df160 1 = .ok (.iload_n 1, 1) := by decide +kernel
theorem dJ0_checkIndex_df160_2 : decode cJ0_checkIndex_df160 2 = .ok (.getstatic 1053, 3) := by decide +kernel
theorem dJ0_checkIndex_df160_5 : decode cJ0_checkIndex_df160 5 = .ok (.invokestatic 1059, 3) := by decide +kernel
theorem dJ0_checkIndex_df160_8 : decode cJ0_checkIndex_df160 8 = .ok (.pop, 1) := by decide +kernel
theorem dJ0_checkIndex_df160_9 : decode cJ0_checkIndex_df160 9 = .ok (.return_, 1) := by decide +kernel
theorem dJ1_charAt_3b067_0 : decode cJ1_charAt_3b067 0 = .ok (.iload_n 1, 1) := by decide +kernel
theorem dJ1_charAt_3b067_1 : decode cJ1_charAt_3b067 1 = .ok (.aload_n 0, 1) := by decide +kernel
theorem dJ1_charAt_3b067_2 : decode cJ1_charAt_3b067 2 = .ok (.arraylength, 1) := by decide +kernel
theorem dJ1_charAt_3b067_3 : decode cJ1_charAt_3b067 3 = .ok (.invokestatic 9, 3) := by decide +kernel
theorem dJ1_charAt_3b067_6 : decode cJ1_charAt_3b067 6 = .ok (.aload_n 0, 1) := by decide +kernel
theorem dJ1_charAt_3b067_7 : decode cJ1_charAt_3b067 7 = .ok (.iload_n 1, 1) := by decide +kernel
theorem dJ1_charAt_3b067_8 : decode cJ1_charAt_3b067 8 = .ok (.baload, 1) := by decide +kernel
theorem dJ1_charAt_3b067_9 : decode cJ1_charAt_3b067 9 = .ok (.sipush 255, 3) := by decide +kernel
theorem dJ1_charAt_3b067_12 : decode cJ1_charAt_3b067 12 = .ok (.iand, 1) := by decide +kernel
theorem dJ1_charAt_3b067_13 : decode cJ1_charAt_3b067 13 = .ok (.i2c, 1) := by decide +kernel
theorem dJ1_charAt_3b067_14 : decode cJ1_charAt_3b067 14 = .ok (.ireturn, 1) := by decide +kernel
theorem dJ3_checkIndex_8e157_0 : decode cJ3_checkIndex_8e157 0 = .ok (.iload_n 0, 1) := by decide +kernel
theorem dJ3_checkIndex_8e157_1 : decode cJ3_checkIndex_8e157 1 = .ok (.ifCond .lt 8, 3) := by decide +kernel
theorem dJ3_checkIndex_8e157_4 : decode cJ3_checkIndex_8e157 4 = .ok (.iload_n 0, 1) := by decide +kernel
theorem dJ3_checkIndex_8e157_5 : decode cJ3_checkIndex_8e157 5 = .ok (.iload_n 1, 1) := by decide +kernel
theorem dJ3_checkIndex_8e157_6 : decode cJ3_checkIndex_8e157 6 = .ok (.if_icmp .lt 10, 3) := by decide +kernel
theorem dJ3_checkIndex_8e157_9 : decode cJ3_checkIndex_8e157 9 = .ok (.aload_n 2, 1) := by decide +kernel
theorem dJ3_checkIndex_8e157_10 : decode cJ3_checkIndex_8e157 10 = .ok (.iload_n 0, 1) := by decide +kernel
theorem dJ3_checkIndex_8e157_11 : decode cJ3_checkIndex_8e157 11 = .ok (.iload_n 1, 1) := by decide +kernel
theorem dJ3_checkIndex_8e157_12 : decode cJ3_checkIndex_8e157 12 = .ok (.invokestatic 95, 3) := by decide +kernel
theorem dJ3_checkIndex_8e157_15 : decode cJ3_checkIndex_8e157 15 = .ok (.athrow, 1) := by decide +kernel
theorem dJ3_checkIndex_8e157_16 : decode cJ3_checkIndex_8e157 16 = .ok (.iload_n 0, 1) := by decide +kernel
theorem dJ3_checkIndex_8e157_17 : decode cJ3_checkIndex_8e157 17 = .ok (.ireturn, 1) := by decide +kernel
