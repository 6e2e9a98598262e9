theorem dX7_init_0 : decode cX7_init 0 = .ok (.aload_n 0, 1) := by decide +kernel
theorem dX7_init_1 : decode cX7_init 1 = .ok (.invokespecial 1, 3) := by decide +kernel
theorem dX7_init_4 : decode cX7_init 4 = .ok (.aload_n 0, 1) := by decide +kernel
theorem dX7_init_5 : decode cX7_init 5 = .ok (.bipush 34, 2) := by decide +kernel
theorem dX7_init_7 : decode cX7_init 7 = .ok (.newarray .int, 2) := by decide +kernel
theorem dX7_init_9 : decode cX7_init 9 = .ok (.putfield 7, 3) := by decide +kernel
theorem dX7_init_12 : decode cX7_init 12 = .ok (.aload_n 0, 1) := by decide +kernel
theorem dX7_init_13 : decode cX7_init 13 = .ok (.bipush 64, 2) := by decide +kernel
theorem dX7_init_15 : decode cX7_init 15 = .ok (.newarray .int, 2) := by decide +kernel
theorem dX7_init_17 : decode cX7_init 17 = .ok (.putfield 13, 3) := by decide +kernel
theorem dX7_init_20 : decode cX7_init 20 = .ok (.aload_n 0, 1) := by decide +kernel
theorem dX7_init_21 : decode cX7_init 21 = .ok (.bipush 64, 2) := by decide +kernel
theorem dX7_init_23 : decode cX7_init 23 = .ok (.newarray .int, 2) := by decide +kernel
theorem dX7_init_25 : decode cX7_init 25 = .ok (.putfield 16, 3) := by decide +kernel
theorem dX7_init_28 : decode cX7_init 28 = .ok (.aload_n 0, 1) := by decide +kernel
theorem dX7_init_29 : decode cX7_init 29 = .ok (.sipush 238, 3) := by decide +kernel
theorem dX7_init_32 : decode cX7_init 32 = .ok (.newarray .int, 2) := by decide +kernel
theorem dX7_init_34 : decode cX7_init 34 = .ok (.putfield 19, 3) := by decide +kernel
theorem dX7_init_37 : decode cX7_init 37 = .ok (.aload_n 0, 1) := by decide +kernel
theorem dX7_init_38 : decode cX7_init 38 = .ok (.bipush 8, 2) := by decide +kernel
theorem dX7_init_40 : decode cX7_init 40 = .ok (.newarray .int, 2) := by decide +kernel
theorem dX7_init_42 : decode cX7_init 42 = .ok (.putfield 22, 3) := by decide +kernel
theorem dX7_init_45 : decode cX7_init 45 = .ok (.aload_n 0, 1) := by decide +kernel
theorem dX7_init_46 : decode cX7_init 46 = .ok (.bipush 8, 2) := by decide +kernel
theorem dX7_init_48 : decode cX7_init 48 = .ok (.newarray .int, 2) := by decide +kernel
theorem dX7_init_50 : decode cX7_init 50 = .ok (.putfield 25, 3) := by decide +kernel
theorem dX7_init_53 : decode cX7_init 53 = .ok (.aload_n 0, 1) := by decide +kernel
theorem dX7_init_54 : decode cX7_init 54 = .ok (.bipush 8, 2) := by decide +kernel
theorem dX7_init_56 : decode cX7_init 56 = .ok (.newarray .int, 2) := by decide +kernel
theorem dX7_init_58 : decode cX7_init 58 = .ok (.putfield 28, 3) := by decide +kernel
theorem dX7_init_61 : decode cX7_init 61 = .ok (.aload_n 0, 1) := by decide +kernel
theorem dX7_init_62 : decode cX7_init 62 = .ok (.bipush 8, 2) := by decide +kernel
theorem dX7_init_64 : decode cX7_init 64 = .ok (.newarray .int, 2) := by decide +kernel
theorem dX7_init_66 : decode cX7_init 66 = .ok (.putfield 31, 3) := by decide +kernel
theorem dX7_init_69 : decode cX7_init 69 = .ok (.aload_n 0, 1) := by decide +kernel
theorem dX7_init_70 : decode cX7_init 70 = .ok (.bipush 6, 2) := by decide +kernel
theorem dX7_init_72 : decode cX7_init 72 = .ok (.newarray .int, 2) := by decide +kernel
theorem dX7_init_74 : decode cX7_init 74 = .ok (.putfield 34, 3) := by decide +kernel
theorem dX7_init_77 : decode cX7_init 77 = .ok (.aload_n 0, 1) := by decide +kernel
theorem dX7_init_78 : decode cX7_init 78 = .ok (.bipush 6, 2) := by decide +kernel
theorem dX7_init_80 : decode cX7_init 80 = .ok (.newarray .int, 2) := by decide +kernel
theorem dX7_init_82 : decode cX7_init 82 = .ok (.putfield 37, 3) := by decide +kernel
theorem dX7_init_85 : decode cX7_init 85 = .ok (.aload_n 0, 1) := by decide +kernel
theorem dX7_init_86 : decode cX7_init 86 = .ok (.bipush 6, 2) := by decide +kernel
theorem dX7_init_88 : decode cX7_init 88 = .ok (.newarray .int, 2) := by decide +kernel
theorem dX7_init_90 : decode cX7_init 90 = .ok (.putfield 40, 3) := by decide +kernel
theorem dX7_init_93 : decode cX7_init 93 = .ok (.aload_n 0, 1) := by decide +kernel
theorem dX7_init_94 : decode cX7_init 94 = .ok (.bipush 6, 2) := by decide +kernel
theorem dX7_init_96 : decode cX7_init 96 = .ok (.newarray .int, 2) := by decide +kernel
theorem dX7_init_98 : decode cX7_init 98 = .ok (.putfield 43, 3) := by decide +kernel
theorem dX7_init_101 : decode cX7_init 101 = .ok (.aload_n 0, 1) := by decide +kernel
theorem dX7_init_102 : decode cX7_init 102 = .ok (.bipush 16, 2) := by decide +kernel
theorem dX7_init_104 : decode cX7_init 104 = .ok (.newarray .int, 2) := by decide +kernel
theorem dX7_init_106 : decode cX7_init 106 = .ok (.putfield 46, 3) := by decide +kernel
theorem dX7_init_109 : decode cX7_init 109 = .ok (.aload_n 0, 1) := by decide +kernel
theorem dX7_init_110 : decode cX7_init 110 = .ok (.iconst 2, 1) := by decide +kernel
theorem dX7_init_111 : decode cX7_init 111 = .ok (.newarray .boolean, 2) := by decide +kernel
theorem dX7_init_113 : decode cX7_init 113 = .ok (.putfield 49, 3) := by decide +kernel
theorem dX7_init_116 : decode cX7_init 116 = .ok (.aload_n 0, 1) := by decide +kernel
theorem dX7_init_117 : decode cX7_init 117 = .ok (.bipush 34, 2) := by decide +kernel
theorem dX7_init_119 : decode cX7_init 119 = .ok (.newarray .int, 2) := by decide +kernel
theorem dX7_init_121 : decode cX7_init 121 = .ok (.putfield 53, 3) := by decide +kernel
theorem dX7_init_124 : decode cX7_init 124 = .ok (.return_, 1) := by decide +kernel
theorem dX7_in_0 : decode cX7_in 0 = .ok (.lload_n 0, 1) := by decide +kernel
theorem dX7_in_1 : decode cX7_in 1 = .ok (.lload_n 2, 1) := by decide +kernel
theorem dX7_in_2 : decode cX7_in 2 = .ok (.lcmp, 1) := by decide +kernel
theorem dX7_in_3 : decode cX7_in 3 = .ok (.ifCond .lt 14, 3) := by decide +kernel
theorem dX7_in_6 : decode cX7_in 6 = .ok (.lload_n 0, 1) := by decide +kernel
theorem dX7_in_7 : decode cX7_in 7 = .ok (.lload 4, 2) := by decide +kernel
theorem dX7_in_9 : decode cX7_in 9 = .ok (.lcmp, 1) := by decide +kernel
theorem dX7_in_10 : decode cX7_in 10 = .ok (.ifCond .gt 7, 3) := by decide +kernel
theorem dX7_in_13 : decode cX7_in 13 = .ok (.iconst 1, 1) := by decide +kernel
theorem dX7_in_14 : decode cX7_in 14 = .ok (.goto 4, 3) := by decide +kernel
theorem dX7_in_17 : decode cX7_in 17 = .ok (.iconst 0, 1) := by decide +kernel
theorem dX7_in_18 : decode cX7_in 18 = .ok (.ireturn, 1) := by decide +kernel
theorem dX7_has_0 : decode cX7_has 0 = .ok (.iload_n 0, 1) := by decide +kernel
theorem dX7_has_1 : decode cX7_has 1 = .ok (.iload_n 1, 1) := by decide +kernel
theorem dX7_has_2 : decode cX7_has 2 = .ok (.ishr, 1) := by decide +kernel
theorem dX7_has_3 : decode cX7_has 3 = .ok (.iconst 1, 1) := by decide +kernel
theorem dX7_has_4 : decode cX7_has 4 = .ok (.iand, 1) := by decide +kernel
theorem dX7_has_5 : decode cX7_has 5 = .ok (.iconst 1, 1) := by decide +kernel
theorem dX7_has_6 : decode cX7_has 6 = .ok (.if_icmp .ne 7, 3) := by decide +kernel
theorem dX7_has_9 : decode cX7_has 9 = .ok (.iconst 1, 1) := by decide +kernel
theorem dX7_has_10 : decode cX7_has 10 = .ok (.goto 4, 3) := by decide +kernel
theorem dX7_has_13 : decode cX7_has 13 = .ok (.iconst 0, 1) := by decide +kernel
theorem dX7_has_14 : decode cX7_has 14 = .ok (.ireturn, 1) := by decide +kernel
theorem dX7_ones_0 : decode cX7_ones 0 = .ok (.iconst 0, 1) := by decide +kernel
theorem dX7_ones_1 : decode cX7_ones 1 = .ok (.istore_n 1, 1) := by decide +kernel
theorem dX7_ones_2 : decode cX7_ones 2 = .ok (.iconst 0, 1) := by decide +kernel
theorem dX7_ones_3 : decode cX7_ones 3 = .ok (.istore_n 2, 1) := by decide +kernel
theorem dX7_ones_4 : decode cX7_ones 4 = .ok (.iload_n 2, 1) := by decide +kernel
theorem dX7_ones_5 : decode cX7_ones 5 = .ok (.bipush 16, 2) := by decide +kernel
theorem dX7_ones_7 : decode cX7_ones 7 = .ok (.if_icmp .ge 17, 3) := by decide +kernel
theorem dX7_ones_10 : decode cX7_ones 10 = .ok (.iload_n 1, 1) := by decide +kernel
theorem dX7_ones_11 : decode cX7_ones 11 = .ok (.iload_n 0, 1) := by decide +kernel
theorem dX7_ones_12 : decode cX7_ones 12 = .ok (.iload_n 2, 1) := by decide +kernel
theorem dX7_ones_13 : decode cX7_ones 13 = .ok (.ishr, 1) := by decide +kernel
theorem dX7_ones_14 : decode cX7_ones 14 = .ok (.iconst 1, 1) := by decide +kernel
theorem dX7_ones_15 : decode cX7_ones 15 = .ok (.iand, 1) := by decide +kernel
theorem dX7_ones_16 : decode cX7_ones 16 = .ok (.iadd, 1) := by decide +kernel
theorem dX7_ones_17 : decode cX7_ones 17 = .ok (.istore_n 1, 1) := by decide +kernel
theorem dX7_ones_18 : decode cX7_ones 18 = .ok (.iinc 2 1, 3) := by decide +kernel
theorem dX7_ones_21 : decode cX7_ones 21 = .ok (.goto (-17), 3) := by decide +kernel
theorem dX7_ones_24 : decode cX7_ones 24 = .ok (.iload_n 1, 1) := by decide +kernel
theorem dX7_ones_25 : decode cX7_ones 25 = .ok (.ireturn, 1) := by decide +kernel
theorem dX7_isKnot_0 : decode cX7_isKnot 0 = .ok (.iload_n 0, 1) := by decide +kernel
theorem dX7_isKnot_1 : decode cX7_isKnot 1 = .ok (.i2l, 1) := by decide +kernel
theorem dX7_isKnot_2 : decode cX7_isKnot 2 = .ok (.lconst 0, 1) := by decide +kernel
theorem dX7_isKnot_3 : decode cX7_isKnot 3 = .ok (.ldc2_w 56, 3) := by decide +kernel
theorem dX7_isKnot_6 : decode cX7_isKnot 6 = .ok (.invokestatic 58, 3) := by decide +kernel
theorem dX7_isKnot_9 : decode cX7_isKnot 9 = .ok (.ireturn, 1) := by decide +kernel
theorem dX7_isTime_0 : decode cX7_isTime 0 = .ok (.iload_n 0, 1) := by decide +kernel
theorem dX7_isTime_1 : decode cX7_isTime 1 = .ok (.i2l, 1) := by decide +kernel
theorem dX7_isTime_2 : decode cX7_isTime 2 = .ok (.lconst 0, 1) := by decide +kernel
theorem dX7_isTime_3 : decode cX7_isTime 3 = .ok (.ldc2_w 62, 3) := by decide +kernel
theorem dX7_isTime_6 : decode cX7_isTime 6 = .ok (.invokestatic 58, 3) := by decide +kernel
theorem dX7_isTime_9 : decode cX7_isTime 9 = .ok (.ireturn, 1) := by decide +kernel
theorem dX7_asOne_0 : decode cX7_asOne 0 = .ok (.iload_n 0, 1) := by decide +kernel
theorem dX7_asOne_1 : decode cX7_asOne 1 = .ok (.iload_n 1, 1) := by decide +kernel
theorem dX7_asOne_2 : decode cX7_asOne 2 = .ok (.if_icmp .ge 7, 3) := by decide +kernel
theorem dX7_asOne_5 : decode cX7_asOne 5 = .ok (.iload_n 0, 1) := by decide +kernel
theorem dX7_asOne_6 : decode cX7_asOne 6 = .ok (.goto 4, 3) := by decide +kernel
theorem dX7_asOne_9 : decode cX7_asOne 9 = .ok (.iload_n 1, 1) := by decide +kernel
theorem dX7_asOne_10 : decode cX7_asOne 10 = .ok (.istore 4, 2) := by decide +kernel
theorem dX7_asOne_12 : decode cX7_asOne 12 = .ok (.iload_n 0, 1) := by decide +kernel
theorem dX7_asOne_13 : decode cX7_asOne 13 = .ok (.iload_n 1, 1) := by decide +kernel
theorem dX7_asOne_14 : decode cX7_asOne 14 = .ok (.if_icmp .ge 7, 3) := by decide +kernel
theorem dX7_asOne_17 : decode cX7_asOne 17 = .ok (.iload_n 1, 1) := by decide +kernel
theorem dX7_asOne_18 : decode cX7_asOne 18 = .ok (.goto 4, 3) := by decide +kernel
theorem dX7_asOne_21 : decode cX7_asOne 21 = .ok (.iload_n 0, 1) := by decide +kernel
theorem dX7_asOne_22 : decode cX7_asOne 22 = .ok (.istore 5, 2) := by decide +kernel
theorem dX7_asOne_24 : decode cX7_asOne 24 = .ok (.iload 4, 2) := by decide +kernel
theorem dX7_asOne_26 : decode cX7_asOne 26 = .ok (.bipush 8, 2) := by decide +kernel
theorem dX7_asOne_28 : decode cX7_asOne 28 = .ok (.imul, 1) := by decide +kernel
theorem dX7_asOne_29 : decode cX7_asOne 29 = .ok (.iload 5, 2) := by decide +kernel
theorem dX7_asOne_31 : decode cX7_asOne 31 = .ok (.iadd, 1) := by decide +kernel
theorem dX7_asOne_32 : decode cX7_asOne 32 = .ok (.bipush 16, 2) := by decide +kernel
theorem dX7_asOne_34 : decode cX7_asOne 34 = .ok (.imul, 1) := by decide +kernel
theorem dX7_asOne_35 : decode cX7_asOne 35 = .ok (.iload_n 2, 1) := by decide +kernel
theorem dX7_asOne_36 : decode cX7_asOne 36 = .ok (.iadd, 1) := by decide +kernel
theorem dX7_asOne_37 : decode cX7_asOne 37 = .ok (.bipush 16, 2) := by decide +kernel
theorem dX7_asOne_39 : decode cX7_asOne 39 = .ok (.imul, 1) := by decide +kernel
theorem dX7_asOne_40 : decode cX7_asOne 40 = .ok (.iload_n 3, 1) := by decide +kernel
theorem dX7_asOne_41 : decode cX7_asOne 41 = .ok (.iadd, 1) := by decide +kernel
theorem dX7_asOne_42 : decode cX7_asOne 42 = .ok (.ireturn, 1) := by decide +kernel
theorem dX7_lowOf_0 : decode cX7_lowOf 0 = .ok (.iload_n 0, 1) := by decide +kernel
theorem dX7_lowOf_1 : decode cX7_lowOf 1 = .ok (.sipush 2048, 3) := by decide +kernel
theorem dX7_lowOf_4 : decode cX7_lowOf 4 = .ok (.idiv, 1) := by decide +kernel
theorem dX7_lowOf_5 : decode cX7_lowOf 5 = .ok (.ireturn, 1) := by decide +kernel
theorem dX7_highOf_0 : decode cX7_highOf 0 = .ok (.iload_n 0, 1) := by decide +kernel
theorem dX7_highOf_1 : decode cX7_highOf 1 = .ok (.sipush 256, 3) := by decide +kernel
theorem dX7_highOf_4 : decode cX7_highOf 4 = .ok (.idiv, 1) := by decide +kernel
theorem dX7_highOf_5 : decode cX7_highOf 5 = .ok (.bipush 8, 2) := by decide +kernel
theorem dX7_highOf_7 : decode cX7_highOf 7 = .ok (.irem, 1) := by decide +kernel
theorem dX7_highOf_8 : decode cX7_highOf 8 = .ok (.ireturn, 1) := by decide +kernel
theorem dX7_fromOf_0 : decode cX7_fromOf 0 = .ok (.iload_n 0, 1) := by decide +kernel
theorem dX7_fromOf_1 : decode cX7_fromOf 1 = .ok (.bipush 16, 2) := by decide +kernel
theorem dX7_fromOf_3 : decode cX7_fromOf 3 = .ok (.idiv, 1) := by decide +kernel
theorem dX7_fromOf_4 : decode cX7_fromOf 4 = .ok (.bipush 16, 2) := by decide +kernel
theorem dX7_fromOf_6 : decode cX7_fromOf 6 = .ok (.irem, 1) := by decide +kernel
theorem dX7_fromOf_7 : decode cX7_fromOf 7 = .ok (.ireturn, 1) := by decide +kernel
theorem dX7_toOf_0 : decode cX7_toOf 0 = .ok (.iload_n 0, 1) := by decide +kernel
theorem dX7_toOf_1 : decode cX7_toOf 1 = .ok (.bipush 16, 2) := by decide +kernel
theorem dX7_toOf_3 : decode cX7_toOf 3 = .ok (.irem, 1) := by decide +kernel
theorem dX7_toOf_4 : decode cX7_toOf 4 = .ok (.ireturn, 1) := by decide +kernel
theorem dX7_livesAt_0 : decode cX7_livesAt 0 = .ok (.iload_n 1, 1) := by decide +kernel
theorem dX7_livesAt_1 : decode cX7_livesAt 1 = .ok (.iload_n 0, 1) := by decide +kernel
theorem dX7_livesAt_2 : decode cX7_livesAt 2 = .ok (.invokestatic 64, 3) := by decide +kernel
theorem dX7_livesAt_5 : decode cX7_livesAt 5 = .ok (.if_icmp .lt 15, 3) := by decide +kernel
theorem dX7_livesAt_8 : decode cX7_livesAt 8 = .ok (.iload_n 1, 1) := by decide +kernel
theorem dX7_livesAt_9 : decode cX7_livesAt 9 = .ok (.iload_n 0, 1) := by decide +kernel
theorem dX7_livesAt_10 : decode cX7_livesAt 10 = .ok (.invokestatic 68, 3) := by decide +kernel
theorem dX7_livesAt_13 : decode cX7_livesAt 13 = .ok (.if_icmp .gt 7, 3) := by decide +kernel
theorem dX7_livesAt_16 : decode cX7_livesAt 16 = .ok (.iconst 1, 1) := by decide +kernel
theorem dX7_livesAt_17 : decode cX7_livesAt 17 = .ok (.goto 4, 3) := by decide +kernel
theorem dX7_livesAt_20 : decode cX7_livesAt 20 = .ok (.iconst 0, 1) := by decide +kernel
theorem dX7_livesAt_21 : decode cX7_livesAt 21 = .ok (.ireturn, 1) := by decide +kernel
theorem dX7_write_0 : decode cX7_write 0 = .ok (.iload_n 1, 1) := by decide +kernel
theorem dX7_write_1 : decode cX7_write 1 = .ok (.i2l, 1) := by decide +kernel
theorem dX7_write_2 : decode cX7_write 2 = .ok (.lconst 0, 1) := by decide +kernel
theorem dX7_write_3 : decode cX7_write 3 = .ok (.ldc2_w 71, 3) := by decide +kernel
theorem dX7_write_6 : decode cX7_write 6 = .ok (.invokestatic 58, 3) := by decide +kernel
theorem dX7_write_9 : decode cX7_write 9 = .ok (.ifCond .ne 6, 3) := by decide +kernel
theorem dX7_write_12 : decode cX7_write 12 = .ok (.bipush (-2), 2) := by decide +kernel
theorem dX7_write_14 : decode cX7_write 14 = .ok (.ireturn, 1) := by decide +kernel
theorem dX7_write_15 : decode cX7_write 15 = .ok (.aload_n 0, 1) := by decide +kernel
theorem dX7_write_16 : decode cX7_write 16 = .ok (.getfield 73, 3) := by decide +kernel
theorem dX7_write_19 : decode cX7_write 19 = .ok (.bipush 64, 2) := by decide +kernel
theorem dX7_write_21 : decode cX7_write 21 = .ok (.if_icmp .ne 6, 3) := by decide +kernel
theorem dX7_write_24 : decode cX7_write 24 = .ok (.bipush (-4), 2) := by decide +kernel
theorem dX7_write_26 : decode cX7_write 26 = .ok (.ireturn, 1) := by decide +kernel
theorem dX7_write_27 : decode cX7_write 27 = .ok (.aload_n 0, 1) := by decide +kernel
theorem dX7_write_28 : decode cX7_write 28 = .ok (.getfield 13, 3) := by decide +kernel
theorem dX7_write_31 : decode cX7_write 31 = .ok (.aload_n 0, 1) := by decide +kernel
theorem dX7_write_32 : decode cX7_write 32 = .ok (.getfield 73, 3) := by decide +kernel
theorem dX7_write_35 : decode cX7_write 35 = .ok (.iload_n 1, 1) := by decide +kernel
theorem dX7_write_36 : decode cX7_write 36 = .ok (.iastore, 1) := by decide +kernel
theorem dX7_write_37 : decode cX7_write 37 = .ok (.aload_n 0, 1) := by decide +kernel
theorem dX7_write_38 : decode cX7_write 38 = .ok (.dup, 1) := by decide +kernel
theorem dX7_write_39 : decode cX7_write 39 = .ok (.getfield 73, 3) := by decide +kernel
theorem dX7_write_42 : decode cX7_write 42 = .ok (.iconst 1, 1) := by decide +kernel
theorem dX7_write_43 : decode cX7_write 43 = .ok (.iadd, 1) := by decide +kernel
theorem dX7_write_44 : decode cX7_write 44 = .ok (.putfield 73, 3) := by decide +kernel
theorem dX7_write_47 : decode cX7_write 47 = .ok (.aload_n 0, 1) := by decide +kernel
theorem dX7_write_48 : decode cX7_write 48 = .ok (.getfield 73, 3) := by decide +kernel
theorem dX7_write_51 : decode cX7_write 51 = .ok (.ireturn, 1) := by decide +kernel
theorem dX7_wipe_0 : decode cX7_wipe 0 = .ok (.aload_n 0, 1) := by decide +kernel
theorem dX7_wipe_1 : decode cX7_wipe 1 = .ok (.getfield 73, 3) := by decide +kernel
theorem dX7_wipe_4 : decode cX7_wipe 4 = .ok (.istore_n 1, 1) := by decide +kernel
theorem dX7_wipe_5 : decode cX7_wipe 5 = .ok (.aload_n 0, 1) := by decide +kernel
theorem dX7_wipe_6 : decode cX7_wipe 6 = .ok (.iconst 0, 1) := by decide +kernel
theorem dX7_wipe_7 : decode cX7_wipe 7 = .ok (.putfield 73, 3) := by decide +kernel
theorem dX7_wipe_10 : decode cX7_wipe 10 = .ok (.iload_n 1, 1) := by decide +kernel
theorem dX7_wipe_11 : decode cX7_wipe 11 = .ok (.ireturn, 1) := by decide +kernel
theorem dX7_knotAt_0 : decode cX7_knotAt 0 = .ok (.iload_n 1, 1) := by decide +kernel
theorem dX7_knotAt_1 : decode cX7_knotAt 1 = .ok (.aload_n 0, 1) := by decide +kernel
theorem dX7_knotAt_2 : decode cX7_knotAt 2 = .ok (.getfield 73, 3) := by decide +kernel
theorem dX7_knotAt_5 : decode cX7_knotAt 5 = .ok (.if_icmp .ge 34, 3) := by decide +kernel
theorem dX7_knotAt_8 : decode cX7_knotAt 8 = .ok (.aload_n 0, 1) := by decide +kernel
theorem dX7_knotAt_9 : decode cX7_knotAt 9 = .ok (.getfield 13, 3) := by decide +kernel
theorem dX7_knotAt_12 : decode cX7_knotAt 12 = .ok (.iload_n 1, 1) := by decide +kernel
theorem dX7_knotAt_13 : decode cX7_knotAt 13 = .ok (.iaload, 1) := by decide +kernel
theorem dX7_knotAt_14 : decode cX7_knotAt 14 = .ok (.i2l, 1) := by decide +kernel
theorem dX7_knotAt_15 : decode cX7_knotAt 15 = .ok (.ldc2_w 77, 3) := by decide +kernel
theorem dX7_knotAt_18 : decode cX7_knotAt 18 = .ok (.ldc2_w 79, 3) := by decide +kernel
theorem dX7_knotAt_21 : decode cX7_knotAt 21 = .ok (.invokestatic 58, 3) := by decide +kernel
theorem dX7_knotAt_24 : decode cX7_knotAt 24 = .ok (.ifCond .eq 15, 3) := by decide +kernel
theorem dX7_knotAt_27 : decode cX7_knotAt 27 = .ok (.aload_n 0, 1) := by decide +kernel
theorem dX7_knotAt_28 : decode cX7_knotAt 28 = .ok (.getfield 13, 3) := by decide +kernel
theorem dX7_knotAt_31 : decode cX7_knotAt 31 = .ok (.iload_n 1, 1) := by decide +kernel
theorem dX7_knotAt_32 : decode cX7_knotAt 32 = .ok (.iaload, 1) := by decide +kernel
theorem dX7_knotAt_33 : decode cX7_knotAt 33 = .ok (.bipush 48, 2) := by decide +kernel
theorem dX7_knotAt_35 : decode cX7_knotAt 35 = .ok (.isub, 1) := by decide +kernel
theorem dX7_knotAt_36 : decode cX7_knotAt 36 = .ok (.goto 5, 3) := by decide +kernel
theorem dX7_knotAt_39 : decode cX7_knotAt 39 = .ok (.bipush (-9), 2) := by decide +kernel
theorem dX7_knotAt_41 : decode cX7_knotAt 41 = .ok (.ireturn, 1) := by decide +kernel
theorem dX7_linksOf_0 : decode cX7_linksOf 0 = .ok (.iconst 0, 1) := by decide +kernel
theorem dX7_linksOf_1 : decode cX7_linksOf 1 = .ok (.istore_n 2, 1) := by decide +kernel
theorem dX7_linksOf_2 : decode cX7_linksOf 2 = .ok (.iconst 0, 1) := by decide +kernel
theorem dX7_linksOf_3 : decode cX7_linksOf 3 = .ok (.istore_n 3, 1) := by decide +kernel
theorem dX7_linksOf_4 : decode cX7_linksOf 4 = .ok (.iload_n 3, 1) := by decide +kernel
theorem dX7_linksOf_5 : decode cX7_linksOf 5 = .ok (.bipush 8, 2) := by decide +kernel
theorem dX7_linksOf_7 : decode cX7_linksOf 7 = .ok (.if_icmp .ge 31, 3) := by decide +kernel
theorem dX7_linksOf_10 : decode cX7_linksOf 10 = .ok (.iload_n 2, 1) := by decide +kernel
theorem dX7_linksOf_11 : decode cX7_linksOf 11 = .ok (.aload_n 0, 1) := by decide +kernel
theorem dX7_linksOf_12 : decode cX7_linksOf 12 = .ok (.getfield 16, 3) := by decide +kernel
theorem dX7_linksOf_15 : decode cX7_linksOf 15 = .ok (.bipush 8, 2) := by decide +kernel
theorem dX7_linksOf_17 : decode cX7_linksOf 17 = .ok (.iload_n 1, 1) := by decide +kernel
theorem dX7_linksOf_18 : decode cX7_linksOf 18 = .ok (.imul, 1) := by decide +kernel
theorem dX7_linksOf_19 : decode cX7_linksOf 19 = .ok (.iload_n 3, 1) := by decide +kernel
theorem dX7_linksOf_20 : decode cX7_linksOf 20 = .ok (.iadd, 1) := by decide +kernel
theorem dX7_linksOf_21 : decode cX7_linksOf 21 = .ok (.iaload, 1) := by decide +kernel
theorem dX7_linksOf_22 : decode cX7_linksOf 22 = .ok (.ifCond .le 7, 3) := by decide +kernel
theorem dX7_linksOf_25 : decode cX7_linksOf 25 = .ok (.iconst 1, 1) := by decide +kernel
theorem dX7_linksOf_26 : decode cX7_linksOf 26 = .ok (.goto 4, 3) := by decide +kernel
theorem dX7_linksOf_29 : decode cX7_linksOf 29 = .ok (.iconst 0, 1) := by decide +kernel
theorem dX7_linksOf_30 : decode cX7_linksOf 30 = .ok (.iadd, 1) := by decide +kernel
theorem dX7_linksOf_31 : decode cX7_linksOf 31 = .ok (.istore_n 2, 1) := by decide +kernel
theorem dX7_linksOf_32 : decode cX7_linksOf 32 = .ok (.iinc 3 1, 3) := by decide +kernel
theorem dX7_linksOf_35 : decode cX7_linksOf 35 = .ok (.goto (-31), 3) := by decide +kernel
theorem dX7_linksOf_38 : decode cX7_linksOf 38 = .ok (.iload_n 2, 1) := by decide +kernel
theorem dX7_linksOf_39 : decode cX7_linksOf 39 = .ok (.ireturn, 1) := by decide +kernel
theorem dX7_linksOfAll_0 : decode cX7_linksOfAll 0 = .ok (.iconst 0, 1) := by decide +kernel
theorem dX7_linksOfAll_1 : decode cX7_linksOfAll 1 = .ok (.istore_n 1, 1) := by decide +kernel
theorem dX7_linksOfAll_2 : decode cX7_linksOfAll 2 = .ok (.iconst 0, 1) := by decide +kernel
theorem dX7_linksOfAll_3 : decode cX7_linksOfAll 3 = .ok (.istore_n 2, 1) := by decide +kernel
theorem dX7_linksOfAll_4 : decode cX7_linksOfAll 4 = .ok (.iload_n 2, 1) := by decide +kernel
theorem dX7_linksOfAll_5 : decode cX7_linksOfAll 5 = .ok (.bipush 8, 2) := by decide +kernel
theorem dX7_linksOfAll_7 : decode cX7_linksOfAll 7 = .ok (.if_icmp .ge 17, 3) := by decide +kernel
theorem dX7_linksOfAll_10 : decode cX7_linksOfAll 10 = .ok (.iload_n 1, 1) := by decide +kernel
theorem dX7_linksOfAll_11 : decode cX7_linksOfAll 11 = .ok (.aload_n 0, 1) := by decide +kernel
theorem dX7_linksOfAll_12 : decode cX7_linksOfAll 12 = .ok (.iload_n 2, 1) := by decide +kernel
theorem dX7_linksOfAll_13 : decode cX7_linksOfAll 13 = .ok (.invokevirtual 81, 3) := by decide +kernel
theorem dX7_linksOfAll_16 : decode cX7_linksOfAll 16 = .ok (.iadd, 1) := by decide +kernel
theorem dX7_linksOfAll_17 : decode cX7_linksOfAll 17 = .ok (.istore_n 1, 1) := by decide +kernel
theorem dX7_linksOfAll_18 : decode cX7_linksOfAll 18 = .ok (.iinc 2 1, 3) := by decide +kernel
theorem dX7_linksOfAll_21 : decode cX7_linksOfAll 21 = .ok (.goto (-17), 3) := by decide +kernel
theorem dX7_linksOfAll_24 : decode cX7_linksOfAll 24 = .ok (.iload_n 1, 1) := by decide +kernel
theorem dX7_linksOfAll_25 : decode cX7_linksOfAll 25 = .ok (.ireturn, 1) := by decide +kernel
theorem dX7_readText_0 : decode cX7_readText 0 = .ok (.aload_n 0, 1) := by decide +kernel
theorem dX7_readText_1 : decode cX7_readText 1 = .ok (.getfield 7, 3) := by decide +kernel
theorem dX7_readText_4 : decode cX7_readText 4 = .ok (.bipush 17, 2) := by decide +kernel
theorem dX7_readText_6 : decode cX7_readText 6 = .ok (.iconst 0, 1) := by decide +kernel
theorem dX7_readText_7 : decode cX7_readText 7 = .ok (.iastore, 1) := by decide +kernel
theorem dX7_readText_8 : decode cX7_readText 8 = .ok (.iconst 0, 1) := by decide +kernel
theorem dX7_readText_9 : decode cX7_readText 9 = .ok (.istore_n 1, 1) := by decide +kernel
theorem dX7_readText_10 : decode cX7_readText 10 = .ok (.iload_n 1, 1) := by decide +kernel
theorem dX7_readText_11 : decode cX7_readText 11 = .ok (.bipush 64, 2) := by decide +kernel
theorem dX7_readText_13 : decode cX7_readText 13 = .ok (.if_icmp .ge 16, 3) := by decide +kernel
theorem dX7_readText_16 : decode cX7_readText 16 = .ok (.aload_n 0, 1) := by decide +kernel
theorem dX7_readText_17 : decode cX7_readText 17 = .ok (.getfield 16, 3) := by decide +kernel
theorem dX7_readText_20 : decode cX7_readText 20 = .ok (.iload_n 1, 1) := by decide +kernel
theorem dX7_readText_21 : decode cX7_readText 21 = .ok (.iconst 0, 1) := by decide +kernel
theorem dX7_readText_22 : decode cX7_readText 22 = .ok (.iastore, 1) := by decide +kernel
theorem dX7_readText_23 : decode cX7_readText 23 = .ok (.iinc 1 1, 3) := by decide +kernel
theorem dX7_readText_26 : decode cX7_readText 26 = .ok (.goto (-16), 3) := by decide +kernel
theorem dX7_readText_29 : decode cX7_readText 29 = .ok (.aload_n 0, 1) := by decide +kernel
theorem dX7_readText_30 : decode cX7_readText 30 = .ok (.getfield 73, 3) := by decide +kernel
theorem dX7_readText_33 : decode cX7_readText 33 = .ok (.ifCond .eq 14, 3) := by decide +kernel
theorem dX7_readText_36 : decode cX7_readText 36 = .ok (.aload_n 0, 1) := by decide +kernel
theorem dX7_readText_37 : decode cX7_readText 37 = .ok (.getfield 13, 3) := by decide +kernel
theorem dX7_readText_40 : decode cX7_readText 40 = .ok (.iconst 0, 1) := by decide +kernel
theorem dX7_readText_41 : decode cX7_readText 41 = .ok (.iaload, 1) := by decide +kernel
theorem dX7_readText_42 : decode cX7_readText 42 = .ok (.bipush 76, 2) := by decide +kernel
theorem dX7_readText_44 : decode cX7_readText 44 = .ok (.if_icmp .eq 5, 3) := by decide +kernel
theorem dX7_readText_47 : decode cX7_readText 47 = .ok (.iconst 0, 1) := by decide +kernel
theorem dX7_readText_48 : decode cX7_readText 48 = .ok (.ireturn, 1) := by decide +kernel
theorem dX7_readText_49 : decode cX7_readText 49 = .ok (.iconst 1, 1) := by decide +kernel
theorem dX7_readText_50 : decode cX7_readText 50 = .ok (.istore_n 1, 1) := by decide +kernel
theorem dX7_readText_51 : decode cX7_readText 51 = .ok (.iconst 0, 1) := by decide +kernel
theorem dX7_readText_52 : decode cX7_readText 52 = .ok (.istore_n 2, 1) := by decide +kernel
theorem dX7_readText_53 : decode cX7_readText 53 = .ok (.iload_n 1, 1) := by decide +kernel
theorem dX7_readText_54 : decode cX7_readText 54 = .ok (.aload_n 0, 1) := by decide +kernel
theorem dX7_readText_55 : decode cX7_readText 55 = .ok (.getfield 73, 3) := by decide +kernel
theorem dX7_readText_58 : decode cX7_readText 58 = .ok (.if_icmp .ge 113, 3) := by decide +kernel
theorem dX7_readText_61 : decode cX7_readText 61 = .ok (.aload_n 0, 1) := by decide +kernel
theorem dX7_readText_62 : decode cX7_readText 62 = .ok (.getfield 13, 3) := by decide +kernel
theorem dX7_readText_65 : decode cX7_readText 65 = .ok (.iload_n 1, 1) := by decide +kernel
theorem dX7_readText_66 : decode cX7_readText 66 = .ok (.iaload, 1) := by decide +kernel
theorem dX7_readText_67 : decode cX7_readText 67 = .ok (.istore_n 3, 1) := by decide +kernel
theorem dX7_readText_68 : decode cX7_readText 68 = .ok (.iload_n 3, 1) := by decide +kernel
theorem dX7_readText_69 : decode cX7_readText 69 = .ok (.bipush 43, 2) := by decide +kernel
theorem dX7_readText_71 : decode cX7_readText 71 = .ok (.if_icmp .ne 7, 3) := by decide +kernel
theorem dX7_readText_74 : decode cX7_readText 74 = .ok (.iconst 1, 1) := by decide +kernel
theorem dX7_readText_75 : decode cX7_readText 75 = .ok (.goto 4, 3) := by decide +kernel
theorem dX7_readText_78 : decode cX7_readText 78 = .ok (.iconst 0, 1) := by decide +kernel
theorem dX7_readText_79 : decode cX7_readText 79 = .ok (.istore 4, 2) := by decide +kernel
theorem dX7_readText_81 : decode cX7_readText 81 = .ok (.iload_n 3, 1) := by decide +kernel
theorem dX7_readText_82 : decode cX7_readText 82 = .ok (.bipush 45, 2) := by decide +kernel
theorem dX7_readText_84 : decode cX7_readText 84 = .ok (.if_icmp .ne 14, 3) := by decide +kernel
theorem dX7_readText_87 : decode cX7_readText 87 = .ok (.aload_n 0, 1) := by decide +kernel
theorem dX7_readText_88 : decode cX7_readText 88 = .ok (.invokevirtual 84, 3) := by decide +kernel
theorem dX7_readText_91 : decode cX7_readText 91 = .ok (.ifCond .le 7, 3) := by decide +kernel
theorem dX7_readText_94 : decode cX7_readText 94 = .ok (.iconst 1, 1) := by decide +kernel
theorem dX7_readText_95 : decode cX7_readText 95 = .ok (.goto 4, 3) := by decide +kernel
theorem dX7_readText_98 : decode cX7_readText 98 = .ok (.iconst 0, 1) := by decide +kernel
theorem dX7_readText_99 : decode cX7_readText 99 = .ok (.istore 5, 2) := by decide +kernel
theorem dX7_readText_101 : decode cX7_readText 101 = .ok (.iload_n 2, 1) := by decide +kernel
theorem dX7_readText_102 : decode cX7_readText 102 = .ok (.bipush 16, 2) := by decide +kernel
theorem dX7_readText_104 : decode cX7_readText 104 = .ok (.if_icmp .eq 19, 3) := by decide +kernel
theorem dX7_readText_107 : decode cX7_readText 107 = .ok (.iload 4, 2) := by decide +kernel
theorem dX7_readText_109 : decode cX7_readText 109 = .ok (.ifCond .ne 16, 3) := by decide +kernel
theorem dX7_readText_112 : decode cX7_readText 112 = .ok (.iload 5, 2) := by decide +kernel
theorem dX7_readText_114 : decode cX7_readText 114 = .ok (.ifCond .ne 11, 3) := by decide +kernel
theorem dX7_readText_117 : decode cX7_readText 117 = .ok (.iload_n 3, 1) := by decide +kernel
theorem dX7_readText_118 : decode cX7_readText 118 = .ok (.bipush 46, 2) := by decide +kernel
theorem dX7_readText_120 : decode cX7_readText 120 = .ok (.if_icmp .eq 5, 3) := by decide +kernel
theorem dX7_readText_123 : decode cX7_readText 123 = .ok (.iload_n 1, 1) := by decide +kernel
theorem dX7_readText_124 : decode cX7_readText 124 = .ok (.ireturn, 1) := by decide +kernel
theorem dX7_readText_125 : decode cX7_readText 125 = .ok (.iload_n 3, 1) := by decide +kernel
theorem dX7_readText_126 : decode cX7_readText 126 = .ok (.bipush 46, 2) := by decide +kernel
theorem dX7_readText_128 : decode cX7_readText 128 = .ok (.if_icmp .eq 23, 3) := by decide +kernel
theorem dX7_readText_131 : decode cX7_readText 131 = .ok (.aload_n 0, 1) := by decide +kernel
theorem dX7_readText_132 : decode cX7_readText 132 = .ok (.iload_n 1, 1) := by decide +kernel
theorem dX7_readText_133 : decode cX7_readText 133 = .ok (.iload 4, 2) := by decide +kernel
theorem dX7_readText_135 : decode cX7_readText 135 = .ok (.iload_n 2, 1) := by decide +kernel
theorem dX7_readText_136 : decode cX7_readText 136 = .ok (.invokevirtual 88, 3) := by decide +kernel
theorem dX7_readText_139 : decode cX7_readText 139 = .ok (.istore 6, 2) := by decide +kernel
theorem dX7_readText_141 : decode cX7_readText 141 = .ok (.iload 6, 2) := by decide +kernel
theorem dX7_readText_143 : decode cX7_readText 143 = .ok (.bipush (-9), 2) := by decide +kernel
theorem dX7_readText_145 : decode cX7_readText 145 = .ok (.if_icmp .eq 6, 3) := by decide +kernel
theorem dX7_readText_148 : decode cX7_readText 148 = .ok (.iload 6, 2) := by decide +kernel
theorem dX7_readText_150 : decode cX7_readText 150 = .ok (.ireturn, 1) := by decide +kernel
theorem dX7_readText_151 : decode cX7_readText 151 = .ok (.iload_n 1, 1) := by decide +kernel
theorem dX7_readText_152 : decode cX7_readText 152 = .ok (.iload_n 3, 1) := by decide +kernel
theorem dX7_readText_153 : decode cX7_readText 153 = .ok (.bipush 46, 2) := by decide +kernel
theorem dX7_readText_155 : decode cX7_readText 155 = .ok (.if_icmp .ne 7, 3) := by decide +kernel
theorem dX7_readText_158 : decode cX7_readText 158 = .ok (.iconst 1, 1) := by decide +kernel
theorem dX7_readText_159 : decode cX7_readText 159 = .ok (.goto 4, 3) := by decide +kernel
theorem dX7_readText_162 : decode cX7_readText 162 = .ok (.iconst 3, 1) := by decide +kernel
theorem dX7_readText_163 : decode cX7_readText 163 = .ok (.iadd, 1) := by decide +kernel
theorem dX7_readText_164 : decode cX7_readText 164 = .ok (.istore_n 1, 1) := by decide +kernel
theorem dX7_readText_165 : decode cX7_readText 165 = .ok (.iinc 2 1, 3) := by decide +kernel
theorem dX7_readText_168 : decode cX7_readText 168 = .ok (.goto (-115), 3) := by decide +kernel
theorem dX7_readText_171 : decode cX7_readText 171 = .ok (.bipush (-9), 2) := by decide +kernel
theorem dX7_readText_173 : decode cX7_readText 173 = .ok (.ireturn, 1) := by decide +kernel
theorem dX7_readPair_0 : decode cX7_readPair 0 = .ok (.aload_n 0, 1) := by decide +kernel
theorem dX7_readPair_1 : decode cX7_readPair 1 = .ok (.iload_n 1, 1) := by decide +kernel
theorem dX7_readPair_2 : decode cX7_readPair 2 = .ok (.iconst 1, 1) := by decide +kernel
theorem dX7_readPair_3 : decode cX7_readPair 3 = .ok (.iadd, 1) := by decide +kernel
theorem dX7_readPair_4 : decode cX7_readPair 4 = .ok (.invokevirtual 92, 3) := by decide +kernel
theorem dX7_readPair_7 : decode cX7_readPair 7 = .ok (.istore 4, 2) := by decide +kernel
theorem dX7_readPair_9 : decode cX7_readPair 9 = .ok (.iload 4, 2) := by decide +kernel
theorem dX7_readPair_11 : decode cX7_readPair 11 = .ok (.bipush (-9), 2) := by decide +kernel
theorem dX7_readPair_13 : decode cX7_readPair 13 = .ok (.if_icmp .eq 22, 3) := by decide +kernel
theorem dX7_readPair_16 : decode cX7_readPair 16 = .ok (.aload_n 0, 1) := by decide +kernel
theorem dX7_readPair_17 : decode cX7_readPair 17 = .ok (.iload 4, 2) := by decide +kernel
theorem dX7_readPair_19 : decode cX7_readPair 19 = .ok (.invokevirtual 81, 3) := by decide +kernel
theorem dX7_readPair_22 : decode cX7_readPair 22 = .ok (.iload_n 2, 1) := by decide +kernel
theorem dX7_readPair_23 : decode cX7_readPair 23 = .ok (.ifCond .eq 8, 3) := by decide +kernel
theorem dX7_readPair_26 : decode cX7_readPair 26 = .ok (.bipush 7, 2) := by decide +kernel
theorem dX7_readPair_28 : decode cX7_readPair 28 = .ok (.goto 4, 3) := by decide +kernel
theorem dX7_readPair_31 : decode cX7_readPair 31 = .ok (.iconst 0, 1) := by decide +kernel
theorem dX7_readPair_32 : decode cX7_readPair 32 = .ok (.if_icmp .ne 7, 3) := by decide +kernel
theorem dX7_readPair_35 : decode cX7_readPair 35 = .ok (.iload_n 1, 1) := by decide +kernel
theorem dX7_readPair_36 : decode cX7_readPair 36 = .ok (.iconst 1, 1) := by decide +kernel
theorem dX7_readPair_37 : decode cX7_readPair 37 = .ok (.iadd, 1) := by decide +kernel
theorem dX7_readPair_38 : decode cX7_readPair 38 = .ok (.ireturn, 1) := by decide +kernel
theorem dX7_readPair_39 : decode cX7_readPair 39 = .ok (.aload_n 0, 1) := by decide +kernel
theorem dX7_readPair_40 : decode cX7_readPair 40 = .ok (.iload_n 1, 1) := by decide +kernel
theorem dX7_readPair_41 : decode cX7_readPair 41 = .ok (.iconst 2, 1) := by decide +kernel
theorem dX7_readPair_42 : decode cX7_readPair 42 = .ok (.iadd, 1) := by decide +kernel
theorem dX7_readPair_43 : decode cX7_readPair 43 = .ok (.invokevirtual 92, 3) := by decide +kernel
theorem dX7_readPair_46 : decode cX7_readPair 46 = .ok (.istore 5, 2) := by decide +kernel
theorem dX7_readPair_48 : decode cX7_readPair 48 = .ok (.iload 5, 2) := by decide +kernel
theorem dX7_readPair_50 : decode cX7_readPair 50 = .ok (.bipush (-9), 2) := by decide +kernel
theorem dX7_readPair_52 : decode cX7_readPair 52 = .ok (.if_icmp .eq 35, 3) := by decide +kernel
theorem dX7_readPair_55 : decode cX7_readPair 55 = .ok (.iload 5, 2) := by decide +kernel
theorem dX7_readPair_57 : decode cX7_readPair 57 = .ok (.iload 4, 2) := by decide +kernel
theorem dX7_readPair_59 : decode cX7_readPair 59 = .ok (.if_icmp .eq 28, 3) := by decide +kernel
theorem dX7_readPair_62 : decode cX7_readPair 62 = .ok (.aload_n 0, 1) := by decide +kernel
theorem dX7_readPair_63 : decode cX7_readPair 63 = .ok (.getfield 16, 3) := by decide +kernel
theorem dX7_readPair_66 : decode cX7_readPair 66 = .ok (.bipush 8, 2) := by decide +kernel
theorem dX7_readPair_68 : decode cX7_readPair 68 = .ok (.iload 4, 2) := by decide +kernel
theorem dX7_readPair_70 : decode cX7_readPair 70 = .ok (.imul, 1) := by decide +kernel
theorem dX7_readPair_71 : decode cX7_readPair 71 = .ok (.iload 5, 2) := by decide +kernel
theorem dX7_readPair_73 : decode cX7_readPair 73 = .ok (.iadd, 1) := by decide +kernel
theorem dX7_readPair_74 : decode cX7_readPair 74 = .ok (.iaload, 1) := by decide +kernel
theorem dX7_readPair_75 : decode cX7_readPair 75 = .ok (.ifCond .le 7, 3) := by decide +kernel
theorem dX7_readPair_78 : decode cX7_readPair 78 = .ok (.iconst 1, 1) := by decide +kernel
theorem dX7_readPair_79 : decode cX7_readPair 79 = .ok (.goto 4, 3) := by decide +kernel
theorem dX7_readPair_82 : decode cX7_readPair 82 = .ok (.iconst 0, 1) := by decide +kernel
theorem dX7_readPair_83 : decode cX7_readPair 83 = .ok (.iload_n 2, 1) := by decide +kernel
theorem dX7_readPair_84 : decode cX7_readPair 84 = .ok (.if_icmp .ne 7, 3) := by decide +kernel
theorem dX7_readPair_87 : decode cX7_readPair 87 = .ok (.iload_n 1, 1) := by decide +kernel
theorem dX7_readPair_88 : decode cX7_readPair 88 = .ok (.iconst 2, 1) := by decide +kernel
theorem dX7_readPair_89 : decode cX7_readPair 89 = .ok (.iadd, 1) := by decide +kernel
theorem dX7_readPair_90 : decode cX7_readPair 90 = .ok (.ireturn, 1) := by decide +kernel
theorem dX7_readPair_91 : decode cX7_readPair 91 = .ok (.iload_n 2, 1) := by decide +kernel
theorem dX7_readPair_92 : decode cX7_readPair 92 = .ok (.ifCond .eq 82, 3) := by decide +kernel
theorem dX7_readPair_95 : decode cX7_readPair 95 = .ok (.aload_n 0, 1) := by decide +kernel
theorem dX7_readPair_96 : decode cX7_readPair 96 = .ok (.getfield 7, 3) := by decide +kernel
theorem dX7_readPair_99 : decode cX7_readPair 99 = .ok (.bipush 18, 2) := by decide +kernel
theorem dX7_readPair_101 : decode cX7_readPair 101 = .ok (.aload_n 0, 1) := by decide +kernel
theorem dX7_readPair_102 : decode cX7_readPair 102 = .ok (.getfield 7, 3) := by decide +kernel
theorem dX7_readPair_105 : decode cX7_readPair 105 = .ok (.bipush 17, 2) := by decide +kernel
theorem dX7_readPair_107 : decode cX7_readPair 107 = .ok (.iaload, 1) := by decide +kernel
theorem dX7_readPair_108 : decode cX7_readPair 108 = .ok (.iadd, 1) := by decide +kernel
theorem dX7_readPair_109 : decode cX7_readPair 109 = .ok (.iload 4, 2) := by decide +kernel
theorem dX7_readPair_111 : decode cX7_readPair 111 = .ok (.iload 5, 2) := by decide +kernel
theorem dX7_readPair_113 : decode cX7_readPair 113 = .ok (.iload_n 3, 1) := by decide +kernel
theorem dX7_readPair_114 : decode cX7_readPair 114 = .ok (.bipush 15, 2) := by decide +kernel
theorem dX7_readPair_116 : decode cX7_readPair 116 = .ok (.invokestatic 95, 3) := by decide +kernel
theorem dX7_readPair_119 : decode cX7_readPair 119 = .ok (.iastore, 1) := by decide +kernel
theorem dX7_readPair_120 : decode cX7_readPair 120 = .ok (.aload_n 0, 1) := by decide +kernel
theorem dX7_readPair_121 : decode cX7_readPair 121 = .ok (.getfield 7, 3) := by decide +kernel
theorem dX7_readPair_124 : decode cX7_readPair 124 = .ok (.bipush 17, 2) := by decide +kernel
theorem dX7_readPair_126 : decode cX7_readPair 126 = .ok (.dup2, 1) := by decide +kernel
theorem dX7_readPair_127 : decode cX7_readPair 127 = .ok (.iaload, 1) := by decide +kernel
theorem dX7_readPair_128 : decode cX7_readPair 128 = .ok (.iconst 1, 1) := by decide +kernel
theorem dX7_readPair_129 : decode cX7_readPair 129 = .ok (.iadd, 1) := by decide +kernel
theorem dX7_readPair_130 : decode cX7_readPair 130 = .ok (.iastore, 1) := by decide +kernel
theorem dX7_readPair_131 : decode cX7_readPair 131 = .ok (.aload_n 0, 1) := by decide +kernel
theorem dX7_readPair_132 : decode cX7_readPair 132 = .ok (.getfield 16, 3) := by decide +kernel
theorem dX7_readPair_135 : decode cX7_readPair 135 = .ok (.bipush 8, 2) := by decide +kernel
theorem dX7_readPair_137 : decode cX7_readPair 137 = .ok (.iload 4, 2) := by decide +kernel
theorem dX7_readPair_139 : decode cX7_readPair 139 = .ok (.imul, 1) := by decide +kernel
theorem dX7_readPair_140 : decode cX7_readPair 140 = .ok (.iload 5, 2) := by decide +kernel
theorem dX7_readPair_142 : decode cX7_readPair 142 = .ok (.iadd, 1) := by decide +kernel
theorem dX7_readPair_143 : decode cX7_readPair 143 = .ok (.aload_n 0, 1) := by decide +kernel
theorem dX7_readPair_144 : decode cX7_readPair 144 = .ok (.getfield 7, 3) := by decide +kernel
theorem dX7_readPair_147 : decode cX7_readPair 147 = .ok (.bipush 17, 2) := by decide +kernel
theorem dX7_readPair_149 : decode cX7_readPair 149 = .ok (.iaload, 1) := by decide +kernel
theorem dX7_readPair_150 : decode cX7_readPair 150 = .ok (.iastore, 1) := by decide +kernel
theorem dX7_readPair_151 : decode cX7_readPair 151 = .ok (.aload_n 0, 1) := by decide +kernel
theorem dX7_readPair_152 : decode cX7_readPair 152 = .ok (.getfield 16, 3) := by decide +kernel
theorem dX7_readPair_155 : decode cX7_readPair 155 = .ok (.bipush 8, 2) := by decide +kernel
theorem dX7_readPair_157 : decode cX7_readPair 157 = .ok (.iload 5, 2) := by decide +kernel
theorem dX7_readPair_159 : decode cX7_readPair 159 = .ok (.imul, 1) := by decide +kernel
theorem dX7_readPair_160 : decode cX7_readPair 160 = .ok (.iload 4, 2) := by decide +kernel
theorem dX7_readPair_162 : decode cX7_readPair 162 = .ok (.iadd, 1) := by decide +kernel
theorem dX7_readPair_163 : decode cX7_readPair 163 = .ok (.aload_n 0, 1) := by decide +kernel
theorem dX7_readPair_164 : decode cX7_readPair 164 = .ok (.getfield 7, 3) := by decide +kernel
theorem dX7_readPair_167 : decode cX7_readPair 167 = .ok (.bipush 17, 2) := by decide +kernel
theorem dX7_readPair_169 : decode cX7_readPair 169 = .ok (.iaload, 1) := by decide +kernel
theorem dX7_readPair_170 : decode cX7_readPair 170 = .ok (.iastore, 1) := by decide +kernel
theorem dX7_readPair_171 : decode cX7_readPair 171 = .ok (.goto 78, 3) := by decide +kernel
theorem dX7_readPair_174 : decode cX7_readPair 174 = .ok (.bipush 18, 2) := by decide +kernel
theorem dX7_readPair_176 : decode cX7_readPair 176 = .ok (.aload_n 0, 1) := by decide +kernel
theorem dX7_readPair_177 : decode cX7_readPair 177 = .ok (.getfield 16, 3) := by decide +kernel
theorem dX7_readPair_180 : decode cX7_readPair 180 = .ok (.bipush 8, 2) := by decide +kernel
theorem dX7_readPair_182 : decode cX7_readPair 182 = .ok (.iload 4, 2) := by decide +kernel
theorem dX7_readPair_184 : decode cX7_readPair 184 = .ok (.imul, 1) := by decide +kernel
theorem dX7_readPair_185 : decode cX7_readPair 185 = .ok (.iload 5, 2) := by decide +kernel
theorem dX7_readPair_187 : decode cX7_readPair 187 = .ok (.iadd, 1) := by decide +kernel
theorem dX7_readPair_188 : decode cX7_readPair 188 = .ok (.iaload, 1) := by decide +kernel
theorem dX7_readPair_189 : decode cX7_readPair 189 = .ok (.iadd, 1) := by decide +kernel
theorem dX7_readPair_190 : decode cX7_readPair 190 = .ok (.iconst 1, 1) := by decide +kernel
theorem dX7_readPair_191 : decode cX7_readPair 191 = .ok (.isub, 1) := by decide +kernel
theorem dX7_readPair_192 : decode cX7_readPair 192 = .ok (.istore 6, 2) := by decide +kernel
theorem dX7_readPair_194 : decode cX7_readPair 194 = .ok (.aload_n 0, 1) := by decide +kernel
theorem dX7_readPair_195 : decode cX7_readPair 195 = .ok (.getfield 7, 3) := by decide +kernel
theorem dX7_readPair_198 : decode cX7_readPair 198 = .ok (.iload 6, 2) := by decide +kernel
theorem dX7_readPair_200 : decode cX7_readPair 200 = .ok (.iload 4, 2) := by decide +kernel
theorem dX7_readPair_202 : decode cX7_readPair 202 = .ok (.iload 5, 2) := by decide +kernel
theorem dX7_readPair_204 : decode cX7_readPair 204 = .ok (.aload_n 0, 1) := by decide +kernel
theorem dX7_readPair_205 : decode cX7_readPair 205 = .ok (.getfield 7, 3) := by decide +kernel
theorem dX7_readPair_208 : decode cX7_readPair 208 = .ok (.iload 6, 2) := by decide +kernel
theorem dX7_readPair_210 : decode cX7_readPair 210 = .ok (.iaload, 1) := by decide +kernel
theorem dX7_readPair_211 : decode cX7_readPair 211 = .ok (.invokestatic 64, 3) := by decide +kernel
theorem dX7_readPair_214 : decode cX7_readPair 214 = .ok (.iload_n 3, 1) := by decide +kernel
theorem dX7_readPair_215 : decode cX7_readPair 215 = .ok (.iconst 1, 1) := by decide +kernel
theorem dX7_readPair_216 : decode cX7_readPair 216 = .ok (.isub, 1) := by decide +kernel
theorem dX7_readPair_217 : decode cX7_readPair 217 = .ok (.invokestatic 95, 3) := by decide +kernel
theorem dX7_readPair_220 : decode cX7_readPair 220 = .ok (.iastore, 1) := by decide +kernel
theorem dX7_readPair_221 : decode cX7_readPair 221 = .ok (.aload_n 0, 1) := by decide +kernel
theorem dX7_readPair_222 : decode cX7_readPair 222 = .ok (.getfield 16, 3) := by decide +kernel
theorem dX7_readPair_225 : decode cX7_readPair 225 = .ok (.bipush 8, 2) := by decide +kernel
theorem dX7_readPair_227 : decode cX7_readPair 227 = .ok (.iload 4, 2) := by decide +kernel
theorem dX7_readPair_229 : decode cX7_readPair 229 = .ok (.imul, 1) := by decide +kernel
theorem dX7_readPair_230 : decode cX7_readPair 230 = .ok (.iload 5, 2) := by decide +kernel
theorem dX7_readPair_232 : decode cX7_readPair 232 = .ok (.iadd, 1) := by decide +kernel
theorem dX7_readPair_233 : decode cX7_readPair 233 = .ok (.iconst 0, 1) := by decide +kernel
theorem dX7_readPair_234 : decode cX7_readPair 234 = .ok (.iastore, 1) := by decide +kernel
theorem dX7_readPair_235 : decode cX7_readPair 235 = .ok (.aload_n 0, 1) := by decide +kernel
theorem dX7_readPair_236 : decode cX7_readPair 236 = .ok (.getfield 16, 3) := by decide +kernel
theorem dX7_readPair_239 : decode cX7_readPair 239 = .ok (.bipush 8, 2) := by decide +kernel
theorem dX7_readPair_241 : decode cX7_readPair 241 = .ok (.iload 5, 2) := by decide +kernel
theorem dX7_readPair_243 : decode cX7_readPair 243 = .ok (.imul, 1) := by decide +kernel
theorem dX7_readPair_244 : decode cX7_readPair 244 = .ok (.iload 4, 2) := by decide +kernel
theorem dX7_readPair_246 : decode cX7_readPair 246 = .ok (.iadd, 1) := by decide +kernel
theorem dX7_readPair_247 : decode cX7_readPair 247 = .ok (.iconst 0, 1) := by decide +kernel
theorem dX7_readPair_248 : decode cX7_readPair 248 = .ok (.iastore, 1) := by decide +kernel
theorem dX7_readPair_249 : decode cX7_readPair 249 = .ok (.bipush (-9), 2) := by decide +kernel
theorem dX7_readPair_251 : decode cX7_readPair 251 = .ok (.ireturn, 1) := by decide +kernel
theorem dX7_fault_0 : decode cX7_fault 0 = .ok (.aload_n 0, 1) := by decide +kernel
theorem dX7_fault_1 : decode cX7_fault 1 = .ok (.invokevirtual 99, 3) := by decide +kernel
theorem dX7_fault_4 : decode cX7_fault 4 = .ok (.ireturn, 1) := by decide +kernel
theorem dX7_life_0 : decode cX7_life 0 = .ok (.aload_n 0, 1) := by decide +kernel
theorem dX7_life_1 : decode cX7_life 1 = .ok (.invokevirtual 99, 3) := by decide +kernel
theorem dX7_life_4 : decode cX7_life 4 = .ok (.bipush (-9), 2) := by decide +kernel
theorem dX7_life_6 : decode cX7_life 6 = .ok (.if_icmp .eq 6, 3) := by decide +kernel
theorem dX7_life_9 : decode cX7_life 9 = .ok (.bipush (-3), 2) := by decide +kernel
theorem dX7_life_11 : decode cX7_life 11 = .ok (.ireturn, 1) := by decide +kernel
theorem dX7_life_12 : decode cX7_life 12 = .ok (.iconst 0, 1) := by decide +kernel
theorem dX7_life_13 : decode cX7_life 13 = .ok (.istore_n 1, 1) := by decide +kernel
theorem dX7_life_14 : decode cX7_life 14 = .ok (.iload_n 1, 1) := by decide +kernel
theorem dX7_life_15 : decode cX7_life 15 = .ok (.bipush 17, 2) := by decide +kernel
theorem dX7_life_17 : decode cX7_life 17 = .ok (.if_icmp .ge 24, 3) := by decide +kernel
theorem dX7_life_20 : decode cX7_life 20 = .ok (.aload_n 0, 1) := by decide +kernel
theorem dX7_life_21 : decode cX7_life 21 = .ok (.getfield 7, 3) := by decide +kernel
theorem dX7_life_24 : decode cX7_life 24 = .ok (.iload_n 1, 1) := by decide +kernel
theorem dX7_life_25 : decode cX7_life 25 = .ok (.aload_n 0, 1) := by decide +kernel
theorem dX7_life_26 : decode cX7_life 26 = .ok (.getfield 7, 3) := by decide +kernel
theorem dX7_life_29 : decode cX7_life 29 = .ok (.bipush 17, 2) := by decide +kernel
theorem dX7_life_31 : decode cX7_life 31 = .ok (.iload_n 1, 1) := by decide +kernel
theorem dX7_life_32 : decode cX7_life 32 = .ok (.iadd, 1) := by decide +kernel
theorem dX7_life_33 : decode cX7_life 33 = .ok (.iaload, 1) := by decide +kernel
theorem dX7_life_34 : decode cX7_life 34 = .ok (.iastore, 1) := by decide +kernel
theorem dX7_life_35 : decode cX7_life 35 = .ok (.iinc 1 1, 3) := by decide +kernel
theorem dX7_life_38 : decode cX7_life 38 = .ok (.goto (-24), 3) := by decide +kernel
theorem dX7_life_41 : decode cX7_life 41 = .ok (.aload_n 0, 1) := by decide +kernel
theorem dX7_life_42 : decode cX7_life 42 = .ok (.iconst 0, 1) := by decide +kernel
theorem dX7_life_43 : decode cX7_life 43 = .ok (.putfield 102, 3) := by decide +kernel
theorem dX7_life_46 : decode cX7_life 46 = .ok (.aload_n 0, 1) := by decide +kernel
theorem dX7_life_47 : decode cX7_life 47 = .ok (.getfield 49, 3) := by decide +kernel
theorem dX7_life_50 : decode cX7_life 50 = .ok (.iconst 0, 1) := by decide +kernel
theorem dX7_life_51 : decode cX7_life 51 = .ok (.iconst 0, 1) := by decide +kernel
theorem dX7_life_52 : decode cX7_life 52 = .ok (.bastore, 1) := by decide +kernel
theorem dX7_life_53 : decode cX7_life 53 = .ok (.aload_n 0, 1) := by decide +kernel
theorem dX7_life_54 : decode cX7_life 54 = .ok (.getfield 49, 3) := by decide +kernel
theorem dX7_life_57 : decode cX7_life 57 = .ok (.iconst 1, 1) := by decide +kernel
theorem dX7_life_58 : decode cX7_life 58 = .ok (.iconst 0, 1) := by decide +kernel
theorem dX7_life_59 : decode cX7_life 59 = .ok (.bastore, 1) := by decide +kernel
theorem dX7_life_60 : decode cX7_life 60 = .ok (.aload_n 0, 1) := by decide +kernel
theorem dX7_life_61 : decode cX7_life 61 = .ok (.getfield 7, 3) := by decide +kernel
theorem dX7_life_64 : decode cX7_life 64 = .ok (.iconst 0, 1) := by decide +kernel
theorem dX7_life_65 : decode cX7_life 65 = .ok (.iaload, 1) := by decide +kernel
theorem dX7_life_66 : decode cX7_life 66 = .ok (.ireturn, 1) := by decide +kernel
theorem dX7_spanOf_0 : decode cX7_spanOf 0 = .ok (.aload_n 0, 1) := by decide +kernel
theorem dX7_spanOf_1 : decode cX7_spanOf 1 = .ok (.getfield 7, 3) := by decide +kernel
theorem dX7_spanOf_4 : decode cX7_spanOf 4 = .ok (.bipush 17, 2) := by decide +kernel
theorem dX7_spanOf_6 : decode cX7_spanOf 6 = .ok (.iload_n 1, 1) := by decide +kernel
theorem dX7_spanOf_7 : decode cX7_spanOf 7 = .ok (.imul, 1) := by decide +kernel
theorem dX7_spanOf_8 : decode cX7_spanOf 8 = .ok (.iconst 1, 1) := by decide +kernel
theorem dX7_spanOf_9 : decode cX7_spanOf 9 = .ok (.iadd, 1) := by decide +kernel
theorem dX7_spanOf_10 : decode cX7_spanOf 10 = .ok (.iload_n 2, 1) := by decide +kernel
theorem dX7_spanOf_11 : decode cX7_spanOf 11 = .ok (.iadd, 1) := by decide +kernel
theorem dX7_spanOf_12 : decode cX7_spanOf 12 = .ok (.iaload, 1) := by decide +kernel
theorem dX7_spanOf_13 : decode cX7_spanOf 13 = .ok (.ireturn, 1) := by decide +kernel
theorem dX7_many_0 : decode cX7_many 0 = .ok (.aload_n 0, 1) := by decide +kernel
theorem dX7_many_1 : decode cX7_many 1 = .ok (.getfield 7, 3) := by decide +kernel
theorem dX7_many_4 : decode cX7_many 4 = .ok (.bipush 17, 2) := by decide +kernel
theorem dX7_many_6 : decode cX7_many 6 = .ok (.iload_n 1, 1) := by decide +kernel
theorem dX7_many_7 : decode cX7_many 7 = .ok (.imul, 1) := by decide +kernel
theorem dX7_many_8 : decode cX7_many 8 = .ok (.iaload, 1) := by decide +kernel
theorem dX7_many_9 : decode cX7_many 9 = .ok (.ireturn, 1) := by decide +kernel
theorem dX7_isSpan_0 : decode cX7_isSpan 0 = .ok (.iload_n 1, 1) := by decide +kernel
theorem dX7_isSpan_1 : decode cX7_isSpan 1 = .ok (.i2l, 1) := by decide +kernel
theorem dX7_isSpan_2 : decode cX7_isSpan 2 = .ok (.lconst 0, 1) := by decide +kernel
theorem dX7_isSpan_3 : decode cX7_isSpan 3 = .ok (.aload_n 0, 1) := by decide +kernel
theorem dX7_isSpan_4 : decode cX7_isSpan 4 = .ok (.iconst 0, 1) := by decide +kernel
theorem dX7_isSpan_5 : decode cX7_isSpan 5 = .ok (.invokevirtual 105, 3) := by decide +kernel
theorem dX7_isSpan_8 : decode cX7_isSpan 8 = .ok (.iconst 1, 1) := by decide +kernel
theorem dX7_isSpan_9 : decode cX7_isSpan 9 = .ok (.isub, 1) := by decide +kernel
theorem dX7_isSpan_10 : decode cX7_isSpan 10 = .ok (.i2l, 1) := by decide +kernel
theorem dX7_isSpan_11 : decode cX7_isSpan 11 = .ok (.invokestatic 58, 3) := by decide +kernel
theorem dX7_isSpan_14 : decode cX7_isSpan 14 = .ok (.ireturn, 1) := by decide +kernel
theorem dX7_isFree_0 : decode cX7_isFree 0 = .ok (.iconst 1, 1) := by decide +kernel
theorem dX7_isFree_1 : decode cX7_isFree 1 = .ok (.istore 4, 2) := by decide +kernel
theorem dX7_isFree_3 : decode cX7_isFree 3 = .ok (.iconst 0, 1) := by decide +kernel
theorem dX7_isFree_4 : decode cX7_isFree 4 = .ok (.istore 5, 2) := by decide +kernel
theorem dX7_isFree_6 : decode cX7_isFree 6 = .ok (.iload 5, 2) := by decide +kernel
theorem dX7_isFree_8 : decode cX7_isFree 8 = .ok (.aload_n 0, 1) := by decide +kernel
theorem dX7_isFree_9 : decode cX7_isFree 9 = .ok (.iload_n 1, 1) := by decide +kernel
theorem dX7_isFree_10 : decode cX7_isFree 10 = .ok (.invokevirtual 105, 3) := by decide +kernel
theorem dX7_isFree_13 : decode cX7_isFree 13 = .ok (.if_icmp .ge 96, 3) := by decide +kernel
theorem dX7_isFree_16 : decode cX7_isFree 16 = .ok (.aload_n 0, 1) := by decide +kernel
theorem dX7_isFree_17 : decode cX7_isFree 17 = .ok (.iload_n 1, 1) := by decide +kernel
theorem dX7_isFree_18 : decode cX7_isFree 18 = .ok (.iload 5, 2) := by decide +kernel
theorem dX7_isFree_20 : decode cX7_isFree 20 = .ok (.invokevirtual 108, 3) := by decide +kernel
theorem dX7_isFree_23 : decode cX7_isFree 23 = .ok (.istore 6, 2) := by decide +kernel
theorem dX7_isFree_25 : decode cX7_isFree 25 = .ok (.iload 5, 2) := by decide +kernel
theorem dX7_isFree_27 : decode cX7_isFree 27 = .ok (.iload_n 3, 1) := by decide +kernel
theorem dX7_isFree_28 : decode cX7_isFree 28 = .ok (.if_icmp .eq 31, 3) := by decide +kernel
theorem dX7_isFree_31 : decode cX7_isFree 31 = .ok (.iload 6, 2) := by decide +kernel
theorem dX7_isFree_33 : decode cX7_isFree 33 = .ok (.invokestatic 112, 3) := by decide +kernel
theorem dX7_isFree_36 : decode cX7_isFree 36 = .ok (.iload_n 2, 1) := by decide +kernel
theorem dX7_isFree_37 : decode cX7_isFree 37 = .ok (.invokestatic 112, 3) := by decide +kernel
theorem dX7_isFree_40 : decode cX7_isFree 40 = .ok (.if_icmp .ne 19, 3) := by decide +kernel
theorem dX7_isFree_43 : decode cX7_isFree 43 = .ok (.iload 6, 2) := by decide +kernel
theorem dX7_isFree_45 : decode cX7_isFree 45 = .ok (.invokestatic 115, 3) := by decide +kernel
theorem dX7_isFree_48 : decode cX7_isFree 48 = .ok (.iload_n 2, 1) := by decide +kernel
theorem dX7_isFree_49 : decode cX7_isFree 49 = .ok (.invokestatic 115, 3) := by decide +kernel
theorem dX7_isFree_52 : decode cX7_isFree 52 = .ok (.if_icmp .ne 7, 3) := by decide +kernel
theorem dX7_isFree_55 : decode cX7_isFree 55 = .ok (.iconst 1, 1) := by decide +kernel
theorem dX7_isFree_56 : decode cX7_isFree 56 = .ok (.goto 4, 3) := by decide +kernel
theorem dX7_isFree_59 : decode cX7_isFree 59 = .ok (.iconst 0, 1) := by decide +kernel
theorem dX7_isFree_60 : decode cX7_isFree 60 = .ok (.istore 7, 2) := by decide +kernel
theorem dX7_isFree_62 : decode cX7_isFree 62 = .ok (.iload 4, 2) := by decide +kernel
theorem dX7_isFree_64 : decode cX7_isFree 64 = .ok (.ifCond .eq 36, 3) := by decide +kernel
theorem dX7_isFree_67 : decode cX7_isFree 67 = .ok (.iload 7, 2) := by decide +kernel
theorem dX7_isFree_69 : decode cX7_isFree 69 = .ok (.ifCond .eq 27, 3) := by decide +kernel
theorem dX7_isFree_72 : decode cX7_isFree 72 = .ok (.iload_n 2, 1) := by decide +kernel
theorem dX7_isFree_73 : decode cX7_isFree 73 = .ok (.invokestatic 64, 3) := by decide +kernel
theorem dX7_isFree_76 : decode cX7_isFree 76 = .ok (.iload 6, 2) := by decide +kernel
theorem dX7_isFree_78 : decode cX7_isFree 78 = .ok (.invokestatic 68, 3) := by decide +kernel
theorem dX7_isFree_81 : decode cX7_isFree 81 = .ok (.if_icmp .gt 15, 3) := by decide +kernel
theorem dX7_isFree_84 : decode cX7_isFree 84 = .ok (.iload 6, 2) := by decide +kernel
theorem dX7_isFree_86 : decode cX7_isFree 86 = .ok (.invokestatic 64, 3) := by decide +kernel
theorem dX7_isFree_89 : decode cX7_isFree 89 = .ok (.iload_n 2, 1) := by decide +kernel
theorem dX7_isFree_90 : decode cX7_isFree 90 = .ok (.invokestatic 68, 3) := by decide +kernel
theorem dX7_isFree_93 : decode cX7_isFree 93 = .ok (.if_icmp .le 7, 3) := by decide +kernel
theorem dX7_isFree_96 : decode cX7_isFree 96 = .ok (.iconst 1, 1) := by decide +kernel
theorem dX7_isFree_97 : decode cX7_isFree 97 = .ok (.goto 4, 3) := by decide +kernel
theorem dX7_isFree_100 : decode cX7_isFree 100 = .ok (.iconst 0, 1) := by decide +kernel
theorem dX7_isFree_101 : decode cX7_isFree 101 = .ok (.istore 4, 2) := by decide +kernel
theorem dX7_isFree_103 : decode cX7_isFree 103 = .ok (.iinc 5 1, 3) := by decide +kernel
theorem dX7_isFree_106 : decode cX7_isFree 106 = .ok (.goto (-100), 3) := by decide +kernel
theorem dX7_isFree_109 : decode cX7_isFree 109 = .ok (.iload 4, 2) := by decide +kernel
theorem dX7_isFree_111 : decode cX7_isFree 111 = .ok (.ireturn, 1) := by decide +kernel
theorem dX7_canPut_0 : decode cX7_canPut 0 = .ok (.iload_n 2, 1) := by decide +kernel
theorem dX7_canPut_1 : decode cX7_canPut 1 = .ok (.invokestatic 118, 3) := by decide +kernel
theorem dX7_canPut_4 : decode cX7_canPut 4 = .ok (.ifCond .eq 71, 3) := by decide +kernel
theorem dX7_canPut_7 : decode cX7_canPut 7 = .ok (.iload_n 3, 1) := by decide +kernel
theorem dX7_canPut_8 : decode cX7_canPut 8 = .ok (.invokestatic 118, 3) := by decide +kernel
theorem dX7_canPut_11 : decode cX7_canPut 11 = .ok (.ifCond .eq 64, 3) := by decide +kernel
theorem dX7_canPut_14 : decode cX7_canPut 14 = .ok (.iload_n 2, 1) := by decide +kernel
theorem dX7_canPut_15 : decode cX7_canPut 15 = .ok (.iload_n 3, 1) := by decide +kernel
theorem dX7_canPut_16 : decode cX7_canPut 16 = .ok (.if_icmp .eq 59, 3) := by decide +kernel
theorem dX7_canPut_19 : decode cX7_canPut 19 = .ok (.iload 4, 2) := by decide +kernel
theorem dX7_canPut_21 : decode cX7_canPut 21 = .ok (.invokestatic 122, 3) := by decide +kernel
theorem dX7_canPut_24 : decode cX7_canPut 24 = .ok (.ifCond .eq 51, 3) := by decide +kernel
theorem dX7_canPut_27 : decode cX7_canPut 27 = .ok (.iload 5, 2) := by decide +kernel
theorem dX7_canPut_29 : decode cX7_canPut 29 = .ok (.invokestatic 122, 3) := by decide +kernel
theorem dX7_canPut_32 : decode cX7_canPut 32 = .ok (.ifCond .eq 43, 3) := by decide +kernel
theorem dX7_canPut_35 : decode cX7_canPut 35 = .ok (.iload 4, 2) := by decide +kernel
theorem dX7_canPut_37 : decode cX7_canPut 37 = .ok (.iload 5, 2) := by decide +kernel
theorem dX7_canPut_39 : decode cX7_canPut 39 = .ok (.if_icmp .gt 36, 3) := by decide +kernel
theorem dX7_canPut_42 : decode cX7_canPut 42 = .ok (.aload_n 0, 1) := by decide +kernel
theorem dX7_canPut_43 : decode cX7_canPut 43 = .ok (.iload_n 1, 1) := by decide +kernel
theorem dX7_canPut_44 : decode cX7_canPut 44 = .ok (.invokevirtual 105, 3) := by decide +kernel
theorem dX7_canPut_47 : decode cX7_canPut 47 = .ok (.bipush 16, 2) := by decide +kernel
theorem dX7_canPut_49 : decode cX7_canPut 49 = .ok (.if_icmp .ge 26, 3) := by decide +kernel
theorem dX7_canPut_52 : decode cX7_canPut 52 = .ok (.aload_n 0, 1) := by decide +kernel
theorem dX7_canPut_53 : decode cX7_canPut 53 = .ok (.iload_n 1, 1) := by decide +kernel
theorem dX7_canPut_54 : decode cX7_canPut 54 = .ok (.iload_n 2, 1) := by decide +kernel
theorem dX7_canPut_55 : decode cX7_canPut 55 = .ok (.iload_n 3, 1) := by decide +kernel
theorem dX7_canPut_56 : decode cX7_canPut 56 = .ok (.iload 4, 2) := by decide +kernel
theorem dX7_canPut_58 : decode cX7_canPut 58 = .ok (.iload 5, 2) := by decide +kernel
theorem dX7_canPut_60 : decode cX7_canPut 60 = .ok (.invokestatic 95, 3) := by decide +kernel
theorem dX7_canPut_63 : decode cX7_canPut 63 = .ok (.bipush (-9), 2) := by decide +kernel
theorem dX7_canPut_65 : decode cX7_canPut 65 = .ok (.invokevirtual 125, 3) := by decide +kernel
theorem dX7_canPut_68 : decode cX7_canPut 68 = .ok (.ifCond .eq 7, 3) := by decide +kernel
theorem dX7_canPut_71 : decode cX7_canPut 71 = .ok (.iconst 1, 1) := by decide +kernel
theorem dX7_canPut_72 : decode cX7_canPut 72 = .ok (.goto 4, 3) := by decide +kernel
theorem dX7_canPut_75 : decode cX7_canPut 75 = .ok (.iconst 0, 1) := by decide +kernel
theorem dX7_canPut_76 : decode cX7_canPut 76 = .ok (.ireturn, 1) := by decide +kernel
theorem dX7_putOn_0 : decode cX7_putOn 0 = .ok (.aload_n 0, 1) := by decide +kernel
theorem dX7_putOn_1 : decode cX7_putOn 1 = .ok (.getfield 7, 3) := by decide +kernel
theorem dX7_putOn_4 : decode cX7_putOn 4 = .ok (.bipush 17, 2) := by decide +kernel
theorem dX7_putOn_6 : decode cX7_putOn 6 = .ok (.iload_n 1, 1) := by decide +kernel
theorem dX7_putOn_7 : decode cX7_putOn 7 = .ok (.imul, 1) := by decide +kernel
theorem dX7_putOn_8 : decode cX7_putOn 8 = .ok (.iconst 1, 1) := by decide +kernel
theorem dX7_putOn_9 : decode cX7_putOn 9 = .ok (.iadd, 1) := by decide +kernel
theorem dX7_putOn_10 : decode cX7_putOn 10 = .ok (.aload_n 0, 1) := by decide +kernel
theorem dX7_putOn_11 : decode cX7_putOn 11 = .ok (.iload_n 1, 1) := by decide +kernel
theorem dX7_putOn_12 : decode cX7_putOn 12 = .ok (.invokevirtual 105, 3) := by decide +kernel
theorem dX7_putOn_15 : decode cX7_putOn 15 = .ok (.iadd, 1) := by decide +kernel
theorem dX7_putOn_16 : decode cX7_putOn 16 = .ok (.iload_n 2, 1) := by decide +kernel
theorem dX7_putOn_17 : decode cX7_putOn 17 = .ok (.iastore, 1) := by decide +kernel
theorem dX7_putOn_18 : decode cX7_putOn 18 = .ok (.aload_n 0, 1) := by decide +kernel
theorem dX7_putOn_19 : decode cX7_putOn 19 = .ok (.getfield 7, 3) := by decide +kernel
theorem dX7_putOn_22 : decode cX7_putOn 22 = .ok (.bipush 17, 2) := by decide +kernel
theorem dX7_putOn_24 : decode cX7_putOn 24 = .ok (.iload_n 1, 1) := by decide +kernel
theorem dX7_putOn_25 : decode cX7_putOn 25 = .ok (.imul, 1) := by decide +kernel
theorem dX7_putOn_26 : decode cX7_putOn 26 = .ok (.dup2, 1) := by decide +kernel
theorem dX7_putOn_27 : decode cX7_putOn 27 = .ok (.iaload, 1) := by decide +kernel
theorem dX7_putOn_28 : decode cX7_putOn 28 = .ok (.iconst 1, 1) := by decide +kernel
theorem dX7_putOn_29 : decode cX7_putOn 29 = .ok (.iadd, 1) := by decide +kernel
theorem dX7_putOn_30 : decode cX7_putOn 30 = .ok (.iastore, 1) := by decide +kernel
theorem dX7_putOn_31 : decode cX7_putOn 31 = .ok (.return_, 1) := by decide +kernel
theorem dX7_cutOn_0 : decode cX7_cutOn 0 = .ok (.aload_n 0, 1) := by decide +kernel
theorem dX7_cutOn_1 : decode cX7_cutOn 1 = .ok (.getfield 7, 3) := by decide +kernel
theorem dX7_cutOn_4 : decode cX7_cutOn 4 = .ok (.bipush 17, 2) := by decide +kernel
theorem dX7_cutOn_6 : decode cX7_cutOn 6 = .ok (.iload_n 1, 1) := by decide +kernel
theorem dX7_cutOn_7 : decode cX7_cutOn 7 = .ok (.imul, 1) := by decide +kernel
theorem dX7_cutOn_8 : decode cX7_cutOn 8 = .ok (.dup2, 1) := by decide +kernel
theorem dX7_cutOn_9 : decode cX7_cutOn 9 = .ok (.iaload, 1) := by decide +kernel
theorem dX7_cutOn_10 : decode cX7_cutOn 10 = .ok (.iconst 1, 1) := by decide +kernel
theorem dX7_cutOn_11 : decode cX7_cutOn 11 = .ok (.isub, 1) := by decide +kernel
theorem dX7_cutOn_12 : decode cX7_cutOn 12 = .ok (.iastore, 1) := by decide +kernel
theorem dX7_cutOn_13 : decode cX7_cutOn 13 = .ok (.iload_n 2, 1) := by decide +kernel
theorem dX7_cutOn_14 : decode cX7_cutOn 14 = .ok (.istore_n 3, 1) := by decide +kernel
theorem dX7_cutOn_15 : decode cX7_cutOn 15 = .ok (.iload_n 3, 1) := by decide +kernel
theorem dX7_cutOn_16 : decode cX7_cutOn 16 = .ok (.aload_n 0, 1) := by decide +kernel
theorem dX7_cutOn_17 : decode cX7_cutOn 17 = .ok (.iload_n 1, 1) := by decide +kernel
theorem dX7_cutOn_18 : decode cX7_cutOn 18 = .ok (.invokevirtual 105, 3) := by decide +kernel
theorem dX7_cutOn_21 : decode cX7_cutOn 21 = .ok (.if_icmp .ge 37, 3) := by decide +kernel
theorem dX7_cutOn_24 : decode cX7_cutOn 24 = .ok (.aload_n 0, 1) := by decide +kernel
theorem dX7_cutOn_25 : decode cX7_cutOn 25 = .ok (.getfield 7, 3) := by decide +kernel
theorem dX7_cutOn_28 : decode cX7_cutOn 28 = .ok (.bipush 17, 2) := by decide +kernel
theorem dX7_cutOn_30 : decode cX7_cutOn 30 = .ok (.iload_n 1, 1) := by decide +kernel
theorem dX7_cutOn_31 : decode cX7_cutOn 31 = .ok (.imul, 1) := by decide +kernel
theorem dX7_cutOn_32 : decode cX7_cutOn 32 = .ok (.iconst 1, 1) := by decide +kernel
theorem dX7_cutOn_33 : decode cX7_cutOn 33 = .ok (.iadd, 1) := by decide +kernel
theorem dX7_cutOn_34 : decode cX7_cutOn 34 = .ok (.iload_n 3, 1) := by decide +kernel
theorem dX7_cutOn_35 : decode cX7_cutOn 35 = .ok (.iadd, 1) := by decide +kernel
theorem dX7_cutOn_36 : decode cX7_cutOn 36 = .ok (.aload_n 0, 1) := by decide +kernel
theorem dX7_cutOn_37 : decode cX7_cutOn 37 = .ok (.getfield 7, 3) := by decide +kernel
theorem dX7_cutOn_40 : decode cX7_cutOn 40 = .ok (.bipush 17, 2) := by decide +kernel
theorem dX7_cutOn_42 : decode cX7_cutOn 42 = .ok (.iload_n 1, 1) := by decide +kernel
theorem dX7_cutOn_43 : decode cX7_cutOn 43 = .ok (.imul, 1) := by decide +kernel
theorem dX7_cutOn_44 : decode cX7_cutOn 44 = .ok (.iconst 1, 1) := by decide +kernel
theorem dX7_cutOn_45 : decode cX7_cutOn 45 = .ok (.iadd, 1) := by decide +kernel
theorem dX7_cutOn_46 : decode cX7_cutOn 46 = .ok (.iload_n 3, 1) := by decide +kernel
theorem dX7_cutOn_47 : decode cX7_cutOn 47 = .ok (.iadd, 1) := by decide +kernel
theorem dX7_cutOn_48 : decode cX7_cutOn 48 = .ok (.iconst 1, 1) := by decide +kernel
theorem dX7_cutOn_49 : decode cX7_cutOn 49 = .ok (.iadd, 1) := by decide +kernel
theorem dX7_cutOn_50 : decode cX7_cutOn 50 = .ok (.iaload, 1) := by decide +kernel
theorem dX7_cutOn_51 : decode cX7_cutOn 51 = .ok (.iastore, 1) := by decide +kernel
theorem dX7_cutOn_52 : decode cX7_cutOn 52 = .ok (.iinc 3 1, 3) := by decide +kernel
theorem dX7_cutOn_55 : decode cX7_cutOn 55 = .ok (.goto (-40), 3) := by decide +kernel
theorem dX7_cutOn_58 : decode cX7_cutOn 58 = .ok (.return_, 1) := by decide +kernel
theorem dX7_canEnd_0 : decode cX7_canEnd 0 = .ok (.iload_n 2, 1) := by decide +kernel
theorem dX7_canEnd_1 : decode cX7_canEnd 1 = .ok (.i2l, 1) := by decide +kernel
theorem dX7_canEnd_2 : decode cX7_canEnd 2 = .ok (.lconst 0, 1) := by decide +kernel
theorem dX7_canEnd_3 : decode cX7_canEnd 3 = .ok (.aload_n 0, 1) := by decide +kernel
theorem dX7_canEnd_4 : decode cX7_canEnd 4 = .ok (.iload_n 1, 1) := by decide +kernel
theorem dX7_canEnd_5 : decode cX7_canEnd 5 = .ok (.invokevirtual 105, 3) := by decide +kernel
theorem dX7_canEnd_8 : decode cX7_canEnd 8 = .ok (.iconst 1, 1) := by decide +kernel
theorem dX7_canEnd_9 : decode cX7_canEnd 9 = .ok (.isub, 1) := by decide +kernel
theorem dX7_canEnd_10 : decode cX7_canEnd 10 = .ok (.i2l, 1) := by decide +kernel
theorem dX7_canEnd_11 : decode cX7_canEnd 11 = .ok (.invokestatic 58, 3) := by decide +kernel
theorem dX7_canEnd_14 : decode cX7_canEnd 14 = .ok (.ifCond .eq 12, 3) := by decide +kernel
theorem dX7_canEnd_17 : decode cX7_canEnd 17 = .ok (.aload_n 0, 1) := by decide +kernel
theorem dX7_canEnd_18 : decode cX7_canEnd 18 = .ok (.iload_n 1, 1) := by decide +kernel
theorem dX7_canEnd_19 : decode cX7_canEnd 19 = .ok (.iload_n 2, 1) := by decide +kernel
theorem dX7_canEnd_20 : decode cX7_canEnd 20 = .ok (.invokevirtual 108, 3) := by decide +kernel
theorem dX7_canEnd_23 : decode cX7_canEnd 23 = .ok (.goto 5, 3) := by decide +kernel
theorem dX7_canEnd_26 : decode cX7_canEnd 26 = .ok (.bipush (-9), 2) := by decide +kernel
theorem dX7_canEnd_28 : decode cX7_canEnd 28 = .ok (.istore 4, 2) := by decide +kernel
theorem dX7_canEnd_30 : decode cX7_canEnd 30 = .ok (.iload 4, 2) := by decide +kernel
theorem dX7_canEnd_32 : decode cX7_canEnd 32 = .ok (.bipush (-9), 2) := by decide +kernel
theorem dX7_canEnd_34 : decode cX7_canEnd 34 = .ok (.if_icmp .eq 28, 3) := by decide +kernel
theorem dX7_canEnd_37 : decode cX7_canEnd 37 = .ok (.iload_n 3, 1) := by decide +kernel
theorem dX7_canEnd_38 : decode cX7_canEnd 38 = .ok (.invokestatic 122, 3) := by decide +kernel
theorem dX7_canEnd_41 : decode cX7_canEnd 41 = .ok (.ifCond .eq 21, 3) := by decide +kernel
theorem dX7_canEnd_44 : decode cX7_canEnd 44 = .ok (.iload_n 3, 1) := by decide +kernel
theorem dX7_canEnd_45 : decode cX7_canEnd 45 = .ok (.iload 4, 2) := by decide +kernel
theorem dX7_canEnd_47 : decode cX7_canEnd 47 = .ok (.invokestatic 68, 3) := by decide +kernel
theorem dX7_canEnd_50 : decode cX7_canEnd 50 = .ok (.if_icmp .eq 12, 3) := by decide +kernel
theorem dX7_canEnd_53 : decode cX7_canEnd 53 = .ok (.iload_n 3, 1) := by decide +kernel
theorem dX7_canEnd_54 : decode cX7_canEnd 54 = .ok (.iload 4, 2) := by decide +kernel
theorem dX7_canEnd_56 : decode cX7_canEnd 56 = .ok (.invokestatic 64, 3) := by decide +kernel
theorem dX7_canEnd_59 : decode cX7_canEnd 59 = .ok (.if_icmp .ge 5, 3) := by decide +kernel
theorem dX7_canEnd_62 : decode cX7_canEnd 62 = .ok (.iconst 0, 1) := by decide +kernel
theorem dX7_canEnd_63 : decode cX7_canEnd 63 = .ok (.ireturn, 1) := by decide +kernel
theorem dX7_canEnd_64 : decode cX7_canEnd 64 = .ok (.aload_n 0, 1) := by decide +kernel
theorem dX7_canEnd_65 : decode cX7_canEnd 65 = .ok (.iload_n 1, 1) := by decide +kernel
theorem dX7_canEnd_66 : decode cX7_canEnd 66 = .ok (.iload 4, 2) := by decide +kernel
theorem dX7_canEnd_68 : decode cX7_canEnd 68 = .ok (.invokestatic 112, 3) := by decide +kernel
theorem dX7_canEnd_71 : decode cX7_canEnd 71 = .ok (.iload 4, 2) := by decide +kernel
theorem dX7_canEnd_73 : decode cX7_canEnd 73 = .ok (.invokestatic 115, 3) := by decide +kernel
theorem dX7_canEnd_76 : decode cX7_canEnd 76 = .ok (.iload 4, 2) := by decide +kernel
theorem dX7_canEnd_78 : decode cX7_canEnd 78 = .ok (.invokestatic 64, 3) := by decide +kernel
theorem dX7_canEnd_81 : decode cX7_canEnd 81 = .ok (.iload_n 3, 1) := by decide +kernel
theorem dX7_canEnd_82 : decode cX7_canEnd 82 = .ok (.invokestatic 95, 3) := by decide +kernel
theorem dX7_canEnd_85 : decode cX7_canEnd 85 = .ok (.iload_n 2, 1) := by decide +kernel
theorem dX7_canEnd_86 : decode cX7_canEnd 86 = .ok (.invokevirtual 125, 3) := by decide +kernel
theorem dX7_canEnd_89 : decode cX7_canEnd 89 = .ok (.ireturn, 1) := by decide +kernel
theorem dX7_endOn_0 : decode cX7_endOn 0 = .ok (.aload_n 0, 1) := by decide +kernel
theorem dX7_endOn_1 : decode cX7_endOn 1 = .ok (.iload_n 1, 1) := by decide +kernel
theorem dX7_endOn_2 : decode cX7_endOn 2 = .ok (.iload_n 2, 1) := by decide +kernel
theorem dX7_endOn_3 : decode cX7_endOn 3 = .ok (.invokevirtual 108, 3) := by decide +kernel
theorem dX7_endOn_6 : decode cX7_endOn 6 = .ok (.istore 4, 2) := by decide +kernel
theorem dX7_endOn_8 : decode cX7_endOn 8 = .ok (.aload_n 0, 1) := by decide +kernel
theorem dX7_endOn_9 : decode cX7_endOn 9 = .ok (.getfield 7, 3) := by decide +kernel
theorem dX7_endOn_12 : decode cX7_endOn 12 = .ok (.bipush 17, 2) := by decide +kernel
theorem dX7_endOn_14 : decode cX7_endOn 14 = .ok (.iload_n 1, 1) := by decide +kernel
theorem dX7_endOn_15 : decode cX7_endOn 15 = .ok (.imul, 1) := by decide +kernel
theorem dX7_endOn_16 : decode cX7_endOn 16 = .ok (.iconst 1, 1) := by decide +kernel
theorem dX7_endOn_17 : decode cX7_endOn 17 = .ok (.iadd, 1) := by decide +kernel
theorem dX7_endOn_18 : decode cX7_endOn 18 = .ok (.iload_n 2, 1) := by decide +kernel
theorem dX7_endOn_19 : decode cX7_endOn 19 = .ok (.iadd, 1) := by decide +kernel
theorem dX7_endOn_20 : decode cX7_endOn 20 = .ok (.iload 4, 2) := by decide +kernel
theorem dX7_endOn_22 : decode cX7_endOn 22 = .ok (.invokestatic 112, 3) := by decide +kernel
theorem dX7_endOn_25 : decode cX7_endOn 25 = .ok (.iload 4, 2) := by decide +kernel
theorem dX7_endOn_27 : decode cX7_endOn 27 = .ok (.invokestatic 115, 3) := by decide +kernel
theorem dX7_endOn_30 : decode cX7_endOn 30 = .ok (.iload 4, 2) := by decide +kernel
theorem dX7_endOn_32 : decode cX7_endOn 32 = .ok (.invokestatic 64, 3) := by decide +kernel
theorem dX7_endOn_35 : decode cX7_endOn 35 = .ok (.iload_n 3, 1) := by decide +kernel
theorem dX7_endOn_36 : decode cX7_endOn 36 = .ok (.invokestatic 95, 3) := by decide +kernel
theorem dX7_endOn_39 : decode cX7_endOn 39 = .ok (.iastore, 1) := by decide +kernel
theorem dX7_endOn_40 : decode cX7_endOn 40 = .ok (.return_, 1) := by decide +kernel
theorem dX7_depthOf_0 : decode cX7_depthOf 0 = .ok (.iconst 0, 1) := by decide +kernel
theorem dX7_depthOf_1 : decode cX7_depthOf 1 = .ok (.istore_n 1, 1) := by decide +kernel
theorem dX7_depthOf_2 : decode cX7_depthOf 2 = .ok (.iload_n 0, 1) := by decide +kernel
theorem dX7_depthOf_3 : decode cX7_depthOf 3 = .ok (.istore_n 2, 1) := by decide +kernel
theorem dX7_depthOf_4 : decode cX7_depthOf 4 = .ok (.iload_n 2, 1) := by decide +kernel
theorem dX7_depthOf_5 : decode cX7_depthOf 5 = .ok (.iconst 1, 1) := by decide +kernel
theorem dX7_depthOf_6 : decode cX7_depthOf 6 = .ok (.if_icmp .le 13, 3) := by decide +kernel
theorem dX7_depthOf_9 : decode cX7_depthOf 9 = .ok (.iinc 1 1, 3) := by decide +kernel
theorem dX7_depthOf_12 : decode cX7_depthOf 12 = .ok (.iload_n 2, 1) := by decide +kernel
theorem dX7_depthOf_13 : decode cX7_depthOf 13 = .ok (.iconst 2, 1) := by decide +kernel
theorem dX7_depthOf_14 : decode cX7_depthOf 14 = .ok (.idiv, 1) := by decide +kernel
theorem dX7_depthOf_15 : decode cX7_depthOf 15 = .ok (.istore_n 2, 1) := by decide +kernel
theorem dX7_depthOf_16 : decode cX7_depthOf 16 = .ok (.goto (-12), 3) := by decide +kernel
theorem dX7_depthOf_19 : decode cX7_depthOf 19 = .ok (.iload_n 1, 1) := by decide +kernel
theorem dX7_depthOf_20 : decode cX7_depthOf 20 = .ok (.ireturn, 1) := by decide +kernel
theorem dX7_firstOf_0 : decode cX7_firstOf 0 = .ok (.iload_n 0, 1) := by decide +kernel
theorem dX7_firstOf_1 : decode cX7_firstOf 1 = .ok (.invokestatic 129, 3) := by decide +kernel
theorem dX7_firstOf_4 : decode cX7_firstOf 4 = .ok (.istore_n 1, 1) := by decide +kernel
theorem dX7_firstOf_5 : decode cX7_firstOf 5 = .ok (.iload_n 0, 1) := by decide +kernel
theorem dX7_firstOf_6 : decode cX7_firstOf 6 = .ok (.iconst 1, 1) := by decide +kernel
theorem dX7_firstOf_7 : decode cX7_firstOf 7 = .ok (.iload_n 1, 1) := by decide +kernel
theorem dX7_firstOf_8 : decode cX7_firstOf 8 = .ok (.ishl, 1) := by decide +kernel
theorem dX7_firstOf_9 : decode cX7_firstOf 9 = .ok (.isub, 1) := by decide +kernel
theorem dX7_firstOf_10 : decode cX7_firstOf 10 = .ok (.bipush 16, 2) := by decide +kernel
theorem dX7_firstOf_12 : decode cX7_firstOf 12 = .ok (.iload_n 1, 1) := by decide +kernel
theorem dX7_firstOf_13 : decode cX7_firstOf 13 = .ok (.ishr, 1) := by decide +kernel
theorem dX7_firstOf_14 : decode cX7_firstOf 14 = .ok (.imul, 1) := by decide +kernel
theorem dX7_firstOf_15 : decode cX7_firstOf 15 = .ok (.ireturn, 1) := by decide +kernel
theorem dX7_lastOf_0 : decode cX7_lastOf 0 = .ok (.iload_n 0, 1) := by decide +kernel
theorem dX7_lastOf_1 : decode cX7_lastOf 1 = .ok (.invokestatic 132, 3) := by decide +kernel
theorem dX7_lastOf_4 : decode cX7_lastOf 4 = .ok (.bipush 16, 2) := by decide +kernel
theorem dX7_lastOf_6 : decode cX7_lastOf 6 = .ok (.iload_n 0, 1) := by decide +kernel
theorem dX7_lastOf_7 : decode cX7_lastOf 7 = .ok (.invokestatic 129, 3) := by decide +kernel
theorem dX7_lastOf_10 : decode cX7_lastOf 10 = .ok (.ishr, 1) := by decide +kernel
theorem dX7_lastOf_11 : decode cX7_lastOf 11 = .ok (.iadd, 1) := by decide +kernel
theorem dX7_lastOf_12 : decode cX7_lastOf 12 = .ok (.iconst 1, 1) := by decide +kernel
theorem dX7_lastOf_13 : decode cX7_lastOf 13 = .ok (.isub, 1) := by decide +kernel
theorem dX7_lastOf_14 : decode cX7_lastOf 14 = .ok (.ireturn, 1) := by decide +kernel
theorem dX7_fills_0 : decode cX7_fills 0 = .ok (.iload_n 0, 1) := by decide +kernel
theorem dX7_fills_1 : decode cX7_fills 1 = .ok (.invokestatic 64, 3) := by decide +kernel
theorem dX7_fills_4 : decode cX7_fills 4 = .ok (.iload_n 1, 1) := by decide +kernel
theorem dX7_fills_5 : decode cX7_fills 5 = .ok (.invokestatic 132, 3) := by decide +kernel
theorem dX7_fills_8 : decode cX7_fills 8 = .ok (.if_icmp .gt 18, 3) := by decide +kernel
theorem dX7_fills_11 : decode cX7_fills 11 = .ok (.iload_n 0, 1) := by decide +kernel
theorem dX7_fills_12 : decode cX7_fills 12 = .ok (.invokestatic 68, 3) := by decide +kernel
theorem dX7_fills_15 : decode cX7_fills 15 = .ok (.iload_n 1, 1) := by decide +kernel
theorem dX7_fills_16 : decode cX7_fills 16 = .ok (.invokestatic 135, 3) := by decide +kernel
theorem dX7_fills_19 : decode cX7_fills 19 = .ok (.if_icmp .lt 7, 3) := by decide +kernel
theorem dX7_fills_22 : decode cX7_fills 22 = .ok (.iconst 1, 1) := by decide +kernel
theorem dX7_fills_23 : decode cX7_fills 23 = .ok (.goto 4, 3) := by decide +kernel
theorem dX7_fills_26 : decode cX7_fills 26 = .ok (.iconst 0, 1) := by decide +kernel
theorem dX7_fills_27 : decode cX7_fills 27 = .ok (.ireturn, 1) := by decide +kernel
theorem dX7_lies_0 : decode cX7_lies 0 = .ok (.iload_n 0, 1) := by decide +kernel
theorem dX7_lies_1 : decode cX7_lies 1 = .ok (.iload_n 1, 1) := by decide +kernel
theorem dX7_lies_2 : decode cX7_lies 2 = .ok (.invokestatic 138, 3) := by decide +kernel
theorem dX7_lies_5 : decode cX7_lies 5 = .ok (.ifCond .eq 22, 3) := by decide +kernel
theorem dX7_lies_8 : decode cX7_lies 8 = .ok (.iload_n 1, 1) := by decide +kernel
theorem dX7_lies_9 : decode cX7_lies 9 = .ok (.iconst 1, 1) := by decide +kernel
theorem dX7_lies_10 : decode cX7_lies 10 = .ok (.if_icmp .eq 13, 3) := by decide +kernel
theorem dX7_lies_13 : decode cX7_lies 13 = .ok (.iload_n 0, 1) := by decide +kernel
theorem dX7_lies_14 : decode cX7_lies 14 = .ok (.iload_n 1, 1) := by decide +kernel
theorem dX7_lies_15 : decode cX7_lies 15 = .ok (.iconst 2, 1) := by decide +kernel
theorem dX7_lies_16 : decode cX7_lies 16 = .ok (.idiv, 1) := by decide +kernel
theorem dX7_lies_17 : decode cX7_lies 17 = .ok (.invokestatic 138, 3) := by decide +kernel
theorem dX7_lies_20 : decode cX7_lies 20 = .ok (.ifCond .ne 7, 3) := by decide +kernel
theorem dX7_lies_23 : decode cX7_lies 23 = .ok (.iconst 1, 1) := by decide +kernel
theorem dX7_lies_24 : decode cX7_lies 24 = .ok (.goto 4, 3) := by decide +kernel
theorem dX7_lies_27 : decode cX7_lies 27 = .ok (.iconst 0, 1) := by decide +kernel
theorem dX7_lies_28 : decode cX7_lies 28 = .ok (.ireturn, 1) := by decide +kernel
theorem dX7_nodesOf_0 : decode cX7_nodesOf 0 = .ok (.iconst 0, 1) := by decide +kernel
theorem dX7_nodesOf_1 : decode cX7_nodesOf 1 = .ok (.istore_n 1, 1) := by decide +kernel
theorem dX7_nodesOf_2 : decode cX7_nodesOf 2 = .ok (.iconst 1, 1) := by decide +kernel
theorem dX7_nodesOf_3 : decode cX7_nodesOf 3 = .ok (.istore_n 2, 1) := by decide +kernel
theorem dX7_nodesOf_4 : decode cX7_nodesOf 4 = .ok (.iload_n 2, 1) := by decide +kernel
theorem dX7_nodesOf_5 : decode cX7_nodesOf 5 = .ok (.bipush 32, 2) := by decide +kernel
theorem dX7_nodesOf_7 : decode cX7_nodesOf 7 = .ok (.if_icmp .ge 25, 3) := by decide +kernel
theorem dX7_nodesOf_10 : decode cX7_nodesOf 10 = .ok (.iload_n 1, 1) := by decide +kernel
theorem dX7_nodesOf_11 : decode cX7_nodesOf 11 = .ok (.iload_n 0, 1) := by decide +kernel
theorem dX7_nodesOf_12 : decode cX7_nodesOf 12 = .ok (.iload_n 2, 1) := by decide +kernel
theorem dX7_nodesOf_13 : decode cX7_nodesOf 13 = .ok (.invokestatic 142, 3) := by decide +kernel
theorem dX7_nodesOf_16 : decode cX7_nodesOf 16 = .ok (.ifCond .eq 7, 3) := by decide +kernel
theorem dX7_nodesOf_19 : decode cX7_nodesOf 19 = .ok (.iconst 1, 1) := by decide +kernel
theorem dX7_nodesOf_20 : decode cX7_nodesOf 20 = .ok (.goto 4, 3) := by decide +kernel
theorem dX7_nodesOf_23 : decode cX7_nodesOf 23 = .ok (.iconst 0, 1) := by decide +kernel
theorem dX7_nodesOf_24 : decode cX7_nodesOf 24 = .ok (.iadd, 1) := by decide +kernel
theorem dX7_nodesOf_25 : decode cX7_nodesOf 25 = .ok (.istore_n 1, 1) := by decide +kernel
theorem dX7_nodesOf_26 : decode cX7_nodesOf 26 = .ok (.iinc 2 1, 3) := by decide +kernel
theorem dX7_nodesOf_29 : decode cX7_nodesOf 29 = .ok (.goto (-25), 3) := by decide +kernel
theorem dX7_nodesOf_32 : decode cX7_nodesOf 32 = .ok (.iload_n 1, 1) := by decide +kernel
theorem dX7_nodesOf_33 : decode cX7_nodesOf 33 = .ok (.ireturn, 1) := by decide +kernel
theorem dX7_span_0 : decode cX7_span 0 = .ok (.aload_n 0, 1) := by decide +kernel
theorem dX7_span_1 : decode cX7_span 1 = .ok (.iload_n 1, 1) := by decide +kernel
theorem dX7_span_2 : decode cX7_span 2 = .ok (.invokevirtual 145, 3) := by decide +kernel
theorem dX7_span_5 : decode cX7_span 5 = .ok (.ifCond .ne 5, 3) := by decide +kernel
theorem dX7_span_8 : decode cX7_span 8 = .ok (.iconst (-1), 1) := by decide +kernel
theorem dX7_span_9 : decode cX7_span 9 = .ok (.ireturn, 1) := by decide +kernel
theorem dX7_span_10 : decode cX7_span 10 = .ok (.aload_n 0, 1) := by decide +kernel
theorem dX7_span_11 : decode cX7_span 11 = .ok (.iconst 0, 1) := by decide +kernel
theorem dX7_span_12 : decode cX7_span 12 = .ok (.iload_n 1, 1) := by decide +kernel
theorem dX7_span_13 : decode cX7_span 13 = .ok (.invokevirtual 108, 3) := by decide +kernel
theorem dX7_span_16 : decode cX7_span 16 = .ok (.istore_n 3, 1) := by decide +kernel
theorem dX7_span_17 : decode cX7_span 17 = .ok (.iload_n 2, 1) := by decide +kernel
theorem dX7_span_18 : decode cX7_span 18 = .ok (.tableswitch 59 0 4 #[34, 39, 44, 49, 54], 34) := by decide +kernel
theorem dX7_span_52 : decode cX7_span 52 = .ok (.iload_n 3, 1) := by decide +kernel
theorem dX7_span_53 : decode cX7_span 53 = .ok (.invokestatic 112, 3) := by decide +kernel
theorem dX7_span_56 : decode cX7_span 56 = .ok (.ireturn, 1) := by decide +kernel
theorem dX7_span_57 : decode cX7_span 57 = .ok (.iload_n 3, 1) := by decide +kernel
theorem dX7_span_58 : decode cX7_span 58 = .ok (.invokestatic 115, 3) := by decide +kernel
theorem dX7_span_61 : decode cX7_span 61 = .ok (.ireturn, 1) := by decide +kernel
theorem dX7_span_62 : decode cX7_span 62 = .ok (.iload_n 3, 1) := by decide +kernel
theorem dX7_span_63 : decode cX7_span 63 = .ok (.invokestatic 64, 3) := by decide +kernel
theorem dX7_span_66 : decode cX7_span 66 = .ok (.ireturn, 1) := by decide +kernel
theorem dX7_span_67 : decode cX7_span 67 = .ok (.iload_n 3, 1) := by decide +kernel
theorem dX7_span_68 : decode cX7_span 68 = .ok (.invokestatic 68, 3) := by decide +kernel
theorem dX7_span_71 : decode cX7_span 71 = .ok (.ireturn, 1) := by decide +kernel
theorem dX7_span_72 : decode cX7_span 72 = .ok (.iload_n 3, 1) := by decide +kernel
theorem dX7_span_73 : decode cX7_span 73 = .ok (.invokestatic 148, 3) := by decide +kernel
theorem dX7_span_76 : decode cX7_span 76 = .ok (.ireturn, 1) := by decide +kernel
theorem dX7_span_77 : decode cX7_span 77 = .ok (.bipush (-2), 2) := by decide +kernel
theorem dX7_span_79 : decode cX7_span 79 = .ok (.ireturn, 1) := by decide +kernel
theorem dX7_liesOn_0 : decode cX7_liesOn 0 = .ok (.iconst 0, 1) := by decide +kernel
theorem dX7_liesOn_1 : decode cX7_liesOn 1 = .ok (.istore_n 2, 1) := by decide +kernel
theorem dX7_liesOn_2 : decode cX7_liesOn 2 = .ok (.iconst 0, 1) := by decide +kernel
theorem dX7_liesOn_3 : decode cX7_liesOn 3 = .ok (.istore_n 3, 1) := by decide +kernel
theorem dX7_liesOn_4 : decode cX7_liesOn 4 = .ok (.iload_n 3, 1) := by decide +kernel
theorem dX7_liesOn_5 : decode cX7_liesOn 5 = .ok (.aload_n 0, 1) := by decide +kernel
theorem dX7_liesOn_6 : decode cX7_liesOn 6 = .ok (.iconst 0, 1) := by decide +kernel
theorem dX7_liesOn_7 : decode cX7_liesOn 7 = .ok (.invokevirtual 105, 3) := by decide +kernel
theorem dX7_liesOn_10 : decode cX7_liesOn 10 = .ok (.if_icmp .ge 32, 3) := by decide +kernel
theorem dX7_liesOn_13 : decode cX7_liesOn 13 = .ok (.iload_n 2, 1) := by decide +kernel
theorem dX7_liesOn_14 : decode cX7_liesOn 14 = .ok (.aload_n 0, 1) := by decide +kernel
theorem dX7_liesOn_15 : decode cX7_liesOn 15 = .ok (.iconst 0, 1) := by decide +kernel
theorem dX7_liesOn_16 : decode cX7_liesOn 16 = .ok (.iload_n 3, 1) := by decide +kernel
theorem dX7_liesOn_17 : decode cX7_liesOn 17 = .ok (.invokevirtual 108, 3) := by decide +kernel
theorem dX7_liesOn_20 : decode cX7_liesOn 20 = .ok (.iload_n 1, 1) := by decide +kernel
theorem dX7_liesOn_21 : decode cX7_liesOn 21 = .ok (.invokestatic 142, 3) := by decide +kernel
theorem dX7_liesOn_24 : decode cX7_liesOn 24 = .ok (.ifCond .eq 9, 3) := by decide +kernel
theorem dX7_liesOn_27 : decode cX7_liesOn 27 = .ok (.iconst 1, 1) := by decide +kernel
theorem dX7_liesOn_28 : decode cX7_liesOn 28 = .ok (.iload_n 3, 1) := by decide +kernel
theorem dX7_liesOn_29 : decode cX7_liesOn 29 = .ok (.ishl, 1) := by decide +kernel
theorem dX7_liesOn_30 : decode cX7_liesOn 30 = .ok (.goto 4, 3) := by decide +kernel
theorem dX7_liesOn_33 : decode cX7_liesOn 33 = .ok (.iconst 0, 1) := by decide +kernel
theorem dX7_liesOn_34 : decode cX7_liesOn 34 = .ok (.ior, 1) := by decide +kernel
theorem dX7_liesOn_35 : decode cX7_liesOn 35 = .ok (.istore_n 2, 1) := by decide +kernel
theorem dX7_liesOn_36 : decode cX7_liesOn 36 = .ok (.iinc 3 1, 3) := by decide +kernel
theorem dX7_liesOn_39 : decode cX7_liesOn 39 = .ok (.goto (-35), 3) := by decide +kernel
theorem dX7_liesOn_42 : decode cX7_liesOn 42 = .ok (.iload_n 2, 1) := by decide +kernel
theorem dX7_liesOn_43 : decode cX7_liesOn 43 = .ok (.ireturn, 1) := by decide +kernel
theorem dX7_node_0 : decode cX7_node 0 = .ok (.iload_n 1, 1) := by decide +kernel
theorem dX7_node_1 : decode cX7_node 1 = .ok (.i2l, 1) := by decide +kernel
theorem dX7_node_2 : decode cX7_node 2 = .ok (.lconst 1, 1) := by decide +kernel
theorem dX7_node_3 : decode cX7_node 3 = .ok (.ldc2_w 151, 3) := by decide +kernel
theorem dX7_node_6 : decode cX7_node 6 = .ok (.invokestatic 58, 3) := by decide +kernel
theorem dX7_node_9 : decode cX7_node 9 = .ok (.ifCond .eq 11, 3) := by decide +kernel
theorem dX7_node_12 : decode cX7_node 12 = .ok (.aload_n 0, 1) := by decide +kernel
theorem dX7_node_13 : decode cX7_node 13 = .ok (.iload_n 1, 1) := by decide +kernel
theorem dX7_node_14 : decode cX7_node 14 = .ok (.invokevirtual 153, 3) := by decide +kernel
theorem dX7_node_17 : decode cX7_node 17 = .ok (.goto 4, 3) := by decide +kernel
theorem dX7_node_20 : decode cX7_node 20 = .ok (.iconst (-1), 1) := by decide +kernel
theorem dX7_node_21 : decode cX7_node 21 = .ok (.ireturn, 1) := by decide +kernel
theorem dX7_keepAct_0 : decode cX7_keepAct 0 = .ok (.iconst 0, 1) := by decide +kernel
theorem dX7_keepAct_1 : decode cX7_keepAct 1 = .ok (.istore_n 1, 1) := by decide +kernel
theorem dX7_keepAct_2 : decode cX7_keepAct 2 = .ok (.iload_n 1, 1) := by decide +kernel
theorem dX7_keepAct_3 : decode cX7_keepAct 3 = .ok (.bipush 17, 2) := by decide +kernel
theorem dX7_keepAct_5 : decode cX7_keepAct 5 = .ok (.if_icmp .ge 29, 3) := by decide +kernel
theorem dX7_keepAct_8 : decode cX7_keepAct 8 = .ok (.aload_n 0, 1) := by decide +kernel
theorem dX7_keepAct_9 : decode cX7_keepAct 9 = .ok (.getfield 19, 3) := by decide +kernel
theorem dX7_keepAct_12 : decode cX7_keepAct 12 = .ok (.bipush 17, 2) := by decide +kernel
theorem dX7_keepAct_14 : decode cX7_keepAct 14 = .ok (.aload_n 0, 1) := by decide +kernel
theorem dX7_keepAct_15 : decode cX7_keepAct 15 = .ok (.getfield 156, 3) := by decide +kernel
theorem dX7_keepAct_18 : decode cX7_keepAct 18 = .ok (.imul, 1) := by decide +kernel
theorem dX7_keepAct_19 : decode cX7_keepAct 19 = .ok (.iload_n 1, 1) := by decide +kernel
theorem dX7_keepAct_20 : decode cX7_keepAct 20 = .ok (.iadd, 1) := by decide +kernel
theorem dX7_keepAct_21 : decode cX7_keepAct 21 = .ok (.aload_n 0, 1) := by decide +kernel
theorem dX7_keepAct_22 : decode cX7_keepAct 22 = .ok (.getfield 7, 3) := by decide +kernel
theorem dX7_keepAct_25 : decode cX7_keepAct 25 = .ok (.iload_n 1, 1) := by decide +kernel
theorem dX7_keepAct_26 : decode cX7_keepAct 26 = .ok (.iaload, 1) := by decide +kernel
theorem dX7_keepAct_27 : decode cX7_keepAct 27 = .ok (.iastore, 1) := by decide +kernel
theorem dX7_keepAct_28 : decode cX7_keepAct 28 = .ok (.iinc 1 1, 3) := by decide +kernel
theorem dX7_keepAct_31 : decode cX7_keepAct 31 = .ok (.goto (-29), 3) := by decide +kernel
theorem dX7_keepAct_34 : decode cX7_keepAct 34 = .ok (.aload_n 0, 1) := by decide +kernel
theorem dX7_keepAct_35 : decode cX7_keepAct 35 = .ok (.aload_n 0, 1) := by decide +kernel
theorem dX7_keepAct_36 : decode cX7_keepAct 36 = .ok (.getfield 156, 3) := by decide +kernel
theorem dX7_keepAct_39 : decode cX7_keepAct 39 = .ok (.iconst 1, 1) := by decide +kernel
theorem dX7_keepAct_40 : decode cX7_keepAct 40 = .ok (.iadd, 1) := by decide +kernel
theorem dX7_keepAct_41 : decode cX7_keepAct 41 = .ok (.bipush 14, 2) := by decide +kernel
theorem dX7_keepAct_43 : decode cX7_keepAct 43 = .ok (.irem, 1) := by decide +kernel
theorem dX7_keepAct_44 : decode cX7_keepAct 44 = .ok (.putfield 156, 3) := by decide +kernel
theorem dX7_keepAct_47 : decode cX7_keepAct 47 = .ok (.aload_n 0, 1) := by decide +kernel
theorem dX7_keepAct_48 : decode cX7_keepAct 48 = .ok (.aload_n 0, 1) := by decide +kernel
theorem dX7_keepAct_49 : decode cX7_keepAct 49 = .ok (.getfield 102, 3) := by decide +kernel
theorem dX7_keepAct_52 : decode cX7_keepAct 52 = .ok (.bipush 14, 2) := by decide +kernel
theorem dX7_keepAct_54 : decode cX7_keepAct 54 = .ok (.if_icmp .ge 12, 3) := by decide +kernel
theorem dX7_keepAct_57 : decode cX7_keepAct 57 = .ok (.aload_n 0, 1) := by decide +kernel
theorem dX7_keepAct_58 : decode cX7_keepAct 58 = .ok (.getfield 102, 3) := by decide +kernel
theorem dX7_keepAct_61 : decode cX7_keepAct 61 = .ok (.iconst 1, 1) := by decide +kernel
theorem dX7_keepAct_62 : decode cX7_keepAct 62 = .ok (.iadd, 1) := by decide +kernel
theorem dX7_keepAct_63 : decode cX7_keepAct 63 = .ok (.goto 5, 3) := by decide +kernel
theorem dX7_keepAct_66 : decode cX7_keepAct 66 = .ok (.bipush 14, 2) := by decide +kernel
theorem dX7_keepAct_68 : decode cX7_keepAct 68 = .ok (.putfield 102, 3) := by decide +kernel
theorem dX7_keepAct_71 : decode cX7_keepAct 71 = .ok (.return_, 1) := by decide +kernel
theorem dX7_put_0 : decode cX7_put 0 = .ok (.iload_n 1, 1) := by decide +kernel
theorem dX7_put_1 : decode cX7_put 1 = .ok (.invokestatic 118, 3) := by decide +kernel
theorem dX7_put_4 : decode cX7_put 4 = .ok (.ifCond .eq 25, 3) := by decide +kernel
theorem dX7_put_7 : decode cX7_put 7 = .ok (.iload_n 2, 1) := by decide +kernel
theorem dX7_put_8 : decode cX7_put 8 = .ok (.invokestatic 118, 3) := by decide +kernel
theorem dX7_put_11 : decode cX7_put 11 = .ok (.ifCond .eq 18, 3) := by decide +kernel
theorem dX7_put_14 : decode cX7_put 14 = .ok (.iload_n 3, 1) := by decide +kernel
theorem dX7_put_15 : decode cX7_put 15 = .ok (.invokestatic 122, 3) := by decide +kernel
theorem dX7_put_18 : decode cX7_put 18 = .ok (.ifCond .eq 11, 3) := by decide +kernel
theorem dX7_put_21 : decode cX7_put 21 = .ok (.iload 4, 2) := by decide +kernel
theorem dX7_put_23 : decode cX7_put 23 = .ok (.invokestatic 122, 3) := by decide +kernel
theorem dX7_put_26 : decode cX7_put 26 = .ok (.ifCond .ne 5, 3) := by decide +kernel
theorem dX7_put_29 : decode cX7_put 29 = .ok (.iconst (-1), 1) := by decide +kernel
theorem dX7_put_30 : decode cX7_put 30 = .ok (.ireturn, 1) := by decide +kernel
theorem dX7_put_31 : decode cX7_put 31 = .ok (.iload_n 1, 1) := by decide +kernel
theorem dX7_put_32 : decode cX7_put 32 = .ok (.iload_n 2, 1) := by decide +kernel
theorem dX7_put_33 : decode cX7_put 33 = .ok (.if_icmp .eq 9, 3) := by decide +kernel
theorem dX7_put_36 : decode cX7_put 36 = .ok (.iload 4, 2) := by decide +kernel
theorem dX7_put_38 : decode cX7_put 38 = .ok (.iload_n 3, 1) := by decide +kernel
theorem dX7_put_39 : decode cX7_put 39 = .ok (.if_icmp .ge 6, 3) := by decide +kernel
theorem dX7_put_42 : decode cX7_put 42 = .ok (.bipush (-2), 2) := by decide +kernel
theorem dX7_put_44 : decode cX7_put 44 = .ok (.ireturn, 1) := by decide +kernel
theorem dX7_put_45 : decode cX7_put 45 = .ok (.aload_n 0, 1) := by decide +kernel
theorem dX7_put_46 : decode cX7_put 46 = .ok (.iconst 0, 1) := by decide +kernel
theorem dX7_put_47 : decode cX7_put 47 = .ok (.iload_n 1, 1) := by decide +kernel
theorem dX7_put_48 : decode cX7_put 48 = .ok (.iload_n 2, 1) := by decide +kernel
theorem dX7_put_49 : decode cX7_put 49 = .ok (.iload_n 3, 1) := by decide +kernel
theorem dX7_put_50 : decode cX7_put 50 = .ok (.iload 4, 2) := by decide +kernel
theorem dX7_put_52 : decode cX7_put 52 = .ok (.invokestatic 95, 3) := by decide +kernel
theorem dX7_put_55 : decode cX7_put 55 = .ok (.bipush (-9), 2) := by decide +kernel
theorem dX7_put_57 : decode cX7_put 57 = .ok (.invokevirtual 125, 3) := by decide +kernel
theorem dX7_put_60 : decode cX7_put 60 = .ok (.ifCond .ne 6, 3) := by decide +kernel
theorem dX7_put_63 : decode cX7_put 63 = .ok (.bipush (-3), 2) := by decide +kernel
theorem dX7_put_65 : decode cX7_put 65 = .ok (.ireturn, 1) := by decide +kernel
theorem dX7_put_66 : decode cX7_put 66 = .ok (.aload_n 0, 1) := by decide +kernel
theorem dX7_put_67 : decode cX7_put 67 = .ok (.iconst 0, 1) := by decide +kernel
theorem dX7_put_68 : decode cX7_put 68 = .ok (.invokevirtual 105, 3) := by decide +kernel
theorem dX7_put_71 : decode cX7_put 71 = .ok (.bipush 16, 2) := by decide +kernel
theorem dX7_put_73 : decode cX7_put 73 = .ok (.if_icmp .ne 6, 3) := by decide +kernel
theorem dX7_put_76 : decode cX7_put 76 = .ok (.bipush (-4), 2) := by decide +kernel
theorem dX7_put_78 : decode cX7_put 78 = .ok (.ireturn, 1) := by decide +kernel
theorem dX7_put_79 : decode cX7_put 79 = .ok (.aload_n 0, 1) := by decide +kernel
theorem dX7_put_80 : decode cX7_put 80 = .ok (.invokevirtual 159, 3) := by decide +kernel
theorem dX7_put_83 : decode cX7_put 83 = .ok (.aload_n 0, 1) := by decide +kernel
theorem dX7_put_84 : decode cX7_put 84 = .ok (.iconst 0, 1) := by decide +kernel
theorem dX7_put_85 : decode cX7_put 85 = .ok (.iload_n 1, 1) := by decide +kernel
theorem dX7_put_86 : decode cX7_put 86 = .ok (.iload_n 2, 1) := by decide +kernel
theorem dX7_put_87 : decode cX7_put 87 = .ok (.iload_n 3, 1) := by decide +kernel
theorem dX7_put_88 : decode cX7_put 88 = .ok (.iload 4, 2) := by decide +kernel
theorem dX7_put_90 : decode cX7_put 90 = .ok (.invokestatic 95, 3) := by decide +kernel
theorem dX7_put_93 : decode cX7_put 93 = .ok (.invokevirtual 162, 3) := by decide +kernel
theorem dX7_put_96 : decode cX7_put 96 = .ok (.aload_n 0, 1) := by decide +kernel
theorem dX7_put_97 : decode cX7_put 97 = .ok (.iconst 0, 1) := by decide +kernel
theorem dX7_put_98 : decode cX7_put 98 = .ok (.invokevirtual 105, 3) := by decide +kernel
theorem dX7_put_101 : decode cX7_put 101 = .ok (.iconst 1, 1) := by decide +kernel
theorem dX7_put_102 : decode cX7_put 102 = .ok (.isub, 1) := by decide +kernel
theorem dX7_put_103 : decode cX7_put 103 = .ok (.ireturn, 1) := by decide +kernel
theorem dX7_cut_0 : decode cX7_cut 0 = .ok (.aload_n 0, 1) := by decide +kernel
theorem dX7_cut_1 : decode cX7_cut 1 = .ok (.iload_n 1, 1) := by decide +kernel
theorem dX7_cut_2 : decode cX7_cut 2 = .ok (.invokevirtual 145, 3) := by decide +kernel
theorem dX7_cut_5 : decode cX7_cut 5 = .ok (.ifCond .ne 5, 3) := by decide +kernel
theorem dX7_cut_8 : decode cX7_cut 8 = .ok (.iconst (-1), 1) := by decide +kernel
theorem dX7_cut_9 : decode cX7_cut 9 = .ok (.ireturn, 1) := by decide +kernel
theorem dX7_cut_10 : decode cX7_cut 10 = .ok (.aload_n 0, 1) := by decide +kernel
theorem dX7_cut_11 : decode cX7_cut 11 = .ok (.invokevirtual 159, 3) := by decide +kernel
theorem dX7_cut_14 : decode cX7_cut 14 = .ok (.aload_n 0, 1) := by decide +kernel
theorem dX7_cut_15 : decode cX7_cut 15 = .ok (.iconst 0, 1) := by decide +kernel
theorem dX7_cut_16 : decode cX7_cut 16 = .ok (.iload_n 1, 1) := by decide +kernel
theorem dX7_cut_17 : decode cX7_cut 17 = .ok (.invokevirtual 166, 3) := by decide +kernel
theorem dX7_cut_20 : decode cX7_cut 20 = .ok (.aload_n 0, 1) := by decide +kernel
theorem dX7_cut_21 : decode cX7_cut 21 = .ok (.iconst 0, 1) := by decide +kernel
theorem dX7_cut_22 : decode cX7_cut 22 = .ok (.invokevirtual 105, 3) := by decide +kernel
theorem dX7_cut_25 : decode cX7_cut 25 = .ok (.ireturn, 1) := by decide +kernel
theorem dX7_end_0 : decode cX7_end 0 = .ok (.aload_n 0, 1) := by decide +kernel
theorem dX7_end_1 : decode cX7_end 1 = .ok (.iload_n 1, 1) := by decide +kernel
theorem dX7_end_2 : decode cX7_end 2 = .ok (.invokevirtual 145, 3) := by decide +kernel
theorem dX7_end_5 : decode cX7_end 5 = .ok (.ifCond .eq 10, 3) := by decide +kernel
theorem dX7_end_8 : decode cX7_end 8 = .ok (.iload_n 2, 1) := by decide +kernel
theorem dX7_end_9 : decode cX7_end 9 = .ok (.invokestatic 122, 3) := by decide +kernel
theorem dX7_end_12 : decode cX7_end 12 = .ok (.ifCond .ne 5, 3) := by decide +kernel
theorem dX7_end_15 : decode cX7_end 15 = .ok (.iconst (-1), 1) := by decide +kernel
theorem dX7_end_16 : decode cX7_end 16 = .ok (.ireturn, 1) := by decide +kernel
theorem dX7_end_17 : decode cX7_end 17 = .ok (.aload_n 0, 1) := by decide +kernel
theorem dX7_end_18 : decode cX7_end 18 = .ok (.iconst 0, 1) := by decide +kernel
theorem dX7_end_19 : decode cX7_end 19 = .ok (.iload_n 1, 1) := by decide +kernel
theorem dX7_end_20 : decode cX7_end 20 = .ok (.iload_n 2, 1) := by decide +kernel
theorem dX7_end_21 : decode cX7_end 21 = .ok (.invokevirtual 169, 3) := by decide +kernel
theorem dX7_end_24 : decode cX7_end 24 = .ok (.ifCond .ne 6, 3) := by decide +kernel
theorem dX7_end_27 : decode cX7_end 27 = .ok (.bipush (-3), 2) := by decide +kernel
theorem dX7_end_29 : decode cX7_end 29 = .ok (.ireturn, 1) := by decide +kernel
theorem dX7_end_30 : decode cX7_end 30 = .ok (.aload_n 0, 1) := by decide +kernel
theorem dX7_end_31 : decode cX7_end 31 = .ok (.invokevirtual 159, 3) := by decide +kernel
theorem dX7_end_34 : decode cX7_end 34 = .ok (.aload_n 0, 1) := by decide +kernel
theorem dX7_end_35 : decode cX7_end 35 = .ok (.iconst 0, 1) := by decide +kernel
theorem dX7_end_36 : decode cX7_end 36 = .ok (.iload_n 1, 1) := by decide +kernel
theorem dX7_end_37 : decode cX7_end 37 = .ok (.invokevirtual 108, 3) := by decide +kernel
theorem dX7_end_40 : decode cX7_end 40 = .ok (.invokestatic 68, 3) := by decide +kernel
theorem dX7_end_43 : decode cX7_end 43 = .ok (.istore_n 3, 1) := by decide +kernel
theorem dX7_end_44 : decode cX7_end 44 = .ok (.aload_n 0, 1) := by decide +kernel
theorem dX7_end_45 : decode cX7_end 45 = .ok (.iconst 0, 1) := by decide +kernel
theorem dX7_end_46 : decode cX7_end 46 = .ok (.iload_n 1, 1) := by decide +kernel
theorem dX7_end_47 : decode cX7_end 47 = .ok (.iload_n 2, 1) := by decide +kernel
theorem dX7_end_48 : decode cX7_end 48 = .ok (.invokevirtual 172, 3) := by decide +kernel
theorem dX7_end_51 : decode cX7_end 51 = .ok (.iload_n 3, 1) := by decide +kernel
theorem dX7_end_52 : decode cX7_end 52 = .ok (.ireturn, 1) := by decide +kernel
theorem dX7_undo_0 : decode cX7_undo 0 = .ok (.aload_n 0, 1) := by decide +kernel
theorem dX7_undo_1 : decode cX7_undo 1 = .ok (.getfield 102, 3) := by decide +kernel
theorem dX7_undo_4 : decode cX7_undo 4 = .ok (.ifCond .ne 6, 3) := by decide +kernel
theorem dX7_undo_7 : decode cX7_undo 7 = .ok (.bipush (-3), 2) := by decide +kernel
theorem dX7_undo_9 : decode cX7_undo 9 = .ok (.ireturn, 1) := by decide +kernel
theorem dX7_undo_10 : decode cX7_undo 10 = .ok (.aload_n 0, 1) := by decide +kernel
theorem dX7_undo_11 : decode cX7_undo 11 = .ok (.dup, 1) := by decide +kernel
theorem dX7_undo_12 : decode cX7_undo 12 = .ok (.getfield 102, 3) := by decide +kernel
theorem dX7_undo_15 : decode cX7_undo 15 = .ok (.iconst 1, 1) := by decide +kernel
theorem dX7_undo_16 : decode cX7_undo 16 = .ok (.isub, 1) := by decide +kernel
theorem dX7_undo_17 : decode cX7_undo 17 = .ok (.putfield 102, 3) := by decide +kernel
theorem dX7_undo_20 : decode cX7_undo 20 = .ok (.aload_n 0, 1) := by decide +kernel
theorem dX7_undo_21 : decode cX7_undo 21 = .ok (.aload_n 0, 1) := by decide +kernel
theorem dX7_undo_22 : decode cX7_undo 22 = .ok (.getfield 156, 3) := by decide +kernel
theorem dX7_undo_25 : decode cX7_undo 25 = .ok (.bipush 13, 2) := by decide +kernel
theorem dX7_undo_27 : decode cX7_undo 27 = .ok (.iadd, 1) := by decide +kernel
theorem dX7_undo_28 : decode cX7_undo 28 = .ok (.bipush 14, 2) := by decide +kernel
theorem dX7_undo_30 : decode cX7_undo 30 = .ok (.irem, 1) := by decide +kernel
theorem dX7_undo_31 : decode cX7_undo 31 = .ok (.putfield 156, 3) := by decide +kernel
theorem dX7_undo_34 : decode cX7_undo 34 = .ok (.iconst 0, 1) := by decide +kernel
theorem dX7_undo_35 : decode cX7_undo 35 = .ok (.istore_n 1, 1) := by decide +kernel
theorem dX7_undo_36 : decode cX7_undo 36 = .ok (.iload_n 1, 1) := by decide +kernel
theorem dX7_undo_37 : decode cX7_undo 37 = .ok (.bipush 17, 2) := by decide +kernel
theorem dX7_undo_39 : decode cX7_undo 39 = .ok (.if_icmp .ge 29, 3) := by decide +kernel
theorem dX7_undo_42 : decode cX7_undo 42 = .ok (.aload_n 0, 1) := by decide +kernel
theorem dX7_undo_43 : decode cX7_undo 43 = .ok (.getfield 7, 3) := by decide +kernel
theorem dX7_undo_46 : decode cX7_undo 46 = .ok (.iload_n 1, 1) := by decide +kernel
theorem dX7_undo_47 : decode cX7_undo 47 = .ok (.aload_n 0, 1) := by decide +kernel
theorem dX7_undo_48 : decode cX7_undo 48 = .ok (.getfield 19, 3) := by decide +kernel
theorem dX7_undo_51 : decode cX7_undo 51 = .ok (.bipush 17, 2) := by decide +kernel
theorem dX7_undo_53 : decode cX7_undo 53 = .ok (.aload_n 0, 1) := by decide +kernel
theorem dX7_undo_54 : decode cX7_undo 54 = .ok (.getfield 156, 3) := by decide +kernel
theorem dX7_undo_57 : decode cX7_undo 57 = .ok (.imul, 1) := by decide +kernel
theorem dX7_undo_58 : decode cX7_undo 58 = .ok (.iload_n 1, 1) := by decide +kernel
theorem dX7_undo_59 : decode cX7_undo 59 = .ok (.iadd, 1) := by decide +kernel
theorem dX7_undo_60 : decode cX7_undo 60 = .ok (.iaload, 1) := by decide +kernel
theorem dX7_undo_61 : decode cX7_undo 61 = .ok (.iastore, 1) := by decide +kernel
theorem dX7_undo_62 : decode cX7_undo 62 = .ok (.iinc 1 1, 3) := by decide +kernel
theorem dX7_undo_65 : decode cX7_undo 65 = .ok (.goto (-29), 3) := by decide +kernel
theorem dX7_undo_68 : decode cX7_undo 68 = .ok (.aload_n 0, 1) := by decide +kernel
theorem dX7_undo_69 : decode cX7_undo 69 = .ok (.getfield 102, 3) := by decide +kernel
theorem dX7_undo_72 : decode cX7_undo 72 = .ok (.ireturn, 1) := by decide +kernel
theorem dX7_clearKnots_0 : decode cX7_clearKnots 0 = .ok (.iconst 0, 1) := by decide +kernel
theorem dX7_clearKnots_1 : decode cX7_clearKnots 1 = .ok (.istore_n 1, 1) := by decide +kernel
theorem dX7_clearKnots_2 : decode cX7_clearKnots 2 = .ok (.iload_n 1, 1) := by decide +kernel
theorem dX7_clearKnots_3 : decode cX7_clearKnots 3 = .ok (.bipush 8, 2) := by decide +kernel
theorem dX7_clearKnots_5 : decode cX7_clearKnots 5 = .ok (.if_icmp .ge 23, 3) := by decide +kernel
theorem dX7_clearKnots_8 : decode cX7_clearKnots 8 = .ok (.aload_n 0, 1) := by decide +kernel
theorem dX7_clearKnots_9 : decode cX7_clearKnots 9 = .ok (.getfield 22, 3) := by decide +kernel
theorem dX7_clearKnots_12 : decode cX7_clearKnots 12 = .ok (.iload_n 1, 1) := by decide +kernel
theorem dX7_clearKnots_13 : decode cX7_clearKnots 13 = .ok (.iload_n 1, 1) := by decide +kernel
theorem dX7_clearKnots_14 : decode cX7_clearKnots 14 = .ok (.iastore, 1) := by decide +kernel
theorem dX7_clearKnots_15 : decode cX7_clearKnots 15 = .ok (.aload_n 0, 1) := by decide +kernel
theorem dX7_clearKnots_16 : decode cX7_clearKnots 16 = .ok (.getfield 25, 3) := by decide +kernel
theorem dX7_clearKnots_19 : decode cX7_clearKnots 19 = .ok (.iload_n 1, 1) := by decide +kernel
theorem dX7_clearKnots_20 : decode cX7_clearKnots 20 = .ok (.iconst 1, 1) := by decide +kernel
theorem dX7_clearKnots_21 : decode cX7_clearKnots 21 = .ok (.iastore, 1) := by decide +kernel
theorem dX7_clearKnots_22 : decode cX7_clearKnots 22 = .ok (.iinc 1 1, 3) := by decide +kernel
theorem dX7_clearKnots_25 : decode cX7_clearKnots 25 = .ok (.goto (-23), 3) := by decide +kernel
theorem dX7_clearKnots_28 : decode cX7_clearKnots 28 = .ok (.return_, 1) := by decide +kernel
theorem dX7_rootOf_0 : decode cX7_rootOf 0 = .ok (.iload_n 1, 1) := by decide +kernel
theorem dX7_rootOf_1 : decode cX7_rootOf 1 = .ok (.istore_n 2, 1) := by decide +kernel
theorem dX7_rootOf_2 : decode cX7_rootOf 2 = .ok (.aload_n 0, 1) := by decide +kernel
theorem dX7_rootOf_3 : decode cX7_rootOf 3 = .ok (.getfield 22, 3) := by decide +kernel
theorem dX7_rootOf_6 : decode cX7_rootOf 6 = .ok (.iload_n 2, 1) := by decide +kernel
theorem dX7_rootOf_7 : decode cX7_rootOf 7 = .ok (.iaload, 1) := by decide +kernel
theorem dX7_rootOf_8 : decode cX7_rootOf 8 = .ok (.iload_n 2, 1) := by decide +kernel
theorem dX7_rootOf_9 : decode cX7_rootOf 9 = .ok (.if_icmp .eq 13, 3) := by decide +kernel
theorem dX7_rootOf_12 : decode cX7_rootOf 12 = .ok (.aload_n 0, 1) := by decide +kernel
theorem dX7_rootOf_13 : decode cX7_rootOf 13 = .ok (.getfield 22, 3) := by decide +kernel
theorem dX7_rootOf_16 : decode cX7_rootOf 16 = .ok (.iload_n 2, 1) := by decide +kernel
theorem dX7_rootOf_17 : decode cX7_rootOf 17 = .ok (.iaload, 1) := by decide +kernel
theorem dX7_rootOf_18 : decode cX7_rootOf 18 = .ok (.istore_n 2, 1) := by decide +kernel
theorem dX7_rootOf_19 : decode cX7_rootOf 19 = .ok (.goto (-17), 3) := by decide +kernel
theorem dX7_rootOf_22 : decode cX7_rootOf 22 = .ok (.iload_n 2, 1) := by decide +kernel
theorem dX7_rootOf_23 : decode cX7_rootOf 23 = .ok (.ireturn, 1) := by decide +kernel
theorem dX7_depthAt_0 : decode cX7_depthAt 0 = .ok (.iconst 0, 1) := by decide +kernel
theorem dX7_depthAt_1 : decode cX7_depthAt 1 = .ok (.istore_n 2, 1) := by decide +kernel
theorem dX7_depthAt_2 : decode cX7_depthAt 2 = .ok (.iload_n 1, 1) := by decide +kernel
theorem dX7_depthAt_3 : decode cX7_depthAt 3 = .ok (.istore_n 3, 1) := by decide +kernel
theorem dX7_depthAt_4 : decode cX7_depthAt 4 = .ok (.aload_n 0, 1) := by decide +kernel
theorem dX7_depthAt_5 : decode cX7_depthAt 5 = .ok (.getfield 22, 3) := by decide +kernel
theorem dX7_depthAt_8 : decode cX7_depthAt 8 = .ok (.iload_n 3, 1) := by decide +kernel
theorem dX7_depthAt_9 : decode cX7_depthAt 9 = .ok (.iaload, 1) := by decide +kernel
theorem dX7_depthAt_10 : decode cX7_depthAt 10 = .ok (.iload_n 3, 1) := by decide +kernel
theorem dX7_depthAt_11 : decode cX7_depthAt 11 = .ok (.if_icmp .eq 16, 3) := by decide +kernel
theorem dX7_depthAt_14 : decode cX7_depthAt 14 = .ok (.iinc 2 1, 3) := by decide +kernel
theorem dX7_depthAt_17 : decode cX7_depthAt 17 = .ok (.aload_n 0, 1) := by decide +kernel
theorem dX7_depthAt_18 : decode cX7_depthAt 18 = .ok (.getfield 22, 3) := by decide +kernel
theorem dX7_depthAt_21 : decode cX7_depthAt 21 = .ok (.iload_n 3, 1) := by decide +kernel
theorem dX7_depthAt_22 : decode cX7_depthAt 22 = .ok (.iaload, 1) := by decide +kernel
theorem dX7_depthAt_23 : decode cX7_depthAt 23 = .ok (.istore_n 3, 1) := by decide +kernel
theorem dX7_depthAt_24 : decode cX7_depthAt 24 = .ok (.goto (-20), 3) := by decide +kernel
theorem dX7_depthAt_27 : decode cX7_depthAt 27 = .ok (.iload_n 2, 1) := by decide +kernel
theorem dX7_depthAt_28 : decode cX7_depthAt 28 = .ok (.ireturn, 1) := by decide +kernel
theorem dX7_joins_0 : decode cX7_joins 0 = .ok (.aload_n 0, 1) := by decide +kernel
theorem dX7_joins_1 : decode cX7_joins 1 = .ok (.iload_n 1, 1) := by decide +kernel
theorem dX7_joins_2 : decode cX7_joins 2 = .ok (.invokestatic 112, 3) := by decide +kernel
theorem dX7_joins_5 : decode cX7_joins 5 = .ok (.invokevirtual 176, 3) := by decide +kernel
theorem dX7_joins_8 : decode cX7_joins 8 = .ok (.istore_n 2, 1) := by decide +kernel
theorem dX7_joins_9 : decode cX7_joins 9 = .ok (.aload_n 0, 1) := by decide +kernel
theorem dX7_joins_10 : decode cX7_joins 10 = .ok (.iload_n 1, 1) := by decide +kernel
theorem dX7_joins_11 : decode cX7_joins 11 = .ok (.invokestatic 115, 3) := by decide +kernel
theorem dX7_joins_14 : decode cX7_joins 14 = .ok (.invokevirtual 176, 3) := by decide +kernel
theorem dX7_joins_17 : decode cX7_joins 17 = .ok (.istore_n 3, 1) := by decide +kernel
theorem dX7_joins_18 : decode cX7_joins 18 = .ok (.iload_n 2, 1) := by decide +kernel
theorem dX7_joins_19 : decode cX7_joins 19 = .ok (.iload_n 3, 1) := by decide +kernel
theorem dX7_joins_20 : decode cX7_joins 20 = .ok (.if_icmp .ne 5, 3) := by decide +kernel
theorem dX7_joins_23 : decode cX7_joins 23 = .ok (.iconst 0, 1) := by decide +kernel
theorem dX7_joins_24 : decode cX7_joins 24 = .ok (.ireturn, 1) := by decide +kernel
theorem dX7_joins_25 : decode cX7_joins 25 = .ok (.aload_n 0, 1) := by decide +kernel
theorem dX7_joins_26 : decode cX7_joins 26 = .ok (.getfield 25, 3) := by decide +kernel
theorem dX7_joins_29 : decode cX7_joins 29 = .ok (.iload_n 3, 1) := by decide +kernel
theorem dX7_joins_30 : decode cX7_joins 30 = .ok (.iaload, 1) := by decide +kernel
theorem dX7_joins_31 : decode cX7_joins 31 = .ok (.aload_n 0, 1) := by decide +kernel
theorem dX7_joins_32 : decode cX7_joins 32 = .ok (.getfield 25, 3) := by decide +kernel
theorem dX7_joins_35 : decode cX7_joins 35 = .ok (.iload_n 2, 1) := by decide +kernel
theorem dX7_joins_36 : decode cX7_joins 36 = .ok (.iaload, 1) := by decide +kernel
theorem dX7_joins_37 : decode cX7_joins 37 = .ok (.if_icmp .lt 23, 3) := by decide +kernel
theorem dX7_joins_40 : decode cX7_joins 40 = .ok (.aload_n 0, 1) := by decide +kernel
theorem dX7_joins_41 : decode cX7_joins 41 = .ok (.getfield 25, 3) := by decide +kernel
theorem dX7_joins_44 : decode cX7_joins 44 = .ok (.iload_n 2, 1) := by decide +kernel
theorem dX7_joins_45 : decode cX7_joins 45 = .ok (.iaload, 1) := by decide +kernel
theorem dX7_joins_46 : decode cX7_joins 46 = .ok (.aload_n 0, 1) := by decide +kernel
theorem dX7_joins_47 : decode cX7_joins 47 = .ok (.getfield 25, 3) := by decide +kernel
theorem dX7_joins_50 : decode cX7_joins 50 = .ok (.iload_n 3, 1) := by decide +kernel
theorem dX7_joins_51 : decode cX7_joins 51 = .ok (.iaload, 1) := by decide +kernel
theorem dX7_joins_52 : decode cX7_joins 52 = .ok (.if_icmp .ne 12, 3) := by decide +kernel
theorem dX7_joins_55 : decode cX7_joins 55 = .ok (.iload_n 3, 1) := by decide +kernel
theorem dX7_joins_56 : decode cX7_joins 56 = .ok (.iload_n 2, 1) := by decide +kernel
theorem dX7_joins_57 : decode cX7_joins 57 = .ok (.if_icmp .le 7, 3) := by decide +kernel
theorem dX7_joins_60 : decode cX7_joins 60 = .ok (.iconst 1, 1) := by decide +kernel
theorem dX7_joins_61 : decode cX7_joins 61 = .ok (.goto 4, 3) := by decide +kernel
theorem dX7_joins_64 : decode cX7_joins 64 = .ok (.iconst 0, 1) := by decide +kernel
theorem dX7_joins_65 : decode cX7_joins 65 = .ok (.istore 4, 2) := by decide +kernel
theorem dX7_joins_67 : decode cX7_joins 67 = .ok (.iload 4, 2) := by decide +kernel
theorem dX7_joins_69 : decode cX7_joins 69 = .ok (.ifCond .eq 7, 3) := by decide +kernel
theorem dX7_joins_72 : decode cX7_joins 72 = .ok (.iload_n 3, 1) := by decide +kernel
theorem dX7_joins_73 : decode cX7_joins 73 = .ok (.goto 4, 3) := by decide +kernel
theorem dX7_joins_76 : decode cX7_joins 76 = .ok (.iload_n 2, 1) := by decide +kernel
theorem dX7_joins_77 : decode cX7_joins 77 = .ok (.istore 5, 2) := by decide +kernel
theorem dX7_joins_79 : decode cX7_joins 79 = .ok (.iload 4, 2) := by decide +kernel
theorem dX7_joins_81 : decode cX7_joins 81 = .ok (.ifCond .eq 7, 3) := by decide +kernel
theorem dX7_joins_84 : decode cX7_joins 84 = .ok (.iload_n 2, 1) := by decide +kernel
theorem dX7_joins_85 : decode cX7_joins 85 = .ok (.goto 4, 3) := by decide +kernel
theorem dX7_joins_88 : decode cX7_joins 88 = .ok (.iload_n 3, 1) := by decide +kernel
theorem dX7_joins_89 : decode cX7_joins 89 = .ok (.istore 6, 2) := by decide +kernel
theorem dX7_joins_91 : decode cX7_joins 91 = .ok (.aload_n 0, 1) := by decide +kernel
theorem dX7_joins_92 : decode cX7_joins 92 = .ok (.getfield 22, 3) := by decide +kernel
theorem dX7_joins_95 : decode cX7_joins 95 = .ok (.iload 5, 2) := by decide +kernel
theorem dX7_joins_97 : decode cX7_joins 97 = .ok (.iload 6, 2) := by decide +kernel
theorem dX7_joins_99 : decode cX7_joins 99 = .ok (.iastore, 1) := by decide +kernel
theorem dX7_joins_100 : decode cX7_joins 100 = .ok (.aload_n 0, 1) := by decide +kernel
theorem dX7_joins_101 : decode cX7_joins 101 = .ok (.getfield 25, 3) := by decide +kernel
theorem dX7_joins_104 : decode cX7_joins 104 = .ok (.iload 6, 2) := by decide +kernel
theorem dX7_joins_106 : decode cX7_joins 106 = .ok (.dup2, 1) := by decide +kernel
theorem dX7_joins_107 : decode cX7_joins 107 = .ok (.iaload, 1) := by decide +kernel
theorem dX7_joins_108 : decode cX7_joins 108 = .ok (.aload_n 0, 1) := by decide +kernel
theorem dX7_joins_109 : decode cX7_joins 109 = .ok (.getfield 25, 3) := by decide +kernel
theorem dX7_joins_112 : decode cX7_joins 112 = .ok (.iload 5, 2) := by decide +kernel
theorem dX7_joins_114 : decode cX7_joins 114 = .ok (.iaload, 1) := by decide +kernel
theorem dX7_joins_115 : decode cX7_joins 115 = .ok (.iadd, 1) := by decide +kernel
theorem dX7_joins_116 : decode cX7_joins 116 = .ok (.iastore, 1) := by decide +kernel
theorem dX7_joins_117 : decode cX7_joins 117 = .ok (.iconst 1, 1) := by decide +kernel
theorem dX7_joins_118 : decode cX7_joins 118 = .ok (.ireturn, 1) := by decide +kernel
theorem dX7_walkTo_0 : decode cX7_walkTo 0 = .ok (.aload_n 0, 1) := by decide +kernel
theorem dX7_walkTo_1 : decode cX7_walkTo 1 = .ok (.invokevirtual 179, 3) := by decide +kernel
theorem dX7_walkTo_4 : decode cX7_walkTo 4 = .ok (.iconst 0, 1) := by decide +kernel
theorem dX7_walkTo_5 : decode cX7_walkTo 5 = .ok (.istore_n 2, 1) := by decide +kernel
theorem dX7_walkTo_6 : decode cX7_walkTo 6 = .ok (.iload_n 1, 1) := by decide +kernel
theorem dX7_walkTo_7 : decode cX7_walkTo 7 = .ok (.invokestatic 129, 3) := by decide +kernel
theorem dX7_walkTo_10 : decode cX7_walkTo 10 = .ok (.istore_n 3, 1) := by decide +kernel
theorem dX7_walkTo_11 : decode cX7_walkTo 11 = .ok (.iload_n 3, 1) := by decide +kernel
theorem dX7_walkTo_12 : decode cX7_walkTo 12 = .ok (.ifCond .lt 72, 3) := by decide +kernel
theorem dX7_walkTo_15 : decode cX7_walkTo 15 = .ok (.iload_n 1, 1) := by decide +kernel
theorem dX7_walkTo_16 : decode cX7_walkTo 16 = .ok (.iload_n 3, 1) := by decide +kernel
theorem dX7_walkTo_17 : decode cX7_walkTo 17 = .ok (.ishr, 1) := by decide +kernel
theorem dX7_walkTo_18 : decode cX7_walkTo 18 = .ok (.istore 4, 2) := by decide +kernel
theorem dX7_walkTo_20 : decode cX7_walkTo 20 = .ok (.iconst 0, 1) := by decide +kernel
theorem dX7_walkTo_21 : decode cX7_walkTo 21 = .ok (.istore_n 2, 1) := by decide +kernel
theorem dX7_walkTo_22 : decode cX7_walkTo 22 = .ok (.iconst 0, 1) := by decide +kernel
theorem dX7_walkTo_23 : decode cX7_walkTo 23 = .ok (.istore 5, 2) := by decide +kernel
theorem dX7_walkTo_25 : decode cX7_walkTo 25 = .ok (.iload 5, 2) := by decide +kernel
theorem dX7_walkTo_27 : decode cX7_walkTo 27 = .ok (.aload_n 0, 1) := by decide +kernel
theorem dX7_walkTo_28 : decode cX7_walkTo 28 = .ok (.iconst 0, 1) := by decide +kernel
theorem dX7_walkTo_29 : decode cX7_walkTo 29 = .ok (.invokevirtual 105, 3) := by decide +kernel
theorem dX7_walkTo_32 : decode cX7_walkTo 32 = .ok (.if_icmp .ge 46, 3) := by decide +kernel
theorem dX7_walkTo_35 : decode cX7_walkTo 35 = .ok (.iload_n 2, 1) := by decide +kernel
theorem dX7_walkTo_36 : decode cX7_walkTo 36 = .ok (.aload_n 0, 1) := by decide +kernel
theorem dX7_walkTo_37 : decode cX7_walkTo 37 = .ok (.iconst 0, 1) := by decide +kernel
theorem dX7_walkTo_38 : decode cX7_walkTo 38 = .ok (.iload 5, 2) := by decide +kernel
theorem dX7_walkTo_40 : decode cX7_walkTo 40 = .ok (.invokevirtual 108, 3) := by decide +kernel
theorem dX7_walkTo_43 : decode cX7_walkTo 43 = .ok (.iload 4, 2) := by decide +kernel
theorem dX7_walkTo_45 : decode cX7_walkTo 45 = .ok (.invokestatic 142, 3) := by decide +kernel
theorem dX7_walkTo_48 : decode cX7_walkTo 48 = .ok (.ifCond .eq 21, 3) := by decide +kernel
theorem dX7_walkTo_51 : decode cX7_walkTo 51 = .ok (.aload_n 0, 1) := by decide +kernel
theorem dX7_walkTo_52 : decode cX7_walkTo 52 = .ok (.aload_n 0, 1) := by decide +kernel
theorem dX7_walkTo_53 : decode cX7_walkTo 53 = .ok (.iconst 0, 1) := by decide +kernel
theorem dX7_walkTo_54 : decode cX7_walkTo 54 = .ok (.iload 5, 2) := by decide +kernel
theorem dX7_walkTo_56 : decode cX7_walkTo 56 = .ok (.invokevirtual 108, 3) := by decide +kernel
theorem dX7_walkTo_59 : decode cX7_walkTo 59 = .ok (.invokevirtual 182, 3) := by decide +kernel
theorem dX7_walkTo_62 : decode cX7_walkTo 62 = .ok (.ifCond .eq 7, 3) := by decide +kernel
theorem dX7_walkTo_65 : decode cX7_walkTo 65 = .ok (.iconst 1, 1) := by decide +kernel
theorem dX7_walkTo_66 : decode cX7_walkTo 66 = .ok (.goto 4, 3) := by decide +kernel
theorem dX7_walkTo_69 : decode cX7_walkTo 69 = .ok (.iconst 0, 1) := by decide +kernel
theorem dX7_walkTo_70 : decode cX7_walkTo 70 = .ok (.iadd, 1) := by decide +kernel
theorem dX7_walkTo_71 : decode cX7_walkTo 71 = .ok (.istore_n 2, 1) := by decide +kernel
theorem dX7_walkTo_72 : decode cX7_walkTo 72 = .ok (.iinc 5 1, 3) := by decide +kernel
theorem dX7_walkTo_75 : decode cX7_walkTo 75 = .ok (.goto (-50), 3) := by decide +kernel
theorem dX7_walkTo_78 : decode cX7_walkTo 78 = .ok (.iinc 3 (-1), 3) := by decide +kernel
theorem dX7_walkTo_81 : decode cX7_walkTo 81 = .ok (.goto (-70), 3) := by decide +kernel
theorem dX7_walkTo_84 : decode cX7_walkTo 84 = .ok (.iload_n 2, 1) := by decide +kernel
theorem dX7_walkTo_85 : decode cX7_walkTo 85 = .ok (.ireturn, 1) := by decide +kernel
theorem dX7_partsBy_0 : decode cX7_partsBy 0 = .ok (.aload_n 0, 1) := by decide +kernel
theorem dX7_partsBy_1 : decode cX7_partsBy 1 = .ok (.invokevirtual 179, 3) := by decide +kernel
theorem dX7_partsBy_4 : decode cX7_partsBy 4 = .ok (.bipush 8, 2) := by decide +kernel
theorem dX7_partsBy_6 : decode cX7_partsBy 6 = .ok (.istore 4, 2) := by decide +kernel
theorem dX7_partsBy_8 : decode cX7_partsBy 8 = .ok (.iconst 0, 1) := by decide +kernel
theorem dX7_partsBy_9 : decode cX7_partsBy 9 = .ok (.istore 5, 2) := by decide +kernel
theorem dX7_partsBy_11 : decode cX7_partsBy 11 = .ok (.iload 5, 2) := by decide +kernel
theorem dX7_partsBy_13 : decode cX7_partsBy 13 = .ok (.aload_n 0, 1) := by decide +kernel
theorem dX7_partsBy_14 : decode cX7_partsBy 14 = .ok (.iload_n 1, 1) := by decide +kernel
theorem dX7_partsBy_15 : decode cX7_partsBy 15 = .ok (.invokevirtual 105, 3) := by decide +kernel
theorem dX7_partsBy_18 : decode cX7_partsBy 18 = .ok (.if_icmp .ge 56, 3) := by decide +kernel
theorem dX7_partsBy_21 : decode cX7_partsBy 21 = .ok (.iload 4, 2) := by decide +kernel
theorem dX7_partsBy_23 : decode cX7_partsBy 23 = .ok (.iload_n 3, 1) := by decide +kernel
theorem dX7_partsBy_24 : decode cX7_partsBy 24 = .ok (.iload 5, 2) := by decide +kernel
theorem dX7_partsBy_26 : decode cX7_partsBy 26 = .ok (.invokestatic 185, 3) := by decide +kernel
theorem dX7_partsBy_29 : decode cX7_partsBy 29 = .ok (.ifCond .eq 35, 3) := by decide +kernel
theorem dX7_partsBy_32 : decode cX7_partsBy 32 = .ok (.aload_n 0, 1) := by decide +kernel
theorem dX7_partsBy_33 : decode cX7_partsBy 33 = .ok (.iload_n 1, 1) := by decide +kernel
theorem dX7_partsBy_34 : decode cX7_partsBy 34 = .ok (.iload 5, 2) := by decide +kernel
theorem dX7_partsBy_36 : decode cX7_partsBy 36 = .ok (.invokevirtual 108, 3) := by decide +kernel
theorem dX7_partsBy_39 : decode cX7_partsBy 39 = .ok (.iload_n 2, 1) := by decide +kernel
theorem dX7_partsBy_40 : decode cX7_partsBy 40 = .ok (.invokestatic 188, 3) := by decide +kernel
theorem dX7_partsBy_43 : decode cX7_partsBy 43 = .ok (.ifCond .eq 21, 3) := by decide +kernel
theorem dX7_partsBy_46 : decode cX7_partsBy 46 = .ok (.aload_n 0, 1) := by decide +kernel
theorem dX7_partsBy_47 : decode cX7_partsBy 47 = .ok (.aload_n 0, 1) := by decide +kernel
theorem dX7_partsBy_48 : decode cX7_partsBy 48 = .ok (.iload_n 1, 1) := by decide +kernel
theorem dX7_partsBy_49 : decode cX7_partsBy 49 = .ok (.iload 5, 2) := by decide +kernel
theorem dX7_partsBy_51 : decode cX7_partsBy 51 = .ok (.invokevirtual 108, 3) := by decide +kernel
theorem dX7_partsBy_54 : decode cX7_partsBy 54 = .ok (.invokevirtual 182, 3) := by decide +kernel
theorem dX7_partsBy_57 : decode cX7_partsBy 57 = .ok (.ifCond .eq 7, 3) := by decide +kernel
theorem dX7_partsBy_60 : decode cX7_partsBy 60 = .ok (.iconst 1, 1) := by decide +kernel
theorem dX7_partsBy_61 : decode cX7_partsBy 61 = .ok (.goto 4, 3) := by decide +kernel
theorem dX7_partsBy_64 : decode cX7_partsBy 64 = .ok (.iconst 0, 1) := by decide +kernel
theorem dX7_partsBy_65 : decode cX7_partsBy 65 = .ok (.isub, 1) := by decide +kernel
theorem dX7_partsBy_66 : decode cX7_partsBy 66 = .ok (.istore 4, 2) := by decide +kernel
theorem dX7_partsBy_68 : decode cX7_partsBy 68 = .ok (.iinc 5 1, 3) := by decide +kernel
theorem dX7_partsBy_71 : decode cX7_partsBy 71 = .ok (.goto (-60), 3) := by decide +kernel
theorem dX7_partsBy_74 : decode cX7_partsBy 74 = .ok (.iload 4, 2) := by decide +kernel
theorem dX7_partsBy_76 : decode cX7_partsBy 76 = .ok (.ireturn, 1) := by decide +kernel
theorem dX7_livingAt_0 : decode cX7_livingAt 0 = .ok (.iconst 0, 1) := by decide +kernel
theorem dX7_livingAt_1 : decode cX7_livingAt 1 = .ok (.istore_n 2, 1) := by decide +kernel
theorem dX7_livingAt_2 : decode cX7_livingAt 2 = .ok (.iconst 0, 1) := by decide +kernel
theorem dX7_livingAt_3 : decode cX7_livingAt 3 = .ok (.istore_n 3, 1) := by decide +kernel
theorem dX7_livingAt_4 : decode cX7_livingAt 4 = .ok (.iload_n 3, 1) := by decide +kernel
theorem dX7_livingAt_5 : decode cX7_livingAt 5 = .ok (.aload_n 0, 1) := by decide +kernel
theorem dX7_livingAt_6 : decode cX7_livingAt 6 = .ok (.iconst 0, 1) := by decide +kernel
theorem dX7_livingAt_7 : decode cX7_livingAt 7 = .ok (.invokevirtual 105, 3) := by decide +kernel
theorem dX7_livingAt_10 : decode cX7_livingAt 10 = .ok (.if_icmp .ge 32, 3) := by decide +kernel
theorem dX7_livingAt_13 : decode cX7_livingAt 13 = .ok (.iload_n 2, 1) := by decide +kernel
theorem dX7_livingAt_14 : decode cX7_livingAt 14 = .ok (.aload_n 0, 1) := by decide +kernel
theorem dX7_livingAt_15 : decode cX7_livingAt 15 = .ok (.iconst 0, 1) := by decide +kernel
theorem dX7_livingAt_16 : decode cX7_livingAt 16 = .ok (.iload_n 3, 1) := by decide +kernel
theorem dX7_livingAt_17 : decode cX7_livingAt 17 = .ok (.invokevirtual 108, 3) := by decide +kernel
theorem dX7_livingAt_20 : decode cX7_livingAt 20 = .ok (.iload_n 1, 1) := by decide +kernel
theorem dX7_livingAt_21 : decode cX7_livingAt 21 = .ok (.invokestatic 188, 3) := by decide +kernel
theorem dX7_livingAt_24 : decode cX7_livingAt 24 = .ok (.ifCond .eq 9, 3) := by decide +kernel
theorem dX7_livingAt_27 : decode cX7_livingAt 27 = .ok (.iconst 1, 1) := by decide +kernel
theorem dX7_livingAt_28 : decode cX7_livingAt 28 = .ok (.iload_n 3, 1) := by decide +kernel
theorem dX7_livingAt_29 : decode cX7_livingAt 29 = .ok (.ishl, 1) := by decide +kernel
theorem dX7_livingAt_30 : decode cX7_livingAt 30 = .ok (.goto 4, 3) := by decide +kernel
theorem dX7_livingAt_33 : decode cX7_livingAt 33 = .ok (.iconst 0, 1) := by decide +kernel
theorem dX7_livingAt_34 : decode cX7_livingAt 34 = .ok (.ior, 1) := by decide +kernel
theorem dX7_livingAt_35 : decode cX7_livingAt 35 = .ok (.istore_n 2, 1) := by decide +kernel
theorem dX7_livingAt_36 : decode cX7_livingAt 36 = .ok (.iinc 3 1, 3) := by decide +kernel
theorem dX7_livingAt_39 : decode cX7_livingAt 39 = .ok (.goto (-35), 3) := by decide +kernel
theorem dX7_livingAt_42 : decode cX7_livingAt 42 = .ok (.iload_n 2, 1) := by decide +kernel
theorem dX7_livingAt_43 : decode cX7_livingAt 43 = .ok (.ireturn, 1) := by decide +kernel
theorem dX7_findSides_0 : decode cX7_findSides 0 = .ok (.aload_n 0, 1) := by decide +kernel
theorem dX7_findSides_1 : decode cX7_findSides 1 = .ok (.iconst 0, 1) := by decide +kernel
theorem dX7_findSides_2 : decode cX7_findSides 2 = .ok (.iload_n 1, 1) := by decide +kernel
theorem dX7_findSides_3 : decode cX7_findSides 3 = .ok (.ldc 191, 2) := by decide +kernel
theorem dX7_findSides_5 : decode cX7_findSides 5 = .ok (.invokevirtual 192, 3) := by decide +kernel
theorem dX7_findSides_8 : decode cX7_findSides 8 = .ok (.pop, 1) := by decide +kernel
theorem dX7_findSides_9 : decode cX7_findSides 9 = .ok (.iconst 0, 1) := by decide +kernel
theorem dX7_findSides_10 : decode cX7_findSides 10 = .ok (.istore_n 2, 1) := by decide +kernel
theorem dX7_findSides_11 : decode cX7_findSides 11 = .ok (.iload_n 2, 1) := by decide +kernel
theorem dX7_findSides_12 : decode cX7_findSides 12 = .ok (.bipush 8, 2) := by decide +kernel
theorem dX7_findSides_14 : decode cX7_findSides 14 = .ok (.if_icmp .ge 24, 3) := by decide +kernel
theorem dX7_findSides_17 : decode cX7_findSides 17 = .ok (.aload_n 0, 1) := by decide +kernel
theorem dX7_findSides_18 : decode cX7_findSides 18 = .ok (.getfield 28, 3) := by decide +kernel
theorem dX7_findSides_21 : decode cX7_findSides 21 = .ok (.iload_n 2, 1) := by decide +kernel
theorem dX7_findSides_22 : decode cX7_findSides 22 = .ok (.bipush (-9), 2) := by decide +kernel
theorem dX7_findSides_24 : decode cX7_findSides 24 = .ok (.iastore, 1) := by decide +kernel
theorem dX7_findSides_25 : decode cX7_findSides 25 = .ok (.aload_n 0, 1) := by decide +kernel
theorem dX7_findSides_26 : decode cX7_findSides 26 = .ok (.getfield 31, 3) := by decide +kernel
theorem dX7_findSides_29 : decode cX7_findSides 29 = .ok (.iload_n 2, 1) := by decide +kernel
theorem dX7_findSides_30 : decode cX7_findSides 30 = .ok (.iconst 0, 1) := by decide +kernel
theorem dX7_findSides_31 : decode cX7_findSides 31 = .ok (.iastore, 1) := by decide +kernel
theorem dX7_findSides_32 : decode cX7_findSides 32 = .ok (.iinc 2 1, 3) := by decide +kernel
theorem dX7_findSides_35 : decode cX7_findSides 35 = .ok (.goto (-24), 3) := by decide +kernel
theorem dX7_findSides_38 : decode cX7_findSides 38 = .ok (.iconst 0, 1) := by decide +kernel
theorem dX7_findSides_39 : decode cX7_findSides 39 = .ok (.istore_n 2, 1) := by decide +kernel
theorem dX7_findSides_40 : decode cX7_findSides 40 = .ok (.iload_n 2, 1) := by decide +kernel
theorem dX7_findSides_41 : decode cX7_findSides 41 = .ok (.bipush 8, 2) := by decide +kernel
theorem dX7_findSides_43 : decode cX7_findSides 43 = .ok (.if_icmp .ge 41, 3) := by decide +kernel
theorem dX7_findSides_46 : decode cX7_findSides 46 = .ok (.aload_n 0, 1) := by decide +kernel
theorem dX7_findSides_47 : decode cX7_findSides 47 = .ok (.getfield 28, 3) := by decide +kernel
theorem dX7_findSides_50 : decode cX7_findSides 50 = .ok (.iload_n 2, 1) := by decide +kernel
theorem dX7_findSides_51 : decode cX7_findSides 51 = .ok (.aload_n 0, 1) := by decide +kernel
theorem dX7_findSides_52 : decode cX7_findSides 52 = .ok (.getfield 28, 3) := by decide +kernel
theorem dX7_findSides_55 : decode cX7_findSides 55 = .ok (.iload_n 2, 1) := by decide +kernel
theorem dX7_findSides_56 : decode cX7_findSides 56 = .ok (.iaload, 1) := by decide +kernel
theorem dX7_findSides_57 : decode cX7_findSides 57 = .ok (.bipush (-9), 2) := by decide +kernel
theorem dX7_findSides_59 : decode cX7_findSides 59 = .ok (.if_icmp .ne 7, 3) := by decide +kernel
theorem dX7_findSides_62 : decode cX7_findSides 62 = .ok (.iconst 0, 1) := by decide +kernel
theorem dX7_findSides_63 : decode cX7_findSides 63 = .ok (.goto 9, 3) := by decide +kernel
theorem dX7_findSides_66 : decode cX7_findSides 66 = .ok (.aload_n 0, 1) := by decide +kernel
theorem dX7_findSides_67 : decode cX7_findSides 67 = .ok (.getfield 28, 3) := by decide +kernel
theorem dX7_findSides_70 : decode cX7_findSides 70 = .ok (.iload_n 2, 1) := by decide +kernel
theorem dX7_findSides_71 : decode cX7_findSides 71 = .ok (.iaload, 1) := by decide +kernel
theorem dX7_findSides_72 : decode cX7_findSides 72 = .ok (.iastore, 1) := by decide +kernel
theorem dX7_findSides_73 : decode cX7_findSides 73 = .ok (.aload_n 0, 1) := by decide +kernel
theorem dX7_findSides_74 : decode cX7_findSides 74 = .ok (.iload_n 1, 1) := by decide +kernel
theorem dX7_findSides_75 : decode cX7_findSides 75 = .ok (.invokevirtual 196, 3) := by decide +kernel
theorem dX7_findSides_78 : decode cX7_findSides 78 = .ok (.iinc 2 1, 3) := by decide +kernel
theorem dX7_findSides_81 : decode cX7_findSides 81 = .ok (.goto (-41), 3) := by decide +kernel
theorem dX7_findSides_84 : decode cX7_findSides 84 = .ok (.iconst 0, 1) := by decide +kernel
theorem dX7_findSides_85 : decode cX7_findSides 85 = .ok (.istore_n 2, 1) := by decide +kernel
theorem dX7_findSides_86 : decode cX7_findSides 86 = .ok (.iload_n 2, 1) := by decide +kernel
theorem dX7_findSides_87 : decode cX7_findSides 87 = .ok (.aload_n 0, 1) := by decide +kernel
theorem dX7_findSides_88 : decode cX7_findSides 88 = .ok (.iconst 0, 1) := by decide +kernel
theorem dX7_findSides_89 : decode cX7_findSides 89 = .ok (.invokevirtual 105, 3) := by decide +kernel
theorem dX7_findSides_92 : decode cX7_findSides 92 = .ok (.if_icmp .ge 59, 3) := by decide +kernel
theorem dX7_findSides_95 : decode cX7_findSides 95 = .ok (.aload_n 0, 1) := by decide +kernel
theorem dX7_findSides_96 : decode cX7_findSides 96 = .ok (.iconst 0, 1) := by decide +kernel
theorem dX7_findSides_97 : decode cX7_findSides 97 = .ok (.iload_n 2, 1) := by decide +kernel
theorem dX7_findSides_98 : decode cX7_findSides 98 = .ok (.invokevirtual 108, 3) := by decide +kernel
theorem dX7_findSides_101 : decode cX7_findSides 101 = .ok (.istore_n 3, 1) := by decide +kernel
theorem dX7_findSides_102 : decode cX7_findSides 102 = .ok (.iload_n 3, 1) := by decide +kernel
theorem dX7_findSides_103 : decode cX7_findSides 103 = .ok (.iload_n 1, 1) := by decide +kernel
theorem dX7_findSides_104 : decode cX7_findSides 104 = .ok (.invokestatic 188, 3) := by decide +kernel
theorem dX7_findSides_107 : decode cX7_findSides 107 = .ok (.ifCond .eq 38, 3) := by decide +kernel
theorem dX7_findSides_110 : decode cX7_findSides 110 = .ok (.aload_n 0, 1) := by decide +kernel
theorem dX7_findSides_111 : decode cX7_findSides 111 = .ok (.getfield 28, 3) := by decide +kernel
theorem dX7_findSides_114 : decode cX7_findSides 114 = .ok (.iload_n 3, 1) := by decide +kernel
theorem dX7_findSides_115 : decode cX7_findSides 115 = .ok (.invokestatic 112, 3) := by decide +kernel
theorem dX7_findSides_118 : decode cX7_findSides 118 = .ok (.iaload, 1) := by decide +kernel
theorem dX7_findSides_119 : decode cX7_findSides 119 = .ok (.aload_n 0, 1) := by decide +kernel
theorem dX7_findSides_120 : decode cX7_findSides 120 = .ok (.getfield 28, 3) := by decide +kernel
theorem dX7_findSides_123 : decode cX7_findSides 123 = .ok (.iload_n 3, 1) := by decide +kernel
theorem dX7_findSides_124 : decode cX7_findSides 124 = .ok (.invokestatic 115, 3) := by decide +kernel
theorem dX7_findSides_127 : decode cX7_findSides 127 = .ok (.iaload, 1) := by decide +kernel
theorem dX7_findSides_128 : decode cX7_findSides 128 = .ok (.if_icmp .ne 17, 3) := by decide +kernel
theorem dX7_findSides_131 : decode cX7_findSides 131 = .ok (.aload_n 0, 1) := by decide +kernel
theorem dX7_findSides_132 : decode cX7_findSides 132 = .ok (.getfield 31, 3) := by decide +kernel
theorem dX7_findSides_135 : decode cX7_findSides 135 = .ok (.aload_n 0, 1) := by decide +kernel
theorem dX7_findSides_136 : decode cX7_findSides 136 = .ok (.iload_n 3, 1) := by decide +kernel
theorem dX7_findSides_137 : decode cX7_findSides 137 = .ok (.invokestatic 112, 3) := by decide +kernel
theorem dX7_findSides_140 : decode cX7_findSides 140 = .ok (.invokevirtual 176, 3) := by decide +kernel
theorem dX7_findSides_143 : decode cX7_findSides 143 = .ok (.iconst 1, 1) := by decide +kernel
theorem dX7_findSides_144 : decode cX7_findSides 144 = .ok (.iastore, 1) := by decide +kernel
theorem dX7_findSides_145 : decode cX7_findSides 145 = .ok (.iinc 2 1, 3) := by decide +kernel
theorem dX7_findSides_148 : decode cX7_findSides 148 = .ok (.goto (-62), 3) := by decide +kernel
theorem dX7_findSides_151 : decode cX7_findSides 151 = .ok (.return_, 1) := by decide +kernel
theorem dX7_spreadSides_0 : decode cX7_spreadSides 0 = .ok (.iconst 0, 1) := by decide +kernel
theorem dX7_spreadSides_1 : decode cX7_spreadSides 1 = .ok (.istore_n 2, 1) := by decide +kernel
theorem dX7_spreadSides_2 : decode cX7_spreadSides 2 = .ok (.iload_n 2, 1) := by decide +kernel
theorem dX7_spreadSides_3 : decode cX7_spreadSides 3 = .ok (.bipush 8, 2) := by decide +kernel
theorem dX7_spreadSides_5 : decode cX7_spreadSides 5 = .ok (.if_icmp .ge 157, 3) := by decide +kernel
theorem dX7_spreadSides_8 : decode cX7_spreadSides 8 = .ok (.iconst 0, 1) := by decide +kernel
theorem dX7_spreadSides_9 : decode cX7_spreadSides 9 = .ok (.istore_n 3, 1) := by decide +kernel
theorem dX7_spreadSides_10 : decode cX7_spreadSides 10 = .ok (.iload_n 3, 1) := by decide +kernel
theorem dX7_spreadSides_11 : decode cX7_spreadSides 11 = .ok (.aload_n 0, 1) := by decide +kernel
theorem dX7_spreadSides_12 : decode cX7_spreadSides 12 = .ok (.iconst 0, 1) := by decide +kernel
theorem dX7_spreadSides_13 : decode cX7_spreadSides 13 = .ok (.invokevirtual 105, 3) := by decide +kernel
theorem dX7_spreadSides_16 : decode cX7_spreadSides 16 = .ok (.if_icmp .ge 140, 3) := by decide +kernel
theorem dX7_spreadSides_19 : decode cX7_spreadSides 19 = .ok (.aload_n 0, 1) := by decide +kernel
theorem dX7_spreadSides_20 : decode cX7_spreadSides 20 = .ok (.iconst 0, 1) := by decide +kernel
theorem dX7_spreadSides_21 : decode cX7_spreadSides 21 = .ok (.iload_n 3, 1) := by decide +kernel
theorem dX7_spreadSides_22 : decode cX7_spreadSides 22 = .ok (.invokevirtual 108, 3) := by decide +kernel
theorem dX7_spreadSides_25 : decode cX7_spreadSides 25 = .ok (.istore 4, 2) := by decide +kernel
theorem dX7_spreadSides_27 : decode cX7_spreadSides 27 = .ok (.iload 4, 2) := by decide +kernel
theorem dX7_spreadSides_29 : decode cX7_spreadSides 29 = .ok (.iload_n 1, 1) := by decide +kernel
theorem dX7_spreadSides_30 : decode cX7_spreadSides 30 = .ok (.invokestatic 188, 3) := by decide +kernel
theorem dX7_spreadSides_33 : decode cX7_spreadSides 33 = .ok (.ifCond .eq 117, 3) := by decide +kernel
theorem dX7_spreadSides_36 : decode cX7_spreadSides 36 = .ok (.iload 4, 2) := by decide +kernel
theorem dX7_spreadSides_38 : decode cX7_spreadSides 38 = .ok (.invokestatic 112, 3) := by decide +kernel
theorem dX7_spreadSides_41 : decode cX7_spreadSides 41 = .ok (.istore 5, 2) := by decide +kernel
theorem dX7_spreadSides_43 : decode cX7_spreadSides 43 = .ok (.iload 4, 2) := by decide +kernel
theorem dX7_spreadSides_45 : decode cX7_spreadSides 45 = .ok (.invokestatic 115, 3) := by decide +kernel
theorem dX7_spreadSides_48 : decode cX7_spreadSides 48 = .ok (.istore 6, 2) := by decide +kernel
theorem dX7_spreadSides_50 : decode cX7_spreadSides 50 = .ok (.aload_n 0, 1) := by decide +kernel
theorem dX7_spreadSides_51 : decode cX7_spreadSides 51 = .ok (.getfield 28, 3) := by decide +kernel
theorem dX7_spreadSides_54 : decode cX7_spreadSides 54 = .ok (.iload 6, 2) := by decide +kernel
theorem dX7_spreadSides_56 : decode cX7_spreadSides 56 = .ok (.aload_n 0, 1) := by decide +kernel
theorem dX7_spreadSides_57 : decode cX7_spreadSides 57 = .ok (.getfield 28, 3) := by decide +kernel
theorem dX7_spreadSides_60 : decode cX7_spreadSides 60 = .ok (.iload 5, 2) := by decide +kernel
theorem dX7_spreadSides_62 : decode cX7_spreadSides 62 = .ok (.iaload, 1) := by decide +kernel
theorem dX7_spreadSides_63 : decode cX7_spreadSides 63 = .ok (.bipush (-9), 2) := by decide +kernel
theorem dX7_spreadSides_65 : decode cX7_spreadSides 65 = .ok (.if_icmp .eq 27, 3) := by decide +kernel
theorem dX7_spreadSides_68 : decode cX7_spreadSides 68 = .ok (.aload_n 0, 1) := by decide +kernel
theorem dX7_spreadSides_69 : decode cX7_spreadSides 69 = .ok (.getfield 28, 3) := by decide +kernel
theorem dX7_spreadSides_72 : decode cX7_spreadSides 72 = .ok (.iload 6, 2) := by decide +kernel
theorem dX7_spreadSides_74 : decode cX7_spreadSides 74 = .ok (.iaload, 1) := by decide +kernel
theorem dX7_spreadSides_75 : decode cX7_spreadSides 75 = .ok (.bipush (-9), 2) := by decide +kernel
theorem dX7_spreadSides_77 : decode cX7_spreadSides 77 = .ok (.if_icmp .ne 15, 3) := by decide +kernel
theorem dX7_spreadSides_80 : decode cX7_spreadSides 80 = .ok (.iconst 1, 1) := by decide +kernel
theorem dX7_spreadSides_81 : decode cX7_spreadSides 81 = .ok (.aload_n 0, 1) := by decide +kernel
theorem dX7_spreadSides_82 : decode cX7_spreadSides 82 = .ok (.getfield 28, 3) := by decide +kernel
theorem dX7_spreadSides_85 : decode cX7_spreadSides 85 = .ok (.iload 5, 2) := by decide +kernel
theorem dX7_spreadSides_87 : decode cX7_spreadSides 87 = .ok (.iaload, 1) := by decide +kernel
theorem dX7_spreadSides_88 : decode cX7_spreadSides 88 = .ok (.isub, 1) := by decide +kernel
theorem dX7_spreadSides_89 : decode cX7_spreadSides 89 = .ok (.goto 10, 3) := by decide +kernel
theorem dX7_spreadSides_92 : decode cX7_spreadSides 92 = .ok (.aload_n 0, 1) := by decide +kernel
theorem dX7_spreadSides_93 : decode cX7_spreadSides 93 = .ok (.getfield 28, 3) := by decide +kernel
theorem dX7_spreadSides_96 : decode cX7_spreadSides 96 = .ok (.iload 6, 2) := by decide +kernel
theorem dX7_spreadSides_98 : decode cX7_spreadSides 98 = .ok (.iaload, 1) := by decide +kernel
theorem dX7_spreadSides_99 : decode cX7_spreadSides 99 = .ok (.iastore, 1) := by decide +kernel
theorem dX7_spreadSides_100 : decode cX7_spreadSides 100 = .ok (.aload_n 0, 1) := by decide +kernel
theorem dX7_spreadSides_101 : decode cX7_spreadSides 101 = .ok (.getfield 28, 3) := by decide +kernel
theorem dX7_spreadSides_104 : decode cX7_spreadSides 104 = .ok (.iload 5, 2) := by decide +kernel
theorem dX7_spreadSides_106 : decode cX7_spreadSides 106 = .ok (.aload_n 0, 1) := by decide +kernel
theorem dX7_spreadSides_107 : decode cX7_spreadSides 107 = .ok (.getfield 28, 3) := by decide +kernel
theorem dX7_spreadSides_110 : decode cX7_spreadSides 110 = .ok (.iload 6, 2) := by decide +kernel
theorem dX7_spreadSides_112 : decode cX7_spreadSides 112 = .ok (.iaload, 1) := by decide +kernel
theorem dX7_spreadSides_113 : decode cX7_spreadSides 113 = .ok (.bipush (-9), 2) := by decide +kernel
theorem dX7_spreadSides_115 : decode cX7_spreadSides 115 = .ok (.if_icmp .eq 27, 3) := by decide +kernel
theorem dX7_spreadSides_118 : decode cX7_spreadSides 118 = .ok (.aload_n 0, 1) := by decide +kernel
theorem dX7_spreadSides_119 : decode cX7_spreadSides 119 = .ok (.getfield 28, 3) := by decide +kernel
theorem dX7_spreadSides_122 : decode cX7_spreadSides 122 = .ok (.iload 5, 2) := by decide +kernel
theorem dX7_spreadSides_124 : decode cX7_spreadSides 124 = .ok (.iaload, 1) := by decide +kernel
theorem dX7_spreadSides_125 : decode cX7_spreadSides 125 = .ok (.bipush (-9), 2) := by decide +kernel
theorem dX7_spreadSides_127 : decode cX7_spreadSides 127 = .ok (.if_icmp .ne 15, 3) := by decide +kernel
theorem dX7_spreadSides_130 : decode cX7_spreadSides 130 = .ok (.iconst 1, 1) := by decide +kernel
theorem dX7_spreadSides_131 : decode cX7_spreadSides 131 = .ok (.aload_n 0, 1) := by decide +kernel
theorem dX7_spreadSides_132 : decode cX7_spreadSides 132 = .ok (.getfield 28, 3) := by decide +kernel
theorem dX7_spreadSides_135 : decode cX7_spreadSides 135 = .ok (.iload 6, 2) := by decide +kernel
theorem dX7_spreadSides_137 : decode cX7_spreadSides 137 = .ok (.iaload, 1) := by decide +kernel
theorem dX7_spreadSides_138 : decode cX7_spreadSides 138 = .ok (.isub, 1) := by decide +kernel
theorem dX7_spreadSides_139 : decode cX7_spreadSides 139 = .ok (.goto 10, 3) := by decide +kernel
theorem dX7_spreadSides_142 : decode cX7_spreadSides 142 = .ok (.aload_n 0, 1) := by decide +kernel
theorem dX7_spreadSides_143 : decode cX7_spreadSides 143 = .ok (.getfield 28, 3) := by decide +kernel
theorem dX7_spreadSides_146 : decode cX7_spreadSides 146 = .ok (.iload 5, 2) := by decide +kernel
theorem dX7_spreadSides_148 : decode cX7_spreadSides 148 = .ok (.iaload, 1) := by decide +kernel
theorem dX7_spreadSides_149 : decode cX7_spreadSides 149 = .ok (.iastore, 1) := by decide +kernel
theorem dX7_spreadSides_150 : decode cX7_spreadSides 150 = .ok (.iinc 3 1, 3) := by decide +kernel
theorem dX7_spreadSides_153 : decode cX7_spreadSides 153 = .ok (.goto (-143), 3) := by decide +kernel
theorem dX7_spreadSides_156 : decode cX7_spreadSides 156 = .ok (.iinc 2 1, 3) := by decide +kernel
theorem dX7_spreadSides_159 : decode cX7_spreadSides 159 = .ok (.goto (-157), 3) := by decide +kernel
theorem dX7_spreadSides_162 : decode cX7_spreadSides 162 = .ok (.return_, 1) := by decide +kernel
theorem dX7_oddParts_0 : decode cX7_oddParts 0 = .ok (.aload_n 0, 1) := by decide +kernel
theorem dX7_oddParts_1 : decode cX7_oddParts 1 = .ok (.iload_n 1, 1) := by decide +kernel
theorem dX7_oddParts_2 : decode cX7_oddParts 2 = .ok (.invokevirtual 200, 3) := by decide +kernel
theorem dX7_oddParts_5 : decode cX7_oddParts 5 = .ok (.iconst 0, 1) := by decide +kernel
theorem dX7_oddParts_6 : decode cX7_oddParts 6 = .ok (.istore_n 2, 1) := by decide +kernel
theorem dX7_oddParts_7 : decode cX7_oddParts 7 = .ok (.iconst 0, 1) := by decide +kernel
theorem dX7_oddParts_8 : decode cX7_oddParts 8 = .ok (.istore_n 3, 1) := by decide +kernel
theorem dX7_oddParts_9 : decode cX7_oddParts 9 = .ok (.iload_n 3, 1) := by decide +kernel
theorem dX7_oddParts_10 : decode cX7_oddParts 10 = .ok (.bipush 8, 2) := by decide +kernel
theorem dX7_oddParts_12 : decode cX7_oddParts 12 = .ok (.if_icmp .ge 18, 3) := by decide +kernel
theorem dX7_oddParts_15 : decode cX7_oddParts 15 = .ok (.iload_n 2, 1) := by decide +kernel
theorem dX7_oddParts_16 : decode cX7_oddParts 16 = .ok (.aload_n 0, 1) := by decide +kernel
theorem dX7_oddParts_17 : decode cX7_oddParts 17 = .ok (.getfield 31, 3) := by decide +kernel
theorem dX7_oddParts_20 : decode cX7_oddParts 20 = .ok (.iload_n 3, 1) := by decide +kernel
theorem dX7_oddParts_21 : decode cX7_oddParts 21 = .ok (.iaload, 1) := by decide +kernel
theorem dX7_oddParts_22 : decode cX7_oddParts 22 = .ok (.iadd, 1) := by decide +kernel
theorem dX7_oddParts_23 : decode cX7_oddParts 23 = .ok (.istore_n 2, 1) := by decide +kernel
theorem dX7_oddParts_24 : decode cX7_oddParts 24 = .ok (.iinc 3 1, 3) := by decide +kernel
theorem dX7_oddParts_27 : decode cX7_oddParts 27 = .ok (.goto (-18), 3) := by decide +kernel
theorem dX7_oddParts_30 : decode cX7_oddParts 30 = .ok (.iload_n 2, 1) := by decide +kernel
theorem dX7_oddParts_31 : decode cX7_oddParts 31 = .ok (.ireturn, 1) := by decide +kernel
theorem dX7_greatestDepth_0 : decode cX7_greatestDepth 0 = .ok (.aload_n 0, 1) := by decide +kernel
theorem dX7_greatestDepth_1 : decode cX7_greatestDepth 1 = .ok (.bipush 16, 2) := by decide +kernel
theorem dX7_greatestDepth_3 : decode cX7_greatestDepth 3 = .ok (.iload_n 1, 1) := by decide +kernel
theorem dX7_greatestDepth_4 : decode cX7_greatestDepth 4 = .ok (.iadd, 1) := by decide +kernel
theorem dX7_greatestDepth_5 : decode cX7_greatestDepth 5 = .ok (.invokevirtual 203, 3) := by decide +kernel
theorem dX7_greatestDepth_8 : decode cX7_greatestDepth 8 = .ok (.pop, 1) := by decide +kernel
theorem dX7_greatestDepth_9 : decode cX7_greatestDepth 9 = .ok (.iconst 0, 1) := by decide +kernel
theorem dX7_greatestDepth_10 : decode cX7_greatestDepth 10 = .ok (.istore_n 2, 1) := by decide +kernel
theorem dX7_greatestDepth_11 : decode cX7_greatestDepth 11 = .ok (.iconst 0, 1) := by decide +kernel
theorem dX7_greatestDepth_12 : decode cX7_greatestDepth 12 = .ok (.istore_n 3, 1) := by decide +kernel
theorem dX7_greatestDepth_13 : decode cX7_greatestDepth 13 = .ok (.iload_n 3, 1) := by decide +kernel
theorem dX7_greatestDepth_14 : decode cX7_greatestDepth 14 = .ok (.bipush 8, 2) := by decide +kernel
theorem dX7_greatestDepth_16 : decode cX7_greatestDepth 16 = .ok (.if_icmp .ge 28, 3) := by decide +kernel
theorem dX7_greatestDepth_19 : decode cX7_greatestDepth 19 = .ok (.aload_n 0, 1) := by decide +kernel
theorem dX7_greatestDepth_20 : decode cX7_greatestDepth 20 = .ok (.iload_n 3, 1) := by decide +kernel
theorem dX7_greatestDepth_21 : decode cX7_greatestDepth 21 = .ok (.invokevirtual 206, 3) := by decide +kernel
theorem dX7_greatestDepth_24 : decode cX7_greatestDepth 24 = .ok (.iload_n 2, 1) := by decide +kernel
theorem dX7_greatestDepth_25 : decode cX7_greatestDepth 25 = .ok (.if_icmp .le 11, 3) := by decide +kernel
theorem dX7_greatestDepth_28 : decode cX7_greatestDepth 28 = .ok (.aload_n 0, 1) := by decide +kernel
theorem dX7_greatestDepth_29 : decode cX7_greatestDepth 29 = .ok (.iload_n 3, 1) := by decide +kernel
theorem dX7_greatestDepth_30 : decode cX7_greatestDepth 30 = .ok (.invokevirtual 206, 3) := by decide +kernel
theorem dX7_greatestDepth_33 : decode cX7_greatestDepth 33 = .ok (.goto 4, 3) := by decide +kernel
theorem dX7_greatestDepth_36 : decode cX7_greatestDepth 36 = .ok (.iload_n 2, 1) := by decide +kernel
theorem dX7_greatestDepth_37 : decode cX7_greatestDepth 37 = .ok (.istore_n 2, 1) := by decide +kernel
theorem dX7_greatestDepth_38 : decode cX7_greatestDepth 38 = .ok (.iinc 3 1, 3) := by decide +kernel
theorem dX7_greatestDepth_41 : decode cX7_greatestDepth 41 = .ok (.goto (-28), 3) := by decide +kernel
theorem dX7_greatestDepth_44 : decode cX7_greatestDepth 44 = .ok (.iload_n 2, 1) := by decide +kernel
theorem dX7_greatestDepth_45 : decode cX7_greatestDepth 45 = .ok (.ireturn, 1) := by decide +kernel
theorem dX7_greatestPart_0 : decode cX7_greatestPart 0 = .ok (.aload_n 0, 1) := by decide +kernel
theorem dX7_greatestPart_1 : decode cX7_greatestPart 1 = .ok (.bipush 16, 2) := by decide +kernel
theorem dX7_greatestPart_3 : decode cX7_greatestPart 3 = .ok (.iload_n 1, 1) := by decide +kernel
theorem dX7_greatestPart_4 : decode cX7_greatestPart 4 = .ok (.iadd, 1) := by decide +kernel
theorem dX7_greatestPart_5 : decode cX7_greatestPart 5 = .ok (.invokevirtual 203, 3) := by decide +kernel
theorem dX7_greatestPart_8 : decode cX7_greatestPart 8 = .ok (.pop, 1) := by decide +kernel
theorem dX7_greatestPart_9 : decode cX7_greatestPart 9 = .ok (.iconst 0, 1) := by decide +kernel
theorem dX7_greatestPart_10 : decode cX7_greatestPart 10 = .ok (.istore_n 2, 1) := by decide +kernel
theorem dX7_greatestPart_11 : decode cX7_greatestPart 11 = .ok (.iconst 0, 1) := by decide +kernel
theorem dX7_greatestPart_12 : decode cX7_greatestPart 12 = .ok (.istore_n 3, 1) := by decide +kernel
theorem dX7_greatestPart_13 : decode cX7_greatestPart 13 = .ok (.iload_n 3, 1) := by decide +kernel
theorem dX7_greatestPart_14 : decode cX7_greatestPart 14 = .ok (.bipush 8, 2) := by decide +kernel
theorem dX7_greatestPart_16 : decode cX7_greatestPart 16 = .ok (.if_icmp .ge 40, 3) := by decide +kernel
theorem dX7_greatestPart_19 : decode cX7_greatestPart 19 = .ok (.aload_n 0, 1) := by decide +kernel
theorem dX7_greatestPart_20 : decode cX7_greatestPart 20 = .ok (.getfield 22, 3) := by decide +kernel
theorem dX7_greatestPart_23 : decode cX7_greatestPart 23 = .ok (.iload_n 3, 1) := by decide +kernel
theorem dX7_greatestPart_24 : decode cX7_greatestPart 24 = .ok (.iaload, 1) := by decide +kernel
theorem dX7_greatestPart_25 : decode cX7_greatestPart 25 = .ok (.iload_n 3, 1) := by decide +kernel
theorem dX7_greatestPart_26 : decode cX7_greatestPart 26 = .ok (.if_icmp .ne 22, 3) := by decide +kernel
theorem dX7_greatestPart_29 : decode cX7_greatestPart 29 = .ok (.aload_n 0, 1) := by decide +kernel
theorem dX7_greatestPart_30 : decode cX7_greatestPart 30 = .ok (.getfield 25, 3) := by decide +kernel
theorem dX7_greatestPart_33 : decode cX7_greatestPart 33 = .ok (.iload_n 3, 1) := by decide +kernel
theorem dX7_greatestPart_34 : decode cX7_greatestPart 34 = .ok (.iaload, 1) := by decide +kernel
theorem dX7_greatestPart_35 : decode cX7_greatestPart 35 = .ok (.iload_n 2, 1) := by decide +kernel
theorem dX7_greatestPart_36 : decode cX7_greatestPart 36 = .ok (.if_icmp .le 12, 3) := by decide +kernel
theorem dX7_greatestPart_39 : decode cX7_greatestPart 39 = .ok (.aload_n 0, 1) := by decide +kernel
theorem dX7_greatestPart_40 : decode cX7_greatestPart 40 = .ok (.getfield 25, 3) := by decide +kernel
theorem dX7_greatestPart_43 : decode cX7_greatestPart 43 = .ok (.iload_n 3, 1) := by decide +kernel
theorem dX7_greatestPart_44 : decode cX7_greatestPart 44 = .ok (.iaload, 1) := by decide +kernel
theorem dX7_greatestPart_45 : decode cX7_greatestPart 45 = .ok (.goto 4, 3) := by decide +kernel
theorem dX7_greatestPart_48 : decode cX7_greatestPart 48 = .ok (.iload_n 2, 1) := by decide +kernel
theorem dX7_greatestPart_49 : decode cX7_greatestPart 49 = .ok (.istore_n 2, 1) := by decide +kernel
theorem dX7_greatestPart_50 : decode cX7_greatestPart 50 = .ok (.iinc 3 1, 3) := by decide +kernel
theorem dX7_greatestPart_53 : decode cX7_greatestPart 53 = .ok (.goto (-40), 3) := by decide +kernel
theorem dX7_greatestPart_56 : decode cX7_greatestPart 56 = .ok (.iload_n 2, 1) := by decide +kernel
theorem dX7_greatestPart_57 : decode cX7_greatestPart 57 = .ok (.ireturn, 1) := by decide +kernel
theorem dX7_at_0 : decode cX7_at 0 = .ok (.iload_n 1, 1) := by decide +kernel
theorem dX7_at_1 : decode cX7_at 1 = .ok (.invokestatic 122, 3) := by decide +kernel
theorem dX7_at_4 : decode cX7_at 4 = .ok (.ifCond .ne 5, 3) := by decide +kernel
theorem dX7_at_7 : decode cX7_at 7 = .ok (.iconst (-1), 1) := by decide +kernel
theorem dX7_at_8 : decode cX7_at 8 = .ok (.ireturn, 1) := by decide +kernel
theorem dX7_at_9 : decode cX7_at 9 = .ok (.iload_n 2, 1) := by decide +kernel
theorem dX7_at_10 : decode cX7_at 10 = .ok (.tableswitch 67 0 4 #[34, 43, 49, 55, 61], 34) := by decide +kernel
theorem dX7_at_44 : decode cX7_at 44 = .ok (.aload_n 0, 1) := by decide +kernel
theorem dX7_at_45 : decode cX7_at 45 = .ok (.iconst 0, 1) := by decide +kernel
theorem dX7_at_46 : decode cX7_at 46 = .ok (.iload_n 1, 1) := by decide +kernel
theorem dX7_at_47 : decode cX7_at 47 = .ok (.ldc 191, 2) := by decide +kernel
theorem dX7_at_49 : decode cX7_at 49 = .ok (.invokevirtual 192, 3) := by decide +kernel
theorem dX7_at_52 : decode cX7_at 52 = .ok (.ireturn, 1) := by decide +kernel
theorem dX7_at_53 : decode cX7_at 53 = .ok (.aload_n 0, 1) := by decide +kernel
theorem dX7_at_54 : decode cX7_at 54 = .ok (.iload_n 1, 1) := by decide +kernel
theorem dX7_at_55 : decode cX7_at 55 = .ok (.invokevirtual 209, 3) := by decide +kernel
theorem dX7_at_58 : decode cX7_at 58 = .ok (.ireturn, 1) := by decide +kernel
theorem dX7_at_59 : decode cX7_at 59 = .ok (.aload_n 0, 1) := by decide +kernel
theorem dX7_at_60 : decode cX7_at 60 = .ok (.iload_n 1, 1) := by decide +kernel
theorem dX7_at_61 : decode cX7_at 61 = .ok (.invokevirtual 212, 3) := by decide +kernel
theorem dX7_at_64 : decode cX7_at 64 = .ok (.ireturn, 1) := by decide +kernel
theorem dX7_at_65 : decode cX7_at 65 = .ok (.aload_n 0, 1) := by decide +kernel
theorem dX7_at_66 : decode cX7_at 66 = .ok (.iload_n 1, 1) := by decide +kernel
theorem dX7_at_67 : decode cX7_at 67 = .ok (.invokevirtual 215, 3) := by decide +kernel
theorem dX7_at_70 : decode cX7_at 70 = .ok (.ireturn, 1) := by decide +kernel
theorem dX7_at_71 : decode cX7_at 71 = .ok (.aload_n 0, 1) := by decide +kernel
theorem dX7_at_72 : decode cX7_at 72 = .ok (.iload_n 1, 1) := by decide +kernel
theorem dX7_at_73 : decode cX7_at 73 = .ok (.invokevirtual 218, 3) := by decide +kernel
theorem dX7_at_76 : decode cX7_at 76 = .ok (.ireturn, 1) := by decide +kernel
theorem dX7_at_77 : decode cX7_at 77 = .ok (.bipush (-2), 2) := by decide +kernel
theorem dX7_at_79 : decode cX7_at 79 = .ok (.ireturn, 1) := by decide +kernel
theorem dX7_knot_0 : decode cX7_knot 0 = .ok (.iload_n 1, 1) := by decide +kernel
theorem dX7_knot_1 : decode cX7_knot 1 = .ok (.invokestatic 118, 3) := by decide +kernel
theorem dX7_knot_4 : decode cX7_knot 4 = .ok (.ifCond .eq 10, 3) := by decide +kernel
theorem dX7_knot_7 : decode cX7_knot 7 = .ok (.iload_n 2, 1) := by decide +kernel
theorem dX7_knot_8 : decode cX7_knot 8 = .ok (.invokestatic 122, 3) := by decide +kernel
theorem dX7_knot_11 : decode cX7_knot 11 = .ok (.ifCond .ne 5, 3) := by decide +kernel
theorem dX7_knot_14 : decode cX7_knot 14 = .ok (.iconst (-1), 1) := by decide +kernel
theorem dX7_knot_15 : decode cX7_knot 15 = .ok (.ireturn, 1) := by decide +kernel
theorem dX7_knot_16 : decode cX7_knot 16 = .ok (.iload_n 3, 1) := by decide +kernel
theorem dX7_knot_17 : decode cX7_knot 17 = .ok (.i2l, 1) := by decide +kernel
theorem dX7_knot_18 : decode cX7_knot 18 = .ok (.lconst 0, 1) := by decide +kernel
theorem dX7_knot_19 : decode cX7_knot 19 = .ok (.ldc2_w 221, 3) := by decide +kernel
theorem dX7_knot_22 : decode cX7_knot 22 = .ok (.invokestatic 58, 3) := by decide +kernel
theorem dX7_knot_25 : decode cX7_knot 25 = .ok (.ifCond .ne 6, 3) := by decide +kernel
theorem dX7_knot_28 : decode cX7_knot 28 = .ok (.bipush (-2), 2) := by decide +kernel
theorem dX7_knot_30 : decode cX7_knot 30 = .ok (.ireturn, 1) := by decide +kernel
theorem dX7_knot_31 : decode cX7_knot 31 = .ok (.aload_n 0, 1) := by decide +kernel
theorem dX7_knot_32 : decode cX7_knot 32 = .ok (.bipush 16, 2) := by decide +kernel
theorem dX7_knot_34 : decode cX7_knot 34 = .ok (.iload_n 2, 1) := by decide +kernel
theorem dX7_knot_35 : decode cX7_knot 35 = .ok (.iadd, 1) := by decide +kernel
theorem dX7_knot_36 : decode cX7_knot 36 = .ok (.invokevirtual 203, 3) := by decide +kernel
theorem dX7_knot_39 : decode cX7_knot 39 = .ok (.pop, 1) := by decide +kernel
theorem dX7_knot_40 : decode cX7_knot 40 = .ok (.iload_n 3, 1) := by decide +kernel
theorem dX7_knot_41 : decode cX7_knot 41 = .ok (.ifCond .ne 11, 3) := by decide +kernel
theorem dX7_knot_44 : decode cX7_knot 44 = .ok (.aload_n 0, 1) := by decide +kernel
theorem dX7_knot_45 : decode cX7_knot 45 = .ok (.iload_n 1, 1) := by decide +kernel
theorem dX7_knot_46 : decode cX7_knot 46 = .ok (.invokevirtual 176, 3) := by decide +kernel
theorem dX7_knot_49 : decode cX7_knot 49 = .ok (.goto 26, 3) := by decide +kernel
theorem dX7_knot_52 : decode cX7_knot 52 = .ok (.iload_n 3, 1) := by decide +kernel
theorem dX7_knot_53 : decode cX7_knot 53 = .ok (.iconst 1, 1) := by decide +kernel
theorem dX7_knot_54 : decode cX7_knot 54 = .ok (.if_icmp .ne 11, 3) := by decide +kernel
theorem dX7_knot_57 : decode cX7_knot 57 = .ok (.aload_n 0, 1) := by decide +kernel
theorem dX7_knot_58 : decode cX7_knot 58 = .ok (.iload_n 1, 1) := by decide +kernel
theorem dX7_knot_59 : decode cX7_knot 59 = .ok (.invokevirtual 206, 3) := by decide +kernel
theorem dX7_knot_62 : decode cX7_knot 62 = .ok (.goto 13, 3) := by decide +kernel
theorem dX7_knot_65 : decode cX7_knot 65 = .ok (.aload_n 0, 1) := by decide +kernel
theorem dX7_knot_66 : decode cX7_knot 66 = .ok (.getfield 25, 3) := by decide +kernel
theorem dX7_knot_69 : decode cX7_knot 69 = .ok (.aload_n 0, 1) := by decide +kernel
theorem dX7_knot_70 : decode cX7_knot 70 = .ok (.iload_n 1, 1) := by decide +kernel
theorem dX7_knot_71 : decode cX7_knot 71 = .ok (.invokevirtual 176, 3) := by decide +kernel
theorem dX7_knot_74 : decode cX7_knot 74 = .ok (.iaload, 1) := by decide +kernel
theorem dX7_knot_75 : decode cX7_knot 75 = .ok (.ireturn, 1) := by decide +kernel
theorem dX7_areJoined_0 : decode cX7_areJoined 0 = .ok (.aload_n 0, 1) := by decide +kernel
theorem dX7_areJoined_1 : decode cX7_areJoined 1 = .ok (.iload_n 1, 1) := by decide +kernel
theorem dX7_areJoined_2 : decode cX7_areJoined 2 = .ok (.iload 4, 2) := by decide +kernel
theorem dX7_areJoined_4 : decode cX7_areJoined 4 = .ok (.iload 5, 2) := by decide +kernel
theorem dX7_areJoined_6 : decode cX7_areJoined 6 = .ok (.invokevirtual 192, 3) := by decide +kernel
theorem dX7_areJoined_9 : decode cX7_areJoined 9 = .ok (.pop, 1) := by decide +kernel
theorem dX7_areJoined_10 : decode cX7_areJoined 10 = .ok (.aload_n 0, 1) := by decide +kernel
theorem dX7_areJoined_11 : decode cX7_areJoined 11 = .ok (.iload_n 2, 1) := by decide +kernel
theorem dX7_areJoined_12 : decode cX7_areJoined 12 = .ok (.invokevirtual 176, 3) := by decide +kernel
theorem dX7_areJoined_15 : decode cX7_areJoined 15 = .ok (.aload_n 0, 1) := by decide +kernel
theorem dX7_areJoined_16 : decode cX7_areJoined 16 = .ok (.iload_n 3, 1) := by decide +kernel
theorem dX7_areJoined_17 : decode cX7_areJoined 17 = .ok (.invokevirtual 176, 3) := by decide +kernel
theorem dX7_areJoined_20 : decode cX7_areJoined 20 = .ok (.if_icmp .ne 7, 3) := by decide +kernel
theorem dX7_areJoined_23 : decode cX7_areJoined 23 = .ok (.iconst 1, 1) := by decide +kernel
theorem dX7_areJoined_24 : decode cX7_areJoined 24 = .ok (.goto 4, 3) := by decide +kernel
theorem dX7_areJoined_27 : decode cX7_areJoined 27 = .ok (.iconst 0, 1) := by decide +kernel
theorem dX7_areJoined_28 : decode cX7_areJoined 28 = .ok (.ireturn, 1) := by decide +kernel
theorem dX7_joined_0 : decode cX7_joined 0 = .ok (.iload_n 1, 1) := by decide +kernel
theorem dX7_joined_1 : decode cX7_joined 1 = .ok (.invokestatic 118, 3) := by decide +kernel
theorem dX7_joined_4 : decode cX7_joined 4 = .ok (.ifCond .eq 17, 3) := by decide +kernel
theorem dX7_joined_7 : decode cX7_joined 7 = .ok (.iload_n 2, 1) := by decide +kernel
theorem dX7_joined_8 : decode cX7_joined 8 = .ok (.invokestatic 118, 3) := by decide +kernel
theorem dX7_joined_11 : decode cX7_joined 11 = .ok (.ifCond .eq 10, 3) := by decide +kernel
theorem dX7_joined_14 : decode cX7_joined 14 = .ok (.iload_n 3, 1) := by decide +kernel
theorem dX7_joined_15 : decode cX7_joined 15 = .ok (.invokestatic 122, 3) := by decide +kernel
theorem dX7_joined_18 : decode cX7_joined 18 = .ok (.ifCond .ne 5, 3) := by decide +kernel
theorem dX7_joined_21 : decode cX7_joined 21 = .ok (.iconst (-1), 1) := by decide +kernel
theorem dX7_joined_22 : decode cX7_joined 22 = .ok (.ireturn, 1) := by decide +kernel
theorem dX7_joined_23 : decode cX7_joined 23 = .ok (.aload_n 0, 1) := by decide +kernel
theorem dX7_joined_24 : decode cX7_joined 24 = .ok (.iconst 0, 1) := by decide +kernel
theorem dX7_joined_25 : decode cX7_joined 25 = .ok (.iload_n 1, 1) := by decide +kernel
theorem dX7_joined_26 : decode cX7_joined 26 = .ok (.iload_n 2, 1) := by decide +kernel
theorem dX7_joined_27 : decode cX7_joined 27 = .ok (.iload_n 3, 1) := by decide +kernel
theorem dX7_joined_28 : decode cX7_joined 28 = .ok (.ldc 191, 2) := by decide +kernel
theorem dX7_joined_30 : decode cX7_joined 30 = .ok (.invokevirtual 223, 3) := by decide +kernel
theorem dX7_joined_33 : decode cX7_joined 33 = .ok (.ifCond .eq 7, 3) := by decide +kernel
theorem dX7_joined_36 : decode cX7_joined 36 = .ok (.iconst 1, 1) := by decide +kernel
theorem dX7_joined_37 : decode cX7_joined 37 = .ok (.goto 4, 3) := by decide +kernel
theorem dX7_joined_40 : decode cX7_joined 40 = .ok (.iconst 0, 1) := by decide +kernel
theorem dX7_joined_41 : decode cX7_joined 41 = .ok (.ireturn, 1) := by decide +kernel
theorem dX7_side_0 : decode cX7_side 0 = .ok (.iload_n 1, 1) := by decide +kernel
theorem dX7_side_1 : decode cX7_side 1 = .ok (.invokestatic 118, 3) := by decide +kernel
theorem dX7_side_4 : decode cX7_side 4 = .ok (.ifCond .eq 17, 3) := by decide +kernel
theorem dX7_side_7 : decode cX7_side 7 = .ok (.iload_n 2, 1) := by decide +kernel
theorem dX7_side_8 : decode cX7_side 8 = .ok (.invokestatic 118, 3) := by decide +kernel
theorem dX7_side_11 : decode cX7_side 11 = .ok (.ifCond .eq 10, 3) := by decide +kernel
theorem dX7_side_14 : decode cX7_side 14 = .ok (.iload_n 3, 1) := by decide +kernel
theorem dX7_side_15 : decode cX7_side 15 = .ok (.invokestatic 122, 3) := by decide +kernel
theorem dX7_side_18 : decode cX7_side 18 = .ok (.ifCond .ne 5, 3) := by decide +kernel
theorem dX7_side_21 : decode cX7_side 21 = .ok (.iconst (-1), 1) := by decide +kernel
theorem dX7_side_22 : decode cX7_side 22 = .ok (.ireturn, 1) := by decide +kernel
theorem dX7_side_23 : decode cX7_side 23 = .ok (.iload_n 1, 1) := by decide +kernel
theorem dX7_side_24 : decode cX7_side 24 = .ok (.iload_n 2, 1) := by decide +kernel
theorem dX7_side_25 : decode cX7_side 25 = .ok (.if_icmp .ne 5, 3) := by decide +kernel
theorem dX7_side_28 : decode cX7_side 28 = .ok (.iconst 0, 1) := by decide +kernel
theorem dX7_side_29 : decode cX7_side 29 = .ok (.ireturn, 1) := by decide +kernel
theorem dX7_side_30 : decode cX7_side 30 = .ok (.aload_n 0, 1) := by decide +kernel
theorem dX7_side_31 : decode cX7_side 31 = .ok (.iload_n 3, 1) := by decide +kernel
theorem dX7_side_32 : decode cX7_side 32 = .ok (.invokevirtual 200, 3) := by decide +kernel
theorem dX7_side_35 : decode cX7_side 35 = .ok (.aload_n 0, 1) := by decide +kernel
theorem dX7_side_36 : decode cX7_side 36 = .ok (.iload_n 1, 1) := by decide +kernel
theorem dX7_side_37 : decode cX7_side 37 = .ok (.invokevirtual 176, 3) := by decide +kernel
theorem dX7_side_40 : decode cX7_side 40 = .ok (.aload_n 0, 1) := by decide +kernel
theorem dX7_side_41 : decode cX7_side 41 = .ok (.iload_n 2, 1) := by decide +kernel
theorem dX7_side_42 : decode cX7_side 42 = .ok (.invokevirtual 176, 3) := by decide +kernel
theorem dX7_side_45 : decode cX7_side 45 = .ok (.if_icmp .ne 17, 3) := by decide +kernel
theorem dX7_side_48 : decode cX7_side 48 = .ok (.aload_n 0, 1) := by decide +kernel
theorem dX7_side_49 : decode cX7_side 49 = .ok (.getfield 31, 3) := by decide +kernel
theorem dX7_side_52 : decode cX7_side 52 = .ok (.aload_n 0, 1) := by decide +kernel
theorem dX7_side_53 : decode cX7_side 53 = .ok (.iload_n 1, 1) := by decide +kernel
theorem dX7_side_54 : decode cX7_side 54 = .ok (.invokevirtual 176, 3) := by decide +kernel
theorem dX7_side_57 : decode cX7_side 57 = .ok (.iaload, 1) := by decide +kernel
theorem dX7_side_58 : decode cX7_side 58 = .ok (.iconst 1, 1) := by decide +kernel
theorem dX7_side_59 : decode cX7_side 59 = .ok (.if_icmp .ne 6, 3) := by decide +kernel
theorem dX7_side_62 : decode cX7_side 62 = .ok (.bipush (-3), 2) := by decide +kernel
theorem dX7_side_64 : decode cX7_side 64 = .ok (.ireturn, 1) := by decide +kernel
theorem dX7_side_65 : decode cX7_side 65 = .ok (.aload_n 0, 1) := by decide +kernel
theorem dX7_side_66 : decode cX7_side 66 = .ok (.getfield 28, 3) := by decide +kernel
theorem dX7_side_69 : decode cX7_side 69 = .ok (.iload_n 1, 1) := by decide +kernel
theorem dX7_side_70 : decode cX7_side 70 = .ok (.iaload, 1) := by decide +kernel
theorem dX7_side_71 : decode cX7_side 71 = .ok (.aload_n 0, 1) := by decide +kernel
theorem dX7_side_72 : decode cX7_side 72 = .ok (.getfield 28, 3) := by decide +kernel
theorem dX7_side_75 : decode cX7_side 75 = .ok (.iload_n 2, 1) := by decide +kernel
theorem dX7_side_76 : decode cX7_side 76 = .ok (.iaload, 1) := by decide +kernel
theorem dX7_side_77 : decode cX7_side 77 = .ok (.if_icmp .ne 7, 3) := by decide +kernel
theorem dX7_side_80 : decode cX7_side 80 = .ok (.iconst 0, 1) := by decide +kernel
theorem dX7_side_81 : decode cX7_side 81 = .ok (.goto 4, 3) := by decide +kernel
theorem dX7_side_84 : decode cX7_side 84 = .ok (.iconst 1, 1) := by decide +kernel
theorem dX7_side_85 : decode cX7_side 85 = .ok (.ireturn, 1) := by decide +kernel
theorem dX7_work_0 : decode cX7_work 0 = .ok (.iload_n 1, 1) := by decide +kernel
theorem dX7_work_1 : decode cX7_work 1 = .ok (.i2l, 1) := by decide +kernel
theorem dX7_work_2 : decode cX7_work 2 = .ok (.lconst 0, 1) := by decide +kernel
theorem dX7_work_3 : decode cX7_work 3 = .ok (.lconst 1, 1) := by decide +kernel
theorem dX7_work_4 : decode cX7_work 4 = .ok (.invokestatic 58, 3) := by decide +kernel
theorem dX7_work_7 : decode cX7_work 7 = .ok (.ifCond .ne 6, 3) := by decide +kernel
theorem dX7_work_10 : decode cX7_work 10 = .ok (.bipush (-2), 2) := by decide +kernel
theorem dX7_work_12 : decode cX7_work 12 = .ok (.ireturn, 1) := by decide +kernel
theorem dX7_work_13 : decode cX7_work 13 = .ok (.iconst 0, 1) := by decide +kernel
theorem dX7_work_14 : decode cX7_work 14 = .ok (.istore_n 2, 1) := by decide +kernel
theorem dX7_work_15 : decode cX7_work 15 = .ok (.iconst 1, 1) := by decide +kernel
theorem dX7_work_16 : decode cX7_work 16 = .ok (.istore_n 3, 1) := by decide +kernel
theorem dX7_work_17 : decode cX7_work 17 = .ok (.iload_n 3, 1) := by decide +kernel
theorem dX7_work_18 : decode cX7_work 18 = .ok (.bipush 32, 2) := by decide +kernel
theorem dX7_work_20 : decode cX7_work 20 = .ok (.if_icmp .ge 32, 3) := by decide +kernel
theorem dX7_work_23 : decode cX7_work 23 = .ok (.iload_n 2, 1) := by decide +kernel
theorem dX7_work_24 : decode cX7_work 24 = .ok (.iload_n 1, 1) := by decide +kernel
theorem dX7_work_25 : decode cX7_work 25 = .ok (.ifCond .ne 14, 3) := by decide +kernel
theorem dX7_work_28 : decode cX7_work 28 = .ok (.aload_n 0, 1) := by decide +kernel
theorem dX7_work_29 : decode cX7_work 29 = .ok (.iload_n 3, 1) := by decide +kernel
theorem dX7_work_30 : decode cX7_work 30 = .ok (.invokevirtual 153, 3) := by decide +kernel
theorem dX7_work_33 : decode cX7_work 33 = .ok (.invokestatic 227, 3) := by decide +kernel
theorem dX7_work_36 : decode cX7_work 36 = .ok (.goto 8, 3) := by decide +kernel
theorem dX7_work_39 : decode cX7_work 39 = .ok (.aload_n 0, 1) := by decide +kernel
theorem dX7_work_40 : decode cX7_work 40 = .ok (.iload_n 3, 1) := by decide +kernel
theorem dX7_work_41 : decode cX7_work 41 = .ok (.invokevirtual 203, 3) := by decide +kernel
theorem dX7_work_44 : decode cX7_work 44 = .ok (.iadd, 1) := by decide +kernel
theorem dX7_work_45 : decode cX7_work 45 = .ok (.istore_n 2, 1) := by decide +kernel
theorem dX7_work_46 : decode cX7_work 46 = .ok (.iinc 3 1, 3) := by decide +kernel
theorem dX7_work_49 : decode cX7_work 49 = .ok (.goto (-32), 3) := by decide +kernel
theorem dX7_work_52 : decode cX7_work 52 = .ok (.iload_n 2, 1) := by decide +kernel
theorem dX7_work_53 : decode cX7_work 53 = .ok (.ireturn, 1) := by decide +kernel
theorem dX7_when_0 : decode cX7_when 0 = .ok (.iload_n 1, 1) := by decide +kernel
theorem dX7_when_1 : decode cX7_when 1 = .ok (.invokestatic 118, 3) := by decide +kernel
theorem dX7_when_4 : decode cX7_when 4 = .ok (.ifCond .eq 10, 3) := by decide +kernel
theorem dX7_when_7 : decode cX7_when 7 = .ok (.iload_n 2, 1) := by decide +kernel
theorem dX7_when_8 : decode cX7_when 8 = .ok (.invokestatic 118, 3) := by decide +kernel
theorem dX7_when_11 : decode cX7_when 11 = .ok (.ifCond .ne 5, 3) := by decide +kernel
theorem dX7_when_14 : decode cX7_when 14 = .ok (.iconst (-1), 1) := by decide +kernel
theorem dX7_when_15 : decode cX7_when 15 = .ok (.ireturn, 1) := by decide +kernel
theorem dX7_when_16 : decode cX7_when 16 = .ok (.iconst 0, 1) := by decide +kernel
theorem dX7_when_17 : decode cX7_when 17 = .ok (.istore_n 3, 1) := by decide +kernel
theorem dX7_when_18 : decode cX7_when 18 = .ok (.iconst 0, 1) := by decide +kernel
theorem dX7_when_19 : decode cX7_when 19 = .ok (.istore 4, 2) := by decide +kernel
theorem dX7_when_21 : decode cX7_when 21 = .ok (.iload 4, 2) := by decide +kernel
theorem dX7_when_23 : decode cX7_when 23 = .ok (.bipush 16, 2) := by decide +kernel
theorem dX7_when_25 : decode cX7_when 25 = .ok (.if_icmp .ge 34, 3) := by decide +kernel
theorem dX7_when_28 : decode cX7_when 28 = .ok (.iload_n 3, 1) := by decide +kernel
theorem dX7_when_29 : decode cX7_when 29 = .ok (.aload_n 0, 1) := by decide +kernel
theorem dX7_when_30 : decode cX7_when 30 = .ok (.iconst 0, 1) := by decide +kernel
theorem dX7_when_31 : decode cX7_when 31 = .ok (.iload_n 1, 1) := by decide +kernel
theorem dX7_when_32 : decode cX7_when 32 = .ok (.iload_n 2, 1) := by decide +kernel
theorem dX7_when_33 : decode cX7_when 33 = .ok (.iload 4, 2) := by decide +kernel
theorem dX7_when_35 : decode cX7_when 35 = .ok (.ldc 191, 2) := by decide +kernel
theorem dX7_when_37 : decode cX7_when 37 = .ok (.invokevirtual 223, 3) := by decide +kernel
theorem dX7_when_40 : decode cX7_when 40 = .ok (.ifCond .eq 10, 3) := by decide +kernel
theorem dX7_when_43 : decode cX7_when 43 = .ok (.iconst 1, 1) := by decide +kernel
theorem dX7_when_44 : decode cX7_when 44 = .ok (.iload 4, 2) := by decide +kernel
theorem dX7_when_46 : decode cX7_when 46 = .ok (.ishl, 1) := by decide +kernel
theorem dX7_when_47 : decode cX7_when 47 = .ok (.goto 4, 3) := by decide +kernel
theorem dX7_when_50 : decode cX7_when 50 = .ok (.iconst 0, 1) := by decide +kernel
theorem dX7_when_51 : decode cX7_when 51 = .ok (.ior, 1) := by decide +kernel
theorem dX7_when_52 : decode cX7_when 52 = .ok (.istore_n 3, 1) := by decide +kernel
theorem dX7_when_53 : decode cX7_when 53 = .ok (.iinc 4 1, 3) := by decide +kernel
theorem dX7_when_56 : decode cX7_when 56 = .ok (.goto (-35), 3) := by decide +kernel
theorem dX7_when_59 : decode cX7_when 59 = .ok (.iload_n 3, 1) := by decide +kernel
theorem dX7_when_60 : decode cX7_when 60 = .ok (.ireturn, 1) := by decide +kernel
theorem dX7_bridges_0 : decode cX7_bridges 0 = .ok (.iload_n 1, 1) := by decide +kernel
theorem dX7_bridges_1 : decode cX7_bridges 1 = .ok (.invokestatic 122, 3) := by decide +kernel
theorem dX7_bridges_4 : decode cX7_bridges 4 = .ok (.ifCond .ne 5, 3) := by decide +kernel
theorem dX7_bridges_7 : decode cX7_bridges 7 = .ok (.iconst (-1), 1) := by decide +kernel
theorem dX7_bridges_8 : decode cX7_bridges 8 = .ok (.ireturn, 1) := by decide +kernel
theorem dX7_bridges_9 : decode cX7_bridges 9 = .ok (.aload_n 0, 1) := by decide +kernel
theorem dX7_bridges_10 : decode cX7_bridges 10 = .ok (.iconst 0, 1) := by decide +kernel
theorem dX7_bridges_11 : decode cX7_bridges 11 = .ok (.iload_n 1, 1) := by decide +kernel
theorem dX7_bridges_12 : decode cX7_bridges 12 = .ok (.ldc 191, 2) := by decide +kernel
theorem dX7_bridges_14 : decode cX7_bridges 14 = .ok (.invokevirtual 192, 3) := by decide +kernel
theorem dX7_bridges_17 : decode cX7_bridges 17 = .ok (.istore_n 2, 1) := by decide +kernel
theorem dX7_bridges_18 : decode cX7_bridges 18 = .ok (.iconst 0, 1) := by decide +kernel
theorem dX7_bridges_19 : decode cX7_bridges 19 = .ok (.istore_n 3, 1) := by decide +kernel
theorem dX7_bridges_20 : decode cX7_bridges 20 = .ok (.iconst 0, 1) := by decide +kernel
theorem dX7_bridges_21 : decode cX7_bridges 21 = .ok (.istore 4, 2) := by decide +kernel
theorem dX7_bridges_23 : decode cX7_bridges 23 = .ok (.iload 4, 2) := by decide +kernel
theorem dX7_bridges_25 : decode cX7_bridges 25 = .ok (.aload_n 0, 1) := by decide +kernel
theorem dX7_bridges_26 : decode cX7_bridges 26 = .ok (.iconst 0, 1) := by decide +kernel
theorem dX7_bridges_27 : decode cX7_bridges 27 = .ok (.invokevirtual 105, 3) := by decide +kernel
theorem dX7_bridges_30 : decode cX7_bridges 30 = .ok (.if_icmp .ge 39, 3) := by decide +kernel
theorem dX7_bridges_33 : decode cX7_bridges 33 = .ok (.iload_n 3, 1) := by decide +kernel
theorem dX7_bridges_34 : decode cX7_bridges 34 = .ok (.aload_n 0, 1) := by decide +kernel
theorem dX7_bridges_35 : decode cX7_bridges 35 = .ok (.iconst 0, 1) := by decide +kernel
theorem dX7_bridges_36 : decode cX7_bridges 36 = .ok (.iload_n 1, 1) := by decide +kernel
theorem dX7_bridges_37 : decode cX7_bridges 37 = .ok (.ldc 191, 2) := by decide +kernel
theorem dX7_bridges_39 : decode cX7_bridges 39 = .ok (.iconst 1, 1) := by decide +kernel
theorem dX7_bridges_40 : decode cX7_bridges 40 = .ok (.iload 4, 2) := by decide +kernel
theorem dX7_bridges_42 : decode cX7_bridges 42 = .ok (.ishl, 1) := by decide +kernel
theorem dX7_bridges_43 : decode cX7_bridges 43 = .ok (.iconst (-1), 1) := by decide +kernel
theorem dX7_bridges_44 : decode cX7_bridges 44 = .ok (.ixor, 1) := by decide +kernel
theorem dX7_bridges_45 : decode cX7_bridges 45 = .ok (.iand, 1) := by decide +kernel
theorem dX7_bridges_46 : decode cX7_bridges 46 = .ok (.invokevirtual 192, 3) := by decide +kernel
theorem dX7_bridges_49 : decode cX7_bridges 49 = .ok (.iload_n 2, 1) := by decide +kernel
theorem dX7_bridges_50 : decode cX7_bridges 50 = .ok (.if_icmp .le 10, 3) := by decide +kernel
theorem dX7_bridges_53 : decode cX7_bridges 53 = .ok (.iconst 1, 1) := by decide +kernel
theorem dX7_bridges_54 : decode cX7_bridges 54 = .ok (.iload 4, 2) := by decide +kernel
theorem dX7_bridges_56 : decode cX7_bridges 56 = .ok (.ishl, 1) := by decide +kernel
theorem dX7_bridges_57 : decode cX7_bridges 57 = .ok (.goto 4, 3) := by decide +kernel
theorem dX7_bridges_60 : decode cX7_bridges 60 = .ok (.iconst 0, 1) := by decide +kernel
theorem dX7_bridges_61 : decode cX7_bridges 61 = .ok (.ior, 1) := by decide +kernel
theorem dX7_bridges_62 : decode cX7_bridges 62 = .ok (.istore_n 3, 1) := by decide +kernel
theorem dX7_bridges_63 : decode cX7_bridges 63 = .ok (.iinc 4 1, 3) := by decide +kernel
theorem dX7_bridges_66 : decode cX7_bridges 66 = .ok (.goto (-43), 3) := by decide +kernel
theorem dX7_bridges_69 : decode cX7_bridges 69 = .ok (.iload_n 3, 1) := by decide +kernel
theorem dX7_bridges_70 : decode cX7_bridges 70 = .ok (.ireturn, 1) := by decide +kernel
theorem dX7_least_0 : decode cX7_least 0 = .ok (.iload_n 1, 1) := by decide +kernel
theorem dX7_least_1 : decode cX7_least 1 = .ok (.invokestatic 118, 3) := by decide +kernel
theorem dX7_least_4 : decode cX7_least 4 = .ok (.ifCond .eq 17, 3) := by decide +kernel
theorem dX7_least_7 : decode cX7_least 7 = .ok (.iload_n 2, 1) := by decide +kernel
theorem dX7_least_8 : decode cX7_least 8 = .ok (.invokestatic 118, 3) := by decide +kernel
theorem dX7_least_11 : decode cX7_least 11 = .ok (.ifCond .eq 10, 3) := by decide +kernel
theorem dX7_least_14 : decode cX7_least 14 = .ok (.iload_n 3, 1) := by decide +kernel
theorem dX7_least_15 : decode cX7_least 15 = .ok (.invokestatic 122, 3) := by decide +kernel
theorem dX7_least_18 : decode cX7_least 18 = .ok (.ifCond .ne 5, 3) := by decide +kernel
theorem dX7_least_21 : decode cX7_least 21 = .ok (.iconst (-1), 1) := by decide +kernel
theorem dX7_least_22 : decode cX7_least 22 = .ok (.ireturn, 1) := by decide +kernel
theorem dX7_least_23 : decode cX7_least 23 = .ok (.iload_n 1, 1) := by decide +kernel
theorem dX7_least_24 : decode cX7_least 24 = .ok (.iload_n 2, 1) := by decide +kernel
theorem dX7_least_25 : decode cX7_least 25 = .ok (.if_icmp .eq 14, 3) := by decide +kernel
theorem dX7_least_28 : decode cX7_least 28 = .ok (.iload 4, 2) := by decide +kernel
theorem dX7_least_30 : decode cX7_least 30 = .ok (.i2l, 1) := by decide +kernel
theorem dX7_least_31 : decode cX7_least 31 = .ok (.lconst 0, 1) := by decide +kernel
theorem dX7_least_32 : decode cX7_least 32 = .ok (.lconst 1, 1) := by decide +kernel
theorem dX7_least_33 : decode cX7_least 33 = .ok (.invokestatic 58, 3) := by decide +kernel
theorem dX7_least_36 : decode cX7_least 36 = .ok (.ifCond .ne 6, 3) := by decide +kernel
theorem dX7_least_39 : decode cX7_least 39 = .ok (.bipush (-2), 2) := by decide +kernel
theorem dX7_least_41 : decode cX7_least 41 = .ok (.ireturn, 1) := by decide +kernel
theorem dX7_least_42 : decode cX7_least 42 = .ok (.aload_n 0, 1) := by decide +kernel
theorem dX7_least_43 : decode cX7_least 43 = .ok (.iload_n 3, 1) := by decide +kernel
theorem dX7_least_44 : decode cX7_least 44 = .ok (.invokevirtual 209, 3) := by decide +kernel
theorem dX7_least_47 : decode cX7_least 47 = .ok (.istore 5, 2) := by decide +kernel
theorem dX7_least_49 : decode cX7_least 49 = .ok (.iload 5, 2) := by decide +kernel
theorem dX7_least_51 : decode cX7_least 51 = .ok (.invokestatic 227, 3) := by decide +kernel
theorem dX7_least_54 : decode cX7_least 54 = .ok (.bipush 10, 2) := by decide +kernel
theorem dX7_least_56 : decode cX7_least 56 = .ok (.if_icmp .le 6, 3) := by decide +kernel
theorem dX7_least_59 : decode cX7_least 59 = .ok (.bipush (-4), 2) := by decide +kernel
theorem dX7_least_61 : decode cX7_least 61 = .ok (.ireturn, 1) := by decide +kernel
theorem dX7_least_62 : decode cX7_least 62 = .ok (.iload 5, 2) := by decide +kernel
theorem dX7_least_64 : decode cX7_least 64 = .ok (.istore 6, 2) := by decide +kernel
theorem dX7_least_66 : decode cX7_least 66 = .ok (.iconst 0, 1) := by decide +kernel
theorem dX7_least_67 : decode cX7_least 67 = .ok (.istore 7, 2) := by decide +kernel
theorem dX7_least_69 : decode cX7_least 69 = .ok (.iload 7, 2) := by decide +kernel
theorem dX7_least_71 : decode cX7_least 71 = .ok (.iconst 1, 1) := by decide +kernel
theorem dX7_least_72 : decode cX7_least 72 = .ok (.aload_n 0, 1) := by decide +kernel
theorem dX7_least_73 : decode cX7_least 73 = .ok (.iconst 0, 1) := by decide +kernel
theorem dX7_least_74 : decode cX7_least 74 = .ok (.invokevirtual 105, 3) := by decide +kernel
theorem dX7_least_77 : decode cX7_least 77 = .ok (.ishl, 1) := by decide +kernel
theorem dX7_least_78 : decode cX7_least 78 = .ok (.if_icmp .ge 79, 3) := by decide +kernel
theorem dX7_least_81 : decode cX7_least 81 = .ok (.iload 7, 2) := by decide +kernel
theorem dX7_least_83 : decode cX7_least 83 = .ok (.iload 5, 2) := by decide +kernel
theorem dX7_least_85 : decode cX7_least 85 = .ok (.iconst (-1), 1) := by decide +kernel
theorem dX7_least_86 : decode cX7_least 86 = .ok (.ixor, 1) := by decide +kernel
theorem dX7_least_87 : decode cX7_least 87 = .ok (.iand, 1) := by decide +kernel
theorem dX7_least_88 : decode cX7_least 88 = .ok (.ifCond .ne 63, 3) := by decide +kernel
theorem dX7_least_91 : decode cX7_least 91 = .ok (.iload 7, 2) := by decide +kernel
theorem dX7_least_93 : decode cX7_least 93 = .ok (.invokestatic 227, 3) := by decide +kernel
theorem dX7_least_96 : decode cX7_least 96 = .ok (.iload 6, 2) := by decide +kernel
theorem dX7_least_98 : decode cX7_least 98 = .ok (.invokestatic 227, 3) := by decide +kernel
theorem dX7_least_101 : decode cX7_least 101 = .ok (.if_icmp .lt 23, 3) := by decide +kernel
theorem dX7_least_104 : decode cX7_least 104 = .ok (.iload 7, 2) := by decide +kernel
theorem dX7_least_106 : decode cX7_least 106 = .ok (.invokestatic 227, 3) := by decide +kernel
theorem dX7_least_109 : decode cX7_least 109 = .ok (.iload 6, 2) := by decide +kernel
theorem dX7_least_111 : decode cX7_least 111 = .ok (.invokestatic 227, 3) := by decide +kernel
theorem dX7_least_114 : decode cX7_least 114 = .ok (.if_icmp .ne 37, 3) := by decide +kernel
theorem dX7_least_117 : decode cX7_least 117 = .ok (.iload 7, 2) := by decide +kernel
theorem dX7_least_119 : decode cX7_least 119 = .ok (.iload 6, 2) := by decide +kernel
theorem dX7_least_121 : decode cX7_least 121 = .ok (.if_icmp .ge 30, 3) := by decide +kernel
theorem dX7_least_124 : decode cX7_least 124 = .ok (.aload_n 0, 1) := by decide +kernel
theorem dX7_least_125 : decode cX7_least 125 = .ok (.iconst 0, 1) := by decide +kernel
theorem dX7_least_126 : decode cX7_least 126 = .ok (.iload_n 1, 1) := by decide +kernel
theorem dX7_least_127 : decode cX7_least 127 = .ok (.iload_n 2, 1) := by decide +kernel
theorem dX7_least_128 : decode cX7_least 128 = .ok (.iload_n 3, 1) := by decide +kernel
theorem dX7_least_129 : decode cX7_least 129 = .ok (.ldc 191, 2) := by decide +kernel
theorem dX7_least_131 : decode cX7_least 131 = .ok (.iload 7, 2) := by decide +kernel
theorem dX7_least_133 : decode cX7_least 133 = .ok (.iconst (-1), 1) := by decide +kernel
theorem dX7_least_134 : decode cX7_least 134 = .ok (.ixor, 1) := by decide +kernel
theorem dX7_least_135 : decode cX7_least 135 = .ok (.iand, 1) := by decide +kernel
theorem dX7_least_136 : decode cX7_least 136 = .ok (.invokevirtual 223, 3) := by decide +kernel
theorem dX7_least_139 : decode cX7_least 139 = .ok (.ifCond .eq 8, 3) := by decide +kernel
theorem dX7_least_142 : decode cX7_least 142 = .ok (.iload 6, 2) := by decide +kernel
theorem dX7_least_144 : decode cX7_least 144 = .ok (.goto 5, 3) := by decide +kernel
theorem dX7_least_147 : decode cX7_least 147 = .ok (.iload 7, 2) := by decide +kernel
theorem dX7_least_149 : decode cX7_least 149 = .ok (.istore 6, 2) := by decide +kernel
theorem dX7_least_151 : decode cX7_least 151 = .ok (.iinc 7 1, 3) := by decide +kernel
theorem dX7_least_154 : decode cX7_least 154 = .ok (.goto (-85), 3) := by decide +kernel
theorem dX7_least_157 : decode cX7_least 157 = .ok (.iload 4, 2) := by decide +kernel
theorem dX7_least_159 : decode cX7_least 159 = .ok (.ifCond .ne 11, 3) := by decide +kernel
theorem dX7_least_162 : decode cX7_least 162 = .ok (.iload 6, 2) := by decide +kernel
theorem dX7_least_164 : decode cX7_least 164 = .ok (.invokestatic 227, 3) := by decide +kernel
theorem dX7_least_167 : decode cX7_least 167 = .ok (.goto 5, 3) := by decide +kernel
theorem dX7_least_170 : decode cX7_least 170 = .ok (.iload 6, 2) := by decide +kernel
theorem dX7_least_172 : decode cX7_least 172 = .ok (.ireturn, 1) := by decide +kernel
theorem dX7_layTrial_0 : decode cX7_layTrial 0 = .ok (.iconst 0, 1) := by decide +kernel
theorem dX7_layTrial_1 : decode cX7_layTrial 1 = .ok (.istore_n 1, 1) := by decide +kernel
theorem dX7_layTrial_2 : decode cX7_layTrial 2 = .ok (.iload_n 1, 1) := by decide +kernel
theorem dX7_layTrial_3 : decode cX7_layTrial 3 = .ok (.bipush 17, 2) := by decide +kernel
theorem dX7_layTrial_5 : decode cX7_layTrial 5 = .ok (.if_icmp .ge 24, 3) := by decide +kernel
theorem dX7_layTrial_8 : decode cX7_layTrial 8 = .ok (.aload_n 0, 1) := by decide +kernel
theorem dX7_layTrial_9 : decode cX7_layTrial 9 = .ok (.getfield 7, 3) := by decide +kernel
theorem dX7_layTrial_12 : decode cX7_layTrial 12 = .ok (.bipush 17, 2) := by decide +kernel
theorem dX7_layTrial_14 : decode cX7_layTrial 14 = .ok (.iload_n 1, 1) := by decide +kernel
theorem dX7_layTrial_15 : decode cX7_layTrial 15 = .ok (.iadd, 1) := by decide +kernel
theorem dX7_layTrial_16 : decode cX7_layTrial 16 = .ok (.aload_n 0, 1) := by decide +kernel
theorem dX7_layTrial_17 : decode cX7_layTrial 17 = .ok (.getfield 7, 3) := by decide +kernel
theorem dX7_layTrial_20 : decode cX7_layTrial 20 = .ok (.iload_n 1, 1) := by decide +kernel
theorem dX7_layTrial_21 : decode cX7_layTrial 21 = .ok (.iaload, 1) := by decide +kernel
theorem dX7_layTrial_22 : decode cX7_layTrial 22 = .ok (.iastore, 1) := by decide +kernel
theorem dX7_layTrial_23 : decode cX7_layTrial 23 = .ok (.iinc 1 1, 3) := by decide +kernel
theorem dX7_layTrial_26 : decode cX7_layTrial 26 = .ok (.goto (-24), 3) := by decide +kernel
theorem dX7_layTrial_29 : decode cX7_layTrial 29 = .ok (.return_, 1) := by decide +kernel
theorem dX7_tryThing_0 : decode cX7_tryThing 0 = .ok (.iload_n 2, 1) := by decide +kernel
theorem dX7_tryThing_1 : decode cX7_tryThing 1 = .ok (.bipush 10, 2) := by decide +kernel
theorem dX7_tryThing_3 : decode cX7_tryThing 3 = .ok (.idiv, 1) := by decide +kernel
theorem dX7_tryThing_4 : decode cX7_tryThing 4 = .ok (.istore 4, 2) := by decide +kernel
theorem dX7_tryThing_6 : decode cX7_tryThing 6 = .ok (.iload_n 2, 1) := by decide +kernel
theorem dX7_tryThing_7 : decode cX7_tryThing 7 = .ok (.bipush 10, 2) := by decide +kernel
theorem dX7_tryThing_9 : decode cX7_tryThing 9 = .ok (.irem, 1) := by decide +kernel
theorem dX7_tryThing_10 : decode cX7_tryThing 10 = .ok (.istore 5, 2) := by decide +kernel
theorem dX7_tryThing_12 : decode cX7_tryThing 12 = .ok (.iload_n 1, 1) := by decide +kernel
theorem dX7_tryThing_13 : decode cX7_tryThing 13 = .ok (.tableswitch 215 1 5 #[35, 82, 116, 140, 184], 35) := by decide +kernel
theorem dX7_tryThing_48 : decode cX7_tryThing 48 = .ok (.aload_n 0, 1) := by decide +kernel
theorem dX7_tryThing_49 : decode cX7_tryThing 49 = .ok (.iconst 1, 1) := by decide +kernel
theorem dX7_tryThing_50 : decode cX7_tryThing 50 = .ok (.iload 4, 2) := by decide +kernel
theorem dX7_tryThing_52 : decode cX7_tryThing 52 = .ok (.iload 5, 2) := by decide +kernel
theorem dX7_tryThing_54 : decode cX7_tryThing 54 = .ok (.iload_n 3, 1) := by decide +kernel
theorem dX7_tryThing_55 : decode cX7_tryThing 55 = .ok (.bipush 10, 2) := by decide +kernel
theorem dX7_tryThing_57 : decode cX7_tryThing 57 = .ok (.idiv, 1) := by decide +kernel
theorem dX7_tryThing_58 : decode cX7_tryThing 58 = .ok (.iload_n 3, 1) := by decide +kernel
theorem dX7_tryThing_59 : decode cX7_tryThing 59 = .ok (.bipush 10, 2) := by decide +kernel
theorem dX7_tryThing_61 : decode cX7_tryThing 61 = .ok (.irem, 1) := by decide +kernel
theorem dX7_tryThing_62 : decode cX7_tryThing 62 = .ok (.invokevirtual 230, 3) := by decide +kernel
theorem dX7_tryThing_65 : decode cX7_tryThing 65 = .ok (.istore 6, 2) := by decide +kernel
theorem dX7_tryThing_67 : decode cX7_tryThing 67 = .ok (.iload 6, 2) := by decide +kernel
theorem dX7_tryThing_69 : decode cX7_tryThing 69 = .ok (.ifCond .eq 23, 3) := by decide +kernel
theorem dX7_tryThing_72 : decode cX7_tryThing 72 = .ok (.aload_n 0, 1) := by decide +kernel
theorem dX7_tryThing_73 : decode cX7_tryThing 73 = .ok (.iconst 1, 1) := by decide +kernel
theorem dX7_tryThing_74 : decode cX7_tryThing 74 = .ok (.iload 4, 2) := by decide +kernel
theorem dX7_tryThing_76 : decode cX7_tryThing 76 = .ok (.iload 5, 2) := by decide +kernel
theorem dX7_tryThing_78 : decode cX7_tryThing 78 = .ok (.iload_n 3, 1) := by decide +kernel
theorem dX7_tryThing_79 : decode cX7_tryThing 79 = .ok (.bipush 10, 2) := by decide +kernel
theorem dX7_tryThing_81 : decode cX7_tryThing 81 = .ok (.idiv, 1) := by decide +kernel
theorem dX7_tryThing_82 : decode cX7_tryThing 82 = .ok (.iload_n 3, 1) := by decide +kernel
theorem dX7_tryThing_83 : decode cX7_tryThing 83 = .ok (.bipush 10, 2) := by decide +kernel
theorem dX7_tryThing_85 : decode cX7_tryThing 85 = .ok (.irem, 1) := by decide +kernel
theorem dX7_tryThing_86 : decode cX7_tryThing 86 = .ok (.invokestatic 95, 3) := by decide +kernel
theorem dX7_tryThing_89 : decode cX7_tryThing 89 = .ok (.invokevirtual 162, 3) := by decide +kernel
theorem dX7_tryThing_92 : decode cX7_tryThing 92 = .ok (.iload 6, 2) := by decide +kernel
theorem dX7_tryThing_94 : decode cX7_tryThing 94 = .ok (.ireturn, 1) := by decide +kernel
theorem dX7_tryThing_95 : decode cX7_tryThing 95 = .ok (.iload_n 2, 1) := by decide +kernel
theorem dX7_tryThing_96 : decode cX7_tryThing 96 = .ok (.ifCond .ne 16, 3) := by decide +kernel
theorem dX7_tryThing_99 : decode cX7_tryThing 99 = .ok (.iload_n 3, 1) := by decide +kernel
theorem dX7_tryThing_100 : decode cX7_tryThing 100 = .ok (.aload_n 0, 1) := by decide +kernel
theorem dX7_tryThing_101 : decode cX7_tryThing 101 = .ok (.iconst 1, 1) := by decide +kernel
theorem dX7_tryThing_102 : decode cX7_tryThing 102 = .ok (.invokevirtual 105, 3) := by decide +kernel
theorem dX7_tryThing_105 : decode cX7_tryThing 105 = .ok (.if_icmp .ge 7, 3) := by decide +kernel
theorem dX7_tryThing_108 : decode cX7_tryThing 108 = .ok (.iconst 1, 1) := by decide +kernel
theorem dX7_tryThing_109 : decode cX7_tryThing 109 = .ok (.goto 4, 3) := by decide +kernel
theorem dX7_tryThing_112 : decode cX7_tryThing 112 = .ok (.iconst 0, 1) := by decide +kernel
theorem dX7_tryThing_113 : decode cX7_tryThing 113 = .ok (.istore 7, 2) := by decide +kernel
theorem dX7_tryThing_115 : decode cX7_tryThing 115 = .ok (.iload 7, 2) := by decide +kernel
theorem dX7_tryThing_117 : decode cX7_tryThing 117 = .ok (.ifCond .eq 9, 3) := by decide +kernel
theorem dX7_tryThing_120 : decode cX7_tryThing 120 = .ok (.aload_n 0, 1) := by decide +kernel
theorem dX7_tryThing_121 : decode cX7_tryThing 121 = .ok (.iconst 1, 1) := by decide +kernel
theorem dX7_tryThing_122 : decode cX7_tryThing 122 = .ok (.iload_n 3, 1) := by decide +kernel
theorem dX7_tryThing_123 : decode cX7_tryThing 123 = .ok (.invokevirtual 166, 3) := by decide +kernel
theorem dX7_tryThing_126 : decode cX7_tryThing 126 = .ok (.iload 7, 2) := by decide +kernel
theorem dX7_tryThing_128 : decode cX7_tryThing 128 = .ok (.ireturn, 1) := by decide +kernel
theorem dX7_tryThing_129 : decode cX7_tryThing 129 = .ok (.aload_n 0, 1) := by decide +kernel
theorem dX7_tryThing_130 : decode cX7_tryThing 130 = .ok (.iconst 1, 1) := by decide +kernel
theorem dX7_tryThing_131 : decode cX7_tryThing 131 = .ok (.iload_n 2, 1) := by decide +kernel
theorem dX7_tryThing_132 : decode cX7_tryThing 132 = .ok (.iload_n 3, 1) := by decide +kernel
theorem dX7_tryThing_133 : decode cX7_tryThing 133 = .ok (.invokevirtual 169, 3) := by decide +kernel
theorem dX7_tryThing_136 : decode cX7_tryThing 136 = .ok (.istore 8, 2) := by decide +kernel
theorem dX7_tryThing_138 : decode cX7_tryThing 138 = .ok (.iload 8, 2) := by decide +kernel
theorem dX7_tryThing_140 : decode cX7_tryThing 140 = .ok (.ifCond .eq 10, 3) := by decide +kernel
theorem dX7_tryThing_143 : decode cX7_tryThing 143 = .ok (.aload_n 0, 1) := by decide +kernel
theorem dX7_tryThing_144 : decode cX7_tryThing 144 = .ok (.iconst 1, 1) := by decide +kernel
theorem dX7_tryThing_145 : decode cX7_tryThing 145 = .ok (.iload_n 2, 1) := by decide +kernel
theorem dX7_tryThing_146 : decode cX7_tryThing 146 = .ok (.iload_n 3, 1) := by decide +kernel
theorem dX7_tryThing_147 : decode cX7_tryThing 147 = .ok (.invokevirtual 172, 3) := by decide +kernel
theorem dX7_tryThing_150 : decode cX7_tryThing 150 = .ok (.iload 8, 2) := by decide +kernel
theorem dX7_tryThing_152 : decode cX7_tryThing 152 = .ok (.ireturn, 1) := by decide +kernel
theorem dX7_tryThing_153 : decode cX7_tryThing 153 = .ok (.iload 4, 2) := by decide +kernel
theorem dX7_tryThing_155 : decode cX7_tryThing 155 = .ok (.invokestatic 118, 3) := by decide +kernel
theorem dX7_tryThing_158 : decode cX7_tryThing 158 = .ok (.ifCond .eq 37, 3) := by decide +kernel
theorem dX7_tryThing_161 : decode cX7_tryThing 161 = .ok (.iload 5, 2) := by decide +kernel
theorem dX7_tryThing_163 : decode cX7_tryThing 163 = .ok (.invokestatic 118, 3) := by decide +kernel
theorem dX7_tryThing_166 : decode cX7_tryThing 166 = .ok (.ifCond .eq 29, 3) := by decide +kernel
theorem dX7_tryThing_169 : decode cX7_tryThing 169 = .ok (.iload_n 3, 1) := by decide +kernel
theorem dX7_tryThing_170 : decode cX7_tryThing 170 = .ok (.invokestatic 122, 3) := by decide +kernel
theorem dX7_tryThing_173 : decode cX7_tryThing 173 = .ok (.ifCond .eq 22, 3) := by decide +kernel
theorem dX7_tryThing_176 : decode cX7_tryThing 176 = .ok (.aload_n 0, 1) := by decide +kernel
theorem dX7_tryThing_177 : decode cX7_tryThing 177 = .ok (.iconst 1, 1) := by decide +kernel
theorem dX7_tryThing_178 : decode cX7_tryThing 178 = .ok (.iload 4, 2) := by decide +kernel
theorem dX7_tryThing_180 : decode cX7_tryThing 180 = .ok (.iload 5, 2) := by decide +kernel
theorem dX7_tryThing_182 : decode cX7_tryThing 182 = .ok (.iload_n 3, 1) := by decide +kernel
theorem dX7_tryThing_183 : decode cX7_tryThing 183 = .ok (.ldc 191, 2) := by decide +kernel
theorem dX7_tryThing_185 : decode cX7_tryThing 185 = .ok (.invokevirtual 223, 3) := by decide +kernel
theorem dX7_tryThing_188 : decode cX7_tryThing 188 = .ok (.ifCond .eq 7, 3) := by decide +kernel
theorem dX7_tryThing_191 : decode cX7_tryThing 191 = .ok (.iconst 1, 1) := by decide +kernel
theorem dX7_tryThing_192 : decode cX7_tryThing 192 = .ok (.goto 4, 3) := by decide +kernel
theorem dX7_tryThing_195 : decode cX7_tryThing 195 = .ok (.iconst 0, 1) := by decide +kernel
theorem dX7_tryThing_196 : decode cX7_tryThing 196 = .ok (.ireturn, 1) := by decide +kernel
theorem dX7_tryThing_197 : decode cX7_tryThing 197 = .ok (.iload 4, 2) := by decide +kernel
theorem dX7_tryThing_199 : decode cX7_tryThing 199 = .ok (.ifCond .ne 27, 3) := by decide +kernel
theorem dX7_tryThing_202 : decode cX7_tryThing 202 = .ok (.iload_n 3, 1) := by decide +kernel
theorem dX7_tryThing_203 : decode cX7_tryThing 203 = .ok (.invokestatic 122, 3) := by decide +kernel
theorem dX7_tryThing_206 : decode cX7_tryThing 206 = .ok (.ifCond .eq 20, 3) := by decide +kernel
theorem dX7_tryThing_209 : decode cX7_tryThing 209 = .ok (.aload_n 0, 1) := by decide +kernel
theorem dX7_tryThing_210 : decode cX7_tryThing 210 = .ok (.iconst 1, 1) := by decide +kernel
theorem dX7_tryThing_211 : decode cX7_tryThing 211 = .ok (.iload_n 3, 1) := by decide +kernel
theorem dX7_tryThing_212 : decode cX7_tryThing 212 = .ok (.ldc 191, 2) := by decide +kernel
theorem dX7_tryThing_214 : decode cX7_tryThing 214 = .ok (.invokevirtual 192, 3) := by decide +kernel
theorem dX7_tryThing_217 : decode cX7_tryThing 217 = .ok (.iload 5, 2) := by decide +kernel
theorem dX7_tryThing_219 : decode cX7_tryThing 219 = .ok (.if_icmp .lt 7, 3) := by decide +kernel
theorem dX7_tryThing_222 : decode cX7_tryThing 222 = .ok (.iconst 1, 1) := by decide +kernel
theorem dX7_tryThing_223 : decode cX7_tryThing 223 = .ok (.goto 4, 3) := by decide +kernel
theorem dX7_tryThing_226 : decode cX7_tryThing 226 = .ok (.iconst 0, 1) := by decide +kernel
theorem dX7_tryThing_227 : decode cX7_tryThing 227 = .ok (.ireturn, 1) := by decide +kernel
theorem dX7_tryThing_228 : decode cX7_tryThing 228 = .ok (.iconst 0, 1) := by decide +kernel
theorem dX7_tryThing_229 : decode cX7_tryThing 229 = .ok (.ireturn, 1) := by decide +kernel
theorem dX7_byFives_0 : decode cX7_byFives 0 = .ok (.lconst 1, 1) := by decide +kernel
theorem dX7_byFives_1 : decode cX7_byFives 1 = .ok (.lstore_n 1, 1) := by decide +kernel
theorem dX7_byFives_2 : decode cX7_byFives 2 = .ok (.iconst 0, 1) := by decide +kernel
theorem dX7_byFives_3 : decode cX7_byFives 3 = .ok (.istore_n 3, 1) := by decide +kernel
theorem dX7_byFives_4 : decode cX7_byFives 4 = .ok (.iload_n 3, 1) := by decide +kernel
theorem dX7_byFives_5 : decode cX7_byFives 5 = .ok (.iload_n 0, 1) := by decide +kernel
theorem dX7_byFives_6 : decode cX7_byFives 6 = .ok (.if_icmp .ge 15, 3) := by decide +kernel
theorem dX7_byFives_9 : decode cX7_byFives 9 = .ok (.lload_n 1, 1) := by decide +kernel
theorem dX7_byFives_10 : decode cX7_byFives 10 = .ok (.ldc2_w 233, 3) := by decide +kernel
theorem dX7_byFives_13 : decode cX7_byFives 13 = .ok (.lmul, 1) := by decide +kernel
theorem dX7_byFives_14 : decode cX7_byFives 14 = .ok (.lstore_n 1, 1) := by decide +kernel
theorem dX7_byFives_15 : decode cX7_byFives 15 = .ok (.iinc 3 1, 3) := by decide +kernel
theorem dX7_byFives_18 : decode cX7_byFives 18 = .ok (.goto (-14), 3) := by decide +kernel
theorem dX7_byFives_21 : decode cX7_byFives 21 = .ok (.lload_n 1, 1) := by decide +kernel
theorem dX7_byFives_22 : decode cX7_byFives 22 = .ok (.lreturn, 1) := by decide +kernel
theorem dX7_judge_0 : decode cX7_judge 0 = .ok (.iload_n 1, 1) := by decide +kernel
theorem dX7_judge_1 : decode cX7_judge 1 = .ok (.i2l, 1) := by decide +kernel
theorem dX7_judge_2 : decode cX7_judge 2 = .ok (.lconst 1, 1) := by decide +kernel
theorem dX7_judge_3 : decode cX7_judge 3 = .ok (.ldc2_w 235, 3) := by decide +kernel
theorem dX7_judge_6 : decode cX7_judge 6 = .ok (.invokestatic 58, 3) := by decide +kernel
theorem dX7_judge_9 : decode cX7_judge 9 = .ok (.ifCond .eq 17, 3) := by decide +kernel
theorem dX7_judge_12 : decode cX7_judge 12 = .ok (.lload_n 2, 1) := by decide +kernel
theorem dX7_judge_13 : decode cX7_judge 13 = .ok (.lconst 0, 1) := by decide +kernel
theorem dX7_judge_14 : decode cX7_judge 14 = .ok (.iload_n 1, 1) := by decide +kernel
theorem dX7_judge_15 : decode cX7_judge 15 = .ok (.invokestatic 237, 3) := by decide +kernel
theorem dX7_judge_18 : decode cX7_judge 18 = .ok (.lconst 1, 1) := by decide +kernel
theorem dX7_judge_19 : decode cX7_judge 19 = .ok (.lsub, 1) := by decide +kernel
theorem dX7_judge_20 : decode cX7_judge 20 = .ok (.invokestatic 58, 3) := by decide +kernel
theorem dX7_judge_23 : decode cX7_judge 23 = .ok (.ifCond .ne 6, 3) := by decide +kernel
theorem dX7_judge_26 : decode cX7_judge 26 = .ok (.bipush (-2), 2) := by decide +kernel
theorem dX7_judge_28 : decode cX7_judge 28 = .ok (.ireturn, 1) := by decide +kernel
theorem dX7_judge_29 : decode cX7_judge 29 = .ok (.aload_n 0, 1) := by decide +kernel
theorem dX7_judge_30 : decode cX7_judge 30 = .ok (.invokevirtual 241, 3) := by decide +kernel
theorem dX7_judge_33 : decode cX7_judge 33 = .ok (.iconst 0, 1) := by decide +kernel
theorem dX7_judge_34 : decode cX7_judge 34 = .ok (.istore 4, 2) := by decide +kernel
theorem dX7_judge_36 : decode cX7_judge 36 = .ok (.iload 4, 2) := by decide +kernel
theorem dX7_judge_38 : decode cX7_judge 38 = .ok (.iload_n 1, 1) := by decide +kernel
theorem dX7_judge_39 : decode cX7_judge 39 = .ok (.if_icmp .ge 56, 3) := by decide +kernel
theorem dX7_judge_42 : decode cX7_judge 42 = .ok (.lload_n 2, 1) := by decide +kernel
theorem dX7_judge_43 : decode cX7_judge 43 = .ok (.iload_n 1, 1) := by decide +kernel
theorem dX7_judge_44 : decode cX7_judge 44 = .ok (.iconst 1, 1) := by decide +kernel
theorem dX7_judge_45 : decode cX7_judge 45 = .ok (.isub, 1) := by decide +kernel
theorem dX7_judge_46 : decode cX7_judge 46 = .ok (.iload 4, 2) := by decide +kernel
theorem dX7_judge_48 : decode cX7_judge 48 = .ok (.isub, 1) := by decide +kernel
theorem dX7_judge_49 : decode cX7_judge 49 = .ok (.invokestatic 237, 3) := by decide +kernel
theorem dX7_judge_52 : decode cX7_judge 52 = .ok (.ldiv, 1) := by decide +kernel
theorem dX7_judge_53 : decode cX7_judge 53 = .ok (.ldc2_w 233, 3) := by decide +kernel
theorem dX7_judge_56 : decode cX7_judge 56 = .ok (.lrem, 1) := by decide +kernel
theorem dX7_judge_57 : decode cX7_judge 57 = .ok (.l2i, 1) := by decide +kernel
theorem dX7_judge_58 : decode cX7_judge 58 = .ok (.istore 5, 2) := by decide +kernel
theorem dX7_judge_60 : decode cX7_judge 60 = .ok (.aload_n 0, 1) := by decide +kernel
theorem dX7_judge_61 : decode cX7_judge 61 = .ok (.iload 5, 2) := by decide +kernel
theorem dX7_judge_63 : decode cX7_judge 63 = .ok (.sipush 10000, 3) := by decide +kernel
theorem dX7_judge_66 : decode cX7_judge 66 = .ok (.idiv, 1) := by decide +kernel
theorem dX7_judge_67 : decode cX7_judge 67 = .ok (.iload 5, 2) := by decide +kernel
theorem dX7_judge_69 : decode cX7_judge 69 = .ok (.bipush 100, 2) := by decide +kernel
theorem dX7_judge_71 : decode cX7_judge 71 = .ok (.idiv, 1) := by decide +kernel
theorem dX7_judge_72 : decode cX7_judge 72 = .ok (.bipush 100, 2) := by decide +kernel
theorem dX7_judge_74 : decode cX7_judge 74 = .ok (.irem, 1) := by decide +kernel
theorem dX7_judge_75 : decode cX7_judge 75 = .ok (.iload 5, 2) := by decide +kernel
theorem dX7_judge_77 : decode cX7_judge 77 = .ok (.bipush 100, 2) := by decide +kernel
theorem dX7_judge_79 : decode cX7_judge 79 = .ok (.irem, 1) := by decide +kernel
theorem dX7_judge_80 : decode cX7_judge 80 = .ok (.invokevirtual 244, 3) := by decide +kernel
theorem dX7_judge_83 : decode cX7_judge 83 = .ok (.ifCond .ne 6, 3) := by decide +kernel
theorem dX7_judge_86 : decode cX7_judge 86 = .ok (.iload 4, 2) := by decide +kernel
theorem dX7_judge_88 : decode cX7_judge 88 = .ok (.ireturn, 1) := by decide +kernel
theorem dX7_judge_89 : decode cX7_judge 89 = .ok (.iinc 4 1, 3) := by decide +kernel
theorem dX7_judge_92 : decode cX7_judge 92 = .ok (.goto (-56), 3) := by decide +kernel
theorem dX7_judge_95 : decode cX7_judge 95 = .ok (.bipush (-9), 2) := by decide +kernel
theorem dX7_judge_97 : decode cX7_judge 97 = .ok (.ireturn, 1) := by decide +kernel
theorem dX7_see_0 : decode cX7_see 0 = .ok (.iload_n 1, 1) := by decide +kernel
theorem dX7_see_1 : decode cX7_see 1 = .ok (.invokestatic 122, 3) := by decide +kernel
theorem dX7_see_4 : decode cX7_see 4 = .ok (.ifCond .eq 17, 3) := by decide +kernel
theorem dX7_see_7 : decode cX7_see 7 = .ok (.iload_n 2, 1) := by decide +kernel
theorem dX7_see_8 : decode cX7_see 8 = .ok (.invokestatic 118, 3) := by decide +kernel
theorem dX7_see_11 : decode cX7_see 11 = .ok (.ifCond .eq 10, 3) := by decide +kernel
theorem dX7_see_14 : decode cX7_see 14 = .ok (.iload_n 3, 1) := by decide +kernel
theorem dX7_see_15 : decode cX7_see 15 = .ok (.invokestatic 118, 3) := by decide +kernel
theorem dX7_see_18 : decode cX7_see 18 = .ok (.ifCond .ne 5, 3) := by decide +kernel
theorem dX7_see_21 : decode cX7_see 21 = .ok (.iconst (-1), 1) := by decide +kernel
theorem dX7_see_22 : decode cX7_see 22 = .ok (.ireturn, 1) := by decide +kernel
theorem dX7_see_23 : decode cX7_see 23 = .ok (.iload_n 2, 1) := by decide +kernel
theorem dX7_see_24 : decode cX7_see 24 = .ok (.iload_n 3, 1) := by decide +kernel
theorem dX7_see_25 : decode cX7_see 25 = .ok (.if_icmp .eq 14, 3) := by decide +kernel
theorem dX7_see_28 : decode cX7_see 28 = .ok (.iload 4, 2) := by decide +kernel
theorem dX7_see_30 : decode cX7_see 30 = .ok (.i2l, 1) := by decide +kernel
theorem dX7_see_31 : decode cX7_see 31 = .ok (.lconst 0, 1) := by decide +kernel
theorem dX7_see_32 : decode cX7_see 32 = .ok (.lconst 1, 1) := by decide +kernel
theorem dX7_see_33 : decode cX7_see 33 = .ok (.invokestatic 58, 3) := by decide +kernel
theorem dX7_see_36 : decode cX7_see 36 = .ok (.ifCond .ne 6, 3) := by decide +kernel
theorem dX7_see_39 : decode cX7_see 39 = .ok (.bipush (-2), 2) := by decide +kernel
theorem dX7_see_41 : decode cX7_see 41 = .ok (.ireturn, 1) := by decide +kernel
theorem dX7_see_42 : decode cX7_see 42 = .ok (.aload_n 0, 1) := by decide +kernel
theorem dX7_see_43 : decode cX7_see 43 = .ok (.getfield 247, 3) := by decide +kernel
theorem dX7_see_46 : decode cX7_see 46 = .ok (.bipush 6, 2) := by decide +kernel
theorem dX7_see_48 : decode cX7_see 48 = .ok (.if_icmp .ne 6, 3) := by decide +kernel
theorem dX7_see_51 : decode cX7_see 51 = .ok (.bipush (-4), 2) := by decide +kernel
theorem dX7_see_53 : decode cX7_see 53 = .ok (.ireturn, 1) := by decide +kernel
theorem dX7_see_54 : decode cX7_see 54 = .ok (.aload_n 0, 1) := by decide +kernel
theorem dX7_see_55 : decode cX7_see 55 = .ok (.getfield 34, 3) := by decide +kernel
theorem dX7_see_58 : decode cX7_see 58 = .ok (.aload_n 0, 1) := by decide +kernel
theorem dX7_see_59 : decode cX7_see 59 = .ok (.getfield 247, 3) := by decide +kernel
theorem dX7_see_62 : decode cX7_see 62 = .ok (.iload_n 1, 1) := by decide +kernel
theorem dX7_see_63 : decode cX7_see 63 = .ok (.iastore, 1) := by decide +kernel
theorem dX7_see_64 : decode cX7_see 64 = .ok (.aload_n 0, 1) := by decide +kernel
theorem dX7_see_65 : decode cX7_see 65 = .ok (.getfield 37, 3) := by decide +kernel
theorem dX7_see_68 : decode cX7_see 68 = .ok (.aload_n 0, 1) := by decide +kernel
theorem dX7_see_69 : decode cX7_see 69 = .ok (.getfield 247, 3) := by decide +kernel
theorem dX7_see_72 : decode cX7_see 72 = .ok (.iload_n 2, 1) := by decide +kernel
theorem dX7_see_73 : decode cX7_see 73 = .ok (.iastore, 1) := by decide +kernel
theorem dX7_see_74 : decode cX7_see 74 = .ok (.aload_n 0, 1) := by decide +kernel
theorem dX7_see_75 : decode cX7_see 75 = .ok (.getfield 40, 3) := by decide +kernel
theorem dX7_see_78 : decode cX7_see 78 = .ok (.aload_n 0, 1) := by decide +kernel
theorem dX7_see_79 : decode cX7_see 79 = .ok (.getfield 247, 3) := by decide +kernel
theorem dX7_see_82 : decode cX7_see 82 = .ok (.iload_n 3, 1) := by decide +kernel
theorem dX7_see_83 : decode cX7_see 83 = .ok (.iastore, 1) := by decide +kernel
theorem dX7_see_84 : decode cX7_see 84 = .ok (.aload_n 0, 1) := by decide +kernel
theorem dX7_see_85 : decode cX7_see 85 = .ok (.getfield 43, 3) := by decide +kernel
theorem dX7_see_88 : decode cX7_see 88 = .ok (.aload_n 0, 1) := by decide +kernel
theorem dX7_see_89 : decode cX7_see 89 = .ok (.getfield 247, 3) := by decide +kernel
theorem dX7_see_92 : decode cX7_see 92 = .ok (.iload 4, 2) := by decide +kernel
theorem dX7_see_94 : decode cX7_see 94 = .ok (.iastore, 1) := by decide +kernel
theorem dX7_see_95 : decode cX7_see 95 = .ok (.aload_n 0, 1) := by decide +kernel
theorem dX7_see_96 : decode cX7_see 96 = .ok (.dup, 1) := by decide +kernel
theorem dX7_see_97 : decode cX7_see 97 = .ok (.getfield 247, 3) := by decide +kernel
theorem dX7_see_100 : decode cX7_see 100 = .ok (.iconst 1, 1) := by decide +kernel
theorem dX7_see_101 : decode cX7_see 101 = .ok (.iadd, 1) := by decide +kernel
theorem dX7_see_102 : decode cX7_see 102 = .ok (.putfield 247, 3) := by decide +kernel
theorem dX7_see_105 : decode cX7_see 105 = .ok (.aload_n 0, 1) := by decide +kernel
theorem dX7_see_106 : decode cX7_see 106 = .ok (.getfield 247, 3) := by decide +kernel
theorem dX7_see_109 : decode cX7_see 109 = .ok (.ireturn, 1) := by decide +kernel
theorem dX7_unsee_0 : decode cX7_unsee 0 = .ok (.aload_n 0, 1) := by decide +kernel
theorem dX7_unsee_1 : decode cX7_unsee 1 = .ok (.getfield 247, 3) := by decide +kernel
theorem dX7_unsee_4 : decode cX7_unsee 4 = .ok (.istore_n 1, 1) := by decide +kernel
theorem dX7_unsee_5 : decode cX7_unsee 5 = .ok (.aload_n 0, 1) := by decide +kernel
theorem dX7_unsee_6 : decode cX7_unsee 6 = .ok (.iconst 0, 1) := by decide +kernel
theorem dX7_unsee_7 : decode cX7_unsee 7 = .ok (.putfield 247, 3) := by decide +kernel
theorem dX7_unsee_10 : decode cX7_unsee 10 = .ok (.iload_n 1, 1) := by decide +kernel
theorem dX7_unsee_11 : decode cX7_unsee 11 = .ok (.ireturn, 1) := by decide +kernel
theorem dX7_mayBe_0 : decode cX7_mayBe 0 = .ok (.aload_n 0, 1) := by decide +kernel
theorem dX7_mayBe_1 : decode cX7_mayBe 1 = .ok (.invokevirtual 241, 3) := by decide +kernel
theorem dX7_mayBe_4 : decode cX7_mayBe 4 = .ok (.aload_n 0, 1) := by decide +kernel
theorem dX7_mayBe_5 : decode cX7_mayBe 5 = .ok (.iconst 1, 1) := by decide +kernel
theorem dX7_mayBe_6 : decode cX7_mayBe 6 = .ok (.iload_n 1, 1) := by decide +kernel
theorem dX7_mayBe_7 : decode cX7_mayBe 7 = .ok (.invokevirtual 162, 3) := by decide +kernel
theorem dX7_mayBe_10 : decode cX7_mayBe 10 = .ok (.iconst 1, 1) := by decide +kernel
theorem dX7_mayBe_11 : decode cX7_mayBe 11 = .ok (.istore_n 2, 1) := by decide +kernel
theorem dX7_mayBe_12 : decode cX7_mayBe 12 = .ok (.iconst 0, 1) := by decide +kernel
theorem dX7_mayBe_13 : decode cX7_mayBe 13 = .ok (.istore_n 3, 1) := by decide +kernel
theorem dX7_mayBe_14 : decode cX7_mayBe 14 = .ok (.iload_n 3, 1) := by decide +kernel
theorem dX7_mayBe_15 : decode cX7_mayBe 15 = .ok (.aload_n 0, 1) := by decide +kernel
theorem dX7_mayBe_16 : decode cX7_mayBe 16 = .ok (.getfield 247, 3) := by decide +kernel
theorem dX7_mayBe_19 : decode cX7_mayBe 19 = .ok (.if_icmp .ge 62, 3) := by decide +kernel
theorem dX7_mayBe_22 : decode cX7_mayBe 22 = .ok (.iload_n 2, 1) := by decide +kernel
theorem dX7_mayBe_23 : decode cX7_mayBe 23 = .ok (.ifCond .eq 58, 3) := by decide +kernel
theorem dX7_mayBe_26 : decode cX7_mayBe 26 = .ok (.aload_n 0, 1) := by decide +kernel
theorem dX7_mayBe_27 : decode cX7_mayBe 27 = .ok (.iconst 1, 1) := by decide +kernel
theorem dX7_mayBe_28 : decode cX7_mayBe 28 = .ok (.aload_n 0, 1) := by decide +kernel
theorem dX7_mayBe_29 : decode cX7_mayBe 29 = .ok (.getfield 37, 3) := by decide +kernel
theorem dX7_mayBe_32 : decode cX7_mayBe 32 = .ok (.iload_n 3, 1) := by decide +kernel
theorem dX7_mayBe_33 : decode cX7_mayBe 33 = .ok (.iaload, 1) := by decide +kernel
theorem dX7_mayBe_34 : decode cX7_mayBe 34 = .ok (.aload_n 0, 1) := by decide +kernel
theorem dX7_mayBe_35 : decode cX7_mayBe 35 = .ok (.getfield 40, 3) := by decide +kernel
theorem dX7_mayBe_38 : decode cX7_mayBe 38 = .ok (.iload_n 3, 1) := by decide +kernel
theorem dX7_mayBe_39 : decode cX7_mayBe 39 = .ok (.iaload, 1) := by decide +kernel
theorem dX7_mayBe_40 : decode cX7_mayBe 40 = .ok (.aload_n 0, 1) := by decide +kernel
theorem dX7_mayBe_41 : decode cX7_mayBe 41 = .ok (.getfield 34, 3) := by decide +kernel
theorem dX7_mayBe_44 : decode cX7_mayBe 44 = .ok (.iload_n 3, 1) := by decide +kernel
theorem dX7_mayBe_45 : decode cX7_mayBe 45 = .ok (.iaload, 1) := by decide +kernel
theorem dX7_mayBe_46 : decode cX7_mayBe 46 = .ok (.ldc 191, 2) := by decide +kernel
theorem dX7_mayBe_48 : decode cX7_mayBe 48 = .ok (.invokevirtual 223, 3) := by decide +kernel
theorem dX7_mayBe_51 : decode cX7_mayBe 51 = .ok (.aload_n 0, 1) := by decide +kernel
theorem dX7_mayBe_52 : decode cX7_mayBe 52 = .ok (.getfield 43, 3) := by decide +kernel
theorem dX7_mayBe_55 : decode cX7_mayBe 55 = .ok (.iload_n 3, 1) := by decide +kernel
theorem dX7_mayBe_56 : decode cX7_mayBe 56 = .ok (.iaload, 1) := by decide +kernel
theorem dX7_mayBe_57 : decode cX7_mayBe 57 = .ok (.iconst 1, 1) := by decide +kernel
theorem dX7_mayBe_58 : decode cX7_mayBe 58 = .ok (.if_icmp .ne 7, 3) := by decide +kernel
theorem dX7_mayBe_61 : decode cX7_mayBe 61 = .ok (.iconst 1, 1) := by decide +kernel
theorem dX7_mayBe_62 : decode cX7_mayBe 62 = .ok (.goto 4, 3) := by decide +kernel
theorem dX7_mayBe_65 : decode cX7_mayBe 65 = .ok (.iconst 0, 1) := by decide +kernel
theorem dX7_mayBe_66 : decode cX7_mayBe 66 = .ok (.if_icmp .ne 7, 3) := by decide +kernel
theorem dX7_mayBe_69 : decode cX7_mayBe 69 = .ok (.iconst 1, 1) := by decide +kernel
theorem dX7_mayBe_70 : decode cX7_mayBe 70 = .ok (.goto 4, 3) := by decide +kernel
theorem dX7_mayBe_73 : decode cX7_mayBe 73 = .ok (.iconst 0, 1) := by decide +kernel
theorem dX7_mayBe_74 : decode cX7_mayBe 74 = .ok (.istore_n 2, 1) := by decide +kernel
theorem dX7_mayBe_75 : decode cX7_mayBe 75 = .ok (.iinc 3 1, 3) := by decide +kernel
theorem dX7_mayBe_78 : decode cX7_mayBe 78 = .ok (.goto (-64), 3) := by decide +kernel
theorem dX7_mayBe_81 : decode cX7_mayBe 81 = .ok (.iload_n 2, 1) := by decide +kernel
theorem dX7_mayBe_82 : decode cX7_mayBe 82 = .ok (.ireturn, 1) := by decide +kernel
theorem dX7_missing_0 : decode cX7_missing 0 = .ok (.iload_n 1, 1) := by decide +kernel
theorem dX7_missing_1 : decode cX7_missing 1 = .ok (.i2l, 1) := by decide +kernel
theorem dX7_missing_2 : decode cX7_missing 2 = .ok (.lconst 0, 1) := by decide +kernel
theorem dX7_missing_3 : decode cX7_missing 3 = .ok (.lconst 1, 1) := by decide +kernel
theorem dX7_missing_4 : decode cX7_missing 4 = .ok (.invokestatic 58, 3) := by decide +kernel
theorem dX7_missing_7 : decode cX7_missing 7 = .ok (.ifCond .ne 6, 3) := by decide +kernel
theorem dX7_missing_10 : decode cX7_missing 10 = .ok (.bipush (-2), 2) := by decide +kernel
theorem dX7_missing_12 : decode cX7_missing 12 = .ok (.ireturn, 1) := by decide +kernel
theorem dX7_missing_13 : decode cX7_missing 13 = .ok (.aload_n 0, 1) := by decide +kernel
theorem dX7_missing_14 : decode cX7_missing 14 = .ok (.iconst 0, 1) := by decide +kernel
theorem dX7_missing_15 : decode cX7_missing 15 = .ok (.invokevirtual 105, 3) := by decide +kernel
theorem dX7_missing_18 : decode cX7_missing 18 = .ok (.bipush 16, 2) := by decide +kernel
theorem dX7_missing_20 : decode cX7_missing 20 = .ok (.if_icmp .ne 6, 3) := by decide +kernel
theorem dX7_missing_23 : decode cX7_missing 23 = .ok (.bipush (-4), 2) := by decide +kernel
theorem dX7_missing_25 : decode cX7_missing 25 = .ok (.ireturn, 1) := by decide +kernel
theorem dX7_missing_26 : decode cX7_missing 26 = .ok (.iconst 0, 1) := by decide +kernel
theorem dX7_missing_27 : decode cX7_missing 27 = .ok (.istore_n 2, 1) := by decide +kernel
theorem dX7_missing_28 : decode cX7_missing 28 = .ok (.bipush (-9), 2) := by decide +kernel
theorem dX7_missing_30 : decode cX7_missing 30 = .ok (.istore_n 3, 1) := by decide +kernel
theorem dX7_missing_31 : decode cX7_missing 31 = .ok (.iconst 0, 1) := by decide +kernel
theorem dX7_missing_32 : decode cX7_missing 32 = .ok (.istore 4, 2) := by decide +kernel
theorem dX7_missing_34 : decode cX7_missing 34 = .ok (.iload 4, 2) := by decide +kernel
theorem dX7_missing_36 : decode cX7_missing 36 = .ok (.sipush 16384, 3) := by decide +kernel
theorem dX7_missing_39 : decode cX7_missing 39 = .ok (.if_icmp .ge 116, 3) := by decide +kernel
theorem dX7_missing_42 : decode cX7_missing 42 = .ok (.iload 4, 2) := by decide +kernel
theorem dX7_missing_44 : decode cX7_missing 44 = .ok (.invokestatic 112, 3) := by decide +kernel
theorem dX7_missing_47 : decode cX7_missing 47 = .ok (.iload 4, 2) := by decide +kernel
theorem dX7_missing_49 : decode cX7_missing 49 = .ok (.invokestatic 115, 3) := by decide +kernel
theorem dX7_missing_52 : decode cX7_missing 52 = .ok (.if_icmp .ge 35, 3) := by decide +kernel
theorem dX7_missing_55 : decode cX7_missing 55 = .ok (.aload_n 0, 1) := by decide +kernel
theorem dX7_missing_56 : decode cX7_missing 56 = .ok (.iconst 0, 1) := by decide +kernel
theorem dX7_missing_57 : decode cX7_missing 57 = .ok (.iload 4, 2) := by decide +kernel
theorem dX7_missing_59 : decode cX7_missing 59 = .ok (.invokestatic 112, 3) := by decide +kernel
theorem dX7_missing_62 : decode cX7_missing 62 = .ok (.iload 4, 2) := by decide +kernel
theorem dX7_missing_64 : decode cX7_missing 64 = .ok (.invokestatic 115, 3) := by decide +kernel
theorem dX7_missing_67 : decode cX7_missing 67 = .ok (.iload 4, 2) := by decide +kernel
theorem dX7_missing_69 : decode cX7_missing 69 = .ok (.invokestatic 64, 3) := by decide +kernel
theorem dX7_missing_72 : decode cX7_missing 72 = .ok (.iload 4, 2) := by decide +kernel
theorem dX7_missing_74 : decode cX7_missing 74 = .ok (.invokestatic 68, 3) := by decide +kernel
theorem dX7_missing_77 : decode cX7_missing 77 = .ok (.invokevirtual 230, 3) := by decide +kernel
theorem dX7_missing_80 : decode cX7_missing 80 = .ok (.ifCond .eq 7, 3) := by decide +kernel
theorem dX7_missing_83 : decode cX7_missing 83 = .ok (.iconst 1, 1) := by decide +kernel
theorem dX7_missing_84 : decode cX7_missing 84 = .ok (.goto 4, 3) := by decide +kernel
theorem dX7_missing_87 : decode cX7_missing 87 = .ok (.iconst 0, 1) := by decide +kernel
theorem dX7_missing_88 : decode cX7_missing 88 = .ok (.istore 5, 2) := by decide +kernel
theorem dX7_missing_90 : decode cX7_missing 90 = .ok (.iload 5, 2) := by decide +kernel
theorem dX7_missing_92 : decode cX7_missing 92 = .ok (.ifCond .eq 57, 3) := by decide +kernel
theorem dX7_missing_95 : decode cX7_missing 95 = .ok (.aload_n 0, 1) := by decide +kernel
theorem dX7_missing_96 : decode cX7_missing 96 = .ok (.iload 4, 2) := by decide +kernel
theorem dX7_missing_98 : decode cX7_missing 98 = .ok (.invokevirtual 250, 3) := by decide +kernel
theorem dX7_missing_101 : decode cX7_missing 101 = .ok (.ifCond .eq 48, 3) := by decide +kernel
theorem dX7_missing_104 : decode cX7_missing 104 = .ok (.iload_n 2, 1) := by decide +kernel
theorem dX7_missing_105 : decode cX7_missing 105 = .ok (.ifCond .ne 39, 3) := by decide +kernel
theorem dX7_missing_108 : decode cX7_missing 108 = .ok (.ldc 253, 2) := by decide +kernel
theorem dX7_missing_110 : decode cX7_missing 110 = .ok (.iload 4, 2) := by decide +kernel
theorem dX7_missing_112 : decode cX7_missing 112 = .ok (.invokestatic 112, 3) := by decide +kernel
theorem dX7_missing_115 : decode cX7_missing 115 = .ok (.imul, 1) := by decide +kernel
theorem dX7_missing_116 : decode cX7_missing 116 = .ok (.sipush 10000, 3) := by decide +kernel
theorem dX7_missing_119 : decode cX7_missing 119 = .ok (.iload 4, 2) := by decide +kernel
theorem dX7_missing_121 : decode cX7_missing 121 = .ok (.invokestatic 115, 3) := by decide +kernel
theorem dX7_missing_124 : decode cX7_missing 124 = .ok (.imul, 1) := by decide +kernel
theorem dX7_missing_125 : decode cX7_missing 125 = .ok (.iadd, 1) := by decide +kernel
theorem dX7_missing_126 : decode cX7_missing 126 = .ok (.bipush 100, 2) := by decide +kernel
theorem dX7_missing_128 : decode cX7_missing 128 = .ok (.iload 4, 2) := by decide +kernel
theorem dX7_missing_130 : decode cX7_missing 130 = .ok (.invokestatic 64, 3) := by decide +kernel
theorem dX7_missing_133 : decode cX7_missing 133 = .ok (.imul, 1) := by decide +kernel
theorem dX7_missing_134 : decode cX7_missing 134 = .ok (.iadd, 1) := by decide +kernel
theorem dX7_missing_135 : decode cX7_missing 135 = .ok (.iload 4, 2) := by decide +kernel
theorem dX7_missing_137 : decode cX7_missing 137 = .ok (.invokestatic 68, 3) := by decide +kernel
theorem dX7_missing_140 : decode cX7_missing 140 = .ok (.iadd, 1) := by decide +kernel
theorem dX7_missing_141 : decode cX7_missing 141 = .ok (.goto 4, 3) := by decide +kernel
theorem dX7_missing_144 : decode cX7_missing 144 = .ok (.iload_n 3, 1) := by decide +kernel
theorem dX7_missing_145 : decode cX7_missing 145 = .ok (.istore_n 3, 1) := by decide +kernel
theorem dX7_missing_146 : decode cX7_missing 146 = .ok (.iinc 2 1, 3) := by decide +kernel
theorem dX7_missing_149 : decode cX7_missing 149 = .ok (.iinc 4 1, 3) := by decide +kernel
theorem dX7_missing_152 : decode cX7_missing 152 = .ok (.goto (-118), 3) := by decide +kernel
theorem dX7_missing_155 : decode cX7_missing 155 = .ok (.iload_n 1, 1) := by decide +kernel
theorem dX7_missing_156 : decode cX7_missing 156 = .ok (.ifCond .ne 7, 3) := by decide +kernel
theorem dX7_missing_159 : decode cX7_missing 159 = .ok (.iload_n 2, 1) := by decide +kernel
theorem dX7_missing_160 : decode cX7_missing 160 = .ok (.goto 4, 3) := by decide +kernel
theorem dX7_missing_163 : decode cX7_missing 163 = .ok (.iload_n 3, 1) := by decide +kernel
theorem dX7_missing_164 : decode cX7_missing 164 = .ok (.ireturn, 1) := by decide +kernel
theorem dX7_factorial_0 : decode cX7_factorial 0 = .ok (.iconst 1, 1) := by decide +kernel
theorem dX7_factorial_1 : decode cX7_factorial 1 = .ok (.istore_n 1, 1) := by decide +kernel
theorem dX7_factorial_2 : decode cX7_factorial 2 = .ok (.iconst 2, 1) := by decide +kernel
theorem dX7_factorial_3 : decode cX7_factorial 3 = .ok (.istore_n 2, 1) := by decide +kernel
theorem dX7_factorial_4 : decode cX7_factorial 4 = .ok (.iload_n 2, 1) := by decide +kernel
theorem dX7_factorial_5 : decode cX7_factorial 5 = .ok (.iload_n 0, 1) := by decide +kernel
theorem dX7_factorial_6 : decode cX7_factorial 6 = .ok (.if_icmp .gt 13, 3) := by decide +kernel
theorem dX7_factorial_9 : decode cX7_factorial 9 = .ok (.iload_n 1, 1) := by decide +kernel
theorem dX7_factorial_10 : decode cX7_factorial 10 = .ok (.iload_n 2, 1) := by decide +kernel
theorem dX7_factorial_11 : decode cX7_factorial 11 = .ok (.imul, 1) := by decide +kernel
theorem dX7_factorial_12 : decode cX7_factorial 12 = .ok (.istore_n 1, 1) := by decide +kernel
theorem dX7_factorial_13 : decode cX7_factorial 13 = .ok (.iinc 2 1, 3) := by decide +kernel
theorem dX7_factorial_16 : decode cX7_factorial 16 = .ok (.goto (-12), 3) := by decide +kernel
theorem dX7_factorial_19 : decode cX7_factorial 19 = .ok (.iload_n 1, 1) := by decide +kernel
theorem dX7_factorial_20 : decode cX7_factorial 20 = .ok (.ireturn, 1) := by decide +kernel
theorem dX7_common_0 : decode cX7_common 0 = .ok (.iload_n 0, 1) := by decide +kernel
theorem dX7_common_1 : decode cX7_common 1 = .ok (.ifCond .ge 8, 3) := by decide +kernel
theorem dX7_common_4 : decode cX7_common 4 = .ok (.iload_n 0, 1) := by decide +kernel
theorem dX7_common_5 : decode cX7_common 5 = .ok (.ineg, 1) := by decide +kernel
theorem dX7_common_6 : decode cX7_common 6 = .ok (.goto 4, 3) := by decide +kernel
theorem dX7_common_9 : decode cX7_common 9 = .ok (.iload_n 0, 1) := by decide +kernel
theorem dX7_common_10 : decode cX7_common 10 = .ok (.istore_n 2, 1) := by decide +kernel
theorem dX7_common_11 : decode cX7_common 11 = .ok (.iload_n 1, 1) := by decide +kernel
theorem dX7_common_12 : decode cX7_common 12 = .ok (.istore_n 3, 1) := by decide +kernel
theorem dX7_common_13 : decode cX7_common 13 = .ok (.iload_n 3, 1) := by decide +kernel
theorem dX7_common_14 : decode cX7_common 14 = .ok (.ifCond .eq 16, 3) := by decide +kernel
theorem dX7_common_17 : decode cX7_common 17 = .ok (.iload_n 2, 1) := by decide +kernel
theorem dX7_common_18 : decode cX7_common 18 = .ok (.iload_n 3, 1) := by decide +kernel
theorem dX7_common_19 : decode cX7_common 19 = .ok (.irem, 1) := by decide +kernel
theorem dX7_common_20 : decode cX7_common 20 = .ok (.istore 4, 2) := by decide +kernel
theorem dX7_common_22 : decode cX7_common 22 = .ok (.iload_n 3, 1) := by decide +kernel
theorem dX7_common_23 : decode cX7_common 23 = .ok (.istore_n 2, 1) := by decide +kernel
theorem dX7_common_24 : decode cX7_common 24 = .ok (.iload 4, 2) := by decide +kernel
theorem dX7_common_26 : decode cX7_common 26 = .ok (.istore_n 3, 1) := by decide +kernel
theorem dX7_common_27 : decode cX7_common 27 = .ok (.goto (-14), 3) := by decide +kernel
theorem dX7_common_30 : decode cX7_common 30 = .ok (.iload_n 2, 1) := by decide +kernel
theorem dX7_common_31 : decode cX7_common 31 = .ok (.ireturn, 1) := by decide +kernel
theorem dX7_findLiving_0 : decode cX7_findLiving 0 = .ok (.iconst 0, 1) := by decide +kernel
theorem dX7_findLiving_1 : decode cX7_findLiving 1 = .ok (.istore_n 2, 1) := by decide +kernel
theorem dX7_findLiving_2 : decode cX7_findLiving 2 = .ok (.iconst 0, 1) := by decide +kernel
theorem dX7_findLiving_3 : decode cX7_findLiving 3 = .ok (.istore_n 3, 1) := by decide +kernel
theorem dX7_findLiving_4 : decode cX7_findLiving 4 = .ok (.iload_n 3, 1) := by decide +kernel
theorem dX7_findLiving_5 : decode cX7_findLiving 5 = .ok (.aload_n 0, 1) := by decide +kernel
theorem dX7_findLiving_6 : decode cX7_findLiving 6 = .ok (.iconst 0, 1) := by decide +kernel
theorem dX7_findLiving_7 : decode cX7_findLiving 7 = .ok (.invokevirtual 105, 3) := by decide +kernel
theorem dX7_findLiving_10 : decode cX7_findLiving 10 = .ok (.if_icmp .ge 32, 3) := by decide +kernel
theorem dX7_findLiving_13 : decode cX7_findLiving 13 = .ok (.aload_n 0, 1) := by decide +kernel
theorem dX7_findLiving_14 : decode cX7_findLiving 14 = .ok (.iconst 0, 1) := by decide +kernel
theorem dX7_findLiving_15 : decode cX7_findLiving 15 = .ok (.iload_n 3, 1) := by decide +kernel
theorem dX7_findLiving_16 : decode cX7_findLiving 16 = .ok (.invokevirtual 108, 3) := by decide +kernel
theorem dX7_findLiving_19 : decode cX7_findLiving 19 = .ok (.iload_n 1, 1) := by decide +kernel
theorem dX7_findLiving_20 : decode cX7_findLiving 20 = .ok (.invokestatic 188, 3) := by decide +kernel
theorem dX7_findLiving_23 : decode cX7_findLiving 23 = .ok (.ifCond .eq 13, 3) := by decide +kernel
theorem dX7_findLiving_26 : decode cX7_findLiving 26 = .ok (.aload_n 0, 1) := by decide +kernel
theorem dX7_findLiving_27 : decode cX7_findLiving 27 = .ok (.getfield 46, 3) := by decide +kernel
theorem dX7_findLiving_30 : decode cX7_findLiving 30 = .ok (.iload_n 2, 1) := by decide +kernel
theorem dX7_findLiving_31 : decode cX7_findLiving 31 = .ok (.iload_n 3, 1) := by decide +kernel
theorem dX7_findLiving_32 : decode cX7_findLiving 32 = .ok (.iastore, 1) := by decide +kernel
theorem dX7_findLiving_33 : decode cX7_findLiving 33 = .ok (.iinc 2 1, 3) := by decide +kernel
theorem dX7_findLiving_36 : decode cX7_findLiving 36 = .ok (.iinc 3 1, 3) := by decide +kernel
theorem dX7_findLiving_39 : decode cX7_findLiving 39 = .ok (.goto (-35), 3) := by decide +kernel
theorem dX7_findLiving_42 : decode cX7_findLiving 42 = .ok (.iload_n 2, 1) := by decide +kernel
theorem dX7_findLiving_43 : decode cX7_findLiving 43 = .ok (.ireturn, 1) := by decide +kernel
theorem dX7_spansOf_0 : decode cX7_spansOf 0 = .ok (.iconst 0, 1) := by decide +kernel
theorem dX7_spansOf_1 : decode cX7_spansOf 1 = .ok (.istore_n 3, 1) := by decide +kernel
theorem dX7_spansOf_2 : decode cX7_spansOf 2 = .ok (.iconst 0, 1) := by decide +kernel
theorem dX7_spansOf_3 : decode cX7_spansOf 3 = .ok (.istore 4, 2) := by decide +kernel
theorem dX7_spansOf_5 : decode cX7_spansOf 5 = .ok (.iload 4, 2) := by decide +kernel
theorem dX7_spansOf_7 : decode cX7_spansOf 7 = .ok (.iload_n 2, 1) := by decide +kernel
theorem dX7_spansOf_8 : decode cX7_spansOf 8 = .ok (.if_icmp .ge 34, 3) := by decide +kernel
theorem dX7_spansOf_11 : decode cX7_spansOf 11 = .ok (.iload_n 3, 1) := by decide +kernel
theorem dX7_spansOf_12 : decode cX7_spansOf 12 = .ok (.iload_n 1, 1) := by decide +kernel
theorem dX7_spansOf_13 : decode cX7_spansOf 13 = .ok (.iload 4, 2) := by decide +kernel
theorem dX7_spansOf_15 : decode cX7_spansOf 15 = .ok (.invokestatic 185, 3) := by decide +kernel
theorem dX7_spansOf_18 : decode cX7_spansOf 18 = .ok (.ifCond .eq 15, 3) := by decide +kernel
theorem dX7_spansOf_21 : decode cX7_spansOf 21 = .ok (.iconst 1, 1) := by decide +kernel
theorem dX7_spansOf_22 : decode cX7_spansOf 22 = .ok (.aload_n 0, 1) := by decide +kernel
theorem dX7_spansOf_23 : decode cX7_spansOf 23 = .ok (.getfield 46, 3) := by decide +kernel
theorem dX7_spansOf_26 : decode cX7_spansOf 26 = .ok (.iload 4, 2) := by decide +kernel
theorem dX7_spansOf_28 : decode cX7_spansOf 28 = .ok (.iaload, 1) := by decide +kernel
theorem dX7_spansOf_29 : decode cX7_spansOf 29 = .ok (.ishl, 1) := by decide +kernel
theorem dX7_spansOf_30 : decode cX7_spansOf 30 = .ok (.goto 4, 3) := by decide +kernel
theorem dX7_spansOf_33 : decode cX7_spansOf 33 = .ok (.iconst 0, 1) := by decide +kernel
theorem dX7_spansOf_34 : decode cX7_spansOf 34 = .ok (.ior, 1) := by decide +kernel
theorem dX7_spansOf_35 : decode cX7_spansOf 35 = .ok (.istore_n 3, 1) := by decide +kernel
theorem dX7_spansOf_36 : decode cX7_spansOf 36 = .ok (.iinc 4 1, 3) := by decide +kernel
theorem dX7_spansOf_39 : decode cX7_spansOf 39 = .ok (.goto (-34), 3) := by decide +kernel
theorem dX7_spansOf_42 : decode cX7_spansOf 42 = .ok (.iload_n 3, 1) := by decide +kernel
theorem dX7_spansOf_43 : decode cX7_spansOf 43 = .ok (.ireturn, 1) := by decide +kernel
theorem dX7_share_0 : decode cX7_share 0 = .ok (.aload_n 0, 1) := by decide +kernel
theorem dX7_share_1 : decode cX7_share 1 = .ok (.iload_n 1, 1) := by decide +kernel
theorem dX7_share_2 : decode cX7_share 2 = .ok (.invokevirtual 145, 3) := by decide +kernel
theorem dX7_share_5 : decode cX7_share 5 = .ok (.ifCond .eq 10, 3) := by decide +kernel
theorem dX7_share_8 : decode cX7_share 8 = .ok (.iload_n 2, 1) := by decide +kernel
theorem dX7_share_9 : decode cX7_share 9 = .ok (.invokestatic 122, 3) := by decide +kernel
theorem dX7_share_12 : decode cX7_share 12 = .ok (.ifCond .ne 5, 3) := by decide +kernel
theorem dX7_share_15 : decode cX7_share 15 = .ok (.iconst (-1), 1) := by decide +kernel
theorem dX7_share_16 : decode cX7_share 16 = .ok (.ireturn, 1) := by decide +kernel
theorem dX7_share_17 : decode cX7_share 17 = .ok (.aload_n 0, 1) := by decide +kernel
theorem dX7_share_18 : decode cX7_share 18 = .ok (.iload_n 2, 1) := by decide +kernel
theorem dX7_share_19 : decode cX7_share 19 = .ok (.invokevirtual 254, 3) := by decide +kernel
theorem dX7_share_22 : decode cX7_share 22 = .ok (.istore 4, 2) := by decide +kernel
theorem dX7_share_24 : decode cX7_share 24 = .ok (.iload 4, 2) := by decide +kernel
theorem dX7_share_26 : decode cX7_share 26 = .ok (.bipush 8, 2) := by decide +kernel
theorem dX7_share_28 : decode cX7_share 28 = .ok (.if_icmp .le 6, 3) := by decide +kernel
theorem dX7_share_31 : decode cX7_share 31 = .ok (.bipush (-4), 2) := by decide +kernel
theorem dX7_share_33 : decode cX7_share 33 = .ok (.ireturn, 1) := by decide +kernel
theorem dX7_share_34 : decode cX7_share 34 = .ok (.iconst 0, 1) := by decide +kernel
theorem dX7_share_35 : decode cX7_share 35 = .ok (.istore 5, 2) := by decide +kernel
theorem dX7_share_37 : decode cX7_share 37 = .ok (.iconst 0, 1) := by decide +kernel
theorem dX7_share_38 : decode cX7_share 38 = .ok (.istore 6, 2) := by decide +kernel
theorem dX7_share_40 : decode cX7_share 40 = .ok (.iload 6, 2) := by decide +kernel
theorem dX7_share_42 : decode cX7_share 42 = .ok (.iconst 1, 1) := by decide +kernel
theorem dX7_share_43 : decode cX7_share 43 = .ok (.iload 4, 2) := by decide +kernel
theorem dX7_share_45 : decode cX7_share 45 = .ok (.ishl, 1) := by decide +kernel
theorem dX7_share_46 : decode cX7_share 46 = .ok (.if_icmp .ge 94, 3) := by decide +kernel
theorem dX7_share_49 : decode cX7_share 49 = .ok (.aload_n 0, 1) := by decide +kernel
theorem dX7_share_50 : decode cX7_share 50 = .ok (.iload 6, 2) := by decide +kernel
theorem dX7_share_52 : decode cX7_share 52 = .ok (.iload 4, 2) := by decide +kernel
theorem dX7_share_54 : decode cX7_share 54 = .ok (.invokevirtual 257, 3) := by decide +kernel
theorem dX7_share_57 : decode cX7_share 57 = .ok (.istore 7, 2) := by decide +kernel
theorem dX7_share_59 : decode cX7_share 59 = .ok (.iload 7, 2) := by decide +kernel
theorem dX7_share_61 : decode cX7_share 61 = .ok (.iload_n 1, 1) := by decide +kernel
theorem dX7_share_62 : decode cX7_share 62 = .ok (.invokestatic 185, 3) := by decide +kernel
theorem dX7_share_65 : decode cX7_share 65 = .ok (.ifCond .ne 69, 3) := by decide +kernel
theorem dX7_share_68 : decode cX7_share 68 = .ok (.aload_n 0, 1) := by decide +kernel
theorem dX7_share_69 : decode cX7_share 69 = .ok (.iconst 0, 1) := by decide +kernel
theorem dX7_share_70 : decode cX7_share 70 = .ok (.iload_n 1, 1) := by decide +kernel
theorem dX7_share_71 : decode cX7_share 71 = .ok (.invokevirtual 108, 3) := by decide +kernel
theorem dX7_share_74 : decode cX7_share 74 = .ok (.iload_n 2, 1) := by decide +kernel
theorem dX7_share_75 : decode cX7_share 75 = .ok (.invokestatic 188, 3) := by decide +kernel
theorem dX7_share_78 : decode cX7_share 78 = .ok (.ifCond .eq 56, 3) := by decide +kernel
theorem dX7_share_81 : decode cX7_share 81 = .ok (.iload 6, 2) := by decide +kernel
theorem dX7_share_83 : decode cX7_share 83 = .ok (.invokestatic 227, 3) := by decide +kernel
theorem dX7_share_86 : decode cX7_share 86 = .ok (.invokestatic 260, 3) := by decide +kernel
theorem dX7_share_89 : decode cX7_share 89 = .ok (.iload 4, 2) := by decide +kernel
theorem dX7_share_91 : decode cX7_share 91 = .ok (.iconst 1, 1) := by decide +kernel
theorem dX7_share_92 : decode cX7_share 92 = .ok (.isub, 1) := by decide +kernel
theorem dX7_share_93 : decode cX7_share 93 = .ok (.iload 6, 2) := by decide +kernel
theorem dX7_share_95 : decode cX7_share 95 = .ok (.invokestatic 227, 3) := by decide +kernel
theorem dX7_share_98 : decode cX7_share 98 = .ok (.isub, 1) := by decide +kernel
theorem dX7_share_99 : decode cX7_share 99 = .ok (.invokestatic 260, 3) := by decide +kernel
theorem dX7_share_102 : decode cX7_share 102 = .ok (.imul, 1) := by decide +kernel
theorem dX7_share_103 : decode cX7_share 103 = .ok (.istore 8, 2) := by decide +kernel
theorem dX7_share_105 : decode cX7_share 105 = .ok (.iload 5, 2) := by decide +kernel
theorem dX7_share_107 : decode cX7_share 107 = .ok (.iload 8, 2) := by decide +kernel
theorem dX7_share_109 : decode cX7_share 109 = .ok (.aload_n 0, 1) := by decide +kernel
theorem dX7_share_110 : decode cX7_share 110 = .ok (.iconst 0, 1) := by decide +kernel
theorem dX7_share_111 : decode cX7_share 111 = .ok (.iload_n 2, 1) := by decide +kernel
theorem dX7_share_112 : decode cX7_share 112 = .ok (.iload 7, 2) := by decide +kernel
theorem dX7_share_114 : decode cX7_share 114 = .ok (.invokevirtual 192, 3) := by decide +kernel
theorem dX7_share_117 : decode cX7_share 117 = .ok (.aload_n 0, 1) := by decide +kernel
theorem dX7_share_118 : decode cX7_share 118 = .ok (.iconst 0, 1) := by decide +kernel
theorem dX7_share_119 : decode cX7_share 119 = .ok (.iload_n 2, 1) := by decide +kernel
theorem dX7_share_120 : decode cX7_share 120 = .ok (.iload 7, 2) := by decide +kernel
theorem dX7_share_122 : decode cX7_share 122 = .ok (.iconst 1, 1) := by decide +kernel
theorem dX7_share_123 : decode cX7_share 123 = .ok (.iload_n 1, 1) := by decide +kernel
theorem dX7_share_124 : decode cX7_share 124 = .ok (.ishl, 1) := by decide +kernel
theorem dX7_share_125 : decode cX7_share 125 = .ok (.ior, 1) := by decide +kernel
theorem dX7_share_126 : decode cX7_share 126 = .ok (.invokevirtual 192, 3) := by decide +kernel
theorem dX7_share_129 : decode cX7_share 129 = .ok (.isub, 1) := by decide +kernel
theorem dX7_share_130 : decode cX7_share 130 = .ok (.imul, 1) := by decide +kernel
theorem dX7_share_131 : decode cX7_share 131 = .ok (.iadd, 1) := by decide +kernel
theorem dX7_share_132 : decode cX7_share 132 = .ok (.istore 5, 2) := by decide +kernel
theorem dX7_share_134 : decode cX7_share 134 = .ok (.iinc 6 1, 3) := by decide +kernel
theorem dX7_share_137 : decode cX7_share 137 = .ok (.goto (-97), 3) := by decide +kernel
theorem dX7_share_140 : decode cX7_share 140 = .ok (.iload 5, 2) := by decide +kernel
theorem dX7_share_142 : decode cX7_share 142 = .ok (.iload 4, 2) := by decide +kernel
theorem dX7_share_144 : decode cX7_share 144 = .ok (.invokestatic 260, 3) := by decide +kernel
theorem dX7_share_147 : decode cX7_share 147 = .ok (.invokestatic 263, 3) := by decide +kernel
theorem dX7_share_150 : decode cX7_share 150 = .ok (.istore 6, 2) := by decide +kernel
theorem dX7_share_152 : decode cX7_share 152 = .ok (.iload_n 3, 1) := by decide +kernel
theorem dX7_share_153 : decode cX7_share 153 = .ok (.ifCond .eq 11, 3) := by decide +kernel
theorem dX7_share_156 : decode cX7_share 156 = .ok (.iload 5, 2) := by decide +kernel
theorem dX7_share_158 : decode cX7_share 158 = .ok (.iload 6, 2) := by decide +kernel
theorem dX7_share_160 : decode cX7_share 160 = .ok (.idiv, 1) := by decide +kernel
theorem dX7_share_161 : decode cX7_share 161 = .ok (.goto 11, 3) := by decide +kernel
theorem dX7_share_164 : decode cX7_share 164 = .ok (.iload 4, 2) := by decide +kernel
theorem dX7_share_166 : decode cX7_share 166 = .ok (.invokestatic 260, 3) := by decide +kernel
theorem dX7_share_169 : decode cX7_share 169 = .ok (.iload 6, 2) := by decide +kernel
theorem dX7_share_171 : decode cX7_share 171 = .ok (.idiv, 1) := by decide +kernel
theorem dX7_share_172 : decode cX7_share 172 = .ok (.ireturn, 1) := by decide +kernel
theorem dX7_fails_0 : decode cX7_fails 0 = .ok (.iload_n 1, 1) := by decide +kernel
theorem dX7_fails_1 : decode cX7_fails 1 = .ok (.invokestatic 118, 3) := by decide +kernel
theorem dX7_fails_4 : decode cX7_fails 4 = .ok (.ifCond .eq 17, 3) := by decide +kernel
theorem dX7_fails_7 : decode cX7_fails 7 = .ok (.iload_n 2, 1) := by decide +kernel
theorem dX7_fails_8 : decode cX7_fails 8 = .ok (.invokestatic 118, 3) := by decide +kernel
theorem dX7_fails_11 : decode cX7_fails 11 = .ok (.ifCond .eq 10, 3) := by decide +kernel
theorem dX7_fails_14 : decode cX7_fails 14 = .ok (.iload_n 3, 1) := by decide +kernel
theorem dX7_fails_15 : decode cX7_fails 15 = .ok (.invokestatic 122, 3) := by decide +kernel
theorem dX7_fails_18 : decode cX7_fails 18 = .ok (.ifCond .ne 5, 3) := by decide +kernel
theorem dX7_fails_21 : decode cX7_fails 21 = .ok (.iconst (-1), 1) := by decide +kernel
theorem dX7_fails_22 : decode cX7_fails 22 = .ok (.ireturn, 1) := by decide +kernel
theorem dX7_fails_23 : decode cX7_fails 23 = .ok (.iload 4, 2) := by decide +kernel
theorem dX7_fails_25 : decode cX7_fails 25 = .ok (.i2l, 1) := by decide +kernel
theorem dX7_fails_26 : decode cX7_fails 26 = .ok (.lconst 0, 1) := by decide +kernel
theorem dX7_fails_27 : decode cX7_fails 27 = .ok (.ldc2_w 266, 3) := by decide +kernel
theorem dX7_fails_30 : decode cX7_fails 30 = .ok (.invokestatic 58, 3) := by decide +kernel
theorem dX7_fails_33 : decode cX7_fails 33 = .ok (.ifCond .ne 6, 3) := by decide +kernel
theorem dX7_fails_36 : decode cX7_fails 36 = .ok (.bipush (-2), 2) := by decide +kernel
theorem dX7_fails_38 : decode cX7_fails 38 = .ok (.ireturn, 1) := by decide +kernel
theorem dX7_fails_39 : decode cX7_fails 39 = .ok (.aload_n 0, 1) := by decide +kernel
theorem dX7_fails_40 : decode cX7_fails 40 = .ok (.iload_n 3, 1) := by decide +kernel
theorem dX7_fails_41 : decode cX7_fails 41 = .ok (.invokevirtual 254, 3) := by decide +kernel
theorem dX7_fails_44 : decode cX7_fails 44 = .ok (.istore 6, 2) := by decide +kernel
theorem dX7_fails_46 : decode cX7_fails 46 = .ok (.iload 6, 2) := by decide +kernel
theorem dX7_fails_48 : decode cX7_fails 48 = .ok (.bipush 8, 2) := by decide +kernel
theorem dX7_fails_50 : decode cX7_fails 50 = .ok (.if_icmp .le 6, 3) := by decide +kernel
theorem dX7_fails_53 : decode cX7_fails 53 = .ok (.bipush (-4), 2) := by decide +kernel
theorem dX7_fails_55 : decode cX7_fails 55 = .ok (.ireturn, 1) := by decide +kernel
theorem dX7_fails_56 : decode cX7_fails 56 = .ok (.iconst 0, 1) := by decide +kernel
theorem dX7_fails_57 : decode cX7_fails 57 = .ok (.istore 7, 2) := by decide +kernel
theorem dX7_fails_59 : decode cX7_fails 59 = .ok (.iconst 0, 1) := by decide +kernel
theorem dX7_fails_60 : decode cX7_fails 60 = .ok (.istore 8, 2) := by decide +kernel
theorem dX7_fails_62 : decode cX7_fails 62 = .ok (.iconst 0, 1) := by decide +kernel
theorem dX7_fails_63 : decode cX7_fails 63 = .ok (.istore 9, 2) := by decide +kernel
theorem dX7_fails_65 : decode cX7_fails 65 = .ok (.iload 9, 2) := by decide +kernel
theorem dX7_fails_67 : decode cX7_fails 67 = .ok (.iconst 1, 1) := by decide +kernel
theorem dX7_fails_68 : decode cX7_fails 68 = .ok (.iload 6, 2) := by decide +kernel
theorem dX7_fails_70 : decode cX7_fails 70 = .ok (.ishl, 1) := by decide +kernel
theorem dX7_fails_71 : decode cX7_fails 71 = .ok (.if_icmp .ge 90, 3) := by decide +kernel
theorem dX7_fails_74 : decode cX7_fails 74 = .ok (.iconst 1, 1) := by decide +kernel
theorem dX7_fails_75 : decode cX7_fails 75 = .ok (.istore 10, 2) := by decide +kernel
theorem dX7_fails_77 : decode cX7_fails 77 = .ok (.iconst 0, 1) := by decide +kernel
theorem dX7_fails_78 : decode cX7_fails 78 = .ok (.istore 11, 2) := by decide +kernel
theorem dX7_fails_80 : decode cX7_fails 80 = .ok (.iload 11, 2) := by decide +kernel
theorem dX7_fails_82 : decode cX7_fails 82 = .ok (.iload 6, 2) := by decide +kernel
theorem dX7_fails_84 : decode cX7_fails 84 = .ok (.if_icmp .ge 34, 3) := by decide +kernel
theorem dX7_fails_87 : decode cX7_fails 87 = .ok (.iload 10, 2) := by decide +kernel
theorem dX7_fails_89 : decode cX7_fails 89 = .ok (.iload 9, 2) := by decide +kernel
theorem dX7_fails_91 : decode cX7_fails 91 = .ok (.iload 11, 2) := by decide +kernel
theorem dX7_fails_93 : decode cX7_fails 93 = .ok (.invokestatic 185, 3) := by decide +kernel
theorem dX7_fails_96 : decode cX7_fails 96 = .ok (.ifCond .eq 11, 3) := by decide +kernel
theorem dX7_fails_99 : decode cX7_fails 99 = .ok (.bipush 10, 2) := by decide +kernel
theorem dX7_fails_101 : decode cX7_fails 101 = .ok (.iload 4, 2) := by decide +kernel
theorem dX7_fails_103 : decode cX7_fails 103 = .ok (.isub, 1) := by decide +kernel
theorem dX7_fails_104 : decode cX7_fails 104 = .ok (.goto 5, 3) := by decide +kernel
theorem dX7_fails_107 : decode cX7_fails 107 = .ok (.iload 4, 2) := by decide +kernel
theorem dX7_fails_109 : decode cX7_fails 109 = .ok (.imul, 1) := by decide +kernel
theorem dX7_fails_110 : decode cX7_fails 110 = .ok (.istore 10, 2) := by decide +kernel
theorem dX7_fails_112 : decode cX7_fails 112 = .ok (.iinc 11 1, 3) := by decide +kernel
theorem dX7_fails_115 : decode cX7_fails 115 = .ok (.goto (-35), 3) := by decide +kernel
theorem dX7_fails_118 : decode cX7_fails 118 = .ok (.iload 8, 2) := by decide +kernel
theorem dX7_fails_120 : decode cX7_fails 120 = .ok (.iload 10, 2) := by decide +kernel
theorem dX7_fails_122 : decode cX7_fails 122 = .ok (.iadd, 1) := by decide +kernel
theorem dX7_fails_123 : decode cX7_fails 123 = .ok (.istore 8, 2) := by decide +kernel
theorem dX7_fails_125 : decode cX7_fails 125 = .ok (.iload 7, 2) := by decide +kernel
theorem dX7_fails_127 : decode cX7_fails 127 = .ok (.aload_n 0, 1) := by decide +kernel
theorem dX7_fails_128 : decode cX7_fails 128 = .ok (.iconst 0, 1) := by decide +kernel
theorem dX7_fails_129 : decode cX7_fails 129 = .ok (.iload_n 1, 1) := by decide +kernel
theorem dX7_fails_130 : decode cX7_fails 130 = .ok (.iload_n 2, 1) := by decide +kernel
theorem dX7_fails_131 : decode cX7_fails 131 = .ok (.iload_n 3, 1) := by decide +kernel
theorem dX7_fails_132 : decode cX7_fails 132 = .ok (.aload_n 0, 1) := by decide +kernel
theorem dX7_fails_133 : decode cX7_fails 133 = .ok (.iload 9, 2) := by decide +kernel
theorem dX7_fails_135 : decode cX7_fails 135 = .ok (.iload 6, 2) := by decide +kernel
theorem dX7_fails_137 : decode cX7_fails 137 = .ok (.invokevirtual 257, 3) := by decide +kernel
theorem dX7_fails_140 : decode cX7_fails 140 = .ok (.invokevirtual 223, 3) := by decide +kernel
theorem dX7_fails_143 : decode cX7_fails 143 = .ok (.ifCond .eq 8, 3) := by decide +kernel
theorem dX7_fails_146 : decode cX7_fails 146 = .ok (.iload 10, 2) := by decide +kernel
theorem dX7_fails_148 : decode cX7_fails 148 = .ok (.goto 4, 3) := by decide +kernel
theorem dX7_fails_151 : decode cX7_fails 151 = .ok (.iconst 0, 1) := by decide +kernel
theorem dX7_fails_152 : decode cX7_fails 152 = .ok (.iadd, 1) := by decide +kernel
theorem dX7_fails_153 : decode cX7_fails 153 = .ok (.istore 7, 2) := by decide +kernel
theorem dX7_fails_155 : decode cX7_fails 155 = .ok (.iinc 9 1, 3) := by decide +kernel
theorem dX7_fails_158 : decode cX7_fails 158 = .ok (.goto (-93), 3) := by decide +kernel
theorem dX7_fails_161 : decode cX7_fails 161 = .ok (.iload 7, 2) := by decide +kernel
theorem dX7_fails_163 : decode cX7_fails 163 = .ok (.iload 8, 2) := by decide +kernel
theorem dX7_fails_165 : decode cX7_fails 165 = .ok (.invokestatic 263, 3) := by decide +kernel
theorem dX7_fails_168 : decode cX7_fails 168 = .ok (.istore 9, 2) := by decide +kernel
theorem dX7_fails_170 : decode cX7_fails 170 = .ok (.iload 5, 2) := by decide +kernel
theorem dX7_fails_172 : decode cX7_fails 172 = .ok (.ifCond .eq 11, 3) := by decide +kernel
theorem dX7_fails_175 : decode cX7_fails 175 = .ok (.iload 7, 2) := by decide +kernel
theorem dX7_fails_177 : decode cX7_fails 177 = .ok (.iload 9, 2) := by decide +kernel
theorem dX7_fails_179 : decode cX7_fails 179 = .ok (.idiv, 1) := by decide +kernel
theorem dX7_fails_180 : decode cX7_fails 180 = .ok (.goto 8, 3) := by decide +kernel
theorem dX7_fails_183 : decode cX7_fails 183 = .ok (.iload 8, 2) := by decide +kernel
theorem dX7_fails_185 : decode cX7_fails 185 = .ok (.iload 9, 2) := by decide +kernel
theorem dX7_fails_187 : decode cX7_fails 187 = .ok (.idiv, 1) := by decide +kernel
theorem dX7_fails_188 : decode cX7_fails 188 = .ok (.ireturn, 1) := by decide +kernel
theorem dX7_seed_0 : decode cX7_seed 0 = .ok (.aload_n 0, 1) := by decide +kernel
theorem dX7_seed_1 : decode cX7_seed 1 = .ok (.getfield 268, 3) := by decide +kernel
theorem dX7_seed_4 : decode cX7_seed 4 = .ok (.lstore_n 3, 1) := by decide +kernel
theorem dX7_seed_5 : decode cX7_seed 5 = .ok (.aload_n 0, 1) := by decide +kernel
theorem dX7_seed_6 : decode cX7_seed 6 = .ok (.lload_n 1, 1) := by decide +kernel
theorem dX7_seed_7 : decode cX7_seed 7 = .ok (.putfield 268, 3) := by decide +kernel
theorem dX7_seed_10 : decode cX7_seed 10 = .ok (.lload_n 3, 1) := by decide +kernel
theorem dX7_seed_11 : decode cX7_seed 11 = .ok (.lreturn, 1) := by decide +kernel
theorem dX7_drawn_0 : decode cX7_drawn 0 = .ok (.iload_n 1, 1) := by decide +kernel
theorem dX7_drawn_1 : decode cX7_drawn 1 = .ok (.i2l, 1) := by decide +kernel
theorem dX7_drawn_2 : decode cX7_drawn 2 = .ok (.lconst 1, 1) := by decide +kernel
theorem dX7_drawn_3 : decode cX7_drawn 3 = .ok (.ldc2_w 272, 3) := by decide +kernel
theorem dX7_drawn_6 : decode cX7_drawn 6 = .ok (.invokestatic 58, 3) := by decide +kernel
theorem dX7_drawn_9 : decode cX7_drawn 9 = .ok (.ifCond .ne 6, 3) := by decide +kernel
theorem dX7_drawn_12 : decode cX7_drawn 12 = .ok (.bipush (-2), 2) := by decide +kernel
theorem dX7_drawn_14 : decode cX7_drawn 14 = .ok (.ireturn, 1) := by decide +kernel
theorem dX7_drawn_15 : decode cX7_drawn 15 = .ok (.aload_n 0, 1) := by decide +kernel
theorem dX7_drawn_16 : decode cX7_drawn 16 = .ok (.invokevirtual 241, 3) := by decide +kernel
theorem dX7_drawn_19 : decode cX7_drawn 19 = .ok (.iconst 0, 1) := by decide +kernel
theorem dX7_drawn_20 : decode cX7_drawn 20 = .ok (.istore_n 2, 1) := by decide +kernel
theorem dX7_drawn_21 : decode cX7_drawn 21 = .ok (.iconst 0, 1) := by decide +kernel
theorem dX7_drawn_22 : decode cX7_drawn 22 = .ok (.istore_n 3, 1) := by decide +kernel
theorem dX7_drawn_23 : decode cX7_drawn 23 = .ok (.iload_n 3, 1) := by decide +kernel
theorem dX7_drawn_24 : decode cX7_drawn 24 = .ok (.iload_n 1, 1) := by decide +kernel
theorem dX7_drawn_25 : decode cX7_drawn 25 = .ok (.if_icmp .ge 137, 3) := by decide +kernel
theorem dX7_drawn_28 : decode cX7_drawn 28 = .ok (.aload_n 0, 1) := by decide +kernel
theorem dX7_drawn_29 : decode cX7_drawn 29 = .ok (.aload_n 0, 1) := by decide +kernel
theorem dX7_drawn_30 : decode cX7_drawn 30 = .ok (.getfield 268, 3) := by decide +kernel
theorem dX7_drawn_33 : decode cX7_drawn 33 = .ok (.ldc2_w 274, 3) := by decide +kernel
theorem dX7_drawn_36 : decode cX7_drawn 36 = .ok (.lmul, 1) := by decide +kernel
theorem dX7_drawn_37 : decode cX7_drawn 37 = .ok (.ldc2_w 276, 3) := by decide +kernel
theorem dX7_drawn_40 : decode cX7_drawn 40 = .ok (.ladd, 1) := by decide +kernel
theorem dX7_drawn_41 : decode cX7_drawn 41 = .ok (.putfield 268, 3) := by decide +kernel
theorem dX7_drawn_44 : decode cX7_drawn 44 = .ok (.aload_n 0, 1) := by decide +kernel
theorem dX7_drawn_45 : decode cX7_drawn 45 = .ok (.getfield 268, 3) := by decide +kernel
theorem dX7_drawn_48 : decode cX7_drawn 48 = .ok (.bipush 33, 2) := by decide +kernel
theorem dX7_drawn_50 : decode cX7_drawn 50 = .ok (.lushr, 1) := by decide +kernel
theorem dX7_drawn_51 : decode cX7_drawn 51 = .ok (.l2i, 1) := by decide +kernel
theorem dX7_drawn_52 : decode cX7_drawn 52 = .ok (.istore 4, 2) := by decide +kernel
theorem dX7_drawn_54 : decode cX7_drawn 54 = .ok (.iload 4, 2) := by decide +kernel
theorem dX7_drawn_56 : decode cX7_drawn 56 = .ok (.bipush 64, 2) := by decide +kernel
theorem dX7_drawn_58 : decode cX7_drawn 58 = .ok (.idiv, 1) := by decide +kernel
theorem dX7_drawn_59 : decode cX7_drawn 59 = .ok (.bipush 16, 2) := by decide +kernel
theorem dX7_drawn_61 : decode cX7_drawn 61 = .ok (.irem, 1) := by decide +kernel
theorem dX7_drawn_62 : decode cX7_drawn 62 = .ok (.istore 5, 2) := by decide +kernel
theorem dX7_drawn_64 : decode cX7_drawn 64 = .ok (.iload 5, 2) := by decide +kernel
theorem dX7_drawn_66 : decode cX7_drawn 66 = .ok (.iload 4, 2) := by decide +kernel
theorem dX7_drawn_68 : decode cX7_drawn 68 = .ok (.sipush 1024, 3) := by decide +kernel
theorem dX7_drawn_71 : decode cX7_drawn 71 = .ok (.idiv, 1) := by decide +kernel
theorem dX7_drawn_72 : decode cX7_drawn 72 = .ok (.bipush 16, 2) := by decide +kernel
theorem dX7_drawn_74 : decode cX7_drawn 74 = .ok (.irem, 1) := by decide +kernel
theorem dX7_drawn_75 : decode cX7_drawn 75 = .ok (.iadd, 1) := by decide +kernel
theorem dX7_drawn_76 : decode cX7_drawn 76 = .ok (.istore 6, 2) := by decide +kernel
theorem dX7_drawn_78 : decode cX7_drawn 78 = .ok (.iload 6, 2) := by decide +kernel
theorem dX7_drawn_80 : decode cX7_drawn 80 = .ok (.bipush 15, 2) := by decide +kernel
theorem dX7_drawn_82 : decode cX7_drawn 82 = .ok (.if_icmp .le 8, 3) := by decide +kernel
theorem dX7_drawn_85 : decode cX7_drawn 85 = .ok (.bipush 15, 2) := by decide +kernel
theorem dX7_drawn_87 : decode cX7_drawn 87 = .ok (.goto 5, 3) := by decide +kernel
theorem dX7_drawn_90 : decode cX7_drawn 90 = .ok (.iload 6, 2) := by decide +kernel
theorem dX7_drawn_92 : decode cX7_drawn 92 = .ok (.istore 6, 2) := by decide +kernel
theorem dX7_drawn_94 : decode cX7_drawn 94 = .ok (.aload_n 0, 1) := by decide +kernel
theorem dX7_drawn_95 : decode cX7_drawn 95 = .ok (.iconst 1, 1) := by decide +kernel
theorem dX7_drawn_96 : decode cX7_drawn 96 = .ok (.iload 4, 2) := by decide +kernel
theorem dX7_drawn_98 : decode cX7_drawn 98 = .ok (.bipush 8, 2) := by decide +kernel
theorem dX7_drawn_100 : decode cX7_drawn 100 = .ok (.irem, 1) := by decide +kernel
theorem dX7_drawn_101 : decode cX7_drawn 101 = .ok (.iload 4, 2) := by decide +kernel
theorem dX7_drawn_103 : decode cX7_drawn 103 = .ok (.bipush 8, 2) := by decide +kernel
theorem dX7_drawn_105 : decode cX7_drawn 105 = .ok (.idiv, 1) := by decide +kernel
theorem dX7_drawn_106 : decode cX7_drawn 106 = .ok (.bipush 8, 2) := by decide +kernel
theorem dX7_drawn_108 : decode cX7_drawn 108 = .ok (.irem, 1) := by decide +kernel
theorem dX7_drawn_109 : decode cX7_drawn 109 = .ok (.iload 5, 2) := by decide +kernel
theorem dX7_drawn_111 : decode cX7_drawn 111 = .ok (.iload 6, 2) := by decide +kernel
theorem dX7_drawn_113 : decode cX7_drawn 113 = .ok (.invokevirtual 230, 3) := by decide +kernel
theorem dX7_drawn_116 : decode cX7_drawn 116 = .ok (.ifCond .eq 28, 3) := by decide +kernel
theorem dX7_drawn_119 : decode cX7_drawn 119 = .ok (.aload_n 0, 1) := by decide +kernel
theorem dX7_drawn_120 : decode cX7_drawn 120 = .ok (.iconst 1, 1) := by decide +kernel
theorem dX7_drawn_121 : decode cX7_drawn 121 = .ok (.iload 4, 2) := by decide +kernel
theorem dX7_drawn_123 : decode cX7_drawn 123 = .ok (.bipush 8, 2) := by decide +kernel
theorem dX7_drawn_125 : decode cX7_drawn 125 = .ok (.irem, 1) := by decide +kernel
theorem dX7_drawn_126 : decode cX7_drawn 126 = .ok (.iload 4, 2) := by decide +kernel
theorem dX7_drawn_128 : decode cX7_drawn 128 = .ok (.bipush 8, 2) := by decide +kernel
theorem dX7_drawn_130 : decode cX7_drawn 130 = .ok (.idiv, 1) := by decide +kernel
theorem dX7_drawn_131 : decode cX7_drawn 131 = .ok (.bipush 8, 2) := by decide +kernel
theorem dX7_drawn_133 : decode cX7_drawn 133 = .ok (.irem, 1) := by decide +kernel
theorem dX7_drawn_134 : decode cX7_drawn 134 = .ok (.iload 5, 2) := by decide +kernel
theorem dX7_drawn_136 : decode cX7_drawn 136 = .ok (.iload 6, 2) := by decide +kernel
theorem dX7_drawn_138 : decode cX7_drawn 138 = .ok (.invokestatic 95, 3) := by decide +kernel
theorem dX7_drawn_141 : decode cX7_drawn 141 = .ok (.invokevirtual 162, 3) := by decide +kernel
theorem dX7_drawn_144 : decode cX7_drawn 144 = .ok (.iload_n 2, 1) := by decide +kernel
theorem dX7_drawn_145 : decode cX7_drawn 145 = .ok (.aload_n 0, 1) := by decide +kernel
theorem dX7_drawn_146 : decode cX7_drawn 146 = .ok (.iconst 1, 1) := by decide +kernel
theorem dX7_drawn_147 : decode cX7_drawn 147 = .ok (.bipush 8, 2) := by decide +kernel
theorem dX7_drawn_149 : decode cX7_drawn 149 = .ok (.ldc 191, 2) := by decide +kernel
theorem dX7_drawn_151 : decode cX7_drawn 151 = .ok (.invokevirtual 192, 3) := by decide +kernel
theorem dX7_drawn_154 : decode cX7_drawn 154 = .ok (.iadd, 1) := by decide +kernel
theorem dX7_drawn_155 : decode cX7_drawn 155 = .ok (.istore_n 2, 1) := by decide +kernel
theorem dX7_drawn_156 : decode cX7_drawn 156 = .ok (.iinc 3 1, 3) := by decide +kernel
theorem dX7_drawn_159 : decode cX7_drawn 159 = .ok (.goto (-136), 3) := by decide +kernel
theorem dX7_drawn_162 : decode cX7_drawn 162 = .ok (.iload_n 2, 1) := by decide +kernel
theorem dX7_drawn_163 : decode cX7_drawn 163 = .ok (.ireturn, 1) := by decide +kernel
theorem dX7_keep_0 : decode cX7_keep 0 = .ok (.iload_n 1, 1) := by decide +kernel
theorem dX7_keep_1 : decode cX7_keep 1 = .ok (.i2l, 1) := by decide +kernel
theorem dX7_keep_2 : decode cX7_keep 2 = .ok (.lconst 0, 1) := by decide +kernel
theorem dX7_keep_3 : decode cX7_keep 3 = .ok (.lconst 1, 1) := by decide +kernel
theorem dX7_keep_4 : decode cX7_keep 4 = .ok (.invokestatic 58, 3) := by decide +kernel
theorem dX7_keep_7 : decode cX7_keep 7 = .ok (.ifCond .ne 5, 3) := by decide +kernel
theorem dX7_keep_10 : decode cX7_keep 10 = .ok (.iconst (-1), 1) := by decide +kernel
theorem dX7_keep_11 : decode cX7_keep 11 = .ok (.ireturn, 1) := by decide +kernel
theorem dX7_keep_12 : decode cX7_keep 12 = .ok (.aload_n 0, 1) := by decide +kernel
theorem dX7_keep_13 : decode cX7_keep 13 = .ok (.getfield 49, 3) := by decide +kernel
theorem dX7_keep_16 : decode cX7_keep 16 = .ok (.iload_n 1, 1) := by decide +kernel
theorem dX7_keep_17 : decode cX7_keep 17 = .ok (.iconst 1, 1) := by decide +kernel
theorem dX7_keep_18 : decode cX7_keep 18 = .ok (.bastore, 1) := by decide +kernel
theorem dX7_keep_19 : decode cX7_keep 19 = .ok (.iconst 0, 1) := by decide +kernel
theorem dX7_keep_20 : decode cX7_keep 20 = .ok (.istore_n 2, 1) := by decide +kernel
theorem dX7_keep_21 : decode cX7_keep 21 = .ok (.iload_n 2, 1) := by decide +kernel
theorem dX7_keep_22 : decode cX7_keep 22 = .ok (.bipush 17, 2) := by decide +kernel
theorem dX7_keep_24 : decode cX7_keep 24 = .ok (.if_icmp .ge 26, 3) := by decide +kernel
theorem dX7_keep_27 : decode cX7_keep 27 = .ok (.aload_n 0, 1) := by decide +kernel
theorem dX7_keep_28 : decode cX7_keep 28 = .ok (.getfield 53, 3) := by decide +kernel
theorem dX7_keep_31 : decode cX7_keep 31 = .ok (.bipush 17, 2) := by decide +kernel
theorem dX7_keep_33 : decode cX7_keep 33 = .ok (.iload_n 1, 1) := by decide +kernel
theorem dX7_keep_34 : decode cX7_keep 34 = .ok (.imul, 1) := by decide +kernel
theorem dX7_keep_35 : decode cX7_keep 35 = .ok (.iload_n 2, 1) := by decide +kernel
theorem dX7_keep_36 : decode cX7_keep 36 = .ok (.iadd, 1) := by decide +kernel
theorem dX7_keep_37 : decode cX7_keep 37 = .ok (.aload_n 0, 1) := by decide +kernel
theorem dX7_keep_38 : decode cX7_keep 38 = .ok (.getfield 7, 3) := by decide +kernel
theorem dX7_keep_41 : decode cX7_keep 41 = .ok (.iload_n 2, 1) := by decide +kernel
theorem dX7_keep_42 : decode cX7_keep 42 = .ok (.iaload, 1) := by decide +kernel
theorem dX7_keep_43 : decode cX7_keep 43 = .ok (.iastore, 1) := by decide +kernel
theorem dX7_keep_44 : decode cX7_keep 44 = .ok (.iinc 2 1, 3) := by decide +kernel
theorem dX7_keep_47 : decode cX7_keep 47 = .ok (.goto (-26), 3) := by decide +kernel
theorem dX7_keep_50 : decode cX7_keep 50 = .ok (.aload_n 0, 1) := by decide +kernel
theorem dX7_keep_51 : decode cX7_keep 51 = .ok (.iconst 0, 1) := by decide +kernel
theorem dX7_keep_52 : decode cX7_keep 52 = .ok (.invokevirtual 105, 3) := by decide +kernel
theorem dX7_keep_55 : decode cX7_keep 55 = .ok (.ireturn, 1) := by decide +kernel
theorem dX7_again_0 : decode cX7_again 0 = .ok (.iload_n 1, 1) := by decide +kernel
theorem dX7_again_1 : decode cX7_again 1 = .ok (.i2l, 1) := by decide +kernel
theorem dX7_again_2 : decode cX7_again 2 = .ok (.lconst 0, 1) := by decide +kernel
theorem dX7_again_3 : decode cX7_again 3 = .ok (.lconst 1, 1) := by decide +kernel
theorem dX7_again_4 : decode cX7_again 4 = .ok (.invokestatic 58, 3) := by decide +kernel
theorem dX7_again_7 : decode cX7_again 7 = .ok (.ifCond .ne 5, 3) := by decide +kernel
theorem dX7_again_10 : decode cX7_again 10 = .ok (.iconst (-1), 1) := by decide +kernel
theorem dX7_again_11 : decode cX7_again 11 = .ok (.ireturn, 1) := by decide +kernel
theorem dX7_again_12 : decode cX7_again 12 = .ok (.aload_n 0, 1) := by decide +kernel
theorem dX7_again_13 : decode cX7_again 13 = .ok (.getfield 49, 3) := by decide +kernel
theorem dX7_again_16 : decode cX7_again 16 = .ok (.iload_n 1, 1) := by decide +kernel
theorem dX7_again_17 : decode cX7_again 17 = .ok (.baload, 1) := by decide +kernel
theorem dX7_again_18 : decode cX7_again 18 = .ok (.ifCond .ne 6, 3) := by decide +kernel
theorem dX7_again_21 : decode cX7_again 21 = .ok (.bipush (-3), 2) := by decide +kernel
theorem dX7_again_23 : decode cX7_again 23 = .ok (.ireturn, 1) := by decide +kernel
theorem dX7_again_24 : decode cX7_again 24 = .ok (.iconst 0, 1) := by decide +kernel
theorem dX7_again_25 : decode cX7_again 25 = .ok (.istore_n 2, 1) := by decide +kernel
theorem dX7_again_26 : decode cX7_again 26 = .ok (.iload_n 2, 1) := by decide +kernel
theorem dX7_again_27 : decode cX7_again 27 = .ok (.bipush 17, 2) := by decide +kernel
theorem dX7_again_29 : decode cX7_again 29 = .ok (.if_icmp .ge 26, 3) := by decide +kernel
theorem dX7_again_32 : decode cX7_again 32 = .ok (.aload_n 0, 1) := by decide +kernel
theorem dX7_again_33 : decode cX7_again 33 = .ok (.getfield 7, 3) := by decide +kernel
theorem dX7_again_36 : decode cX7_again 36 = .ok (.iload_n 2, 1) := by decide +kernel
theorem dX7_again_37 : decode cX7_again 37 = .ok (.aload_n 0, 1) := by decide +kernel
theorem dX7_again_38 : decode cX7_again 38 = .ok (.getfield 53, 3) := by decide +kernel
theorem dX7_again_41 : decode cX7_again 41 = .ok (.bipush 17, 2) := by decide +kernel
theorem dX7_again_43 : decode cX7_again 43 = .ok (.iload_n 1, 1) := by decide +kernel
theorem dX7_again_44 : decode cX7_again 44 = .ok (.imul, 1) := by decide +kernel
theorem dX7_again_45 : decode cX7_again 45 = .ok (.iload_n 2, 1) := by decide +kernel
theorem dX7_again_46 : decode cX7_again 46 = .ok (.iadd, 1) := by decide +kernel
theorem dX7_again_47 : decode cX7_again 47 = .ok (.iaload, 1) := by decide +kernel
theorem dX7_again_48 : decode cX7_again 48 = .ok (.iastore, 1) := by decide +kernel
theorem dX7_again_49 : decode cX7_again 49 = .ok (.iinc 2 1, 3) := by decide +kernel
theorem dX7_again_52 : decode cX7_again 52 = .ok (.goto (-26), 3) := by decide +kernel
theorem dX7_again_55 : decode cX7_again 55 = .ok (.aload_n 0, 1) := by decide +kernel
theorem dX7_again_56 : decode cX7_again 56 = .ok (.iconst 0, 1) := by decide +kernel
theorem dX7_again_57 : decode cX7_again 57 = .ok (.putfield 102, 3) := by decide +kernel
theorem dX7_again_60 : decode cX7_again 60 = .ok (.aload_n 0, 1) := by decide +kernel
theorem dX7_again_61 : decode cX7_again 61 = .ok (.iconst 0, 1) := by decide +kernel
theorem dX7_again_62 : decode cX7_again 62 = .ok (.invokevirtual 105, 3) := by decide +kernel
theorem dX7_again_65 : decode cX7_again 65 = .ok (.ireturn, 1) := by decide +kernel
theorem dX7_filledTimes_0 : decode cX7_filledTimes 0 = .ok (.iconst 0, 1) := by decide +kernel
theorem dX7_filledTimes_1 : decode cX7_filledTimes 1 = .ok (.istore_n 1, 1) := by decide +kernel
theorem dX7_filledTimes_2 : decode cX7_filledTimes 2 = .ok (.iconst 0, 1) := by decide +kernel
theorem dX7_filledTimes_3 : decode cX7_filledTimes 3 = .ok (.istore_n 2, 1) := by decide +kernel
theorem dX7_filledTimes_4 : decode cX7_filledTimes 4 = .ok (.iload_n 2, 1) := by decide +kernel
theorem dX7_filledTimes_5 : decode cX7_filledTimes 5 = .ok (.bipush 16, 2) := by decide +kernel
theorem dX7_filledTimes_7 : decode cX7_filledTimes 7 = .ok (.if_icmp .ge 27, 3) := by decide +kernel
theorem dX7_filledTimes_10 : decode cX7_filledTimes 10 = .ok (.iload_n 1, 1) := by decide +kernel
theorem dX7_filledTimes_11 : decode cX7_filledTimes 11 = .ok (.aload_n 0, 1) := by decide +kernel
theorem dX7_filledTimes_12 : decode cX7_filledTimes 12 = .ok (.iload_n 2, 1) := by decide +kernel
theorem dX7_filledTimes_13 : decode cX7_filledTimes 13 = .ok (.invokevirtual 209, 3) := by decide +kernel
theorem dX7_filledTimes_16 : decode cX7_filledTimes 16 = .ok (.ifCond .ne 7, 3) := by decide +kernel
theorem dX7_filledTimes_19 : decode cX7_filledTimes 19 = .ok (.iconst 0, 1) := by decide +kernel
theorem dX7_filledTimes_20 : decode cX7_filledTimes 20 = .ok (.goto 6, 3) := by decide +kernel
theorem dX7_filledTimes_23 : decode cX7_filledTimes 23 = .ok (.iconst 1, 1) := by decide +kernel
theorem dX7_filledTimes_24 : decode cX7_filledTimes 24 = .ok (.iload_n 2, 1) := by decide +kernel
theorem dX7_filledTimes_25 : decode cX7_filledTimes 25 = .ok (.ishl, 1) := by decide +kernel
theorem dX7_filledTimes_26 : decode cX7_filledTimes 26 = .ok (.ior, 1) := by decide +kernel
theorem dX7_filledTimes_27 : decode cX7_filledTimes 27 = .ok (.istore_n 1, 1) := by decide +kernel
theorem dX7_filledTimes_28 : decode cX7_filledTimes 28 = .ok (.iinc 2 1, 3) := by decide +kernel
theorem dX7_filledTimes_31 : decode cX7_filledTimes 31 = .ok (.goto (-27), 3) := by decide +kernel
theorem dX7_filledTimes_34 : decode cX7_filledTimes 34 = .ok (.iload_n 1, 1) := by decide +kernel
theorem dX7_filledTimes_35 : decode cX7_filledTimes 35 = .ok (.ireturn, 1) := by decide +kernel
theorem dX7_timesTogether_0 : decode cX7_timesTogether 0 = .ok (.iconst 0, 1) := by decide +kernel
theorem dX7_timesTogether_1 : decode cX7_timesTogether 1 = .ok (.istore_n 1, 1) := by decide +kernel
theorem dX7_timesTogether_2 : decode cX7_timesTogether 2 = .ok (.iconst 0, 1) := by decide +kernel
theorem dX7_timesTogether_3 : decode cX7_timesTogether 3 = .ok (.istore_n 2, 1) := by decide +kernel
theorem dX7_timesTogether_4 : decode cX7_timesTogether 4 = .ok (.iload_n 2, 1) := by decide +kernel
theorem dX7_timesTogether_5 : decode cX7_timesTogether 5 = .ok (.aload_n 0, 1) := by decide +kernel
theorem dX7_timesTogether_6 : decode cX7_timesTogether 6 = .ok (.iconst 0, 1) := by decide +kernel
theorem dX7_timesTogether_7 : decode cX7_timesTogether 7 = .ok (.invokevirtual 105, 3) := by decide +kernel
theorem dX7_timesTogether_10 : decode cX7_timesTogether 10 = .ok (.if_icmp .ge 33, 3) := by decide +kernel
theorem dX7_timesTogether_13 : decode cX7_timesTogether 13 = .ok (.iload_n 1, 1) := by decide +kernel
theorem dX7_timesTogether_14 : decode cX7_timesTogether 14 = .ok (.aload_n 0, 1) := by decide +kernel
theorem dX7_timesTogether_15 : decode cX7_timesTogether 15 = .ok (.iconst 0, 1) := by decide +kernel
theorem dX7_timesTogether_16 : decode cX7_timesTogether 16 = .ok (.iload_n 2, 1) := by decide +kernel
theorem dX7_timesTogether_17 : decode cX7_timesTogether 17 = .ok (.invokevirtual 108, 3) := by decide +kernel
theorem dX7_timesTogether_20 : decode cX7_timesTogether 20 = .ok (.invokestatic 68, 3) := by decide +kernel
theorem dX7_timesTogether_23 : decode cX7_timesTogether 23 = .ok (.aload_n 0, 1) := by decide +kernel
theorem dX7_timesTogether_24 : decode cX7_timesTogether 24 = .ok (.iconst 0, 1) := by decide +kernel
theorem dX7_timesTogether_25 : decode cX7_timesTogether 25 = .ok (.iload_n 2, 1) := by decide +kernel
theorem dX7_timesTogether_26 : decode cX7_timesTogether 26 = .ok (.invokevirtual 108, 3) := by decide +kernel
theorem dX7_timesTogether_29 : decode cX7_timesTogether 29 = .ok (.invokestatic 64, 3) := by decide +kernel
theorem dX7_timesTogether_32 : decode cX7_timesTogether 32 = .ok (.isub, 1) := by decide +kernel
theorem dX7_timesTogether_33 : decode cX7_timesTogether 33 = .ok (.iconst 1, 1) := by decide +kernel
theorem dX7_timesTogether_34 : decode cX7_timesTogether 34 = .ok (.iadd, 1) := by decide +kernel
theorem dX7_timesTogether_35 : decode cX7_timesTogether 35 = .ok (.iadd, 1) := by decide +kernel
theorem dX7_timesTogether_36 : decode cX7_timesTogether 36 = .ok (.istore_n 1, 1) := by decide +kernel
theorem dX7_timesTogether_37 : decode cX7_timesTogether 37 = .ok (.iinc 2 1, 3) := by decide +kernel
theorem dX7_timesTogether_40 : decode cX7_timesTogether 40 = .ok (.goto (-36), 3) := by decide +kernel
theorem dX7_timesTogether_43 : decode cX7_timesTogether 43 = .ok (.iload_n 1, 1) := by decide +kernel
theorem dX7_timesTogether_44 : decode cX7_timesTogether 44 = .ok (.ireturn, 1) := by decide +kernel
theorem dX7_count_0 : decode cX7_count 0 = .ok (.iload_n 1, 1) := by decide +kernel
theorem dX7_count_1 : decode cX7_count 1 = .ok (.tableswitch 70 0 5 #[39, 44, 50, 55, 60, 65], 39) := by decide +kernel
theorem dX7_count_40 : decode cX7_count 40 = .ok (.aload_n 0, 1) := by decide +kernel
theorem dX7_count_41 : decode cX7_count 41 = .ok (.getfield 73, 3) := by decide +kernel
theorem dX7_count_44 : decode cX7_count 44 = .ok (.ireturn, 1) := by decide +kernel
theorem dX7_count_45 : decode cX7_count 45 = .ok (.aload_n 0, 1) := by decide +kernel
theorem dX7_count_46 : decode cX7_count 46 = .ok (.iconst 0, 1) := by decide +kernel
theorem dX7_count_47 : decode cX7_count 47 = .ok (.invokevirtual 105, 3) := by decide +kernel
theorem dX7_count_50 : decode cX7_count 50 = .ok (.ireturn, 1) := by decide +kernel
theorem dX7_count_51 : decode cX7_count 51 = .ok (.aload_n 0, 1) := by decide +kernel
theorem dX7_count_52 : decode cX7_count 52 = .ok (.invokevirtual 278, 3) := by decide +kernel
theorem dX7_count_55 : decode cX7_count 55 = .ok (.ireturn, 1) := by decide +kernel
theorem dX7_count_56 : decode cX7_count 56 = .ok (.aload_n 0, 1) := by decide +kernel
theorem dX7_count_57 : decode cX7_count 57 = .ok (.invokevirtual 281, 3) := by decide +kernel
theorem dX7_count_60 : decode cX7_count 60 = .ok (.ireturn, 1) := by decide +kernel
theorem dX7_count_61 : decode cX7_count 61 = .ok (.aload_n 0, 1) := by decide +kernel
theorem dX7_count_62 : decode cX7_count 62 = .ok (.getfield 102, 3) := by decide +kernel
theorem dX7_count_65 : decode cX7_count 65 = .ok (.ireturn, 1) := by decide +kernel
theorem dX7_count_66 : decode cX7_count 66 = .ok (.aload_n 0, 1) := by decide +kernel
theorem dX7_count_67 : decode cX7_count 67 = .ok (.getfield 247, 3) := by decide +kernel
theorem dX7_count_70 : decode cX7_count 70 = .ok (.ireturn, 1) := by decide +kernel
theorem dX7_count_71 : decode cX7_count 71 = .ok (.bipush (-2), 2) := by decide +kernel
theorem dX7_count_73 : decode cX7_count 73 = .ok (.ireturn, 1) := by decide +kernel
