theorem dX0_init_0 : decode cX0_init 0 = .ok (.aload_n 0, 1) := by decide +kernel
theorem dX0_init_1 : decode cX0_init 1 = .ok (.invokespecial 3, 3) := by decide +kernel
theorem dX0_init_4 : decode cX0_init 4 = .ok (.aload_n 0, 1) := by decide +kernel
theorem dX0_init_5 : decode cX0_init 5 = .ok (.bipush 14, 2) := by decide +kernel
theorem dX0_init_7 : decode cX0_init 7 = .ok (.anewarray 9, 3) := by decide +kernel
theorem dX0_init_10 : decode cX0_init 10 = .ok (.putfield 11, 3) := by decide +kernel
theorem dX0_init_13 : decode cX0_init 13 = .ok (.iconst 0, 1) := by decide +kernel
theorem dX0_init_14 : decode cX0_init 14 = .ok (.istore_n 1, 1) := by decide +kernel
theorem dX0_init_15 : decode cX0_init 15 = .ok (.iload_n 1, 1) := by decide +kernel
theorem dX0_init_16 : decode cX0_init 16 = .ok (.bipush 14, 2) := by decide +kernel
theorem dX0_init_18 : decode cX0_init 18 = .ok (.if_icmp .ge 22, 3) := by decide +kernel
theorem dX0_init_21 : decode cX0_init 21 = .ok (.aload_n 0, 1) := by decide +kernel
theorem dX0_init_22 : decode cX0_init 22 = .ok (.getfield 11, 3) := by decide +kernel
theorem dX0_init_25 : decode cX0_init 25 = .ok (.iload_n 1, 1) := by decide +kernel
theorem dX0_init_26 : decode cX0_init 26 = .ok (.new 9, 3) := by decide +kernel
theorem dX0_init_29 : decode cX0_init 29 = .ok (.dup, 1) := by decide +kernel
theorem dX0_init_30 : decode cX0_init 30 = .ok (.invokespecial 17, 3) := by decide +kernel
theorem dX0_init_33 : decode cX0_init 33 = .ok (.aastore, 1) := by decide +kernel
theorem dX0_init_34 : decode cX0_init 34 = .ok (.iinc 1 1, 3) := by decide +kernel
theorem dX0_init_37 : decode cX0_init 37 = .ok (.goto (-22), 3) := by decide +kernel
theorem dX0_init_40 : decode cX0_init 40 = .ok (.return_, 1) := by decide +kernel
theorem dX0_remember_0 : decode cX0_remember 0 = .ok (.aload_n 0, 1) := by decide +kernel
theorem dX0_remember_1 : decode cX0_remember 1 = .ok (.getfield 18, 3) := by decide +kernel
theorem dX0_remember_4 : decode cX0_remember 4 = .ok (.bipush 14, 2) := by decide +kernel
theorem dX0_remember_6 : decode cX0_remember 6 = .ok (.if_icmp .lt 7, 3) := by decide +kernel
theorem dX0_remember_9 : decode cX0_remember 9 = .ok (.aload_n 0, 1) := by decide +kernel
theorem dX0_remember_10 : decode cX0_remember 10 = .ok (.invokevirtual 22, 3) := by decide +kernel
theorem dX0_remember_13 : decode cX0_remember 13 = .ok (.aload_n 0, 1) := by decide +kernel
theorem dX0_remember_14 : decode cX0_remember 14 = .ok (.getfield 11, 3) := by decide +kernel
theorem dX0_remember_17 : decode cX0_remember 17 = .ok (.aload_n 0, 1) := by decide +kernel
theorem dX0_remember_18 : decode cX0_remember 18 = .ok (.getfield 18, 3) := by decide +kernel
theorem dX0_remember_21 : decode cX0_remember 21 = .ok (.aaload, 1) := by decide +kernel
theorem dX0_remember_22 : decode cX0_remember 22 = .ok (.aload_n 1, 1) := by decide +kernel
theorem dX0_remember_23 : decode cX0_remember 23 = .ok (.invokevirtual 25, 3) := by decide +kernel
theorem dX0_remember_26 : decode cX0_remember 26 = .ok (.aload_n 0, 1) := by decide +kernel
theorem dX0_remember_27 : decode cX0_remember 27 = .ok (.dup, 1) := by decide +kernel
theorem dX0_remember_28 : decode cX0_remember 28 = .ok (.getfield 18, 3) := by decide +kernel
theorem dX0_remember_31 : decode cX0_remember 31 = .ok (.iconst 1, 1) := by decide +kernel
theorem dX0_remember_32 : decode cX0_remember 32 = .ok (.iadd, 1) := by decide +kernel
theorem dX0_remember_33 : decode cX0_remember 33 = .ok (.putfield 18, 3) := by decide +kernel
theorem dX0_remember_36 : decode cX0_remember 36 = .ok (.return_, 1) := by decide +kernel
theorem dX0_forgetFirst_0 : decode cX0_forgetFirst 0 = .ok (.aload_n 0, 1) := by decide +kernel
theorem dX0_forgetFirst_1 : decode cX0_forgetFirst 1 = .ok (.getfield 11, 3) := by decide +kernel
theorem dX0_forgetFirst_4 : decode cX0_forgetFirst 4 = .ok (.iconst 0, 1) := by decide +kernel
theorem dX0_forgetFirst_5 : decode cX0_forgetFirst 5 = .ok (.aaload, 1) := by decide +kernel
theorem dX0_forgetFirst_6 : decode cX0_forgetFirst 6 = .ok (.astore_n 1, 1) := by decide +kernel
theorem dX0_forgetFirst_7 : decode cX0_forgetFirst 7 = .ok (.iconst 1, 1) := by decide +kernel
theorem dX0_forgetFirst_8 : decode cX0_forgetFirst 8 = .ok (.istore_n 2, 1) := by decide +kernel
theorem dX0_forgetFirst_9 : decode cX0_forgetFirst 9 = .ok (.iload_n 2, 1) := by decide +kernel
theorem dX0_forgetFirst_10 : decode cX0_forgetFirst 10 = .ok (.bipush 14, 2) := by decide +kernel
theorem dX0_forgetFirst_12 : decode cX0_forgetFirst 12 = .ok (.if_icmp .ge 23, 3) := by decide +kernel
theorem dX0_forgetFirst_15 : decode cX0_forgetFirst 15 = .ok (.aload_n 0, 1) := by decide +kernel
theorem dX0_forgetFirst_16 : decode cX0_forgetFirst 16 = .ok (.getfield 11, 3) := by decide +kernel
theorem dX0_forgetFirst_19 : decode cX0_forgetFirst 19 = .ok (.iload_n 2, 1) := by decide +kernel
theorem dX0_forgetFirst_20 : decode cX0_forgetFirst 20 = .ok (.iconst 1, 1) := by decide +kernel
theorem dX0_forgetFirst_21 : decode cX0_forgetFirst 21 = .ok (.isub, 1) := by decide +kernel
theorem dX0_forgetFirst_22 : decode cX0_forgetFirst 22 = .ok (.aload_n 0, 1) := by decide +kernel
theorem dX0_forgetFirst_23 : decode cX0_forgetFirst 23 = .ok (.getfield 11, 3) := by decide +kernel
theorem dX0_forgetFirst_26 : decode cX0_forgetFirst 26 = .ok (.iload_n 2, 1) := by decide +kernel
theorem dX0_forgetFirst_27 : decode cX0_forgetFirst 27 = .ok (.aaload, 1) := by decide +kernel
theorem dX0_forgetFirst_28 : decode cX0_forgetFirst 28 = .ok (.aastore, 1) := by decide +kernel
theorem dX0_forgetFirst_29 : decode cX0_forgetFirst 29 = .ok (.iinc 2 1, 3) := by decide +kernel
theorem dX0_forgetFirst_32 : decode cX0_forgetFirst 32 = .ok (.goto (-23), 3) := by decide +kernel
theorem dX0_forgetFirst_35 : decode cX0_forgetFirst 35 = .ok (.aload_n 0, 1) := by decide +kernel
theorem dX0_forgetFirst_36 : decode cX0_forgetFirst 36 = .ok (.getfield 11, 3) := by decide +kernel
theorem dX0_forgetFirst_39 : decode cX0_forgetFirst 39 = .ok (.bipush 13, 2) := by decide +kernel
theorem dX0_forgetFirst_41 : decode cX0_forgetFirst 41 = .ok (.aload_n 1, 1) := by decide +kernel
theorem dX0_forgetFirst_42 : decode cX0_forgetFirst 42 = .ok (.aastore, 1) := by decide +kernel
theorem dX0_forgetFirst_43 : decode cX0_forgetFirst 43 = .ok (.aload_n 0, 1) := by decide +kernel
theorem dX0_forgetFirst_44 : decode cX0_forgetFirst 44 = .ok (.bipush 13, 2) := by decide +kernel
theorem dX0_forgetFirst_46 : decode cX0_forgetFirst 46 = .ok (.putfield 18, 3) := by decide +kernel
theorem dX0_forgetFirst_49 : decode cX0_forgetFirst 49 = .ok (.return_, 1) := by decide +kernel
theorem dX0_takeBackLast_0 : decode cX0_takeBackLast 0 = .ok (.aload_n 0, 1) := by decide +kernel
theorem dX0_takeBackLast_1 : decode cX0_takeBackLast 1 = .ok (.getfield 18, 3) := by decide +kernel
theorem dX0_takeBackLast_4 : decode cX0_takeBackLast 4 = .ok (.ifCond .le 26, 3) := by decide +kernel
theorem dX0_takeBackLast_7 : decode cX0_takeBackLast 7 = .ok (.aload_n 0, 1) := by decide +kernel
theorem dX0_takeBackLast_8 : decode cX0_takeBackLast 8 = .ok (.dup, 1) := by decide +kernel
theorem dX0_takeBackLast_9 : decode cX0_takeBackLast 9 = .ok (.getfield 18, 3) := by decide +kernel
theorem dX0_takeBackLast_12 : decode cX0_takeBackLast 12 = .ok (.iconst 1, 1) := by decide +kernel
theorem dX0_takeBackLast_13 : decode cX0_takeBackLast 13 = .ok (.isub, 1) := by decide +kernel
theorem dX0_takeBackLast_14 : decode cX0_takeBackLast 14 = .ok (.putfield 18, 3) := by decide +kernel
theorem dX0_takeBackLast_17 : decode cX0_takeBackLast 17 = .ok (.aload_n 1, 1) := by decide +kernel
theorem dX0_takeBackLast_18 : decode cX0_takeBackLast 18 = .ok (.aload_n 0, 1) := by decide +kernel
theorem dX0_takeBackLast_19 : decode cX0_takeBackLast 19 = .ok (.getfield 11, 3) := by decide +kernel
theorem dX0_takeBackLast_22 : decode cX0_takeBackLast 22 = .ok (.aload_n 0, 1) := by decide +kernel
theorem dX0_takeBackLast_23 : decode cX0_takeBackLast 23 = .ok (.getfield 18, 3) := by decide +kernel
theorem dX0_takeBackLast_26 : decode cX0_takeBackLast 26 = .ok (.aaload, 1) := by decide +kernel
theorem dX0_takeBackLast_27 : decode cX0_takeBackLast 27 = .ok (.invokevirtual 25, 3) := by decide +kernel
theorem dX0_takeBackLast_30 : decode cX0_takeBackLast 30 = .ok (.return_, 1) := by decide +kernel
theorem dX1_init_0 : decode cX1_init 0 = .ok (.aload_n 0, 1) := by decide +kernel
theorem dX1_init_1 : decode cX1_init 1 = .ok (.invokespecial 3, 3) := by decide +kernel
theorem dX1_init_4 : decode cX1_init 4 = .ok (.aload_n 0, 1) := by decide +kernel
theorem dX1_init_5 : decode cX1_init 5 = .ok (.bipush 16, 2) := by decide +kernel
theorem dX1_init_7 : decode cX1_init 7 = .ok (.newarray .int, 2) := by decide +kernel
theorem dX1_init_9 : decode cX1_init 9 = .ok (.putfield 9, 3) := by decide +kernel
theorem dX1_init_12 : decode cX1_init 12 = .ok (.aload_n 0, 1) := by decide +kernel
theorem dX1_init_13 : decode cX1_init 13 = .ok (.bipush 16, 2) := by decide +kernel
theorem dX1_init_15 : decode cX1_init 15 = .ok (.newarray .int, 2) := by decide +kernel
theorem dX1_init_17 : decode cX1_init 17 = .ok (.putfield 15, 3) := by decide +kernel
theorem dX1_init_20 : decode cX1_init 20 = .ok (.aload_n 0, 1) := by decide +kernel
theorem dX1_init_21 : decode cX1_init 21 = .ok (.bipush 16, 2) := by decide +kernel
theorem dX1_init_23 : decode cX1_init 23 = .ok (.newarray .int, 2) := by decide +kernel
theorem dX1_init_25 : decode cX1_init 25 = .ok (.putfield 18, 3) := by decide +kernel
theorem dX1_init_28 : decode cX1_init 28 = .ok (.aload_n 0, 1) := by decide +kernel
theorem dX1_init_29 : decode cX1_init 29 = .ok (.bipush 16, 2) := by decide +kernel
theorem dX1_init_31 : decode cX1_init 31 = .ok (.newarray .int, 2) := by decide +kernel
theorem dX1_init_33 : decode cX1_init 33 = .ok (.putfield 21, 3) := by decide +kernel
theorem dX1_init_36 : decode cX1_init 36 = .ok (.return_, 1) := by decide +kernel
theorem dX1_gather_0 : decode cX1_gather 0 = .ok (.aload_n 0, 1) := by decide +kernel
theorem dX1_gather_1 : decode cX1_gather 1 = .ok (.iconst 0, 1) := by decide +kernel
theorem dX1_gather_2 : decode cX1_gather 2 = .ok (.putfield 24, 3) := by decide +kernel
theorem dX1_gather_5 : decode cX1_gather 5 = .ok (.iconst 0, 1) := by decide +kernel
theorem dX1_gather_6 : decode cX1_gather 6 = .ok (.istore_n 3, 1) := by decide +kernel
theorem dX1_gather_7 : decode cX1_gather 7 = .ok (.iload_n 3, 1) := by decide +kernel
theorem dX1_gather_8 : decode cX1_gather 8 = .ok (.aload_n 1, 1) := by decide +kernel
theorem dX1_gather_9 : decode cX1_gather 9 = .ok (.getfield 28, 3) := by decide +kernel
theorem dX1_gather_12 : decode cX1_gather 12 = .ok (.if_icmp .ge 94, 3) := by decide +kernel
theorem dX1_gather_15 : decode cX1_gather 15 = .ok (.aload_n 1, 1) := by decide +kernel
theorem dX1_gather_16 : decode cX1_gather 16 = .ok (.iload_n 3, 1) := by decide +kernel
theorem dX1_gather_17 : decode cX1_gather 17 = .ok (.iload_n 2, 1) := by decide +kernel
theorem dX1_gather_18 : decode cX1_gather 18 = .ok (.invokevirtual 31, 3) := by decide +kernel
theorem dX1_gather_21 : decode cX1_gather 21 = .ok (.ifCond .eq 79, 3) := by decide +kernel
theorem dX1_gather_24 : decode cX1_gather 24 = .ok (.aload_n 0, 1) := by decide +kernel
theorem dX1_gather_25 : decode cX1_gather 25 = .ok (.getfield 9, 3) := by decide +kernel
theorem dX1_gather_28 : decode cX1_gather 28 = .ok (.aload_n 0, 1) := by decide +kernel
theorem dX1_gather_29 : decode cX1_gather 29 = .ok (.getfield 24, 3) := by decide +kernel
theorem dX1_gather_32 : decode cX1_gather 32 = .ok (.iload_n 3, 1) := by decide +kernel
theorem dX1_gather_33 : decode cX1_gather 33 = .ok (.iastore, 1) := by decide +kernel
theorem dX1_gather_34 : decode cX1_gather 34 = .ok (.aload_n 0, 1) := by decide +kernel
theorem dX1_gather_35 : decode cX1_gather 35 = .ok (.getfield 15, 3) := by decide +kernel
theorem dX1_gather_38 : decode cX1_gather 38 = .ok (.aload_n 0, 1) := by decide +kernel
theorem dX1_gather_39 : decode cX1_gather 39 = .ok (.getfield 24, 3) := by decide +kernel
theorem dX1_gather_42 : decode cX1_gather 42 = .ok (.aload_n 1, 1) := by decide +kernel
theorem dX1_gather_43 : decode cX1_gather 43 = .ok (.getfield 35, 3) := by decide +kernel
theorem dX1_gather_46 : decode cX1_gather 46 = .ok (.iload_n 3, 1) := by decide +kernel
theorem dX1_gather_47 : decode cX1_gather 47 = .ok (.iaload, 1) := by decide +kernel
theorem dX1_gather_48 : decode cX1_gather 48 = .ok (.iastore, 1) := by decide +kernel
theorem dX1_gather_49 : decode cX1_gather 49 = .ok (.aload_n 0, 1) := by decide +kernel
theorem dX1_gather_50 : decode cX1_gather 50 = .ok (.getfield 18, 3) := by decide +kernel
theorem dX1_gather_53 : decode cX1_gather 53 = .ok (.aload_n 0, 1) := by decide +kernel
theorem dX1_gather_54 : decode cX1_gather 54 = .ok (.getfield 24, 3) := by decide +kernel
theorem dX1_gather_57 : decode cX1_gather 57 = .ok (.aload_n 1, 1) := by decide +kernel
theorem dX1_gather_58 : decode cX1_gather 58 = .ok (.getfield 36, 3) := by decide +kernel
theorem dX1_gather_61 : decode cX1_gather 61 = .ok (.iload_n 3, 1) := by decide +kernel
theorem dX1_gather_62 : decode cX1_gather 62 = .ok (.iaload, 1) := by decide +kernel
theorem dX1_gather_63 : decode cX1_gather 63 = .ok (.iastore, 1) := by decide +kernel
theorem dX1_gather_64 : decode cX1_gather 64 = .ok (.aload_n 0, 1) := by decide +kernel
theorem dX1_gather_65 : decode cX1_gather 65 = .ok (.getfield 21, 3) := by decide +kernel
theorem dX1_gather_68 : decode cX1_gather 68 = .ok (.aload_n 0, 1) := by decide +kernel
theorem dX1_gather_69 : decode cX1_gather 69 = .ok (.getfield 24, 3) := by decide +kernel
theorem dX1_gather_72 : decode cX1_gather 72 = .ok (.iconst 1, 1) := by decide +kernel
theorem dX1_gather_73 : decode cX1_gather 73 = .ok (.aload_n 1, 1) := by decide +kernel
theorem dX1_gather_74 : decode cX1_gather 74 = .ok (.getfield 35, 3) := by decide +kernel
theorem dX1_gather_77 : decode cX1_gather 77 = .ok (.iload_n 3, 1) := by decide +kernel
theorem dX1_gather_78 : decode cX1_gather 78 = .ok (.iaload, 1) := by decide +kernel
theorem dX1_gather_79 : decode cX1_gather 79 = .ok (.ishl, 1) := by decide +kernel
theorem dX1_gather_80 : decode cX1_gather 80 = .ok (.iconst 1, 1) := by decide +kernel
theorem dX1_gather_81 : decode cX1_gather 81 = .ok (.aload_n 1, 1) := by decide +kernel
theorem dX1_gather_82 : decode cX1_gather 82 = .ok (.getfield 36, 3) := by decide +kernel
theorem dX1_gather_85 : decode cX1_gather 85 = .ok (.iload_n 3, 1) := by decide +kernel
theorem dX1_gather_86 : decode cX1_gather 86 = .ok (.iaload, 1) := by decide +kernel
theorem dX1_gather_87 : decode cX1_gather 87 = .ok (.ishl, 1) := by decide +kernel
theorem dX1_gather_88 : decode cX1_gather 88 = .ok (.ior, 1) := by decide +kernel
theorem dX1_gather_89 : decode cX1_gather 89 = .ok (.iastore, 1) := by decide +kernel
theorem dX1_gather_90 : decode cX1_gather 90 = .ok (.aload_n 0, 1) := by decide +kernel
theorem dX1_gather_91 : decode cX1_gather 91 = .ok (.dup, 1) := by decide +kernel
theorem dX1_gather_92 : decode cX1_gather 92 = .ok (.getfield 24, 3) := by decide +kernel
theorem dX1_gather_95 : decode cX1_gather 95 = .ok (.iconst 1, 1) := by decide +kernel
theorem dX1_gather_96 : decode cX1_gather 96 = .ok (.iadd, 1) := by decide +kernel
theorem dX1_gather_97 : decode cX1_gather 97 = .ok (.putfield 24, 3) := by decide +kernel
theorem dX1_gather_100 : decode cX1_gather 100 = .ok (.iinc 3 1, 3) := by decide +kernel
theorem dX1_gather_103 : decode cX1_gather 103 = .ok (.goto (-96), 3) := by decide +kernel
theorem dX1_gather_106 : decode cX1_gather 106 = .ok (.return_, 1) := by decide +kernel
theorem dX1_all_0 : decode cX1_all 0 = .ok (.iconst 1, 1) := by decide +kernel
theorem dX1_all_1 : decode cX1_all 1 = .ok (.aload_n 0, 1) := by decide +kernel
theorem dX1_all_2 : decode cX1_all 2 = .ok (.getfield 24, 3) := by decide +kernel
theorem dX1_all_5 : decode cX1_all 5 = .ok (.ishl, 1) := by decide +kernel
theorem dX1_all_6 : decode cX1_all 6 = .ok (.iconst 1, 1) := by decide +kernel
theorem dX1_all_7 : decode cX1_all 7 = .ok (.isub, 1) := by decide +kernel
theorem dX1_all_8 : decode cX1_all 8 = .ok (.ireturn, 1) := by decide +kernel
theorem dX1_placeOf_0 : decode cX1_placeOf 0 = .ok (.iconst 0, 1) := by decide +kernel
theorem dX1_placeOf_1 : decode cX1_placeOf 1 = .ok (.istore_n 2, 1) := by decide +kernel
theorem dX1_placeOf_2 : decode cX1_placeOf 2 = .ok (.iload_n 2, 1) := by decide +kernel
theorem dX1_placeOf_3 : decode cX1_placeOf 3 = .ok (.aload_n 0, 1) := by decide +kernel
theorem dX1_placeOf_4 : decode cX1_placeOf 4 = .ok (.getfield 24, 3) := by decide +kernel
theorem dX1_placeOf_7 : decode cX1_placeOf 7 = .ok (.if_icmp .ge 21, 3) := by decide +kernel
theorem dX1_placeOf_10 : decode cX1_placeOf 10 = .ok (.aload_n 0, 1) := by decide +kernel
theorem dX1_placeOf_11 : decode cX1_placeOf 11 = .ok (.getfield 9, 3) := by decide +kernel
theorem dX1_placeOf_14 : decode cX1_placeOf 14 = .ok (.iload_n 2, 1) := by decide +kernel
theorem dX1_placeOf_15 : decode cX1_placeOf 15 = .ok (.iaload, 1) := by decide +kernel
theorem dX1_placeOf_16 : decode cX1_placeOf 16 = .ok (.iload_n 1, 1) := by decide +kernel
theorem dX1_placeOf_17 : decode cX1_placeOf 17 = .ok (.if_icmp .ne 5, 3) := by decide +kernel
theorem dX1_placeOf_20 : decode cX1_placeOf 20 = .ok (.iload_n 2, 1) := by decide +kernel
theorem dX1_placeOf_21 : decode cX1_placeOf 21 = .ok (.ireturn, 1) := by decide +kernel
theorem dX1_placeOf_22 : decode cX1_placeOf 22 = .ok (.iinc 2 1, 3) := by decide +kernel
theorem dX1_placeOf_25 : decode cX1_placeOf 25 = .ok (.goto (-23), 3) := by decide +kernel
theorem dX1_placeOf_28 : decode cX1_placeOf 28 = .ok (.bipush (-9), 2) := by decide +kernel
theorem dX1_placeOf_30 : decode cX1_placeOf 30 = .ok (.ireturn, 1) := by decide +kernel
theorem dX1_numbersOf_0 : decode cX1_numbersOf 0 = .ok (.iconst 0, 1) := by decide +kernel
theorem dX1_numbersOf_1 : decode cX1_numbersOf 1 = .ok (.istore_n 2, 1) := by decide +kernel
theorem dX1_numbersOf_2 : decode cX1_numbersOf 2 = .ok (.iconst 0, 1) := by decide +kernel
theorem dX1_numbersOf_3 : decode cX1_numbersOf 3 = .ok (.istore_n 3, 1) := by decide +kernel
theorem dX1_numbersOf_4 : decode cX1_numbersOf 4 = .ok (.iload_n 3, 1) := by decide +kernel
theorem dX1_numbersOf_5 : decode cX1_numbersOf 5 = .ok (.aload_n 0, 1) := by decide +kernel
theorem dX1_numbersOf_6 : decode cX1_numbersOf 6 = .ok (.getfield 24, 3) := by decide +kernel
theorem dX1_numbersOf_9 : decode cX1_numbersOf 9 = .ok (.if_icmp .ge 28, 3) := by decide +kernel
theorem dX1_numbersOf_12 : decode cX1_numbersOf 12 = .ok (.iload_n 1, 1) := by decide +kernel
theorem dX1_numbersOf_13 : decode cX1_numbersOf 13 = .ok (.iload_n 3, 1) := by decide +kernel
theorem dX1_numbersOf_14 : decode cX1_numbersOf 14 = .ok (.ishr, 1) := by decide +kernel
theorem dX1_numbersOf_15 : decode cX1_numbersOf 15 = .ok (.iconst 1, 1) := by decide +kernel
theorem dX1_numbersOf_16 : decode cX1_numbersOf 16 = .ok (.iand, 1) := by decide +kernel
theorem dX1_numbersOf_17 : decode cX1_numbersOf 17 = .ok (.ifCond .eq 14, 3) := by decide +kernel
theorem dX1_numbersOf_20 : decode cX1_numbersOf 20 = .ok (.iload_n 2, 1) := by decide +kernel
theorem dX1_numbersOf_21 : decode cX1_numbersOf 21 = .ok (.iconst 1, 1) := by decide +kernel
theorem dX1_numbersOf_22 : decode cX1_numbersOf 22 = .ok (.aload_n 0, 1) := by decide +kernel
theorem dX1_numbersOf_23 : decode cX1_numbersOf 23 = .ok (.getfield 9, 3) := by decide +kernel
theorem dX1_numbersOf_26 : decode cX1_numbersOf 26 = .ok (.iload_n 3, 1) := by decide +kernel
theorem dX1_numbersOf_27 : decode cX1_numbersOf 27 = .ok (.iaload, 1) := by decide +kernel
theorem dX1_numbersOf_28 : decode cX1_numbersOf 28 = .ok (.ishl, 1) := by decide +kernel
theorem dX1_numbersOf_29 : decode cX1_numbersOf 29 = .ok (.ior, 1) := by decide +kernel
theorem dX1_numbersOf_30 : decode cX1_numbersOf 30 = .ok (.istore_n 2, 1) := by decide +kernel
theorem dX1_numbersOf_31 : decode cX1_numbersOf 31 = .ok (.iinc 3 1, 3) := by decide +kernel
theorem dX1_numbersOf_34 : decode cX1_numbersOf 34 = .ok (.goto (-30), 3) := by decide +kernel
theorem dX1_numbersOf_37 : decode cX1_numbersOf 37 = .ok (.iload_n 2, 1) := by decide +kernel
theorem dX1_numbersOf_38 : decode cX1_numbersOf 38 = .ok (.ireturn, 1) := by decide +kernel
theorem dX1_reach_0 : decode cX1_reach 0 = .ok (.iconst 1, 1) := by decide +kernel
theorem dX1_reach_1 : decode cX1_reach 1 = .ok (.iload_n 1, 1) := by decide +kernel
theorem dX1_reach_2 : decode cX1_reach 2 = .ok (.ishl, 1) := by decide +kernel
theorem dX1_reach_3 : decode cX1_reach 3 = .ok (.istore_n 3, 1) := by decide +kernel
theorem dX1_reach_4 : decode cX1_reach 4 = .ok (.iconst 1, 1) := by decide +kernel
theorem dX1_reach_5 : decode cX1_reach 5 = .ok (.istore 4, 2) := by decide +kernel
theorem dX1_reach_7 : decode cX1_reach 7 = .ok (.iload 4, 2) := by decide +kernel
theorem dX1_reach_9 : decode cX1_reach 9 = .ok (.bipush 8, 2) := by decide +kernel
theorem dX1_reach_11 : decode cX1_reach 11 = .ok (.if_icmp .ge 70, 3) := by decide +kernel
theorem dX1_reach_14 : decode cX1_reach 14 = .ok (.iload_n 3, 1) := by decide +kernel
theorem dX1_reach_15 : decode cX1_reach 15 = .ok (.istore 5, 2) := by decide +kernel
theorem dX1_reach_17 : decode cX1_reach 17 = .ok (.iconst 0, 1) := by decide +kernel
theorem dX1_reach_18 : decode cX1_reach 18 = .ok (.istore 6, 2) := by decide +kernel
theorem dX1_reach_20 : decode cX1_reach 20 = .ok (.iload 6, 2) := by decide +kernel
theorem dX1_reach_22 : decode cX1_reach 22 = .ok (.aload_n 0, 1) := by decide +kernel
theorem dX1_reach_23 : decode cX1_reach 23 = .ok (.getfield 24, 3) := by decide +kernel
theorem dX1_reach_26 : decode cX1_reach 26 = .ok (.if_icmp .ge 40, 3) := by decide +kernel
theorem dX1_reach_29 : decode cX1_reach 29 = .ok (.iload_n 2, 1) := by decide +kernel
theorem dX1_reach_30 : decode cX1_reach 30 = .ok (.iload 6, 2) := by decide +kernel
theorem dX1_reach_32 : decode cX1_reach 32 = .ok (.ishr, 1) := by decide +kernel
theorem dX1_reach_33 : decode cX1_reach 33 = .ok (.iconst 1, 1) := by decide +kernel
theorem dX1_reach_34 : decode cX1_reach 34 = .ok (.iand, 1) := by decide +kernel
theorem dX1_reach_35 : decode cX1_reach 35 = .ok (.ifCond .eq 25, 3) := by decide +kernel
theorem dX1_reach_38 : decode cX1_reach 38 = .ok (.aload_n 0, 1) := by decide +kernel
theorem dX1_reach_39 : decode cX1_reach 39 = .ok (.getfield 21, 3) := by decide +kernel
theorem dX1_reach_42 : decode cX1_reach 42 = .ok (.iload 6, 2) := by decide +kernel
theorem dX1_reach_44 : decode cX1_reach 44 = .ok (.iaload, 1) := by decide +kernel
theorem dX1_reach_45 : decode cX1_reach 45 = .ok (.iload_n 3, 1) := by decide +kernel
theorem dX1_reach_46 : decode cX1_reach 46 = .ok (.iand, 1) := by decide +kernel
theorem dX1_reach_47 : decode cX1_reach 47 = .ok (.ifCond .eq 13, 3) := by decide +kernel
theorem dX1_reach_50 : decode cX1_reach 50 = .ok (.iload_n 3, 1) := by decide +kernel
theorem dX1_reach_51 : decode cX1_reach 51 = .ok (.aload_n 0, 1) := by decide +kernel
theorem dX1_reach_52 : decode cX1_reach 52 = .ok (.getfield 21, 3) := by decide +kernel
theorem dX1_reach_55 : decode cX1_reach 55 = .ok (.iload 6, 2) := by decide +kernel
theorem dX1_reach_57 : decode cX1_reach 57 = .ok (.iaload, 1) := by decide +kernel
theorem dX1_reach_58 : decode cX1_reach 58 = .ok (.ior, 1) := by decide +kernel
theorem dX1_reach_59 : decode cX1_reach 59 = .ok (.istore_n 3, 1) := by decide +kernel
theorem dX1_reach_60 : decode cX1_reach 60 = .ok (.iinc 6 1, 3) := by decide +kernel
theorem dX1_reach_63 : decode cX1_reach 63 = .ok (.goto (-43), 3) := by decide +kernel
theorem dX1_reach_66 : decode cX1_reach 66 = .ok (.iload_n 3, 1) := by decide +kernel
theorem dX1_reach_67 : decode cX1_reach 67 = .ok (.iload 5, 2) := by decide +kernel
theorem dX1_reach_69 : decode cX1_reach 69 = .ok (.if_icmp .ne 6, 3) := by decide +kernel
theorem dX1_reach_72 : decode cX1_reach 72 = .ok (.goto 9, 3) := by decide +kernel
theorem dX1_reach_75 : decode cX1_reach 75 = .ok (.iinc 4 1, 3) := by decide +kernel
theorem dX1_reach_78 : decode cX1_reach 78 = .ok (.goto (-71), 3) := by decide +kernel
theorem dX1_reach_81 : decode cX1_reach 81 = .ok (.iload_n 3, 1) := by decide +kernel
theorem dX1_reach_82 : decode cX1_reach 82 = .ok (.ireturn, 1) := by decide +kernel
theorem dX1_areJoined_0 : decode cX1_areJoined 0 = .ok (.aload_n 0, 1) := by decide +kernel
theorem dX1_areJoined_1 : decode cX1_areJoined 1 = .ok (.iload_n 1, 1) := by decide +kernel
theorem dX1_areJoined_2 : decode cX1_areJoined 2 = .ok (.iload_n 3, 1) := by decide +kernel
theorem dX1_areJoined_3 : decode cX1_areJoined 3 = .ok (.invokevirtual 37, 3) := by decide +kernel
theorem dX1_areJoined_6 : decode cX1_areJoined 6 = .ok (.iload_n 2, 1) := by decide +kernel
theorem dX1_areJoined_7 : decode cX1_areJoined 7 = .ok (.ishr, 1) := by decide +kernel
theorem dX1_areJoined_8 : decode cX1_areJoined 8 = .ok (.iconst 1, 1) := by decide +kernel
theorem dX1_areJoined_9 : decode cX1_areJoined 9 = .ok (.iand, 1) := by decide +kernel
theorem dX1_areJoined_10 : decode cX1_areJoined 10 = .ok (.ifCond .eq 7, 3) := by decide +kernel
theorem dX1_areJoined_13 : decode cX1_areJoined 13 = .ok (.iconst 1, 1) := by decide +kernel
theorem dX1_areJoined_14 : decode cX1_areJoined 14 = .ok (.goto 4, 3) := by decide +kernel
theorem dX1_areJoined_17 : decode cX1_areJoined 17 = .ok (.iconst 0, 1) := by decide +kernel
theorem dX1_areJoined_18 : decode cX1_areJoined 18 = .ok (.ireturn, 1) := by decide +kernel
theorem dX2_init_0 : decode cX2_init 0 = .ok (.aload_n 0, 1) := by decide +kernel
theorem dX2_init_1 : decode cX2_init 1 = .ok (.invokespecial 3, 3) := by decide +kernel
theorem dX2_init_4 : decode cX2_init 4 = .ok (.aload_n 0, 1) := by decide +kernel
theorem dX2_init_5 : decode cX2_init 5 = .ok (.bipush 8, 2) := by decide +kernel
theorem dX2_init_7 : decode cX2_init 7 = .ok (.newarray .int, 2) := by decide +kernel
theorem dX2_init_9 : decode cX2_init 9 = .ok (.putfield 9, 3) := by decide +kernel
theorem dX2_init_12 : decode cX2_init 12 = .ok (.aload_n 0, 1) := by decide +kernel
theorem dX2_init_13 : decode cX2_init 13 = .ok (.bipush 8, 2) := by decide +kernel
theorem dX2_init_15 : decode cX2_init 15 = .ok (.newarray .int, 2) := by decide +kernel
theorem dX2_init_17 : decode cX2_init 17 = .ok (.putfield 15, 3) := by decide +kernel
theorem dX2_init_20 : decode cX2_init 20 = .ok (.aload_n 0, 1) := by decide +kernel
theorem dX2_init_21 : decode cX2_init 21 = .ok (.bipush 8, 2) := by decide +kernel
theorem dX2_init_23 : decode cX2_init 23 = .ok (.newarray .int, 2) := by decide +kernel
theorem dX2_init_25 : decode cX2_init 25 = .ok (.putfield 18, 3) := by decide +kernel
theorem dX2_init_28 : decode cX2_init 28 = .ok (.aload_n 0, 1) := by decide +kernel
theorem dX2_init_29 : decode cX2_init 29 = .ok (.bipush 8, 2) := by decide +kernel
theorem dX2_init_31 : decode cX2_init 31 = .ok (.newarray .boolean, 2) := by decide +kernel
theorem dX2_init_33 : decode cX2_init 33 = .ok (.putfield 21, 3) := by decide +kernel
theorem dX2_init_36 : decode cX2_init 36 = .ok (.return_, 1) := by decide +kernel
theorem dX2_takeApart_0 : decode cX2_takeApart 0 = .ok (.iconst 0, 1) := by decide +kernel
theorem dX2_takeApart_1 : decode cX2_takeApart 1 = .ok (.istore_n 1, 1) := by decide +kernel
theorem dX2_takeApart_2 : decode cX2_takeApart 2 = .ok (.iload_n 1, 1) := by decide +kernel
theorem dX2_takeApart_3 : decode cX2_takeApart 3 = .ok (.bipush 8, 2) := by decide +kernel
theorem dX2_takeApart_5 : decode cX2_takeApart 5 = .ok (.if_icmp .ge 37, 3) := by decide +kernel
theorem dX2_takeApart_8 : decode cX2_takeApart 8 = .ok (.aload_n 0, 1) := by decide +kernel
theorem dX2_takeApart_9 : decode cX2_takeApart 9 = .ok (.getfield 9, 3) := by decide +kernel
theorem dX2_takeApart_12 : decode cX2_takeApart 12 = .ok (.iload_n 1, 1) := by decide +kernel
theorem dX2_takeApart_13 : decode cX2_takeApart 13 = .ok (.iload_n 1, 1) := by decide +kernel
theorem dX2_takeApart_14 : decode cX2_takeApart 14 = .ok (.iastore, 1) := by decide +kernel
theorem dX2_takeApart_15 : decode cX2_takeApart 15 = .ok (.aload_n 0, 1) := by decide +kernel
theorem dX2_takeApart_16 : decode cX2_takeApart 16 = .ok (.getfield 15, 3) := by decide +kernel
theorem dX2_takeApart_19 : decode cX2_takeApart 19 = .ok (.iload_n 1, 1) := by decide +kernel
theorem dX2_takeApart_20 : decode cX2_takeApart 20 = .ok (.iconst 1, 1) := by decide +kernel
theorem dX2_takeApart_21 : decode cX2_takeApart 21 = .ok (.iastore, 1) := by decide +kernel
theorem dX2_takeApart_22 : decode cX2_takeApart 22 = .ok (.aload_n 0, 1) := by decide +kernel
theorem dX2_takeApart_23 : decode cX2_takeApart 23 = .ok (.getfield 18, 3) := by decide +kernel
theorem dX2_takeApart_26 : decode cX2_takeApart 26 = .ok (.iload_n 1, 1) := by decide +kernel
theorem dX2_takeApart_27 : decode cX2_takeApart 27 = .ok (.iconst 0, 1) := by decide +kernel
theorem dX2_takeApart_28 : decode cX2_takeApart 28 = .ok (.iastore, 1) := by decide +kernel
theorem dX2_takeApart_29 : decode cX2_takeApart 29 = .ok (.aload_n 0, 1) := by decide +kernel
theorem dX2_takeApart_30 : decode cX2_takeApart 30 = .ok (.getfield 21, 3) := by decide +kernel
theorem dX2_takeApart_33 : decode cX2_takeApart 33 = .ok (.iload_n 1, 1) := by decide +kernel
theorem dX2_takeApart_34 : decode cX2_takeApart 34 = .ok (.iconst 0, 1) := by decide +kernel
theorem dX2_takeApart_35 : decode cX2_takeApart 35 = .ok (.bastore, 1) := by decide +kernel
theorem dX2_takeApart_36 : decode cX2_takeApart 36 = .ok (.iinc 1 1, 3) := by decide +kernel
theorem dX2_takeApart_39 : decode cX2_takeApart 39 = .ok (.goto (-37), 3) := by decide +kernel
theorem dX2_takeApart_42 : decode cX2_takeApart 42 = .ok (.return_, 1) := by decide +kernel
theorem dX2_walkToTime_0 : decode cX2_walkToTime 0 = .ok (.aload_n 0, 1) := by decide +kernel
theorem dX2_walkToTime_1 : decode cX2_walkToTime 1 = .ok (.aload_n 1, 1) := by decide +kernel
theorem dX2_walkToTime_2 : decode cX2_walkToTime 2 = .ok (.bipush 16, 2) := by decide +kernel
theorem dX2_walkToTime_4 : decode cX2_walkToTime 4 = .ok (.iload_n 2, 1) := by decide +kernel
theorem dX2_walkToTime_5 : decode cX2_walkToTime 5 = .ok (.iadd, 1) := by decide +kernel
theorem dX2_walkToTime_6 : decode cX2_walkToTime 6 = .ok (.invokevirtual 25, 3) := by decide +kernel
theorem dX2_walkToTime_9 : decode cX2_walkToTime 9 = .ok (.pop, 1) := by decide +kernel
theorem dX2_walkToTime_10 : decode cX2_walkToTime 10 = .ok (.return_, 1) := by decide +kernel
theorem dX2_walkToNode_0 : decode cX2_walkToNode 0 = .ok (.aload_n 0, 1) := by decide +kernel
theorem dX2_walkToNode_1 : decode cX2_walkToNode 1 = .ok (.invokevirtual 29, 3) := by decide +kernel
theorem dX2_walkToNode_4 : decode cX2_walkToNode 4 = .ok (.iconst 0, 1) := by decide +kernel
theorem dX2_walkToNode_5 : decode cX2_walkToNode 5 = .ok (.istore_n 3, 1) := by decide +kernel
theorem dX2_walkToNode_6 : decode cX2_walkToNode 6 = .ok (.iconst 4, 1) := by decide +kernel
theorem dX2_walkToNode_7 : decode cX2_walkToNode 7 = .ok (.istore 4, 2) := by decide +kernel
theorem dX2_walkToNode_9 : decode cX2_walkToNode 9 = .ok (.iload 4, 2) := by decide +kernel
theorem dX2_walkToNode_11 : decode cX2_walkToNode 11 = .ok (.ifCond .lt 19, 3) := by decide +kernel
theorem dX2_walkToNode_14 : decode cX2_walkToNode 14 = .ok (.aload_n 0, 1) := by decide +kernel
theorem dX2_walkToNode_15 : decode cX2_walkToNode 15 = .ok (.aload_n 1, 1) := by decide +kernel
theorem dX2_walkToNode_16 : decode cX2_walkToNode 16 = .ok (.iload_n 2, 1) := by decide +kernel
theorem dX2_walkToNode_17 : decode cX2_walkToNode 17 = .ok (.iload 4, 2) := by decide +kernel
theorem dX2_walkToNode_19 : decode cX2_walkToNode 19 = .ok (.ishr, 1) := by decide +kernel
theorem dX2_walkToNode_20 : decode cX2_walkToNode 20 = .ok (.invokevirtual 32, 3) := by decide +kernel
theorem dX2_walkToNode_23 : decode cX2_walkToNode 23 = .ok (.istore_n 3, 1) := by decide +kernel
theorem dX2_walkToNode_24 : decode cX2_walkToNode 24 = .ok (.iinc 4 (-1), 3) := by decide +kernel
theorem dX2_walkToNode_27 : decode cX2_walkToNode 27 = .ok (.goto (-18), 3) := by decide +kernel
theorem dX2_walkToNode_30 : decode cX2_walkToNode 30 = .ok (.iload_n 3, 1) := by decide +kernel
theorem dX2_walkToNode_31 : decode cX2_walkToNode 31 = .ok (.ireturn, 1) := by decide +kernel
theorem dX2_joinAllOn_0 : decode cX2_joinAllOn 0 = .ok (.iconst 0, 1) := by decide +kernel
theorem dX2_joinAllOn_1 : decode cX2_joinAllOn 1 = .ok (.istore_n 3, 1) := by decide +kernel
theorem dX2_joinAllOn_2 : decode cX2_joinAllOn 2 = .ok (.iconst 0, 1) := by decide +kernel
theorem dX2_joinAllOn_3 : decode cX2_joinAllOn 3 = .ok (.istore 4, 2) := by decide +kernel
theorem dX2_joinAllOn_5 : decode cX2_joinAllOn 5 = .ok (.iload 4, 2) := by decide +kernel
theorem dX2_joinAllOn_7 : decode cX2_joinAllOn 7 = .ok (.aload_n 1, 1) := by decide +kernel
theorem dX2_joinAllOn_8 : decode cX2_joinAllOn 8 = .ok (.getfield 35, 3) := by decide +kernel
theorem dX2_joinAllOn_11 : decode cX2_joinAllOn 11 = .ok (.if_icmp .ge 43, 3) := by decide +kernel
theorem dX2_joinAllOn_14 : decode cX2_joinAllOn 14 = .ok (.aload_n 1, 1) := by decide +kernel
theorem dX2_joinAllOn_15 : decode cX2_joinAllOn 15 = .ok (.iload 4, 2) := by decide +kernel
theorem dX2_joinAllOn_17 : decode cX2_joinAllOn 17 = .ok (.iload_n 2, 1) := by decide +kernel
theorem dX2_joinAllOn_18 : decode cX2_joinAllOn 18 = .ok (.invokevirtual 40, 3) := by decide +kernel
theorem dX2_joinAllOn_21 : decode cX2_joinAllOn 21 = .ok (.ifCond .eq 27, 3) := by decide +kernel
theorem dX2_joinAllOn_24 : decode cX2_joinAllOn 24 = .ok (.aload_n 0, 1) := by decide +kernel
theorem dX2_joinAllOn_25 : decode cX2_joinAllOn 25 = .ok (.aload_n 1, 1) := by decide +kernel
theorem dX2_joinAllOn_26 : decode cX2_joinAllOn 26 = .ok (.getfield 44, 3) := by decide +kernel
theorem dX2_joinAllOn_29 : decode cX2_joinAllOn 29 = .ok (.iload 4, 2) := by decide +kernel
theorem dX2_joinAllOn_31 : decode cX2_joinAllOn 31 = .ok (.iaload, 1) := by decide +kernel
theorem dX2_joinAllOn_32 : decode cX2_joinAllOn 32 = .ok (.aload_n 1, 1) := by decide +kernel
theorem dX2_joinAllOn_33 : decode cX2_joinAllOn 33 = .ok (.getfield 47, 3) := by decide +kernel
theorem dX2_joinAllOn_36 : decode cX2_joinAllOn 36 = .ok (.iload 4, 2) := by decide +kernel
theorem dX2_joinAllOn_38 : decode cX2_joinAllOn 38 = .ok (.iaload, 1) := by decide +kernel
theorem dX2_joinAllOn_39 : decode cX2_joinAllOn 39 = .ok (.invokevirtual 50, 3) := by decide +kernel
theorem dX2_joinAllOn_42 : decode cX2_joinAllOn 42 = .ok (.ifCond .eq 6, 3) := by decide +kernel
theorem dX2_joinAllOn_45 : decode cX2_joinAllOn 45 = .ok (.iinc 3 1, 3) := by decide +kernel
theorem dX2_joinAllOn_48 : decode cX2_joinAllOn 48 = .ok (.iinc 4 1, 3) := by decide +kernel
theorem dX2_joinAllOn_51 : decode cX2_joinAllOn 51 = .ok (.goto (-46), 3) := by decide +kernel
theorem dX2_joinAllOn_54 : decode cX2_joinAllOn 54 = .ok (.iload_n 3, 1) := by decide +kernel
theorem dX2_joinAllOn_55 : decode cX2_joinAllOn 55 = .ok (.ireturn, 1) := by decide +kernel
theorem dX2_join_0 : decode cX2_join 0 = .ok (.aload_n 0, 1) := by decide +kernel
theorem dX2_join_1 : decode cX2_join 1 = .ok (.iload_n 1, 1) := by decide +kernel
theorem dX2_join_2 : decode cX2_join 2 = .ok (.invokevirtual 53, 3) := by decide +kernel
theorem dX2_join_5 : decode cX2_join 5 = .ok (.istore_n 3, 1) := by decide +kernel
theorem dX2_join_6 : decode cX2_join 6 = .ok (.aload_n 0, 1) := by decide +kernel
theorem dX2_join_7 : decode cX2_join 7 = .ok (.iload_n 2, 1) := by decide +kernel
theorem dX2_join_8 : decode cX2_join 8 = .ok (.invokevirtual 53, 3) := by decide +kernel
theorem dX2_join_11 : decode cX2_join 11 = .ok (.istore 4, 2) := by decide +kernel
theorem dX2_join_13 : decode cX2_join 13 = .ok (.aload_n 0, 1) := by decide +kernel
theorem dX2_join_14 : decode cX2_join 14 = .ok (.iload_n 1, 1) := by decide +kernel
theorem dX2_join_15 : decode cX2_join 15 = .ok (.invokevirtual 57, 3) := by decide +kernel
theorem dX2_join_18 : decode cX2_join 18 = .ok (.aload_n 0, 1) := by decide +kernel
theorem dX2_join_19 : decode cX2_join 19 = .ok (.iload_n 2, 1) := by decide +kernel
theorem dX2_join_20 : decode cX2_join 20 = .ok (.invokevirtual 57, 3) := by decide +kernel
theorem dX2_join_23 : decode cX2_join 23 = .ok (.ixor, 1) := by decide +kernel
theorem dX2_join_24 : decode cX2_join 24 = .ok (.iconst 1, 1) := by decide +kernel
theorem dX2_join_25 : decode cX2_join 25 = .ok (.ixor, 1) := by decide +kernel
theorem dX2_join_26 : decode cX2_join 26 = .ok (.istore 5, 2) := by decide +kernel
theorem dX2_join_28 : decode cX2_join 28 = .ok (.iload_n 3, 1) := by decide +kernel
theorem dX2_join_29 : decode cX2_join 29 = .ok (.iload 4, 2) := by decide +kernel
theorem dX2_join_31 : decode cX2_join 31 = .ok (.if_icmp .ne 25, 3) := by decide +kernel
theorem dX2_join_34 : decode cX2_join 34 = .ok (.aload_n 0, 1) := by decide +kernel
theorem dX2_join_35 : decode cX2_join 35 = .ok (.getfield 21, 3) := by decide +kernel
theorem dX2_join_38 : decode cX2_join 38 = .ok (.iload_n 3, 1) := by decide +kernel
theorem dX2_join_39 : decode cX2_join 39 = .ok (.dup2, 1) := by decide +kernel
theorem dX2_join_40 : decode cX2_join 40 = .ok (.baload, 1) := by decide +kernel
theorem dX2_join_41 : decode cX2_join 41 = .ok (.iload 5, 2) := by decide +kernel
theorem dX2_join_43 : decode cX2_join 43 = .ok (.iconst 1, 1) := by decide +kernel
theorem dX2_join_44 : decode cX2_join 44 = .ok (.if_icmp .ne 7, 3) := by decide +kernel
theorem dX2_join_47 : decode cX2_join 47 = .ok (.iconst 1, 1) := by decide +kernel
theorem dX2_join_48 : decode cX2_join 48 = .ok (.goto 4, 3) := by decide +kernel
theorem dX2_join_51 : decode cX2_join 51 = .ok (.iconst 0, 1) := by decide +kernel
theorem dX2_join_52 : decode cX2_join 52 = .ok (.ior, 1) := by decide +kernel
theorem dX2_join_53 : decode cX2_join 53 = .ok (.bastore, 1) := by decide +kernel
theorem dX2_join_54 : decode cX2_join 54 = .ok (.iconst 0, 1) := by decide +kernel
theorem dX2_join_55 : decode cX2_join 55 = .ok (.ireturn, 1) := by decide +kernel
theorem dX2_join_56 : decode cX2_join 56 = .ok (.aload_n 0, 1) := by decide +kernel
theorem dX2_join_57 : decode cX2_join 57 = .ok (.iload_n 3, 1) := by decide +kernel
theorem dX2_join_58 : decode cX2_join 58 = .ok (.iload 4, 2) := by decide +kernel
theorem dX2_join_60 : decode cX2_join 60 = .ok (.invokevirtual 60, 3) := by decide +kernel
theorem dX2_join_63 : decode cX2_join 63 = .ok (.ifCond .eq 15, 3) := by decide +kernel
theorem dX2_join_66 : decode cX2_join 66 = .ok (.aload_n 0, 1) := by decide +kernel
theorem dX2_join_67 : decode cX2_join 67 = .ok (.iload_n 3, 1) := by decide +kernel
theorem dX2_join_68 : decode cX2_join 68 = .ok (.iload 4, 2) := by decide +kernel
theorem dX2_join_70 : decode cX2_join 70 = .ok (.iload 5, 2) := by decide +kernel
theorem dX2_join_72 : decode cX2_join 72 = .ok (.invokevirtual 63, 3) := by decide +kernel
theorem dX2_join_75 : decode cX2_join 75 = .ok (.goto 12, 3) := by decide +kernel
theorem dX2_join_78 : decode cX2_join 78 = .ok (.aload_n 0, 1) := by decide +kernel
theorem dX2_join_79 : decode cX2_join 79 = .ok (.iload 4, 2) := by decide +kernel
theorem dX2_join_81 : decode cX2_join 81 = .ok (.iload_n 3, 1) := by decide +kernel
theorem dX2_join_82 : decode cX2_join 82 = .ok (.iload 5, 2) := by decide +kernel
theorem dX2_join_84 : decode cX2_join 84 = .ok (.invokevirtual 63, 3) := by decide +kernel
theorem dX2_join_87 : decode cX2_join 87 = .ok (.iconst 1, 1) := by decide +kernel
theorem dX2_join_88 : decode cX2_join 88 = .ok (.ireturn, 1) := by decide +kernel
theorem dX2_hangsBelow_0 : decode cX2_hangsBelow 0 = .ok (.aload_n 0, 1) := by decide +kernel
theorem dX2_hangsBelow_1 : decode cX2_hangsBelow 1 = .ok (.getfield 15, 3) := by decide +kernel
theorem dX2_hangsBelow_4 : decode cX2_hangsBelow 4 = .ok (.iload_n 1, 1) := by decide +kernel
theorem dX2_hangsBelow_5 : decode cX2_hangsBelow 5 = .ok (.iaload, 1) := by decide +kernel
theorem dX2_hangsBelow_6 : decode cX2_hangsBelow 6 = .ok (.aload_n 0, 1) := by decide +kernel
theorem dX2_hangsBelow_7 : decode cX2_hangsBelow 7 = .ok (.getfield 15, 3) := by decide +kernel
theorem dX2_hangsBelow_10 : decode cX2_hangsBelow 10 = .ok (.iload_n 2, 1) := by decide +kernel
theorem dX2_hangsBelow_11 : decode cX2_hangsBelow 11 = .ok (.iaload, 1) := by decide +kernel
theorem dX2_hangsBelow_12 : decode cX2_hangsBelow 12 = .ok (.if_icmp .lt 23, 3) := by decide +kernel
theorem dX2_hangsBelow_15 : decode cX2_hangsBelow 15 = .ok (.aload_n 0, 1) := by decide +kernel
theorem dX2_hangsBelow_16 : decode cX2_hangsBelow 16 = .ok (.getfield 15, 3) := by decide +kernel
theorem dX2_hangsBelow_19 : decode cX2_hangsBelow 19 = .ok (.iload_n 1, 1) := by decide +kernel
theorem dX2_hangsBelow_20 : decode cX2_hangsBelow 20 = .ok (.iaload, 1) := by decide +kernel
theorem dX2_hangsBelow_21 : decode cX2_hangsBelow 21 = .ok (.aload_n 0, 1) := by decide +kernel
theorem dX2_hangsBelow_22 : decode cX2_hangsBelow 22 = .ok (.getfield 15, 3) := by decide +kernel
theorem dX2_hangsBelow_25 : decode cX2_hangsBelow 25 = .ok (.iload_n 2, 1) := by decide +kernel
theorem dX2_hangsBelow_26 : decode cX2_hangsBelow 26 = .ok (.iaload, 1) := by decide +kernel
theorem dX2_hangsBelow_27 : decode cX2_hangsBelow 27 = .ok (.if_icmp .ne 12, 3) := by decide +kernel
theorem dX2_hangsBelow_30 : decode cX2_hangsBelow 30 = .ok (.iload_n 1, 1) := by decide +kernel
theorem dX2_hangsBelow_31 : decode cX2_hangsBelow 31 = .ok (.iload_n 2, 1) := by decide +kernel
theorem dX2_hangsBelow_32 : decode cX2_hangsBelow 32 = .ok (.if_icmp .le 7, 3) := by decide +kernel
theorem dX2_hangsBelow_35 : decode cX2_hangsBelow 35 = .ok (.iconst 1, 1) := by decide +kernel
theorem dX2_hangsBelow_36 : decode cX2_hangsBelow 36 = .ok (.goto 4, 3) := by decide +kernel
theorem dX2_hangsBelow_39 : decode cX2_hangsBelow 39 = .ok (.iconst 0, 1) := by decide +kernel
theorem dX2_hangsBelow_40 : decode cX2_hangsBelow 40 = .ok (.ireturn, 1) := by decide +kernel
theorem dX2_hang_0 : decode cX2_hang 0 = .ok (.aload_n 0, 1) := by decide +kernel
theorem dX2_hang_1 : decode cX2_hang 1 = .ok (.getfield 9, 3) := by decide +kernel
theorem dX2_hang_4 : decode cX2_hang 4 = .ok (.iload_n 1, 1) := by decide +kernel
theorem dX2_hang_5 : decode cX2_hang 5 = .ok (.iload_n 2, 1) := by decide +kernel
theorem dX2_hang_6 : decode cX2_hang 6 = .ok (.iastore, 1) := by decide +kernel
theorem dX2_hang_7 : decode cX2_hang 7 = .ok (.aload_n 0, 1) := by decide +kernel
theorem dX2_hang_8 : decode cX2_hang 8 = .ok (.getfield 15, 3) := by decide +kernel
theorem dX2_hang_11 : decode cX2_hang 11 = .ok (.iload_n 2, 1) := by decide +kernel
theorem dX2_hang_12 : decode cX2_hang 12 = .ok (.dup2, 1) := by decide +kernel
theorem dX2_hang_13 : decode cX2_hang 13 = .ok (.iaload, 1) := by decide +kernel
theorem dX2_hang_14 : decode cX2_hang 14 = .ok (.aload_n 0, 1) := by decide +kernel
theorem dX2_hang_15 : decode cX2_hang 15 = .ok (.getfield 15, 3) := by decide +kernel
theorem dX2_hang_18 : decode cX2_hang 18 = .ok (.iload_n 1, 1) := by decide +kernel
theorem dX2_hang_19 : decode cX2_hang 19 = .ok (.iaload, 1) := by decide +kernel
theorem dX2_hang_20 : decode cX2_hang 20 = .ok (.iadd, 1) := by decide +kernel
theorem dX2_hang_21 : decode cX2_hang 21 = .ok (.iastore, 1) := by decide +kernel
theorem dX2_hang_22 : decode cX2_hang 22 = .ok (.aload_n 0, 1) := by decide +kernel
theorem dX2_hang_23 : decode cX2_hang 23 = .ok (.getfield 18, 3) := by decide +kernel
theorem dX2_hang_26 : decode cX2_hang 26 = .ok (.iload_n 1, 1) := by decide +kernel
theorem dX2_hang_27 : decode cX2_hang 27 = .ok (.iload_n 3, 1) := by decide +kernel
theorem dX2_hang_28 : decode cX2_hang 28 = .ok (.iastore, 1) := by decide +kernel
theorem dX2_hang_29 : decode cX2_hang 29 = .ok (.aload_n 0, 1) := by decide +kernel
theorem dX2_hang_30 : decode cX2_hang 30 = .ok (.getfield 21, 3) := by decide +kernel
theorem dX2_hang_33 : decode cX2_hang 33 = .ok (.iload_n 2, 1) := by decide +kernel
theorem dX2_hang_34 : decode cX2_hang 34 = .ok (.dup2, 1) := by decide +kernel
theorem dX2_hang_35 : decode cX2_hang 35 = .ok (.baload, 1) := by decide +kernel
theorem dX2_hang_36 : decode cX2_hang 36 = .ok (.aload_n 0, 1) := by decide +kernel
theorem dX2_hang_37 : decode cX2_hang 37 = .ok (.getfield 21, 3) := by decide +kernel
theorem dX2_hang_40 : decode cX2_hang 40 = .ok (.iload_n 1, 1) := by decide +kernel
theorem dX2_hang_41 : decode cX2_hang 41 = .ok (.baload, 1) := by decide +kernel
theorem dX2_hang_42 : decode cX2_hang 42 = .ok (.ior, 1) := by decide +kernel
theorem dX2_hang_43 : decode cX2_hang 43 = .ok (.bastore, 1) := by decide +kernel
theorem dX2_hang_44 : decode cX2_hang 44 = .ok (.return_, 1) := by decide +kernel
theorem dX2_rootOf_0 : decode cX2_rootOf 0 = .ok (.iload_n 1, 1) := by decide +kernel
theorem dX2_rootOf_1 : decode cX2_rootOf 1 = .ok (.istore_n 2, 1) := by decide +kernel
theorem dX2_rootOf_2 : decode cX2_rootOf 2 = .ok (.iconst 0, 1) := by decide +kernel
theorem dX2_rootOf_3 : decode cX2_rootOf 3 = .ok (.istore_n 3, 1) := by decide +kernel
theorem dX2_rootOf_4 : decode cX2_rootOf 4 = .ok (.iload_n 3, 1) := by decide +kernel
theorem dX2_rootOf_5 : decode cX2_rootOf 5 = .ok (.bipush 8, 2) := by decide +kernel
theorem dX2_rootOf_7 : decode cX2_rootOf 7 = .ok (.if_icmp .ge 16, 3) := by decide +kernel
theorem dX2_rootOf_10 : decode cX2_rootOf 10 = .ok (.aload_n 0, 1) := by decide +kernel
theorem dX2_rootOf_11 : decode cX2_rootOf 11 = .ok (.getfield 9, 3) := by decide +kernel
theorem dX2_rootOf_14 : decode cX2_rootOf 14 = .ok (.iload_n 2, 1) := by decide +kernel
theorem dX2_rootOf_15 : decode cX2_rootOf 15 = .ok (.iaload, 1) := by decide +kernel
theorem dX2_rootOf_16 : decode cX2_rootOf 16 = .ok (.istore_n 2, 1) := by decide +kernel
theorem dX2_rootOf_17 : decode cX2_rootOf 17 = .ok (.iinc 3 1, 3) := by decide +kernel
theorem dX2_rootOf_20 : decode cX2_rootOf 20 = .ok (.goto (-16), 3) := by decide +kernel
theorem dX2_rootOf_23 : decode cX2_rootOf 23 = .ok (.iload_n 2, 1) := by decide +kernel
theorem dX2_rootOf_24 : decode cX2_rootOf 24 = .ok (.ireturn, 1) := by decide +kernel
theorem dX2_depthOf_0 : decode cX2_depthOf 0 = .ok (.iconst 0, 1) := by decide +kernel
theorem dX2_depthOf_1 : decode cX2_depthOf 1 = .ok (.istore_n 2, 1) := by decide +kernel
theorem dX2_depthOf_2 : decode cX2_depthOf 2 = .ok (.iload_n 1, 1) := by decide +kernel
theorem dX2_depthOf_3 : decode cX2_depthOf 3 = .ok (.istore_n 3, 1) := by decide +kernel
theorem dX2_depthOf_4 : decode cX2_depthOf 4 = .ok (.iconst 0, 1) := by decide +kernel
theorem dX2_depthOf_5 : decode cX2_depthOf 5 = .ok (.istore 4, 2) := by decide +kernel
theorem dX2_depthOf_7 : decode cX2_depthOf 7 = .ok (.iload 4, 2) := by decide +kernel
theorem dX2_depthOf_9 : decode cX2_depthOf 9 = .ok (.bipush 8, 2) := by decide +kernel
theorem dX2_depthOf_11 : decode cX2_depthOf 11 = .ok (.if_icmp .ge 29, 3) := by decide +kernel
theorem dX2_depthOf_14 : decode cX2_depthOf 14 = .ok (.aload_n 0, 1) := by decide +kernel
theorem dX2_depthOf_15 : decode cX2_depthOf 15 = .ok (.getfield 9, 3) := by decide +kernel
theorem dX2_depthOf_18 : decode cX2_depthOf 18 = .ok (.iload_n 3, 1) := by decide +kernel
theorem dX2_depthOf_19 : decode cX2_depthOf 19 = .ok (.iaload, 1) := by decide +kernel
theorem dX2_depthOf_20 : decode cX2_depthOf 20 = .ok (.iload_n 3, 1) := by decide +kernel
theorem dX2_depthOf_21 : decode cX2_depthOf 21 = .ok (.if_icmp .eq 19, 3) := by decide +kernel
theorem dX2_depthOf_24 : decode cX2_depthOf 24 = .ok (.aload_n 0, 1) := by decide +kernel
theorem dX2_depthOf_25 : decode cX2_depthOf 25 = .ok (.getfield 9, 3) := by decide +kernel
theorem dX2_depthOf_28 : decode cX2_depthOf 28 = .ok (.iload_n 3, 1) := by decide +kernel
theorem dX2_depthOf_29 : decode cX2_depthOf 29 = .ok (.iaload, 1) := by decide +kernel
theorem dX2_depthOf_30 : decode cX2_depthOf 30 = .ok (.istore_n 3, 1) := by decide +kernel
theorem dX2_depthOf_31 : decode cX2_depthOf 31 = .ok (.iinc 2 1, 3) := by decide +kernel
theorem dX2_depthOf_34 : decode cX2_depthOf 34 = .ok (.iinc 4 1, 3) := by decide +kernel
theorem dX2_depthOf_37 : decode cX2_depthOf 37 = .ok (.goto (-30), 3) := by decide +kernel
theorem dX2_depthOf_40 : decode cX2_depthOf 40 = .ok (.iload_n 2, 1) := by decide +kernel
theorem dX2_depthOf_41 : decode cX2_depthOf 41 = .ok (.ireturn, 1) := by decide +kernel
theorem dX2_turnOf_0 : decode cX2_turnOf 0 = .ok (.iconst 0, 1) := by decide +kernel
theorem dX2_turnOf_1 : decode cX2_turnOf 1 = .ok (.istore_n 2, 1) := by decide +kernel
theorem dX2_turnOf_2 : decode cX2_turnOf 2 = .ok (.iload_n 1, 1) := by decide +kernel
theorem dX2_turnOf_3 : decode cX2_turnOf 3 = .ok (.istore_n 3, 1) := by decide +kernel
theorem dX2_turnOf_4 : decode cX2_turnOf 4 = .ok (.iconst 0, 1) := by decide +kernel
theorem dX2_turnOf_5 : decode cX2_turnOf 5 = .ok (.istore 4, 2) := by decide +kernel
theorem dX2_turnOf_7 : decode cX2_turnOf 7 = .ok (.iload 4, 2) := by decide +kernel
theorem dX2_turnOf_9 : decode cX2_turnOf 9 = .ok (.bipush 8, 2) := by decide +kernel
theorem dX2_turnOf_11 : decode cX2_turnOf 11 = .ok (.if_icmp .ge 35, 3) := by decide +kernel
theorem dX2_turnOf_14 : decode cX2_turnOf 14 = .ok (.aload_n 0, 1) := by decide +kernel
theorem dX2_turnOf_15 : decode cX2_turnOf 15 = .ok (.getfield 9, 3) := by decide +kernel
theorem dX2_turnOf_18 : decode cX2_turnOf 18 = .ok (.iload_n 3, 1) := by decide +kernel
theorem dX2_turnOf_19 : decode cX2_turnOf 19 = .ok (.iaload, 1) := by decide +kernel
theorem dX2_turnOf_20 : decode cX2_turnOf 20 = .ok (.iload_n 3, 1) := by decide +kernel
theorem dX2_turnOf_21 : decode cX2_turnOf 21 = .ok (.if_icmp .eq 25, 3) := by decide +kernel
theorem dX2_turnOf_24 : decode cX2_turnOf 24 = .ok (.iload_n 2, 1) := by decide +kernel
theorem dX2_turnOf_25 : decode cX2_turnOf 25 = .ok (.aload_n 0, 1) := by decide +kernel
theorem dX2_turnOf_26 : decode cX2_turnOf 26 = .ok (.getfield 18, 3) := by decide +kernel
theorem dX2_turnOf_29 : decode cX2_turnOf 29 = .ok (.iload_n 3, 1) := by decide +kernel
theorem dX2_turnOf_30 : decode cX2_turnOf 30 = .ok (.iaload, 1) := by decide +kernel
theorem dX2_turnOf_31 : decode cX2_turnOf 31 = .ok (.ixor, 1) := by decide +kernel
theorem dX2_turnOf_32 : decode cX2_turnOf 32 = .ok (.istore_n 2, 1) := by decide +kernel
theorem dX2_turnOf_33 : decode cX2_turnOf 33 = .ok (.aload_n 0, 1) := by decide +kernel
theorem dX2_turnOf_34 : decode cX2_turnOf 34 = .ok (.getfield 9, 3) := by decide +kernel
theorem dX2_turnOf_37 : decode cX2_turnOf 37 = .ok (.iload_n 3, 1) := by decide +kernel
theorem dX2_turnOf_38 : decode cX2_turnOf 38 = .ok (.iaload, 1) := by decide +kernel
theorem dX2_turnOf_39 : decode cX2_turnOf 39 = .ok (.istore_n 3, 1) := by decide +kernel
theorem dX2_turnOf_40 : decode cX2_turnOf 40 = .ok (.iinc 4 1, 3) := by decide +kernel
theorem dX2_turnOf_43 : decode cX2_turnOf 43 = .ok (.goto (-36), 3) := by decide +kernel
theorem dX2_turnOf_46 : decode cX2_turnOf 46 = .ok (.iload_n 2, 1) := by decide +kernel
theorem dX2_turnOf_47 : decode cX2_turnOf 47 = .ok (.ireturn, 1) := by decide +kernel
theorem dX2_areJoined_0 : decode cX2_areJoined 0 = .ok (.aload_n 0, 1) := by decide +kernel
theorem dX2_areJoined_1 : decode cX2_areJoined 1 = .ok (.iload_n 1, 1) := by decide +kernel
theorem dX2_areJoined_2 : decode cX2_areJoined 2 = .ok (.invokevirtual 53, 3) := by decide +kernel
theorem dX2_areJoined_5 : decode cX2_areJoined 5 = .ok (.aload_n 0, 1) := by decide +kernel
theorem dX2_areJoined_6 : decode cX2_areJoined 6 = .ok (.iload_n 2, 1) := by decide +kernel
theorem dX2_areJoined_7 : decode cX2_areJoined 7 = .ok (.invokevirtual 53, 3) := by decide +kernel
theorem dX2_areJoined_10 : decode cX2_areJoined 10 = .ok (.if_icmp .ne 7, 3) := by decide +kernel
theorem dX2_areJoined_13 : decode cX2_areJoined 13 = .ok (.iconst 1, 1) := by decide +kernel
theorem dX2_areJoined_14 : decode cX2_areJoined 14 = .ok (.goto 4, 3) := by decide +kernel
theorem dX2_areJoined_17 : decode cX2_areJoined 17 = .ok (.iconst 0, 1) := by decide +kernel
theorem dX2_areJoined_18 : decode cX2_areJoined 18 = .ok (.ireturn, 1) := by decide +kernel
theorem dX2_parts_0 : decode cX2_parts 0 = .ok (.iconst 0, 1) := by decide +kernel
theorem dX2_parts_1 : decode cX2_parts 1 = .ok (.istore_n 1, 1) := by decide +kernel
theorem dX2_parts_2 : decode cX2_parts 2 = .ok (.iconst 0, 1) := by decide +kernel
theorem dX2_parts_3 : decode cX2_parts 3 = .ok (.istore_n 2, 1) := by decide +kernel
theorem dX2_parts_4 : decode cX2_parts 4 = .ok (.iload_n 2, 1) := by decide +kernel
theorem dX2_parts_5 : decode cX2_parts 5 = .ok (.bipush 8, 2) := by decide +kernel
theorem dX2_parts_7 : decode cX2_parts 7 = .ok (.if_icmp .ge 22, 3) := by decide +kernel
theorem dX2_parts_10 : decode cX2_parts 10 = .ok (.aload_n 0, 1) := by decide +kernel
theorem dX2_parts_11 : decode cX2_parts 11 = .ok (.getfield 9, 3) := by decide +kernel
theorem dX2_parts_14 : decode cX2_parts 14 = .ok (.iload_n 2, 1) := by decide +kernel
theorem dX2_parts_15 : decode cX2_parts 15 = .ok (.iaload, 1) := by decide +kernel
theorem dX2_parts_16 : decode cX2_parts 16 = .ok (.iload_n 2, 1) := by decide +kernel
theorem dX2_parts_17 : decode cX2_parts 17 = .ok (.if_icmp .ne 6, 3) := by decide +kernel
theorem dX2_parts_20 : decode cX2_parts 20 = .ok (.iinc 1 1, 3) := by decide +kernel
theorem dX2_parts_23 : decode cX2_parts 23 = .ok (.iinc 2 1, 3) := by decide +kernel
theorem dX2_parts_26 : decode cX2_parts 26 = .ok (.goto (-22), 3) := by decide +kernel
theorem dX2_parts_29 : decode cX2_parts 29 = .ok (.iload_n 1, 1) := by decide +kernel
theorem dX2_parts_30 : decode cX2_parts 30 = .ok (.ireturn, 1) := by decide +kernel
theorem dX2_oddParts_0 : decode cX2_oddParts 0 = .ok (.iconst 0, 1) := by decide +kernel
theorem dX2_oddParts_1 : decode cX2_oddParts 1 = .ok (.istore_n 1, 1) := by decide +kernel
theorem dX2_oddParts_2 : decode cX2_oddParts 2 = .ok (.iconst 0, 1) := by decide +kernel
theorem dX2_oddParts_3 : decode cX2_oddParts 3 = .ok (.istore_n 2, 1) := by decide +kernel
theorem dX2_oddParts_4 : decode cX2_oddParts 4 = .ok (.iload_n 2, 1) := by decide +kernel
theorem dX2_oddParts_5 : decode cX2_oddParts 5 = .ok (.bipush 8, 2) := by decide +kernel
theorem dX2_oddParts_7 : decode cX2_oddParts 7 = .ok (.if_icmp .ge 31, 3) := by decide +kernel
theorem dX2_oddParts_10 : decode cX2_oddParts 10 = .ok (.aload_n 0, 1) := by decide +kernel
theorem dX2_oddParts_11 : decode cX2_oddParts 11 = .ok (.getfield 9, 3) := by decide +kernel
theorem dX2_oddParts_14 : decode cX2_oddParts 14 = .ok (.iload_n 2, 1) := by decide +kernel
theorem dX2_oddParts_15 : decode cX2_oddParts 15 = .ok (.iaload, 1) := by decide +kernel
theorem dX2_oddParts_16 : decode cX2_oddParts 16 = .ok (.iload_n 2, 1) := by decide +kernel
theorem dX2_oddParts_17 : decode cX2_oddParts 17 = .ok (.if_icmp .ne 15, 3) := by decide +kernel
theorem dX2_oddParts_20 : decode cX2_oddParts 20 = .ok (.aload_n 0, 1) := by decide +kernel
theorem dX2_oddParts_21 : decode cX2_oddParts 21 = .ok (.getfield 21, 3) := by decide +kernel
theorem dX2_oddParts_24 : decode cX2_oddParts 24 = .ok (.iload_n 2, 1) := by decide +kernel
theorem dX2_oddParts_25 : decode cX2_oddParts 25 = .ok (.baload, 1) := by decide +kernel
theorem dX2_oddParts_26 : decode cX2_oddParts 26 = .ok (.ifCond .eq 6, 3) := by decide +kernel
theorem dX2_oddParts_29 : decode cX2_oddParts 29 = .ok (.iinc 1 1, 3) := by decide +kernel
theorem dX2_oddParts_32 : decode cX2_oddParts 32 = .ok (.iinc 2 1, 3) := by decide +kernel
theorem dX2_oddParts_35 : decode cX2_oddParts 35 = .ok (.goto (-31), 3) := by decide +kernel
theorem dX2_oddParts_38 : decode cX2_oddParts 38 = .ok (.iload_n 1, 1) := by decide +kernel
theorem dX2_oddParts_39 : decode cX2_oddParts 39 = .ok (.ireturn, 1) := by decide +kernel
theorem dX2_greatestDepth_0 : decode cX2_greatestDepth 0 = .ok (.iconst 0, 1) := by decide +kernel
theorem dX2_greatestDepth_1 : decode cX2_greatestDepth 1 = .ok (.istore_n 1, 1) := by decide +kernel
theorem dX2_greatestDepth_2 : decode cX2_greatestDepth 2 = .ok (.iconst 0, 1) := by decide +kernel
theorem dX2_greatestDepth_3 : decode cX2_greatestDepth 3 = .ok (.istore_n 2, 1) := by decide +kernel
theorem dX2_greatestDepth_4 : decode cX2_greatestDepth 4 = .ok (.iload_n 2, 1) := by decide +kernel
theorem dX2_greatestDepth_5 : decode cX2_greatestDepth 5 = .ok (.bipush 8, 2) := by decide +kernel
theorem dX2_greatestDepth_7 : decode cX2_greatestDepth 7 = .ok (.if_icmp .ge 19, 3) := by decide +kernel
theorem dX2_greatestDepth_10 : decode cX2_greatestDepth 10 = .ok (.iload_n 1, 1) := by decide +kernel
theorem dX2_greatestDepth_11 : decode cX2_greatestDepth 11 = .ok (.aload_n 0, 1) := by decide +kernel
theorem dX2_greatestDepth_12 : decode cX2_greatestDepth 12 = .ok (.iload_n 2, 1) := by decide +kernel
theorem dX2_greatestDepth_13 : decode cX2_greatestDepth 13 = .ok (.invokevirtual 67, 3) := by decide +kernel
theorem dX2_greatestDepth_16 : decode cX2_greatestDepth 16 = .ok (.invokestatic 70, 3) := by decide +kernel
theorem dX2_greatestDepth_19 : decode cX2_greatestDepth 19 = .ok (.istore_n 1, 1) := by decide +kernel
theorem dX2_greatestDepth_20 : decode cX2_greatestDepth 20 = .ok (.iinc 2 1, 3) := by decide +kernel
theorem dX2_greatestDepth_23 : decode cX2_greatestDepth 23 = .ok (.goto (-19), 3) := by decide +kernel
theorem dX2_greatestDepth_26 : decode cX2_greatestDepth 26 = .ok (.iload_n 1, 1) := by decide +kernel
theorem dX2_greatestDepth_27 : decode cX2_greatestDepth 27 = .ok (.ireturn, 1) := by decide +kernel
theorem dX2_greatestSize_0 : decode cX2_greatestSize 0 = .ok (.iconst 0, 1) := by decide +kernel
theorem dX2_greatestSize_1 : decode cX2_greatestSize 1 = .ok (.istore_n 1, 1) := by decide +kernel
theorem dX2_greatestSize_2 : decode cX2_greatestSize 2 = .ok (.iconst 0, 1) := by decide +kernel
theorem dX2_greatestSize_3 : decode cX2_greatestSize 3 = .ok (.istore_n 2, 1) := by decide +kernel
theorem dX2_greatestSize_4 : decode cX2_greatestSize 4 = .ok (.iload_n 2, 1) := by decide +kernel
theorem dX2_greatestSize_5 : decode cX2_greatestSize 5 = .ok (.bipush 8, 2) := by decide +kernel
theorem dX2_greatestSize_7 : decode cX2_greatestSize 7 = .ok (.if_icmp .ge 20, 3) := by decide +kernel
theorem dX2_greatestSize_10 : decode cX2_greatestSize 10 = .ok (.iload_n 1, 1) := by decide +kernel
theorem dX2_greatestSize_11 : decode cX2_greatestSize 11 = .ok (.aload_n 0, 1) := by decide +kernel
theorem dX2_greatestSize_12 : decode cX2_greatestSize 12 = .ok (.getfield 15, 3) := by decide +kernel
theorem dX2_greatestSize_15 : decode cX2_greatestSize 15 = .ok (.iload_n 2, 1) := by decide +kernel
theorem dX2_greatestSize_16 : decode cX2_greatestSize 16 = .ok (.iaload, 1) := by decide +kernel
theorem dX2_greatestSize_17 : decode cX2_greatestSize 17 = .ok (.invokestatic 70, 3) := by decide +kernel
theorem dX2_greatestSize_20 : decode cX2_greatestSize 20 = .ok (.istore_n 1, 1) := by decide +kernel
theorem dX2_greatestSize_21 : decode cX2_greatestSize 21 = .ok (.iinc 2 1, 3) := by decide +kernel
theorem dX2_greatestSize_24 : decode cX2_greatestSize 24 = .ok (.goto (-20), 3) := by decide +kernel
theorem dX2_greatestSize_27 : decode cX2_greatestSize 27 = .ok (.iload_n 1, 1) := by decide +kernel
theorem dX2_greatestSize_28 : decode cX2_greatestSize 28 = .ok (.ireturn, 1) := by decide +kernel
theorem dX3_init_0 : decode cX3_init 0 = .ok (.aload_n 0, 1) := by decide +kernel
theorem dX3_init_1 : decode cX3_init 1 = .ok (.invokespecial 3, 3) := by decide +kernel
theorem dX3_init_4 : decode cX3_init 4 = .ok (.aload_n 0, 1) := by decide +kernel
theorem dX3_init_5 : decode cX3_init 5 = .ok (.bipush 64, 2) := by decide +kernel
theorem dX3_init_7 : decode cX3_init 7 = .ok (.newarray .char, 2) := by decide +kernel
theorem dX3_init_9 : decode cX3_init 9 = .ok (.putfield 9, 3) := by decide +kernel
theorem dX3_init_12 : decode cX3_init 12 = .ok (.aload_n 0, 1) := by decide +kernel
theorem dX3_init_13 : decode cX3_init 13 = .ok (.bipush 8, 2) := by decide +kernel
theorem dX3_init_15 : decode cX3_init 15 = .ok (.newarray .int, 2) := by decide +kernel
theorem dX3_init_17 : decode cX3_init 17 = .ok (.putfield 15, 3) := by decide +kernel
theorem dX3_init_20 : decode cX3_init 20 = .ok (.aload_n 0, 1) := by decide +kernel
theorem dX3_init_21 : decode cX3_init 21 = .ok (.bipush 16, 2) := by decide +kernel
theorem dX3_init_23 : decode cX3_init 23 = .ok (.newarray .char, 2) := by decide +kernel
theorem dX3_init_25 : decode cX3_init 25 = .ok (.putfield 19, 3) := by decide +kernel
theorem dX3_init_28 : decode cX3_init 28 = .ok (.aload_n 0, 1) := by decide +kernel
theorem dX3_init_29 : decode cX3_init 29 = .ok (.bipush 16, 2) := by decide +kernel
theorem dX3_init_31 : decode cX3_init 31 = .ok (.newarray .int, 2) := by decide +kernel
theorem dX3_init_33 : decode cX3_init 33 = .ok (.putfield 22, 3) := by decide +kernel
theorem dX3_init_36 : decode cX3_init 36 = .ok (.aload_n 0, 1) := by decide +kernel
theorem dX3_init_37 : decode cX3_init 37 = .ok (.bipush 16, 2) := by decide +kernel
theorem dX3_init_39 : decode cX3_init 39 = .ok (.newarray .int, 2) := by decide +kernel
theorem dX3_init_41 : decode cX3_init 41 = .ok (.putfield 25, 3) := by decide +kernel
theorem dX3_init_44 : decode cX3_init 44 = .ok (.return_, 1) := by decide +kernel
theorem dX3_append_0 : decode cX3_append 0 = .ok (.aload_n 0, 1) := by decide +kernel
theorem dX3_append_1 : decode cX3_append 1 = .ok (.getfield 28, 3) := by decide +kernel
theorem dX3_append_4 : decode cX3_append 4 = .ok (.bipush 64, 2) := by decide +kernel
theorem dX3_append_6 : decode cX3_append 6 = .ok (.if_icmp .lt 6, 3) := by decide +kernel
theorem dX3_append_9 : decode cX3_append 9 = .ok (.bipush (-4), 2) := by decide +kernel
theorem dX3_append_11 : decode cX3_append 11 = .ok (.ireturn, 1) := by decide +kernel
theorem dX3_append_12 : decode cX3_append 12 = .ok (.aload_n 0, 1) := by decide +kernel
theorem dX3_append_13 : decode cX3_append 13 = .ok (.getfield 9, 3) := by decide +kernel
theorem dX3_append_16 : decode cX3_append 16 = .ok (.aload_n 0, 1) := by decide +kernel
theorem dX3_append_17 : decode cX3_append 17 = .ok (.getfield 28, 3) := by decide +kernel
theorem dX3_append_20 : decode cX3_append 20 = .ok (.iload_n 1, 1) := by decide +kernel
theorem dX3_append_21 : decode cX3_append 21 = .ok (.i2c, 1) := by decide +kernel
theorem dX3_append_22 : decode cX3_append 22 = .ok (.castore, 1) := by decide +kernel
theorem dX3_append_23 : decode cX3_append 23 = .ok (.aload_n 0, 1) := by decide +kernel
theorem dX3_append_24 : decode cX3_append 24 = .ok (.dup, 1) := by decide +kernel
theorem dX3_append_25 : decode cX3_append 25 = .ok (.getfield 28, 3) := by decide +kernel
theorem dX3_append_28 : decode cX3_append 28 = .ok (.iconst 1, 1) := by decide +kernel
theorem dX3_append_29 : decode cX3_append 29 = .ok (.iadd, 1) := by decide +kernel
theorem dX3_append_30 : decode cX3_append 30 = .ok (.putfield 28, 3) := by decide +kernel
theorem dX3_append_33 : decode cX3_append 33 = .ok (.aload_n 0, 1) := by decide +kernel
theorem dX3_append_34 : decode cX3_append 34 = .ok (.getfield 28, 3) := by decide +kernel
theorem dX3_append_37 : decode cX3_append 37 = .ok (.ireturn, 1) := by decide +kernel
theorem dX3_firstFault_0 : decode cX3_firstFault 0 = .ok (.aload_n 0, 1) := by decide +kernel
theorem dX3_firstFault_1 : decode cX3_firstFault 1 = .ok (.invokevirtual 32, 3) := by decide +kernel
theorem dX3_firstFault_4 : decode cX3_firstFault 4 = .ok (.aload_n 0, 1) := by decide +kernel
theorem dX3_firstFault_5 : decode cX3_firstFault 5 = .ok (.getfield 28, 3) := by decide +kernel
theorem dX3_firstFault_8 : decode cX3_firstFault 8 = .ok (.ifCond .eq 14, 3) := by decide +kernel
theorem dX3_firstFault_11 : decode cX3_firstFault 11 = .ok (.aload_n 0, 1) := by decide +kernel
theorem dX3_firstFault_12 : decode cX3_firstFault 12 = .ok (.getfield 9, 3) := by decide +kernel
theorem dX3_firstFault_15 : decode cX3_firstFault 15 = .ok (.iconst 0, 1) := by decide +kernel
theorem dX3_firstFault_16 : decode cX3_firstFault 16 = .ok (.caload, 1) := by decide +kernel
theorem dX3_firstFault_17 : decode cX3_firstFault 17 = .ok (.bipush 76, 2) := by decide +kernel
theorem dX3_firstFault_19 : decode cX3_firstFault 19 = .ok (.if_icmp .eq 5, 3) := by decide +kernel
theorem dX3_firstFault_22 : decode cX3_firstFault 22 = .ok (.iconst 0, 1) := by decide +kernel
theorem dX3_firstFault_23 : decode cX3_firstFault 23 = .ok (.ireturn, 1) := by decide +kernel
theorem dX3_firstFault_24 : decode cX3_firstFault 24 = .ok (.iconst 1, 1) := by decide +kernel
theorem dX3_firstFault_25 : decode cX3_firstFault 25 = .ok (.istore_n 1, 1) := by decide +kernel
theorem dX3_firstFault_26 : decode cX3_firstFault 26 = .ok (.aload_n 0, 1) := by decide +kernel
theorem dX3_firstFault_27 : decode cX3_firstFault 27 = .ok (.iconst 0, 1) := by decide +kernel
theorem dX3_firstFault_28 : decode cX3_firstFault 28 = .ok (.putfield 35, 3) := by decide +kernel
theorem dX3_firstFault_31 : decode cX3_firstFault 31 = .ok (.aload_n 0, 1) := by decide +kernel
theorem dX3_firstFault_32 : decode cX3_firstFault 32 = .ok (.getfield 35, 3) := by decide +kernel
theorem dX3_firstFault_35 : decode cX3_firstFault 35 = .ok (.bipush 16, 2) := by decide +kernel
theorem dX3_firstFault_37 : decode cX3_firstFault 37 = .ok (.if_icmp .ge 62, 3) := by decide +kernel
theorem dX3_firstFault_40 : decode cX3_firstFault 40 = .ok (.iload_n 1, 1) := by decide +kernel
theorem dX3_firstFault_41 : decode cX3_firstFault 41 = .ok (.aload_n 0, 1) := by decide +kernel
theorem dX3_firstFault_42 : decode cX3_firstFault 42 = .ok (.getfield 28, 3) := by decide +kernel
theorem dX3_firstFault_45 : decode cX3_firstFault 45 = .ok (.if_icmp .ge 54, 3) := by decide +kernel
theorem dX3_firstFault_48 : decode cX3_firstFault 48 = .ok (.aload_n 0, 1) := by decide +kernel
theorem dX3_firstFault_49 : decode cX3_firstFault 49 = .ok (.iload_n 1, 1) := by decide +kernel
theorem dX3_firstFault_50 : decode cX3_firstFault 50 = .ok (.invokevirtual 38, 3) := by decide +kernel
theorem dX3_firstFault_53 : decode cX3_firstFault 53 = .ok (.istore_n 2, 1) := by decide +kernel
theorem dX3_firstFault_54 : decode cX3_firstFault 54 = .ok (.iload_n 2, 1) := by decide +kernel
theorem dX3_firstFault_55 : decode cX3_firstFault 55 = .ok (.bipush (-9), 2) := by decide +kernel
theorem dX3_firstFault_57 : decode cX3_firstFault 57 = .ok (.if_icmp .eq 5, 3) := by decide +kernel
theorem dX3_firstFault_60 : decode cX3_firstFault 60 = .ok (.iload_n 2, 1) := by decide +kernel
theorem dX3_firstFault_61 : decode cX3_firstFault 61 = .ok (.ireturn, 1) := by decide +kernel
theorem dX3_firstFault_62 : decode cX3_firstFault 62 = .ok (.aload_n 0, 1) := by decide +kernel
theorem dX3_firstFault_63 : decode cX3_firstFault 63 = .ok (.iload_n 1, 1) := by decide +kernel
theorem dX3_firstFault_64 : decode cX3_firstFault 64 = .ok (.invokevirtual 42, 3) := by decide +kernel
theorem dX3_firstFault_67 : decode cX3_firstFault 67 = .ok (.iload_n 1, 1) := by decide +kernel
theorem dX3_firstFault_68 : decode cX3_firstFault 68 = .ok (.aload_n 0, 1) := by decide +kernel
theorem dX3_firstFault_69 : decode cX3_firstFault 69 = .ok (.getfield 9, 3) := by decide +kernel
theorem dX3_firstFault_72 : decode cX3_firstFault 72 = .ok (.iload_n 1, 1) := by decide +kernel
theorem dX3_firstFault_73 : decode cX3_firstFault 73 = .ok (.caload, 1) := by decide +kernel
theorem dX3_firstFault_74 : decode cX3_firstFault 74 = .ok (.bipush 46, 2) := by decide +kernel
theorem dX3_firstFault_76 : decode cX3_firstFault 76 = .ok (.if_icmp .ne 7, 3) := by decide +kernel
theorem dX3_firstFault_79 : decode cX3_firstFault 79 = .ok (.iconst 1, 1) := by decide +kernel
theorem dX3_firstFault_80 : decode cX3_firstFault 80 = .ok (.goto 4, 3) := by decide +kernel
theorem dX3_firstFault_83 : decode cX3_firstFault 83 = .ok (.iconst 3, 1) := by decide +kernel
theorem dX3_firstFault_84 : decode cX3_firstFault 84 = .ok (.iadd, 1) := by decide +kernel
theorem dX3_firstFault_85 : decode cX3_firstFault 85 = .ok (.istore_n 1, 1) := by decide +kernel
theorem dX3_firstFault_86 : decode cX3_firstFault 86 = .ok (.aload_n 0, 1) := by decide +kernel
theorem dX3_firstFault_87 : decode cX3_firstFault 87 = .ok (.dup, 1) := by decide +kernel
theorem dX3_firstFault_88 : decode cX3_firstFault 88 = .ok (.getfield 35, 3) := by decide +kernel
theorem dX3_firstFault_91 : decode cX3_firstFault 91 = .ok (.iconst 1, 1) := by decide +kernel
theorem dX3_firstFault_92 : decode cX3_firstFault 92 = .ok (.iadd, 1) := by decide +kernel
theorem dX3_firstFault_93 : decode cX3_firstFault 93 = .ok (.putfield 35, 3) := by decide +kernel
theorem dX3_firstFault_96 : decode cX3_firstFault 96 = .ok (.goto (-65), 3) := by decide +kernel
theorem dX3_firstFault_99 : decode cX3_firstFault 99 = .ok (.iload_n 1, 1) := by decide +kernel
theorem dX3_firstFault_100 : decode cX3_firstFault 100 = .ok (.aload_n 0, 1) := by decide +kernel
theorem dX3_firstFault_101 : decode cX3_firstFault 101 = .ok (.getfield 28, 3) := by decide +kernel
theorem dX3_firstFault_104 : decode cX3_firstFault 104 = .ok (.if_icmp .ge 7, 3) := by decide +kernel
theorem dX3_firstFault_107 : decode cX3_firstFault 107 = .ok (.iload_n 1, 1) := by decide +kernel
theorem dX3_firstFault_108 : decode cX3_firstFault 108 = .ok (.goto 5, 3) := by decide +kernel
theorem dX3_firstFault_111 : decode cX3_firstFault 111 = .ok (.bipush (-9), 2) := by decide +kernel
theorem dX3_firstFault_113 : decode cX3_firstFault 113 = .ok (.ireturn, 1) := by decide +kernel
theorem dX3_forgetLinks_0 : decode cX3_forgetLinks 0 = .ok (.aload_n 0, 1) := by decide +kernel
theorem dX3_forgetLinks_1 : decode cX3_forgetLinks 1 = .ok (.iconst 0, 1) := by decide +kernel
theorem dX3_forgetLinks_2 : decode cX3_forgetLinks 2 = .ok (.putfield 46, 3) := by decide +kernel
theorem dX3_forgetLinks_5 : decode cX3_forgetLinks 5 = .ok (.iconst 0, 1) := by decide +kernel
theorem dX3_forgetLinks_6 : decode cX3_forgetLinks 6 = .ok (.istore_n 1, 1) := by decide +kernel
theorem dX3_forgetLinks_7 : decode cX3_forgetLinks 7 = .ok (.iload_n 1, 1) := by decide +kernel
theorem dX3_forgetLinks_8 : decode cX3_forgetLinks 8 = .ok (.bipush 8, 2) := by decide +kernel
theorem dX3_forgetLinks_10 : decode cX3_forgetLinks 10 = .ok (.if_icmp .ge 16, 3) := by decide +kernel
theorem dX3_forgetLinks_13 : decode cX3_forgetLinks 13 = .ok (.aload_n 0, 1) := by decide +kernel
theorem dX3_forgetLinks_14 : decode cX3_forgetLinks 14 = .ok (.getfield 15, 3) := by decide +kernel
theorem dX3_forgetLinks_17 : decode cX3_forgetLinks 17 = .ok (.iload_n 1, 1) := by decide +kernel
theorem dX3_forgetLinks_18 : decode cX3_forgetLinks 18 = .ok (.iconst 0, 1) := by decide +kernel
theorem dX3_forgetLinks_19 : decode cX3_forgetLinks 19 = .ok (.iastore, 1) := by decide +kernel
theorem dX3_forgetLinks_20 : decode cX3_forgetLinks 20 = .ok (.iinc 1 1, 3) := by decide +kernel
theorem dX3_forgetLinks_23 : decode cX3_forgetLinks 23 = .ok (.goto (-16), 3) := by decide +kernel
theorem dX3_forgetLinks_26 : decode cX3_forgetLinks 26 = .ok (.return_, 1) := by decide +kernel
theorem dX3_faultOfEvent_0 : decode cX3_faultOfEvent 0 = .ok (.aload_n 0, 1) := by decide +kernel
theorem dX3_faultOfEvent_1 : decode cX3_faultOfEvent 1 = .ok (.getfield 9, 3) := by decide +kernel
theorem dX3_faultOfEvent_4 : decode cX3_faultOfEvent 4 = .ok (.iload_n 1, 1) := by decide +kernel
theorem dX3_faultOfEvent_5 : decode cX3_faultOfEvent 5 = .ok (.caload, 1) := by decide +kernel
theorem dX3_faultOfEvent_6 : decode cX3_faultOfEvent 6 = .ok (.istore_n 2, 1) := by decide +kernel
theorem dX3_faultOfEvent_7 : decode cX3_faultOfEvent 7 = .ok (.iload_n 2, 1) := by decide +kernel
theorem dX3_faultOfEvent_8 : decode cX3_faultOfEvent 8 = .ok (.bipush 46, 2) := by decide +kernel
theorem dX3_faultOfEvent_10 : decode cX3_faultOfEvent 10 = .ok (.if_icmp .ne 6, 3) := by decide +kernel
theorem dX3_faultOfEvent_13 : decode cX3_faultOfEvent 13 = .ok (.bipush (-9), 2) := by decide +kernel
theorem dX3_faultOfEvent_15 : decode cX3_faultOfEvent 15 = .ok (.ireturn, 1) := by decide +kernel
theorem dX3_faultOfEvent_16 : decode cX3_faultOfEvent 16 = .ok (.iload_n 2, 1) := by decide +kernel
theorem dX3_faultOfEvent_17 : decode cX3_faultOfEvent 17 = .ok (.bipush 43, 2) := by decide +kernel
theorem dX3_faultOfEvent_19 : decode cX3_faultOfEvent 19 = .ok (.if_icmp .eq 18, 3) := by decide +kernel
theorem dX3_faultOfEvent_22 : decode cX3_faultOfEvent 22 = .ok (.iload_n 2, 1) := by decide +kernel
theorem dX3_faultOfEvent_23 : decode cX3_faultOfEvent 23 = .ok (.bipush 45, 2) := by decide +kernel
theorem dX3_faultOfEvent_25 : decode cX3_faultOfEvent 25 = .ok (.if_icmp .ne 10, 3) := by decide +kernel
theorem dX3_faultOfEvent_28 : decode cX3_faultOfEvent 28 = .ok (.aload_n 0, 1) := by decide +kernel
theorem dX3_faultOfEvent_29 : decode cX3_faultOfEvent 29 = .ok (.getfield 46, 3) := by decide +kernel
theorem dX3_faultOfEvent_32 : decode cX3_faultOfEvent 32 = .ok (.ifCond .ne 5, 3) := by decide +kernel
theorem dX3_faultOfEvent_35 : decode cX3_faultOfEvent 35 = .ok (.iload_n 1, 1) := by decide +kernel
theorem dX3_faultOfEvent_36 : decode cX3_faultOfEvent 36 = .ok (.ireturn, 1) := by decide +kernel
theorem dX3_faultOfEvent_37 : decode cX3_faultOfEvent 37 = .ok (.iload_n 1, 1) := by decide +kernel
theorem dX3_faultOfEvent_38 : decode cX3_faultOfEvent 38 = .ok (.iconst 1, 1) := by decide +kernel
theorem dX3_faultOfEvent_39 : decode cX3_faultOfEvent 39 = .ok (.iadd, 1) := by decide +kernel
theorem dX3_faultOfEvent_40 : decode cX3_faultOfEvent 40 = .ok (.aload_n 0, 1) := by decide +kernel
theorem dX3_faultOfEvent_41 : decode cX3_faultOfEvent 41 = .ok (.getfield 28, 3) := by decide +kernel
theorem dX3_faultOfEvent_44 : decode cX3_faultOfEvent 44 = .ok (.if_icmp .lt 8, 3) := by decide +kernel
theorem dX3_faultOfEvent_47 : decode cX3_faultOfEvent 47 = .ok (.aload_n 0, 1) := by decide +kernel
theorem dX3_faultOfEvent_48 : decode cX3_faultOfEvent 48 = .ok (.getfield 28, 3) := by decide +kernel
theorem dX3_faultOfEvent_51 : decode cX3_faultOfEvent 51 = .ok (.ireturn, 1) := by decide +kernel
theorem dX3_faultOfEvent_52 : decode cX3_faultOfEvent 52 = .ok (.aload_n 0, 1) := by decide +kernel
theorem dX3_faultOfEvent_53 : decode cX3_faultOfEvent 53 = .ok (.getfield 9, 3) := by decide +kernel
theorem dX3_faultOfEvent_56 : decode cX3_faultOfEvent 56 = .ok (.iload_n 1, 1) := by decide +kernel
theorem dX3_faultOfEvent_57 : decode cX3_faultOfEvent 57 = .ok (.iconst 1, 1) := by decide +kernel
theorem dX3_faultOfEvent_58 : decode cX3_faultOfEvent 58 = .ok (.iadd, 1) := by decide +kernel
theorem dX3_faultOfEvent_59 : decode cX3_faultOfEvent 59 = .ok (.caload, 1) := by decide +kernel
theorem dX3_faultOfEvent_60 : decode cX3_faultOfEvent 60 = .ok (.bipush 48, 2) := by decide +kernel
theorem dX3_faultOfEvent_62 : decode cX3_faultOfEvent 62 = .ok (.isub, 1) := by decide +kernel
theorem dX3_faultOfEvent_63 : decode cX3_faultOfEvent 63 = .ok (.istore_n 3, 1) := by decide +kernel
theorem dX3_faultOfEvent_64 : decode cX3_faultOfEvent 64 = .ok (.iload_n 3, 1) := by decide +kernel
theorem dX3_faultOfEvent_65 : decode cX3_faultOfEvent 65 = .ok (.invokestatic 49, 3) := by decide +kernel
theorem dX3_faultOfEvent_68 : decode cX3_faultOfEvent 68 = .ok (.ifCond .eq 12, 3) := by decide +kernel
theorem dX3_faultOfEvent_71 : decode cX3_faultOfEvent 71 = .ok (.aload_n 0, 1) := by decide +kernel
theorem dX3_faultOfEvent_72 : decode cX3_faultOfEvent 72 = .ok (.iload_n 3, 1) := by decide +kernel
theorem dX3_faultOfEvent_73 : decode cX3_faultOfEvent 73 = .ok (.iload_n 2, 1) := by decide +kernel
theorem dX3_faultOfEvent_74 : decode cX3_faultOfEvent 74 = .ok (.invokevirtual 53, 3) := by decide +kernel
theorem dX3_faultOfEvent_77 : decode cX3_faultOfEvent 77 = .ok (.ifCond .ne 7, 3) := by decide +kernel
theorem dX3_faultOfEvent_80 : decode cX3_faultOfEvent 80 = .ok (.iload_n 1, 1) := by decide +kernel
theorem dX3_faultOfEvent_81 : decode cX3_faultOfEvent 81 = .ok (.iconst 1, 1) := by decide +kernel
theorem dX3_faultOfEvent_82 : decode cX3_faultOfEvent 82 = .ok (.iadd, 1) := by decide +kernel
theorem dX3_faultOfEvent_83 : decode cX3_faultOfEvent 83 = .ok (.ireturn, 1) := by decide +kernel
theorem dX3_faultOfEvent_84 : decode cX3_faultOfEvent 84 = .ok (.iload_n 1, 1) := by decide +kernel
theorem dX3_faultOfEvent_85 : decode cX3_faultOfEvent 85 = .ok (.iconst 2, 1) := by decide +kernel
theorem dX3_faultOfEvent_86 : decode cX3_faultOfEvent 86 = .ok (.iadd, 1) := by decide +kernel
theorem dX3_faultOfEvent_87 : decode cX3_faultOfEvent 87 = .ok (.aload_n 0, 1) := by decide +kernel
theorem dX3_faultOfEvent_88 : decode cX3_faultOfEvent 88 = .ok (.getfield 28, 3) := by decide +kernel
theorem dX3_faultOfEvent_91 : decode cX3_faultOfEvent 91 = .ok (.if_icmp .lt 8, 3) := by decide +kernel
theorem dX3_faultOfEvent_94 : decode cX3_faultOfEvent 94 = .ok (.aload_n 0, 1) := by decide +kernel
theorem dX3_faultOfEvent_95 : decode cX3_faultOfEvent 95 = .ok (.getfield 28, 3) := by decide +kernel
theorem dX3_faultOfEvent_98 : decode cX3_faultOfEvent 98 = .ok (.ireturn, 1) := by decide +kernel
theorem dX3_faultOfEvent_99 : decode cX3_faultOfEvent 99 = .ok (.aload_n 0, 1) := by decide +kernel
theorem dX3_faultOfEvent_100 : decode cX3_faultOfEvent 100 = .ok (.getfield 9, 3) := by decide +kernel
theorem dX3_faultOfEvent_103 : decode cX3_faultOfEvent 103 = .ok (.iload_n 1, 1) := by decide +kernel
theorem dX3_faultOfEvent_104 : decode cX3_faultOfEvent 104 = .ok (.iconst 2, 1) := by decide +kernel
theorem dX3_faultOfEvent_105 : decode cX3_faultOfEvent 105 = .ok (.iadd, 1) := by decide +kernel
theorem dX3_faultOfEvent_106 : decode cX3_faultOfEvent 106 = .ok (.caload, 1) := by decide +kernel
theorem dX3_faultOfEvent_107 : decode cX3_faultOfEvent 107 = .ok (.bipush 48, 2) := by decide +kernel
theorem dX3_faultOfEvent_109 : decode cX3_faultOfEvent 109 = .ok (.isub, 1) := by decide +kernel
theorem dX3_faultOfEvent_110 : decode cX3_faultOfEvent 110 = .ok (.istore 4, 2) := by decide +kernel
theorem dX3_faultOfEvent_112 : decode cX3_faultOfEvent 112 = .ok (.iload 4, 2) := by decide +kernel
theorem dX3_faultOfEvent_114 : decode cX3_faultOfEvent 114 = .ok (.invokestatic 49, 3) := by decide +kernel
theorem dX3_faultOfEvent_117 : decode cX3_faultOfEvent 117 = .ok (.ifCond .eq 22, 3) := by decide +kernel
theorem dX3_faultOfEvent_120 : decode cX3_faultOfEvent 120 = .ok (.aload_n 0, 1) := by decide +kernel
theorem dX3_faultOfEvent_121 : decode cX3_faultOfEvent 121 = .ok (.iload_n 3, 1) := by decide +kernel
theorem dX3_faultOfEvent_122 : decode cX3_faultOfEvent 122 = .ok (.iload_n 2, 1) := by decide +kernel
theorem dX3_faultOfEvent_123 : decode cX3_faultOfEvent 123 = .ok (.invokevirtual 53, 3) := by decide +kernel
theorem dX3_faultOfEvent_126 : decode cX3_faultOfEvent 126 = .ok (.iload 4, 2) := by decide +kernel
theorem dX3_faultOfEvent_128 : decode cX3_faultOfEvent 128 = .ok (.ishr, 1) := by decide +kernel
theorem dX3_faultOfEvent_129 : decode cX3_faultOfEvent 129 = .ok (.iconst 1, 1) := by decide +kernel
theorem dX3_faultOfEvent_130 : decode cX3_faultOfEvent 130 = .ok (.iand, 1) := by decide +kernel
theorem dX3_faultOfEvent_131 : decode cX3_faultOfEvent 131 = .ok (.ifCond .eq 8, 3) := by decide +kernel
theorem dX3_faultOfEvent_134 : decode cX3_faultOfEvent 134 = .ok (.bipush (-9), 2) := by decide +kernel
theorem dX3_faultOfEvent_136 : decode cX3_faultOfEvent 136 = .ok (.goto 6, 3) := by decide +kernel
theorem dX3_faultOfEvent_139 : decode cX3_faultOfEvent 139 = .ok (.iload_n 1, 1) := by decide +kernel
theorem dX3_faultOfEvent_140 : decode cX3_faultOfEvent 140 = .ok (.iconst 2, 1) := by decide +kernel
theorem dX3_faultOfEvent_141 : decode cX3_faultOfEvent 141 = .ok (.iadd, 1) := by decide +kernel
theorem dX3_faultOfEvent_142 : decode cX3_faultOfEvent 142 = .ok (.ireturn, 1) := by decide +kernel
theorem dX3_partners_0 : decode cX3_partners 0 = .ok (.sipush 255, 3) := by decide +kernel
theorem dX3_partners_3 : decode cX3_partners 3 = .ok (.iconst 1, 1) := by decide +kernel
theorem dX3_partners_4 : decode cX3_partners 4 = .ok (.iload_n 1, 1) := by decide +kernel
theorem dX3_partners_5 : decode cX3_partners 5 = .ok (.ishl, 1) := by decide +kernel
theorem dX3_partners_6 : decode cX3_partners 6 = .ok (.ixor, 1) := by decide +kernel
theorem dX3_partners_7 : decode cX3_partners 7 = .ok (.istore_n 3, 1) := by decide +kernel
theorem dX3_partners_8 : decode cX3_partners 8 = .ok (.iload_n 2, 1) := by decide +kernel
theorem dX3_partners_9 : decode cX3_partners 9 = .ok (.bipush 43, 2) := by decide +kernel
theorem dX3_partners_11 : decode cX3_partners 11 = .ok (.if_icmp .ne 16, 3) := by decide +kernel
theorem dX3_partners_14 : decode cX3_partners 14 = .ok (.iload_n 3, 1) := by decide +kernel
theorem dX3_partners_15 : decode cX3_partners 15 = .ok (.aload_n 0, 1) := by decide +kernel
theorem dX3_partners_16 : decode cX3_partners 16 = .ok (.getfield 15, 3) := by decide +kernel
theorem dX3_partners_19 : decode cX3_partners 19 = .ok (.iload_n 1, 1) := by decide +kernel
theorem dX3_partners_20 : decode cX3_partners 20 = .ok (.iaload, 1) := by decide +kernel
theorem dX3_partners_21 : decode cX3_partners 21 = .ok (.iconst (-1), 1) := by decide +kernel
theorem dX3_partners_22 : decode cX3_partners 22 = .ok (.ixor, 1) := by decide +kernel
theorem dX3_partners_23 : decode cX3_partners 23 = .ok (.iand, 1) := by decide +kernel
theorem dX3_partners_24 : decode cX3_partners 24 = .ok (.goto 9, 3) := by decide +kernel
theorem dX3_partners_27 : decode cX3_partners 27 = .ok (.aload_n 0, 1) := by decide +kernel
theorem dX3_partners_28 : decode cX3_partners 28 = .ok (.getfield 15, 3) := by decide +kernel
theorem dX3_partners_31 : decode cX3_partners 31 = .ok (.iload_n 1, 1) := by decide +kernel
theorem dX3_partners_32 : decode cX3_partners 32 = .ok (.iaload, 1) := by decide +kernel
theorem dX3_partners_33 : decode cX3_partners 33 = .ok (.ireturn, 1) := by decide +kernel
theorem dX3_takeEvent_0 : decode cX3_takeEvent 0 = .ok (.aload_n 0, 1) := by decide +kernel
theorem dX3_takeEvent_1 : decode cX3_takeEvent 1 = .ok (.getfield 9, 3) := by decide +kernel
theorem dX3_takeEvent_4 : decode cX3_takeEvent 4 = .ok (.iload_n 1, 1) := by decide +kernel
theorem dX3_takeEvent_5 : decode cX3_takeEvent 5 = .ok (.caload, 1) := by decide +kernel
theorem dX3_takeEvent_6 : decode cX3_takeEvent 6 = .ok (.istore_n 2, 1) := by decide +kernel
theorem dX3_takeEvent_7 : decode cX3_takeEvent 7 = .ok (.aload_n 0, 1) := by decide +kernel
theorem dX3_takeEvent_8 : decode cX3_takeEvent 8 = .ok (.getfield 19, 3) := by decide +kernel
theorem dX3_takeEvent_11 : decode cX3_takeEvent 11 = .ok (.aload_n 0, 1) := by decide +kernel
theorem dX3_takeEvent_12 : decode cX3_takeEvent 12 = .ok (.getfield 35, 3) := by decide +kernel
theorem dX3_takeEvent_15 : decode cX3_takeEvent 15 = .ok (.iload_n 2, 1) := by decide +kernel
theorem dX3_takeEvent_16 : decode cX3_takeEvent 16 = .ok (.castore, 1) := by decide +kernel
theorem dX3_takeEvent_17 : decode cX3_takeEvent 17 = .ok (.iload_n 2, 1) := by decide +kernel
theorem dX3_takeEvent_18 : decode cX3_takeEvent 18 = .ok (.bipush 46, 2) := by decide +kernel
theorem dX3_takeEvent_20 : decode cX3_takeEvent 20 = .ok (.if_icmp .eq 95, 3) := by decide +kernel
theorem dX3_takeEvent_23 : decode cX3_takeEvent 23 = .ok (.aload_n 0, 1) := by decide +kernel
theorem dX3_takeEvent_24 : decode cX3_takeEvent 24 = .ok (.getfield 9, 3) := by decide +kernel
theorem dX3_takeEvent_27 : decode cX3_takeEvent 27 = .ok (.iload_n 1, 1) := by decide +kernel
theorem dX3_takeEvent_28 : decode cX3_takeEvent 28 = .ok (.iconst 1, 1) := by decide +kernel
theorem dX3_takeEvent_29 : decode cX3_takeEvent 29 = .ok (.iadd, 1) := by decide +kernel
theorem dX3_takeEvent_30 : decode cX3_takeEvent 30 = .ok (.caload, 1) := by decide +kernel
theorem dX3_takeEvent_31 : decode cX3_takeEvent 31 = .ok (.bipush 48, 2) := by decide +kernel
theorem dX3_takeEvent_33 : decode cX3_takeEvent 33 = .ok (.isub, 1) := by decide +kernel
theorem dX3_takeEvent_34 : decode cX3_takeEvent 34 = .ok (.istore_n 3, 1) := by decide +kernel
theorem dX3_takeEvent_35 : decode cX3_takeEvent 35 = .ok (.aload_n 0, 1) := by decide +kernel
theorem dX3_takeEvent_36 : decode cX3_takeEvent 36 = .ok (.getfield 9, 3) := by decide +kernel
theorem dX3_takeEvent_39 : decode cX3_takeEvent 39 = .ok (.iload_n 1, 1) := by decide +kernel
theorem dX3_takeEvent_40 : decode cX3_takeEvent 40 = .ok (.iconst 2, 1) := by decide +kernel
theorem dX3_takeEvent_41 : decode cX3_takeEvent 41 = .ok (.iadd, 1) := by decide +kernel
theorem dX3_takeEvent_42 : decode cX3_takeEvent 42 = .ok (.caload, 1) := by decide +kernel
theorem dX3_takeEvent_43 : decode cX3_takeEvent 43 = .ok (.bipush 48, 2) := by decide +kernel
theorem dX3_takeEvent_45 : decode cX3_takeEvent 45 = .ok (.isub, 1) := by decide +kernel
theorem dX3_takeEvent_46 : decode cX3_takeEvent 46 = .ok (.istore 4, 2) := by decide +kernel
theorem dX3_takeEvent_48 : decode cX3_takeEvent 48 = .ok (.aload_n 0, 1) := by decide +kernel
theorem dX3_takeEvent_49 : decode cX3_takeEvent 49 = .ok (.getfield 15, 3) := by decide +kernel
theorem dX3_takeEvent_52 : decode cX3_takeEvent 52 = .ok (.iload_n 3, 1) := by decide +kernel
theorem dX3_takeEvent_53 : decode cX3_takeEvent 53 = .ok (.dup2, 1) := by decide +kernel
theorem dX3_takeEvent_54 : decode cX3_takeEvent 54 = .ok (.iaload, 1) := by decide +kernel
theorem dX3_takeEvent_55 : decode cX3_takeEvent 55 = .ok (.iconst 1, 1) := by decide +kernel
theorem dX3_takeEvent_56 : decode cX3_takeEvent 56 = .ok (.iload 4, 2) := by decide +kernel
theorem dX3_takeEvent_58 : decode cX3_takeEvent 58 = .ok (.ishl, 1) := by decide +kernel
theorem dX3_takeEvent_59 : decode cX3_takeEvent 59 = .ok (.ixor, 1) := by decide +kernel
theorem dX3_takeEvent_60 : decode cX3_takeEvent 60 = .ok (.iastore, 1) := by decide +kernel
theorem dX3_takeEvent_61 : decode cX3_takeEvent 61 = .ok (.aload_n 0, 1) := by decide +kernel
theorem dX3_takeEvent_62 : decode cX3_takeEvent 62 = .ok (.getfield 15, 3) := by decide +kernel
theorem dX3_takeEvent_65 : decode cX3_takeEvent 65 = .ok (.iload 4, 2) := by decide +kernel
theorem dX3_takeEvent_67 : decode cX3_takeEvent 67 = .ok (.dup2, 1) := by decide +kernel
theorem dX3_takeEvent_68 : decode cX3_takeEvent 68 = .ok (.iaload, 1) := by decide +kernel
theorem dX3_takeEvent_69 : decode cX3_takeEvent 69 = .ok (.iconst 1, 1) := by decide +kernel
theorem dX3_takeEvent_70 : decode cX3_takeEvent 70 = .ok (.iload_n 3, 1) := by decide +kernel
theorem dX3_takeEvent_71 : decode cX3_takeEvent 71 = .ok (.ishl, 1) := by decide +kernel
theorem dX3_takeEvent_72 : decode cX3_takeEvent 72 = .ok (.ixor, 1) := by decide +kernel
theorem dX3_takeEvent_73 : decode cX3_takeEvent 73 = .ok (.iastore, 1) := by decide +kernel
theorem dX3_takeEvent_74 : decode cX3_takeEvent 74 = .ok (.aload_n 0, 1) := by decide +kernel
theorem dX3_takeEvent_75 : decode cX3_takeEvent 75 = .ok (.dup, 1) := by decide +kernel
theorem dX3_takeEvent_76 : decode cX3_takeEvent 76 = .ok (.getfield 46, 3) := by decide +kernel
theorem dX3_takeEvent_79 : decode cX3_takeEvent 79 = .ok (.iload_n 2, 1) := by decide +kernel
theorem dX3_takeEvent_80 : decode cX3_takeEvent 80 = .ok (.bipush 43, 2) := by decide +kernel
theorem dX3_takeEvent_82 : decode cX3_takeEvent 82 = .ok (.if_icmp .ne 7, 3) := by decide +kernel
theorem dX3_takeEvent_85 : decode cX3_takeEvent 85 = .ok (.iconst 1, 1) := by decide +kernel
theorem dX3_takeEvent_86 : decode cX3_takeEvent 86 = .ok (.goto 4, 3) := by decide +kernel
theorem dX3_takeEvent_89 : decode cX3_takeEvent 89 = .ok (.iconst (-1), 1) := by decide +kernel
theorem dX3_takeEvent_90 : decode cX3_takeEvent 90 = .ok (.iadd, 1) := by decide +kernel
theorem dX3_takeEvent_91 : decode cX3_takeEvent 91 = .ok (.putfield 46, 3) := by decide +kernel
theorem dX3_takeEvent_94 : decode cX3_takeEvent 94 = .ok (.aload_n 0, 1) := by decide +kernel
theorem dX3_takeEvent_95 : decode cX3_takeEvent 95 = .ok (.getfield 22, 3) := by decide +kernel
theorem dX3_takeEvent_98 : decode cX3_takeEvent 98 = .ok (.aload_n 0, 1) := by decide +kernel
theorem dX3_takeEvent_99 : decode cX3_takeEvent 99 = .ok (.getfield 35, 3) := by decide +kernel
theorem dX3_takeEvent_102 : decode cX3_takeEvent 102 = .ok (.iload_n 3, 1) := by decide +kernel
theorem dX3_takeEvent_103 : decode cX3_takeEvent 103 = .ok (.iastore, 1) := by decide +kernel
theorem dX3_takeEvent_104 : decode cX3_takeEvent 104 = .ok (.aload_n 0, 1) := by decide +kernel
theorem dX3_takeEvent_105 : decode cX3_takeEvent 105 = .ok (.getfield 25, 3) := by decide +kernel
theorem dX3_takeEvent_108 : decode cX3_takeEvent 108 = .ok (.aload_n 0, 1) := by decide +kernel
theorem dX3_takeEvent_109 : decode cX3_takeEvent 109 = .ok (.getfield 35, 3) := by decide +kernel
theorem dX3_takeEvent_112 : decode cX3_takeEvent 112 = .ok (.iload 4, 2) := by decide +kernel
theorem dX3_takeEvent_114 : decode cX3_takeEvent 114 = .ok (.iastore, 1) := by decide +kernel
theorem dX3_takeEvent_115 : decode cX3_takeEvent 115 = .ok (.return_, 1) := by decide +kernel
theorem dX3_layOut_0 : decode cX3_layOut 0 = .ok (.aload_n 1, 1) := by decide +kernel
theorem dX3_layOut_1 : decode cX3_layOut 1 = .ok (.iconst 0, 1) := by decide +kernel
theorem dX3_layOut_2 : decode cX3_layOut 2 = .ok (.putfield 57, 3) := by decide +kernel
theorem dX3_layOut_5 : decode cX3_layOut 5 = .ok (.iconst 0, 1) := by decide +kernel
theorem dX3_layOut_6 : decode cX3_layOut 6 = .ok (.istore_n 2, 1) := by decide +kernel
theorem dX3_layOut_7 : decode cX3_layOut 7 = .ok (.iload_n 2, 1) := by decide +kernel
theorem dX3_layOut_8 : decode cX3_layOut 8 = .ok (.aload_n 0, 1) := by decide +kernel
theorem dX3_layOut_9 : decode cX3_layOut 9 = .ok (.getfield 35, 3) := by decide +kernel
theorem dX3_layOut_12 : decode cX3_layOut 12 = .ok (.if_icmp .ge 75, 3) := by decide +kernel
theorem dX3_layOut_15 : decode cX3_layOut 15 = .ok (.aload_n 0, 1) := by decide +kernel
theorem dX3_layOut_16 : decode cX3_layOut 16 = .ok (.getfield 19, 3) := by decide +kernel
theorem dX3_layOut_19 : decode cX3_layOut 19 = .ok (.iload_n 2, 1) := by decide +kernel
theorem dX3_layOut_20 : decode cX3_layOut 20 = .ok (.caload, 1) := by decide +kernel
theorem dX3_layOut_21 : decode cX3_layOut 21 = .ok (.bipush 43, 2) := by decide +kernel
theorem dX3_layOut_23 : decode cX3_layOut 23 = .ok (.if_icmp .ne 23, 3) := by decide +kernel
theorem dX3_layOut_26 : decode cX3_layOut 26 = .ok (.aload_n 1, 1) := by decide +kernel
theorem dX3_layOut_27 : decode cX3_layOut 27 = .ok (.aload_n 0, 1) := by decide +kernel
theorem dX3_layOut_28 : decode cX3_layOut 28 = .ok (.getfield 22, 3) := by decide +kernel
theorem dX3_layOut_31 : decode cX3_layOut 31 = .ok (.iload_n 2, 1) := by decide +kernel
theorem dX3_layOut_32 : decode cX3_layOut 32 = .ok (.iaload, 1) := by decide +kernel
theorem dX3_layOut_33 : decode cX3_layOut 33 = .ok (.aload_n 0, 1) := by decide +kernel
theorem dX3_layOut_34 : decode cX3_layOut 34 = .ok (.getfield 25, 3) := by decide +kernel
theorem dX3_layOut_37 : decode cX3_layOut 37 = .ok (.iload_n 2, 1) := by decide +kernel
theorem dX3_layOut_38 : decode cX3_layOut 38 = .ok (.iaload, 1) := by decide +kernel
theorem dX3_layOut_39 : decode cX3_layOut 39 = .ok (.iload_n 2, 1) := by decide +kernel
theorem dX3_layOut_40 : decode cX3_layOut 40 = .ok (.bipush 15, 2) := by decide +kernel
theorem dX3_layOut_42 : decode cX3_layOut 42 = .ok (.invokevirtual 62, 3) := by decide +kernel
theorem dX3_layOut_45 : decode cX3_layOut 45 = .ok (.pop, 1) := by decide +kernel
theorem dX3_layOut_46 : decode cX3_layOut 46 = .ok (.aload_n 0, 1) := by decide +kernel
theorem dX3_layOut_47 : decode cX3_layOut 47 = .ok (.getfield 19, 3) := by decide +kernel
theorem dX3_layOut_50 : decode cX3_layOut 50 = .ok (.iload_n 2, 1) := by decide +kernel
theorem dX3_layOut_51 : decode cX3_layOut 51 = .ok (.caload, 1) := by decide +kernel
theorem dX3_layOut_52 : decode cX3_layOut 52 = .ok (.bipush 45, 2) := by decide +kernel
theorem dX3_layOut_54 : decode cX3_layOut 54 = .ok (.if_icmp .ne 27, 3) := by decide +kernel
theorem dX3_layOut_57 : decode cX3_layOut 57 = .ok (.aload_n 1, 1) := by decide +kernel
theorem dX3_layOut_58 : decode cX3_layOut 58 = .ok (.aload_n 1, 1) := by decide +kernel
theorem dX3_layOut_59 : decode cX3_layOut 59 = .ok (.aload_n 0, 1) := by decide +kernel
theorem dX3_layOut_60 : decode cX3_layOut 60 = .ok (.getfield 22, 3) := by decide +kernel
theorem dX3_layOut_63 : decode cX3_layOut 63 = .ok (.iload_n 2, 1) := by decide +kernel
theorem dX3_layOut_64 : decode cX3_layOut 64 = .ok (.iaload, 1) := by decide +kernel
theorem dX3_layOut_65 : decode cX3_layOut 65 = .ok (.aload_n 0, 1) := by decide +kernel
theorem dX3_layOut_66 : decode cX3_layOut 66 = .ok (.getfield 25, 3) := by decide +kernel
theorem dX3_layOut_69 : decode cX3_layOut 69 = .ok (.iload_n 2, 1) := by decide +kernel
theorem dX3_layOut_70 : decode cX3_layOut 70 = .ok (.iaload, 1) := by decide +kernel
theorem dX3_layOut_71 : decode cX3_layOut 71 = .ok (.invokevirtual 66, 3) := by decide +kernel
theorem dX3_layOut_74 : decode cX3_layOut 74 = .ok (.iload_n 2, 1) := by decide +kernel
theorem dX3_layOut_75 : decode cX3_layOut 75 = .ok (.iconst 1, 1) := by decide +kernel
theorem dX3_layOut_76 : decode cX3_layOut 76 = .ok (.isub, 1) := by decide +kernel
theorem dX3_layOut_77 : decode cX3_layOut 77 = .ok (.invokevirtual 70, 3) := by decide +kernel
theorem dX3_layOut_80 : decode cX3_layOut 80 = .ok (.pop, 1) := by decide +kernel
theorem dX3_layOut_81 : decode cX3_layOut 81 = .ok (.iinc 2 1, 3) := by decide +kernel
theorem dX3_layOut_84 : decode cX3_layOut 84 = .ok (.goto (-77), 3) := by decide +kernel
theorem dX3_layOut_87 : decode cX3_layOut 87 = .ok (.return_, 1) := by decide +kernel
theorem dX4_init_0 : decode cX4_init 0 = .ok (.aload_n 0, 1) := by decide +kernel
theorem dX4_init_1 : decode cX4_init 1 = .ok (.invokespecial 3, 3) := by decide +kernel
theorem dX4_init_4 : decode cX4_init 4 = .ok (.aload_n 0, 1) := by decide +kernel
theorem dX4_init_5 : decode cX4_init 5 = .ok (.bipush 6, 2) := by decide +kernel
theorem dX4_init_7 : decode cX4_init 7 = .ok (.newarray .int, 2) := by decide +kernel
theorem dX4_init_9 : decode cX4_init 9 = .ok (.putfield 9, 3) := by decide +kernel
theorem dX4_init_12 : decode cX4_init 12 = .ok (.aload_n 0, 1) := by decide +kernel
theorem dX4_init_13 : decode cX4_init 13 = .ok (.bipush 6, 2) := by decide +kernel
theorem dX4_init_15 : decode cX4_init 15 = .ok (.newarray .int, 2) := by decide +kernel
theorem dX4_init_17 : decode cX4_init 17 = .ok (.putfield 15, 3) := by decide +kernel
theorem dX4_init_20 : decode cX4_init 20 = .ok (.aload_n 0, 1) := by decide +kernel
theorem dX4_init_21 : decode cX4_init 21 = .ok (.bipush 6, 2) := by decide +kernel
theorem dX4_init_23 : decode cX4_init 23 = .ok (.newarray .int, 2) := by decide +kernel
theorem dX4_init_25 : decode cX4_init 25 = .ok (.putfield 18, 3) := by decide +kernel
theorem dX4_init_28 : decode cX4_init 28 = .ok (.aload_n 0, 1) := by decide +kernel
theorem dX4_init_29 : decode cX4_init 29 = .ok (.bipush 6, 2) := by decide +kernel
theorem dX4_init_31 : decode cX4_init 31 = .ok (.newarray .boolean, 2) := by decide +kernel
theorem dX4_init_33 : decode cX4_init 33 = .ok (.putfield 21, 3) := by decide +kernel
theorem dX4_init_36 : decode cX4_init 36 = .ok (.aload_n 0, 1) := by decide +kernel
theorem dX4_init_37 : decode cX4_init 37 = .ok (.bipush 6, 2) := by decide +kernel
theorem dX4_init_39 : decode cX4_init 39 = .ok (.newarray .int, 2) := by decide +kernel
theorem dX4_init_41 : decode cX4_init 41 = .ok (.putfield 25, 3) := by decide +kernel
theorem dX4_init_44 : decode cX4_init 44 = .ok (.aload_n 0, 1) := by decide +kernel
theorem dX4_init_45 : decode cX4_init 45 = .ok (.bipush 6, 2) := by decide +kernel
theorem dX4_init_47 : decode cX4_init 47 = .ok (.newarray .int, 2) := by decide +kernel
theorem dX4_init_49 : decode cX4_init 49 = .ok (.putfield 28, 3) := by decide +kernel
theorem dX4_init_52 : decode cX4_init 52 = .ok (.return_, 1) := by decide +kernel
theorem dX4_add_0 : decode cX4_add 0 = .ok (.aload_n 0, 1) := by decide +kernel
theorem dX4_add_1 : decode cX4_add 1 = .ok (.getfield 31, 3) := by decide +kernel
theorem dX4_add_4 : decode cX4_add 4 = .ok (.bipush 6, 2) := by decide +kernel
theorem dX4_add_6 : decode cX4_add 6 = .ok (.if_icmp .lt 6, 3) := by decide +kernel
theorem dX4_add_9 : decode cX4_add 9 = .ok (.bipush (-4), 2) := by decide +kernel
theorem dX4_add_11 : decode cX4_add 11 = .ok (.ireturn, 1) := by decide +kernel
theorem dX4_add_12 : decode cX4_add 12 = .ok (.aload_n 0, 1) := by decide +kernel
theorem dX4_add_13 : decode cX4_add 13 = .ok (.getfield 9, 3) := by decide +kernel
theorem dX4_add_16 : decode cX4_add 16 = .ok (.aload_n 0, 1) := by decide +kernel
theorem dX4_add_17 : decode cX4_add 17 = .ok (.getfield 31, 3) := by decide +kernel
theorem dX4_add_20 : decode cX4_add 20 = .ok (.iload_n 1, 1) := by decide +kernel
theorem dX4_add_21 : decode cX4_add 21 = .ok (.iastore, 1) := by decide +kernel
theorem dX4_add_22 : decode cX4_add 22 = .ok (.aload_n 0, 1) := by decide +kernel
theorem dX4_add_23 : decode cX4_add 23 = .ok (.getfield 15, 3) := by decide +kernel
theorem dX4_add_26 : decode cX4_add 26 = .ok (.aload_n 0, 1) := by decide +kernel
theorem dX4_add_27 : decode cX4_add 27 = .ok (.getfield 31, 3) := by decide +kernel
theorem dX4_add_30 : decode cX4_add 30 = .ok (.iload_n 2, 1) := by decide +kernel
theorem dX4_add_31 : decode cX4_add 31 = .ok (.iastore, 1) := by decide +kernel
theorem dX4_add_32 : decode cX4_add 32 = .ok (.aload_n 0, 1) := by decide +kernel
theorem dX4_add_33 : decode cX4_add 33 = .ok (.getfield 18, 3) := by decide +kernel
theorem dX4_add_36 : decode cX4_add 36 = .ok (.aload_n 0, 1) := by decide +kernel
theorem dX4_add_37 : decode cX4_add 37 = .ok (.getfield 31, 3) := by decide +kernel
theorem dX4_add_40 : decode cX4_add 40 = .ok (.iload_n 3, 1) := by decide +kernel
theorem dX4_add_41 : decode cX4_add 41 = .ok (.iastore, 1) := by decide +kernel
theorem dX4_add_42 : decode cX4_add 42 = .ok (.aload_n 0, 1) := by decide +kernel
theorem dX4_add_43 : decode cX4_add 43 = .ok (.getfield 21, 3) := by decide +kernel
theorem dX4_add_46 : decode cX4_add 46 = .ok (.aload_n 0, 1) := by decide +kernel
theorem dX4_add_47 : decode cX4_add 47 = .ok (.getfield 31, 3) := by decide +kernel
theorem dX4_add_50 : decode cX4_add 50 = .ok (.iload 4, 2) := by decide +kernel
theorem dX4_add_52 : decode cX4_add 52 = .ok (.bastore, 1) := by decide +kernel
theorem dX4_add_53 : decode cX4_add 53 = .ok (.aload_n 0, 1) := by decide +kernel
theorem dX4_add_54 : decode cX4_add 54 = .ok (.dup, 1) := by decide +kernel
theorem dX4_add_55 : decode cX4_add 55 = .ok (.getfield 31, 3) := by decide +kernel
theorem dX4_add_58 : decode cX4_add 58 = .ok (.iconst 1, 1) := by decide +kernel
theorem dX4_add_59 : decode cX4_add 59 = .ok (.iadd, 1) := by decide +kernel
theorem dX4_add_60 : decode cX4_add 60 = .ok (.putfield 31, 3) := by decide +kernel
theorem dX4_add_63 : decode cX4_add 63 = .ok (.aload_n 0, 1) := by decide +kernel
theorem dX4_add_64 : decode cX4_add 64 = .ok (.getfield 31, 3) := by decide +kernel
theorem dX4_add_67 : decode cX4_add 67 = .ok (.ireturn, 1) := by decide +kernel
theorem dX4_lookAt_0 : decode cX4_lookAt 0 = .ok (.iconst 0, 1) := by decide +kernel
theorem dX4_lookAt_1 : decode cX4_lookAt 1 = .ok (.istore_n 3, 1) := by decide +kernel
theorem dX4_lookAt_2 : decode cX4_lookAt 2 = .ok (.iload_n 3, 1) := by decide +kernel
theorem dX4_lookAt_3 : decode cX4_lookAt 3 = .ok (.aload_n 0, 1) := by decide +kernel
theorem dX4_lookAt_4 : decode cX4_lookAt 4 = .ok (.getfield 31, 3) := by decide +kernel
theorem dX4_lookAt_7 : decode cX4_lookAt 7 = .ok (.if_icmp .ge 60, 3) := by decide +kernel
theorem dX4_lookAt_10 : decode cX4_lookAt 10 = .ok (.aload_n 2, 1) := by decide +kernel
theorem dX4_lookAt_11 : decode cX4_lookAt 11 = .ok (.aload_n 1, 1) := by decide +kernel
theorem dX4_lookAt_12 : decode cX4_lookAt 12 = .ok (.aload_n 0, 1) := by decide +kernel
theorem dX4_lookAt_13 : decode cX4_lookAt 13 = .ok (.getfield 9, 3) := by decide +kernel
theorem dX4_lookAt_16 : decode cX4_lookAt 16 = .ok (.iload_n 3, 1) := by decide +kernel
theorem dX4_lookAt_17 : decode cX4_lookAt 17 = .ok (.iaload, 1) := by decide +kernel
theorem dX4_lookAt_18 : decode cX4_lookAt 18 = .ok (.invokevirtual 35, 3) := by decide +kernel
theorem dX4_lookAt_21 : decode cX4_lookAt 21 = .ok (.aload_n 0, 1) := by decide +kernel
theorem dX4_lookAt_22 : decode cX4_lookAt 22 = .ok (.getfield 25, 3) := by decide +kernel
theorem dX4_lookAt_25 : decode cX4_lookAt 25 = .ok (.iload_n 3, 1) := by decide +kernel
theorem dX4_lookAt_26 : decode cX4_lookAt 26 = .ok (.aload_n 2, 1) := by decide +kernel
theorem dX4_lookAt_27 : decode cX4_lookAt 27 = .ok (.aload_n 0, 1) := by decide +kernel
theorem dX4_lookAt_28 : decode cX4_lookAt 28 = .ok (.getfield 15, 3) := by decide +kernel
theorem dX4_lookAt_31 : decode cX4_lookAt 31 = .ok (.iload_n 3, 1) := by decide +kernel
theorem dX4_lookAt_32 : decode cX4_lookAt 32 = .ok (.iaload, 1) := by decide +kernel
theorem dX4_lookAt_33 : decode cX4_lookAt 33 = .ok (.aload_n 2, 1) := by decide +kernel
theorem dX4_lookAt_34 : decode cX4_lookAt 34 = .ok (.invokevirtual 41, 3) := by decide +kernel
theorem dX4_lookAt_37 : decode cX4_lookAt 37 = .ok (.invokevirtual 45, 3) := by decide +kernel
theorem dX4_lookAt_40 : decode cX4_lookAt 40 = .ok (.iastore, 1) := by decide +kernel
theorem dX4_lookAt_41 : decode cX4_lookAt 41 = .ok (.aload_n 0, 1) := by decide +kernel
theorem dX4_lookAt_42 : decode cX4_lookAt 42 = .ok (.getfield 28, 3) := by decide +kernel
theorem dX4_lookAt_45 : decode cX4_lookAt 45 = .ok (.iload_n 3, 1) := by decide +kernel
theorem dX4_lookAt_46 : decode cX4_lookAt 46 = .ok (.aload_n 2, 1) := by decide +kernel
theorem dX4_lookAt_47 : decode cX4_lookAt 47 = .ok (.aload_n 0, 1) := by decide +kernel
theorem dX4_lookAt_48 : decode cX4_lookAt 48 = .ok (.getfield 18, 3) := by decide +kernel
theorem dX4_lookAt_51 : decode cX4_lookAt 51 = .ok (.iload_n 3, 1) := by decide +kernel
theorem dX4_lookAt_52 : decode cX4_lookAt 52 = .ok (.iaload, 1) := by decide +kernel
theorem dX4_lookAt_53 : decode cX4_lookAt 53 = .ok (.aload_n 2, 1) := by decide +kernel
theorem dX4_lookAt_54 : decode cX4_lookAt 54 = .ok (.invokevirtual 41, 3) := by decide +kernel
theorem dX4_lookAt_57 : decode cX4_lookAt 57 = .ok (.invokevirtual 45, 3) := by decide +kernel
theorem dX4_lookAt_60 : decode cX4_lookAt 60 = .ok (.iastore, 1) := by decide +kernel
theorem dX4_lookAt_61 : decode cX4_lookAt 61 = .ok (.iinc 3 1, 3) := by decide +kernel
theorem dX4_lookAt_64 : decode cX4_lookAt 64 = .ok (.goto (-62), 3) := by decide +kernel
theorem dX4_lookAt_67 : decode cX4_lookAt 67 = .ok (.return_, 1) := by decide +kernel
theorem dX4_allSoWith_0 : decode cX4_allSoWith 0 = .ok (.iconst 0, 1) := by decide +kernel
theorem dX4_allSoWith_1 : decode cX4_allSoWith 1 = .ok (.istore 4, 2) := by decide +kernel
theorem dX4_allSoWith_3 : decode cX4_allSoWith 3 = .ok (.iload 4, 2) := by decide +kernel
theorem dX4_allSoWith_5 : decode cX4_allSoWith 5 = .ok (.aload_n 0, 1) := by decide +kernel
theorem dX4_allSoWith_6 : decode cX4_allSoWith 6 = .ok (.getfield 31, 3) := by decide +kernel
theorem dX4_allSoWith_9 : decode cX4_allSoWith 9 = .ok (.if_icmp .ge 30, 3) := by decide +kernel
theorem dX4_allSoWith_12 : decode cX4_allSoWith 12 = .ok (.aload_n 0, 1) := by decide +kernel
theorem dX4_allSoWith_13 : decode cX4_allSoWith 13 = .ok (.iload 4, 2) := by decide +kernel
theorem dX4_allSoWith_15 : decode cX4_allSoWith 15 = .ok (.iload_n 1, 1) := by decide +kernel
theorem dX4_allSoWith_16 : decode cX4_allSoWith 16 = .ok (.iload_n 2, 1) := by decide +kernel
theorem dX4_allSoWith_17 : decode cX4_allSoWith 17 = .ok (.iload_n 3, 1) := by decide +kernel
theorem dX4_allSoWith_18 : decode cX4_allSoWith 18 = .ok (.invokevirtual 49, 3) := by decide +kernel
theorem dX4_allSoWith_21 : decode cX4_allSoWith 21 = .ok (.aload_n 0, 1) := by decide +kernel
theorem dX4_allSoWith_22 : decode cX4_allSoWith 22 = .ok (.getfield 21, 3) := by decide +kernel
theorem dX4_allSoWith_25 : decode cX4_allSoWith 25 = .ok (.iload 4, 2) := by decide +kernel
theorem dX4_allSoWith_27 : decode cX4_allSoWith 27 = .ok (.baload, 1) := by decide +kernel
theorem dX4_allSoWith_28 : decode cX4_allSoWith 28 = .ok (.if_icmp .eq 5, 3) := by decide +kernel
theorem dX4_allSoWith_31 : decode cX4_allSoWith 31 = .ok (.iconst 0, 1) := by decide +kernel
theorem dX4_allSoWith_32 : decode cX4_allSoWith 32 = .ok (.ireturn, 1) := by decide +kernel
theorem dX4_allSoWith_33 : decode cX4_allSoWith 33 = .ok (.iinc 4 1, 3) := by decide +kernel
theorem dX4_allSoWith_36 : decode cX4_allSoWith 36 = .ok (.goto (-33), 3) := by decide +kernel
theorem dX4_allSoWith_39 : decode cX4_allSoWith 39 = .ok (.iconst 1, 1) := by decide +kernel
theorem dX4_allSoWith_40 : decode cX4_allSoWith 40 = .ok (.ireturn, 1) := by decide +kernel
theorem dX4_joinedWith_0 : decode cX4_joinedWith 0 = .ok (.aload_n 0, 1) := by decide +kernel
theorem dX4_joinedWith_1 : decode cX4_joinedWith 1 = .ok (.getfield 25, 3) := by decide +kernel
theorem dX4_joinedWith_4 : decode cX4_joinedWith 4 = .ok (.iload_n 1, 1) := by decide +kernel
theorem dX4_joinedWith_5 : decode cX4_joinedWith 5 = .ok (.iaload, 1) := by decide +kernel
theorem dX4_joinedWith_6 : decode cX4_joinedWith 6 = .ok (.aload_n 0, 1) := by decide +kernel
theorem dX4_joinedWith_7 : decode cX4_joinedWith 7 = .ok (.getfield 28, 3) := by decide +kernel
theorem dX4_joinedWith_10 : decode cX4_joinedWith 10 = .ok (.iload_n 1, 1) := by decide +kernel
theorem dX4_joinedWith_11 : decode cX4_joinedWith 11 = .ok (.iaload, 1) := by decide +kernel
theorem dX4_joinedWith_12 : decode cX4_joinedWith 12 = .ok (.if_icmp .ne 5, 3) := by decide +kernel
theorem dX4_joinedWith_15 : decode cX4_joinedWith 15 = .ok (.iconst 1, 1) := by decide +kernel
theorem dX4_joinedWith_16 : decode cX4_joinedWith 16 = .ok (.ireturn, 1) := by decide +kernel
theorem dX4_joinedWith_17 : decode cX4_joinedWith 17 = .ok (.iload 4, 2) := by decide +kernel
theorem dX4_joinedWith_19 : decode cX4_joinedWith 19 = .ok (.aload_n 0, 1) := by decide +kernel
theorem dX4_joinedWith_20 : decode cX4_joinedWith 20 = .ok (.getfield 9, 3) := by decide +kernel
theorem dX4_joinedWith_23 : decode cX4_joinedWith 23 = .ok (.iload_n 1, 1) := by decide +kernel
theorem dX4_joinedWith_24 : decode cX4_joinedWith 24 = .ok (.iaload, 1) := by decide +kernel
theorem dX4_joinedWith_25 : decode cX4_joinedWith 25 = .ok (.ishr, 1) := by decide +kernel
theorem dX4_joinedWith_26 : decode cX4_joinedWith 26 = .ok (.iconst 1, 1) := by decide +kernel
theorem dX4_joinedWith_27 : decode cX4_joinedWith 27 = .ok (.iand, 1) := by decide +kernel
theorem dX4_joinedWith_28 : decode cX4_joinedWith 28 = .ok (.ifCond .ne 5, 3) := by decide +kernel
theorem dX4_joinedWith_31 : decode cX4_joinedWith 31 = .ok (.iconst 0, 1) := by decide +kernel
theorem dX4_joinedWith_32 : decode cX4_joinedWith 32 = .ok (.ireturn, 1) := by decide +kernel
theorem dX4_joinedWith_33 : decode cX4_joinedWith 33 = .ok (.aload_n 0, 1) := by decide +kernel
theorem dX4_joinedWith_34 : decode cX4_joinedWith 34 = .ok (.iload_n 1, 1) := by decide +kernel
theorem dX4_joinedWith_35 : decode cX4_joinedWith 35 = .ok (.iload_n 2, 1) := by decide +kernel
theorem dX4_joinedWith_36 : decode cX4_joinedWith 36 = .ok (.iload_n 3, 1) := by decide +kernel
theorem dX4_joinedWith_37 : decode cX4_joinedWith 37 = .ok (.invokevirtual 53, 3) := by decide +kernel
theorem dX4_joinedWith_40 : decode cX4_joinedWith 40 = .ok (.ifCond .ne 13, 3) := by decide +kernel
theorem dX4_joinedWith_43 : decode cX4_joinedWith 43 = .ok (.aload_n 0, 1) := by decide +kernel
theorem dX4_joinedWith_44 : decode cX4_joinedWith 44 = .ok (.iload_n 1, 1) := by decide +kernel
theorem dX4_joinedWith_45 : decode cX4_joinedWith 45 = .ok (.iload_n 3, 1) := by decide +kernel
theorem dX4_joinedWith_46 : decode cX4_joinedWith 46 = .ok (.iload_n 2, 1) := by decide +kernel
theorem dX4_joinedWith_47 : decode cX4_joinedWith 47 = .ok (.invokevirtual 53, 3) := by decide +kernel
theorem dX4_joinedWith_50 : decode cX4_joinedWith 50 = .ok (.ifCond .eq 7, 3) := by decide +kernel
theorem dX4_joinedWith_53 : decode cX4_joinedWith 53 = .ok (.iconst 1, 1) := by decide +kernel
theorem dX4_joinedWith_54 : decode cX4_joinedWith 54 = .ok (.goto 4, 3) := by decide +kernel
theorem dX4_joinedWith_57 : decode cX4_joinedWith 57 = .ok (.iconst 0, 1) := by decide +kernel
theorem dX4_joinedWith_58 : decode cX4_joinedWith 58 = .ok (.ireturn, 1) := by decide +kernel
theorem dX4_leads_0 : decode cX4_leads 0 = .ok (.aload_n 0, 1) := by decide +kernel
theorem dX4_leads_1 : decode cX4_leads 1 = .ok (.getfield 25, 3) := by decide +kernel
theorem dX4_leads_4 : decode cX4_leads 4 = .ok (.iload_n 1, 1) := by decide +kernel
theorem dX4_leads_5 : decode cX4_leads 5 = .ok (.iaload, 1) := by decide +kernel
theorem dX4_leads_6 : decode cX4_leads 6 = .ok (.iload_n 2, 1) := by decide +kernel
theorem dX4_leads_7 : decode cX4_leads 7 = .ok (.ishr, 1) := by decide +kernel
theorem dX4_leads_8 : decode cX4_leads 8 = .ok (.iconst 1, 1) := by decide +kernel
theorem dX4_leads_9 : decode cX4_leads 9 = .ok (.iand, 1) := by decide +kernel
theorem dX4_leads_10 : decode cX4_leads 10 = .ok (.ifCond .eq 20, 3) := by decide +kernel
theorem dX4_leads_13 : decode cX4_leads 13 = .ok (.aload_n 0, 1) := by decide +kernel
theorem dX4_leads_14 : decode cX4_leads 14 = .ok (.getfield 28, 3) := by decide +kernel
theorem dX4_leads_17 : decode cX4_leads 17 = .ok (.iload_n 1, 1) := by decide +kernel
theorem dX4_leads_18 : decode cX4_leads 18 = .ok (.iaload, 1) := by decide +kernel
theorem dX4_leads_19 : decode cX4_leads 19 = .ok (.iload_n 3, 1) := by decide +kernel
theorem dX4_leads_20 : decode cX4_leads 20 = .ok (.ishr, 1) := by decide +kernel
theorem dX4_leads_21 : decode cX4_leads 21 = .ok (.iconst 1, 1) := by decide +kernel
theorem dX4_leads_22 : decode cX4_leads 22 = .ok (.iand, 1) := by decide +kernel
theorem dX4_leads_23 : decode cX4_leads 23 = .ok (.ifCond .eq 7, 3) := by decide +kernel
theorem dX4_leads_26 : decode cX4_leads 26 = .ok (.iconst 1, 1) := by decide +kernel
theorem dX4_leads_27 : decode cX4_leads 27 = .ok (.goto 4, 3) := by decide +kernel
theorem dX4_leads_30 : decode cX4_leads 30 = .ok (.iconst 0, 1) := by decide +kernel
theorem dX4_leads_31 : decode cX4_leads 31 = .ok (.ireturn, 1) := by decide +kernel
theorem dX5_init_0 : decode cX5_init 0 = .ok (.aload_n 0, 1) := by decide +kernel
theorem dX5_init_1 : decode cX5_init 1 = .ok (.invokespecial 3, 3) := by decide +kernel
theorem dX5_init_4 : decode cX5_init 4 = .ok (.aload_n 0, 1) := by decide +kernel
theorem dX5_init_5 : decode cX5_init 5 = .ok (.bipush 16, 2) := by decide +kernel
theorem dX5_init_7 : decode cX5_init 7 = .ok (.newarray .int, 2) := by decide +kernel
theorem dX5_init_9 : decode cX5_init 9 = .ok (.putfield 9, 3) := by decide +kernel
theorem dX5_init_12 : decode cX5_init 12 = .ok (.aload_n 0, 1) := by decide +kernel
theorem dX5_init_13 : decode cX5_init 13 = .ok (.bipush 16, 2) := by decide +kernel
theorem dX5_init_15 : decode cX5_init 15 = .ok (.newarray .int, 2) := by decide +kernel
theorem dX5_init_17 : decode cX5_init 17 = .ok (.putfield 15, 3) := by decide +kernel
theorem dX5_init_20 : decode cX5_init 20 = .ok (.aload_n 0, 1) := by decide +kernel
theorem dX5_init_21 : decode cX5_init 21 = .ok (.bipush 16, 2) := by decide +kernel
theorem dX5_init_23 : decode cX5_init 23 = .ok (.newarray .int, 2) := by decide +kernel
theorem dX5_init_25 : decode cX5_init 25 = .ok (.putfield 18, 3) := by decide +kernel
theorem dX5_init_28 : decode cX5_init 28 = .ok (.aload_n 0, 1) := by decide +kernel
theorem dX5_init_29 : decode cX5_init 29 = .ok (.bipush 16, 2) := by decide +kernel
theorem dX5_init_31 : decode cX5_init 31 = .ok (.newarray .int, 2) := by decide +kernel
theorem dX5_init_33 : decode cX5_init 33 = .ok (.putfield 21, 3) := by decide +kernel
theorem dX5_init_36 : decode cX5_init 36 = .ok (.return_, 1) := by decide +kernel
theorem dX5_has_0 : decode cX5_has 0 = .ok (.iload_n 1, 1) := by decide +kernel
theorem dX5_has_1 : decode cX5_has 1 = .ok (.ifCond .lt 15, 3) := by decide +kernel
theorem dX5_has_4 : decode cX5_has 4 = .ok (.iload_n 1, 1) := by decide +kernel
theorem dX5_has_5 : decode cX5_has 5 = .ok (.aload_n 0, 1) := by decide +kernel
theorem dX5_has_6 : decode cX5_has 6 = .ok (.getfield 24, 3) := by decide +kernel
theorem dX5_has_9 : decode cX5_has 9 = .ok (.if_icmp .ge 7, 3) := by decide +kernel
theorem dX5_has_12 : decode cX5_has 12 = .ok (.iconst 1, 1) := by decide +kernel
theorem dX5_has_13 : decode cX5_has 13 = .ok (.goto 4, 3) := by decide +kernel
theorem dX5_has_16 : decode cX5_has 16 = .ok (.iconst 0, 1) := by decide +kernel
theorem dX5_has_17 : decode cX5_has 17 = .ok (.ireturn, 1) := by decide +kernel
theorem dX5_copyOf_0 : decode cX5_copyOf 0 = .ok (.aload_n 0, 1) := by decide +kernel
theorem dX5_copyOf_1 : decode cX5_copyOf 1 = .ok (.aload_n 1, 1) := by decide +kernel
theorem dX5_copyOf_2 : decode cX5_copyOf 2 = .ok (.getfield 24, 3) := by decide +kernel
theorem dX5_copyOf_5 : decode cX5_copyOf 5 = .ok (.putfield 24, 3) := by decide +kernel
theorem dX5_copyOf_8 : decode cX5_copyOf 8 = .ok (.iconst 0, 1) := by decide +kernel
theorem dX5_copyOf_9 : decode cX5_copyOf 9 = .ok (.istore_n 2, 1) := by decide +kernel
theorem dX5_copyOf_10 : decode cX5_copyOf 10 = .ok (.iload_n 2, 1) := by decide +kernel
theorem dX5_copyOf_11 : decode cX5_copyOf 11 = .ok (.aload_n 0, 1) := by decide +kernel
theorem dX5_copyOf_12 : decode cX5_copyOf 12 = .ok (.getfield 24, 3) := by decide +kernel
theorem dX5_copyOf_15 : decode cX5_copyOf 15 = .ok (.if_icmp .ge 16, 3) := by decide +kernel
theorem dX5_copyOf_18 : decode cX5_copyOf 18 = .ok (.aload_n 0, 1) := by decide +kernel
theorem dX5_copyOf_19 : decode cX5_copyOf 19 = .ok (.aload_n 1, 1) := by decide +kernel
theorem dX5_copyOf_20 : decode cX5_copyOf 20 = .ok (.iload_n 2, 1) := by decide +kernel
theorem dX5_copyOf_21 : decode cX5_copyOf 21 = .ok (.iload_n 2, 1) := by decide +kernel
theorem dX5_copyOf_22 : decode cX5_copyOf 22 = .ok (.invokevirtual 28, 3) := by decide +kernel
theorem dX5_copyOf_25 : decode cX5_copyOf 25 = .ok (.iinc 2 1, 3) := by decide +kernel
theorem dX5_copyOf_28 : decode cX5_copyOf 28 = .ok (.goto (-18), 3) := by decide +kernel
theorem dX5_copyOf_31 : decode cX5_copyOf 31 = .ok (.return_, 1) := by decide +kernel
theorem dX5_takeFrom_0 : decode cX5_takeFrom 0 = .ok (.aload_n 0, 1) := by decide +kernel
theorem dX5_takeFrom_1 : decode cX5_takeFrom 1 = .ok (.getfield 9, 3) := by decide +kernel
theorem dX5_takeFrom_4 : decode cX5_takeFrom 4 = .ok (.iload_n 3, 1) := by decide +kernel
theorem dX5_takeFrom_5 : decode cX5_takeFrom 5 = .ok (.aload_n 1, 1) := by decide +kernel
theorem dX5_takeFrom_6 : decode cX5_takeFrom 6 = .ok (.getfield 9, 3) := by decide +kernel
theorem dX5_takeFrom_9 : decode cX5_takeFrom 9 = .ok (.iload_n 2, 1) := by decide +kernel
theorem dX5_takeFrom_10 : decode cX5_takeFrom 10 = .ok (.iaload, 1) := by decide +kernel
theorem dX5_takeFrom_11 : decode cX5_takeFrom 11 = .ok (.iastore, 1) := by decide +kernel
theorem dX5_takeFrom_12 : decode cX5_takeFrom 12 = .ok (.aload_n 0, 1) := by decide +kernel
theorem dX5_takeFrom_13 : decode cX5_takeFrom 13 = .ok (.getfield 15, 3) := by decide +kernel
theorem dX5_takeFrom_16 : decode cX5_takeFrom 16 = .ok (.iload_n 3, 1) := by decide +kernel
theorem dX5_takeFrom_17 : decode cX5_takeFrom 17 = .ok (.aload_n 1, 1) := by decide +kernel
theorem dX5_takeFrom_18 : decode cX5_takeFrom 18 = .ok (.getfield 15, 3) := by decide +kernel
theorem dX5_takeFrom_21 : decode cX5_takeFrom 21 = .ok (.iload_n 2, 1) := by decide +kernel
theorem dX5_takeFrom_22 : decode cX5_takeFrom 22 = .ok (.iaload, 1) := by decide +kernel
theorem dX5_takeFrom_23 : decode cX5_takeFrom 23 = .ok (.iastore, 1) := by decide +kernel
theorem dX5_takeFrom_24 : decode cX5_takeFrom 24 = .ok (.aload_n 0, 1) := by decide +kernel
theorem dX5_takeFrom_25 : decode cX5_takeFrom 25 = .ok (.getfield 18, 3) := by decide +kernel
theorem dX5_takeFrom_28 : decode cX5_takeFrom 28 = .ok (.iload_n 3, 1) := by decide +kernel
theorem dX5_takeFrom_29 : decode cX5_takeFrom 29 = .ok (.aload_n 1, 1) := by decide +kernel
theorem dX5_takeFrom_30 : decode cX5_takeFrom 30 = .ok (.getfield 18, 3) := by decide +kernel
theorem dX5_takeFrom_33 : decode cX5_takeFrom 33 = .ok (.iload_n 2, 1) := by decide +kernel
theorem dX5_takeFrom_34 : decode cX5_takeFrom 34 = .ok (.iaload, 1) := by decide +kernel
theorem dX5_takeFrom_35 : decode cX5_takeFrom 35 = .ok (.iastore, 1) := by decide +kernel
theorem dX5_takeFrom_36 : decode cX5_takeFrom 36 = .ok (.aload_n 0, 1) := by decide +kernel
theorem dX5_takeFrom_37 : decode cX5_takeFrom 37 = .ok (.getfield 21, 3) := by decide +kernel
theorem dX5_takeFrom_40 : decode cX5_takeFrom 40 = .ok (.iload_n 3, 1) := by decide +kernel
theorem dX5_takeFrom_41 : decode cX5_takeFrom 41 = .ok (.aload_n 1, 1) := by decide +kernel
theorem dX5_takeFrom_42 : decode cX5_takeFrom 42 = .ok (.getfield 21, 3) := by decide +kernel
theorem dX5_takeFrom_45 : decode cX5_takeFrom 45 = .ok (.iload_n 2, 1) := by decide +kernel
theorem dX5_takeFrom_46 : decode cX5_takeFrom 46 = .ok (.iaload, 1) := by decide +kernel
theorem dX5_takeFrom_47 : decode cX5_takeFrom 47 = .ok (.iastore, 1) := by decide +kernel
theorem dX5_takeFrom_48 : decode cX5_takeFrom 48 = .ok (.return_, 1) := by decide +kernel
theorem dX5_add_0 : decode cX5_add 0 = .ok (.iload_n 1, 1) := by decide +kernel
theorem dX5_add_1 : decode cX5_add 1 = .ok (.invokestatic 32, 3) := by decide +kernel
theorem dX5_add_4 : decode cX5_add 4 = .ok (.ifCond .eq 25, 3) := by decide +kernel
theorem dX5_add_7 : decode cX5_add 7 = .ok (.iload_n 2, 1) := by decide +kernel
theorem dX5_add_8 : decode cX5_add 8 = .ok (.invokestatic 32, 3) := by decide +kernel
theorem dX5_add_11 : decode cX5_add 11 = .ok (.ifCond .eq 18, 3) := by decide +kernel
theorem dX5_add_14 : decode cX5_add 14 = .ok (.iload_n 3, 1) := by decide +kernel
theorem dX5_add_15 : decode cX5_add 15 = .ok (.invokestatic 36, 3) := by decide +kernel
theorem dX5_add_18 : decode cX5_add 18 = .ok (.ifCond .eq 11, 3) := by decide +kernel
theorem dX5_add_21 : decode cX5_add 21 = .ok (.iload 4, 2) := by decide +kernel
theorem dX5_add_23 : decode cX5_add 23 = .ok (.invokestatic 36, 3) := by decide +kernel
theorem dX5_add_26 : decode cX5_add 26 = .ok (.ifCond .ne 5, 3) := by decide +kernel
theorem dX5_add_29 : decode cX5_add 29 = .ok (.iconst (-1), 1) := by decide +kernel
theorem dX5_add_30 : decode cX5_add 30 = .ok (.ireturn, 1) := by decide +kernel
theorem dX5_add_31 : decode cX5_add 31 = .ok (.iload_n 1, 1) := by decide +kernel
theorem dX5_add_32 : decode cX5_add 32 = .ok (.iload_n 2, 1) := by decide +kernel
theorem dX5_add_33 : decode cX5_add 33 = .ok (.if_icmp .eq 9, 3) := by decide +kernel
theorem dX5_add_36 : decode cX5_add 36 = .ok (.iload 4, 2) := by decide +kernel
theorem dX5_add_38 : decode cX5_add 38 = .ok (.iload_n 3, 1) := by decide +kernel
theorem dX5_add_39 : decode cX5_add 39 = .ok (.if_icmp .ge 6, 3) := by decide +kernel
theorem dX5_add_42 : decode cX5_add 42 = .ok (.bipush (-2), 2) := by decide +kernel
theorem dX5_add_44 : decode cX5_add 44 = .ok (.ireturn, 1) := by decide +kernel
theorem dX5_add_45 : decode cX5_add 45 = .ok (.aload_n 0, 1) := by decide +kernel
theorem dX5_add_46 : decode cX5_add 46 = .ok (.iload_n 1, 1) := by decide +kernel
theorem dX5_add_47 : decode cX5_add 47 = .ok (.iload_n 2, 1) := by decide +kernel
theorem dX5_add_48 : decode cX5_add 48 = .ok (.bipush (-9), 2) := by decide +kernel
theorem dX5_add_50 : decode cX5_add 50 = .ok (.invokevirtual 39, 3) := by decide +kernel
theorem dX5_add_53 : decode cX5_add 53 = .ok (.iload_n 3, 1) := by decide +kernel
theorem dX5_add_54 : decode cX5_add 54 = .ok (.iload 4, 2) := by decide +kernel
theorem dX5_add_56 : decode cX5_add 56 = .ok (.invokestatic 43, 3) := by decide +kernel
theorem dX5_add_59 : decode cX5_add 59 = .ok (.iand, 1) := by decide +kernel
theorem dX5_add_60 : decode cX5_add 60 = .ok (.ifCond .eq 6, 3) := by decide +kernel
theorem dX5_add_63 : decode cX5_add 63 = .ok (.bipush (-3), 2) := by decide +kernel
theorem dX5_add_65 : decode cX5_add 65 = .ok (.ireturn, 1) := by decide +kernel
theorem dX5_add_66 : decode cX5_add 66 = .ok (.aload_n 0, 1) := by decide +kernel
theorem dX5_add_67 : decode cX5_add 67 = .ok (.getfield 24, 3) := by decide +kernel
theorem dX5_add_70 : decode cX5_add 70 = .ok (.bipush 16, 2) := by decide +kernel
theorem dX5_add_72 : decode cX5_add 72 = .ok (.if_icmp .lt 6, 3) := by decide +kernel
theorem dX5_add_75 : decode cX5_add 75 = .ok (.bipush (-4), 2) := by decide +kernel
theorem dX5_add_77 : decode cX5_add 77 = .ok (.ireturn, 1) := by decide +kernel
theorem dX5_add_78 : decode cX5_add 78 = .ok (.aload_n 0, 1) := by decide +kernel
theorem dX5_add_79 : decode cX5_add 79 = .ok (.getfield 9, 3) := by decide +kernel
theorem dX5_add_82 : decode cX5_add 82 = .ok (.aload_n 0, 1) := by decide +kernel
theorem dX5_add_83 : decode cX5_add 83 = .ok (.getfield 24, 3) := by decide +kernel
theorem dX5_add_86 : decode cX5_add 86 = .ok (.iload_n 1, 1) := by decide +kernel
theorem dX5_add_87 : decode cX5_add 87 = .ok (.iload_n 2, 1) := by decide +kernel
theorem dX5_add_88 : decode cX5_add 88 = .ok (.invokestatic 47, 3) := by decide +kernel
theorem dX5_add_91 : decode cX5_add 91 = .ok (.iastore, 1) := by decide +kernel
theorem dX5_add_92 : decode cX5_add 92 = .ok (.aload_n 0, 1) := by decide +kernel
theorem dX5_add_93 : decode cX5_add 93 = .ok (.getfield 15, 3) := by decide +kernel
theorem dX5_add_96 : decode cX5_add 96 = .ok (.aload_n 0, 1) := by decide +kernel
theorem dX5_add_97 : decode cX5_add 97 = .ok (.getfield 24, 3) := by decide +kernel
theorem dX5_add_100 : decode cX5_add 100 = .ok (.iload_n 1, 1) := by decide +kernel
theorem dX5_add_101 : decode cX5_add 101 = .ok (.iload_n 2, 1) := by decide +kernel
theorem dX5_add_102 : decode cX5_add 102 = .ok (.invokestatic 52, 3) := by decide +kernel
theorem dX5_add_105 : decode cX5_add 105 = .ok (.iastore, 1) := by decide +kernel
theorem dX5_add_106 : decode cX5_add 106 = .ok (.aload_n 0, 1) := by decide +kernel
theorem dX5_add_107 : decode cX5_add 107 = .ok (.getfield 18, 3) := by decide +kernel
theorem dX5_add_110 : decode cX5_add 110 = .ok (.aload_n 0, 1) := by decide +kernel
theorem dX5_add_111 : decode cX5_add 111 = .ok (.getfield 24, 3) := by decide +kernel
theorem dX5_add_114 : decode cX5_add 114 = .ok (.iload_n 3, 1) := by decide +kernel
theorem dX5_add_115 : decode cX5_add 115 = .ok (.iastore, 1) := by decide +kernel
theorem dX5_add_116 : decode cX5_add 116 = .ok (.aload_n 0, 1) := by decide +kernel
theorem dX5_add_117 : decode cX5_add 117 = .ok (.getfield 21, 3) := by decide +kernel
theorem dX5_add_120 : decode cX5_add 120 = .ok (.aload_n 0, 1) := by decide +kernel
theorem dX5_add_121 : decode cX5_add 121 = .ok (.getfield 24, 3) := by decide +kernel
theorem dX5_add_124 : decode cX5_add 124 = .ok (.iload 4, 2) := by decide +kernel
theorem dX5_add_126 : decode cX5_add 126 = .ok (.iastore, 1) := by decide +kernel
theorem dX5_add_127 : decode cX5_add 127 = .ok (.aload_n 0, 1) := by decide +kernel
theorem dX5_add_128 : decode cX5_add 128 = .ok (.dup, 1) := by decide +kernel
theorem dX5_add_129 : decode cX5_add 129 = .ok (.getfield 24, 3) := by decide +kernel
theorem dX5_add_132 : decode cX5_add 132 = .ok (.iconst 1, 1) := by decide +kernel
theorem dX5_add_133 : decode cX5_add 133 = .ok (.iadd, 1) := by decide +kernel
theorem dX5_add_134 : decode cX5_add 134 = .ok (.putfield 24, 3) := by decide +kernel
theorem dX5_add_137 : decode cX5_add 137 = .ok (.aload_n 0, 1) := by decide +kernel
theorem dX5_add_138 : decode cX5_add 138 = .ok (.getfield 24, 3) := by decide +kernel
theorem dX5_add_141 : decode cX5_add 141 = .ok (.iconst 1, 1) := by decide +kernel
theorem dX5_add_142 : decode cX5_add 142 = .ok (.isub, 1) := by decide +kernel
theorem dX5_add_143 : decode cX5_add 143 = .ok (.ireturn, 1) := by decide +kernel
theorem dX5_drop_0 : decode cX5_drop 0 = .ok (.aload_n 0, 1) := by decide +kernel
theorem dX5_drop_1 : decode cX5_drop 1 = .ok (.iload_n 1, 1) := by decide +kernel
theorem dX5_drop_2 : decode cX5_drop 2 = .ok (.invokevirtual 55, 3) := by decide +kernel
theorem dX5_drop_5 : decode cX5_drop 5 = .ok (.ifCond .ne 5, 3) := by decide +kernel
theorem dX5_drop_8 : decode cX5_drop 8 = .ok (.iconst (-1), 1) := by decide +kernel
theorem dX5_drop_9 : decode cX5_drop 9 = .ok (.ireturn, 1) := by decide +kernel
theorem dX5_drop_10 : decode cX5_drop 10 = .ok (.aload_n 0, 1) := by decide +kernel
theorem dX5_drop_11 : decode cX5_drop 11 = .ok (.dup, 1) := by decide +kernel
theorem dX5_drop_12 : decode cX5_drop 12 = .ok (.getfield 24, 3) := by decide +kernel
theorem dX5_drop_15 : decode cX5_drop 15 = .ok (.iconst 1, 1) := by decide +kernel
theorem dX5_drop_16 : decode cX5_drop 16 = .ok (.isub, 1) := by decide +kernel
theorem dX5_drop_17 : decode cX5_drop 17 = .ok (.putfield 24, 3) := by decide +kernel
theorem dX5_drop_20 : decode cX5_drop 20 = .ok (.iload_n 1, 1) := by decide +kernel
theorem dX5_drop_21 : decode cX5_drop 21 = .ok (.istore_n 2, 1) := by decide +kernel
theorem dX5_drop_22 : decode cX5_drop 22 = .ok (.iload_n 2, 1) := by decide +kernel
theorem dX5_drop_23 : decode cX5_drop 23 = .ok (.aload_n 0, 1) := by decide +kernel
theorem dX5_drop_24 : decode cX5_drop 24 = .ok (.getfield 24, 3) := by decide +kernel
theorem dX5_drop_27 : decode cX5_drop 27 = .ok (.if_icmp .ge 18, 3) := by decide +kernel
theorem dX5_drop_30 : decode cX5_drop 30 = .ok (.aload_n 0, 1) := by decide +kernel
theorem dX5_drop_31 : decode cX5_drop 31 = .ok (.aload_n 0, 1) := by decide +kernel
theorem dX5_drop_32 : decode cX5_drop 32 = .ok (.iload_n 2, 1) := by decide +kernel
theorem dX5_drop_33 : decode cX5_drop 33 = .ok (.iconst 1, 1) := by decide +kernel
theorem dX5_drop_34 : decode cX5_drop 34 = .ok (.iadd, 1) := by decide +kernel
theorem dX5_drop_35 : decode cX5_drop 35 = .ok (.iload_n 2, 1) := by decide +kernel
theorem dX5_drop_36 : decode cX5_drop 36 = .ok (.invokevirtual 28, 3) := by decide +kernel
theorem dX5_drop_39 : decode cX5_drop 39 = .ok (.iinc 2 1, 3) := by decide +kernel
theorem dX5_drop_42 : decode cX5_drop 42 = .ok (.goto (-20), 3) := by decide +kernel
theorem dX5_drop_45 : decode cX5_drop 45 = .ok (.aload_n 0, 1) := by decide +kernel
theorem dX5_drop_46 : decode cX5_drop 46 = .ok (.getfield 24, 3) := by decide +kernel
theorem dX5_drop_49 : decode cX5_drop 49 = .ok (.ireturn, 1) := by decide +kernel
theorem dX5_stopAt_0 : decode cX5_stopAt 0 = .ok (.aload_n 0, 1) := by decide +kernel
theorem dX5_stopAt_1 : decode cX5_stopAt 1 = .ok (.iload_n 1, 1) := by decide +kernel
theorem dX5_stopAt_2 : decode cX5_stopAt 2 = .ok (.invokevirtual 55, 3) := by decide +kernel
theorem dX5_stopAt_5 : decode cX5_stopAt 5 = .ok (.ifCond .eq 10, 3) := by decide +kernel
theorem dX5_stopAt_8 : decode cX5_stopAt 8 = .ok (.iload_n 2, 1) := by decide +kernel
theorem dX5_stopAt_9 : decode cX5_stopAt 9 = .ok (.invokestatic 36, 3) := by decide +kernel
theorem dX5_stopAt_12 : decode cX5_stopAt 12 = .ok (.ifCond .ne 5, 3) := by decide +kernel
theorem dX5_stopAt_15 : decode cX5_stopAt 15 = .ok (.iconst (-1), 1) := by decide +kernel
theorem dX5_stopAt_16 : decode cX5_stopAt 16 = .ok (.ireturn, 1) := by decide +kernel
theorem dX5_stopAt_17 : decode cX5_stopAt 17 = .ok (.aload_n 0, 1) := by decide +kernel
theorem dX5_stopAt_18 : decode cX5_stopAt 18 = .ok (.getfield 21, 3) := by decide +kernel
theorem dX5_stopAt_21 : decode cX5_stopAt 21 = .ok (.iload_n 1, 1) := by decide +kernel
theorem dX5_stopAt_22 : decode cX5_stopAt 22 = .ok (.iaload, 1) := by decide +kernel
theorem dX5_stopAt_23 : decode cX5_stopAt 23 = .ok (.istore_n 3, 1) := by decide +kernel
theorem dX5_stopAt_24 : decode cX5_stopAt 24 = .ok (.iload_n 2, 1) := by decide +kernel
theorem dX5_stopAt_25 : decode cX5_stopAt 25 = .ok (.iload_n 3, 1) := by decide +kernel
theorem dX5_stopAt_26 : decode cX5_stopAt 26 = .ok (.if_icmp .eq 13, 3) := by decide +kernel
theorem dX5_stopAt_29 : decode cX5_stopAt 29 = .ok (.iload_n 2, 1) := by decide +kernel
theorem dX5_stopAt_30 : decode cX5_stopAt 30 = .ok (.aload_n 0, 1) := by decide +kernel
theorem dX5_stopAt_31 : decode cX5_stopAt 31 = .ok (.getfield 18, 3) := by decide +kernel
theorem dX5_stopAt_34 : decode cX5_stopAt 34 = .ok (.iload_n 1, 1) := by decide +kernel
theorem dX5_stopAt_35 : decode cX5_stopAt 35 = .ok (.iaload, 1) := by decide +kernel
theorem dX5_stopAt_36 : decode cX5_stopAt 36 = .ok (.if_icmp .ge 6, 3) := by decide +kernel
theorem dX5_stopAt_39 : decode cX5_stopAt 39 = .ok (.bipush (-3), 2) := by decide +kernel
theorem dX5_stopAt_41 : decode cX5_stopAt 41 = .ok (.ireturn, 1) := by decide +kernel
theorem dX5_stopAt_42 : decode cX5_stopAt 42 = .ok (.aload_n 0, 1) := by decide +kernel
theorem dX5_stopAt_43 : decode cX5_stopAt 43 = .ok (.aload_n 0, 1) := by decide +kernel
theorem dX5_stopAt_44 : decode cX5_stopAt 44 = .ok (.getfield 9, 3) := by decide +kernel
theorem dX5_stopAt_47 : decode cX5_stopAt 47 = .ok (.iload_n 1, 1) := by decide +kernel
theorem dX5_stopAt_48 : decode cX5_stopAt 48 = .ok (.iaload, 1) := by decide +kernel
theorem dX5_stopAt_49 : decode cX5_stopAt 49 = .ok (.aload_n 0, 1) := by decide +kernel
theorem dX5_stopAt_50 : decode cX5_stopAt 50 = .ok (.getfield 15, 3) := by decide +kernel
theorem dX5_stopAt_53 : decode cX5_stopAt 53 = .ok (.iload_n 1, 1) := by decide +kernel
theorem dX5_stopAt_54 : decode cX5_stopAt 54 = .ok (.iaload, 1) := by decide +kernel
theorem dX5_stopAt_55 : decode cX5_stopAt 55 = .ok (.iload_n 1, 1) := by decide +kernel
theorem dX5_stopAt_56 : decode cX5_stopAt 56 = .ok (.invokevirtual 39, 3) := by decide +kernel
theorem dX5_stopAt_59 : decode cX5_stopAt 59 = .ok (.aload_n 0, 1) := by decide +kernel
theorem dX5_stopAt_60 : decode cX5_stopAt 60 = .ok (.getfield 18, 3) := by decide +kernel
theorem dX5_stopAt_63 : decode cX5_stopAt 63 = .ok (.iload_n 1, 1) := by decide +kernel
theorem dX5_stopAt_64 : decode cX5_stopAt 64 = .ok (.iaload, 1) := by decide +kernel
theorem dX5_stopAt_65 : decode cX5_stopAt 65 = .ok (.iload_n 2, 1) := by decide +kernel
theorem dX5_stopAt_66 : decode cX5_stopAt 66 = .ok (.invokestatic 43, 3) := by decide +kernel
theorem dX5_stopAt_69 : decode cX5_stopAt 69 = .ok (.iand, 1) := by decide +kernel
theorem dX5_stopAt_70 : decode cX5_stopAt 70 = .ok (.ifCond .eq 6, 3) := by decide +kernel
theorem dX5_stopAt_73 : decode cX5_stopAt 73 = .ok (.bipush (-3), 2) := by decide +kernel
theorem dX5_stopAt_75 : decode cX5_stopAt 75 = .ok (.ireturn, 1) := by decide +kernel
theorem dX5_stopAt_76 : decode cX5_stopAt 76 = .ok (.aload_n 0, 1) := by decide +kernel
theorem dX5_stopAt_77 : decode cX5_stopAt 77 = .ok (.getfield 21, 3) := by decide +kernel
theorem dX5_stopAt_80 : decode cX5_stopAt 80 = .ok (.iload_n 1, 1) := by decide +kernel
theorem dX5_stopAt_81 : decode cX5_stopAt 81 = .ok (.iload_n 2, 1) := by decide +kernel
theorem dX5_stopAt_82 : decode cX5_stopAt 82 = .ok (.iastore, 1) := by decide +kernel
theorem dX5_stopAt_83 : decode cX5_stopAt 83 = .ok (.iload_n 3, 1) := by decide +kernel
theorem dX5_stopAt_84 : decode cX5_stopAt 84 = .ok (.ireturn, 1) := by decide +kernel
theorem dX5_isOf_0 : decode cX5_isOf 0 = .ok (.aload_n 0, 1) := by decide +kernel
theorem dX5_isOf_1 : decode cX5_isOf 1 = .ok (.getfield 9, 3) := by decide +kernel
theorem dX5_isOf_4 : decode cX5_isOf 4 = .ok (.iload_n 1, 1) := by decide +kernel
theorem dX5_isOf_5 : decode cX5_isOf 5 = .ok (.iaload, 1) := by decide +kernel
theorem dX5_isOf_6 : decode cX5_isOf 6 = .ok (.iload_n 2, 1) := by decide +kernel
theorem dX5_isOf_7 : decode cX5_isOf 7 = .ok (.iload_n 3, 1) := by decide +kernel
theorem dX5_isOf_8 : decode cX5_isOf 8 = .ok (.invokestatic 47, 3) := by decide +kernel
theorem dX5_isOf_11 : decode cX5_isOf 11 = .ok (.if_icmp .ne 21, 3) := by decide +kernel
theorem dX5_isOf_14 : decode cX5_isOf 14 = .ok (.aload_n 0, 1) := by decide +kernel
theorem dX5_isOf_15 : decode cX5_isOf 15 = .ok (.getfield 15, 3) := by decide +kernel
theorem dX5_isOf_18 : decode cX5_isOf 18 = .ok (.iload_n 1, 1) := by decide +kernel
theorem dX5_isOf_19 : decode cX5_isOf 19 = .ok (.iaload, 1) := by decide +kernel
theorem dX5_isOf_20 : decode cX5_isOf 20 = .ok (.iload_n 2, 1) := by decide +kernel
theorem dX5_isOf_21 : decode cX5_isOf 21 = .ok (.iload_n 3, 1) := by decide +kernel
theorem dX5_isOf_22 : decode cX5_isOf 22 = .ok (.invokestatic 52, 3) := by decide +kernel
theorem dX5_isOf_25 : decode cX5_isOf 25 = .ok (.if_icmp .ne 7, 3) := by decide +kernel
theorem dX5_isOf_28 : decode cX5_isOf 28 = .ok (.iconst 1, 1) := by decide +kernel
theorem dX5_isOf_29 : decode cX5_isOf 29 = .ok (.goto 4, 3) := by decide +kernel
theorem dX5_isOf_32 : decode cX5_isOf 32 = .ok (.iconst 0, 1) := by decide +kernel
theorem dX5_isOf_33 : decode cX5_isOf 33 = .ok (.ireturn, 1) := by decide +kernel
theorem dX5_lastOf_0 : decode cX5_lastOf 0 = .ok (.aload_n 0, 1) := by decide +kernel
theorem dX5_lastOf_1 : decode cX5_lastOf 1 = .ok (.getfield 24, 3) := by decide +kernel
theorem dX5_lastOf_4 : decode cX5_lastOf 4 = .ok (.iconst 1, 1) := by decide +kernel
theorem dX5_lastOf_5 : decode cX5_lastOf 5 = .ok (.isub, 1) := by decide +kernel
theorem dX5_lastOf_6 : decode cX5_lastOf 6 = .ok (.istore_n 3, 1) := by decide +kernel
theorem dX5_lastOf_7 : decode cX5_lastOf 7 = .ok (.iload_n 3, 1) := by decide +kernel
theorem dX5_lastOf_8 : decode cX5_lastOf 8 = .ok (.ifCond .lt 21, 3) := by decide +kernel
theorem dX5_lastOf_11 : decode cX5_lastOf 11 = .ok (.aload_n 0, 1) := by decide +kernel
theorem dX5_lastOf_12 : decode cX5_lastOf 12 = .ok (.iload_n 3, 1) := by decide +kernel
theorem dX5_lastOf_13 : decode cX5_lastOf 13 = .ok (.iload_n 1, 1) := by decide +kernel
theorem dX5_lastOf_14 : decode cX5_lastOf 14 = .ok (.iload_n 2, 1) := by decide +kernel
theorem dX5_lastOf_15 : decode cX5_lastOf 15 = .ok (.invokevirtual 58, 3) := by decide +kernel
theorem dX5_lastOf_18 : decode cX5_lastOf 18 = .ok (.ifCond .eq 5, 3) := by decide +kernel
theorem dX5_lastOf_21 : decode cX5_lastOf 21 = .ok (.iload_n 3, 1) := by decide +kernel
theorem dX5_lastOf_22 : decode cX5_lastOf 22 = .ok (.ireturn, 1) := by decide +kernel
theorem dX5_lastOf_23 : decode cX5_lastOf 23 = .ok (.iinc 3 (-1), 3) := by decide +kernel
theorem dX5_lastOf_26 : decode cX5_lastOf 26 = .ok (.goto (-19), 3) := by decide +kernel
theorem dX5_lastOf_29 : decode cX5_lastOf 29 = .ok (.bipush (-9), 2) := by decide +kernel
theorem dX5_lastOf_31 : decode cX5_lastOf 31 = .ok (.ireturn, 1) := by decide +kernel
theorem dX5_timesOf_0 : decode cX5_timesOf 0 = .ok (.iconst 0, 1) := by decide +kernel
theorem dX5_timesOf_1 : decode cX5_timesOf 1 = .ok (.istore 4, 2) := by decide +kernel
theorem dX5_timesOf_3 : decode cX5_timesOf 3 = .ok (.iconst 0, 1) := by decide +kernel
theorem dX5_timesOf_4 : decode cX5_timesOf 4 = .ok (.istore 5, 2) := by decide +kernel
theorem dX5_timesOf_6 : decode cX5_timesOf 6 = .ok (.iload 5, 2) := by decide +kernel
theorem dX5_timesOf_8 : decode cX5_timesOf 8 = .ok (.aload_n 0, 1) := by decide +kernel
theorem dX5_timesOf_9 : decode cX5_timesOf 9 = .ok (.getfield 24, 3) := by decide +kernel
theorem dX5_timesOf_12 : decode cX5_timesOf 12 = .ok (.if_icmp .ge 48, 3) := by decide +kernel
theorem dX5_timesOf_15 : decode cX5_timesOf 15 = .ok (.iload 5, 2) := by decide +kernel
theorem dX5_timesOf_17 : decode cX5_timesOf 17 = .ok (.iload_n 3, 1) := by decide +kernel
theorem dX5_timesOf_18 : decode cX5_timesOf 18 = .ok (.if_icmp .eq 36, 3) := by decide +kernel
theorem dX5_timesOf_21 : decode cX5_timesOf 21 = .ok (.aload_n 0, 1) := by decide +kernel
theorem dX5_timesOf_22 : decode cX5_timesOf 22 = .ok (.iload 5, 2) := by decide +kernel
theorem dX5_timesOf_24 : decode cX5_timesOf 24 = .ok (.iload_n 1, 1) := by decide +kernel
theorem dX5_timesOf_25 : decode cX5_timesOf 25 = .ok (.iload_n 2, 1) := by decide +kernel
theorem dX5_timesOf_26 : decode cX5_timesOf 26 = .ok (.invokevirtual 58, 3) := by decide +kernel
theorem dX5_timesOf_29 : decode cX5_timesOf 29 = .ok (.ifCond .eq 25, 3) := by decide +kernel
theorem dX5_timesOf_32 : decode cX5_timesOf 32 = .ok (.iload 4, 2) := by decide +kernel
theorem dX5_timesOf_34 : decode cX5_timesOf 34 = .ok (.aload_n 0, 1) := by decide +kernel
theorem dX5_timesOf_35 : decode cX5_timesOf 35 = .ok (.getfield 18, 3) := by decide +kernel
theorem dX5_timesOf_38 : decode cX5_timesOf 38 = .ok (.iload 5, 2) := by decide +kernel
theorem dX5_timesOf_40 : decode cX5_timesOf 40 = .ok (.iaload, 1) := by decide +kernel
theorem dX5_timesOf_41 : decode cX5_timesOf 41 = .ok (.aload_n 0, 1) := by decide +kernel
theorem dX5_timesOf_42 : decode cX5_timesOf 42 = .ok (.getfield 21, 3) := by decide +kernel
theorem dX5_timesOf_45 : decode cX5_timesOf 45 = .ok (.iload 5, 2) := by decide +kernel
theorem dX5_timesOf_47 : decode cX5_timesOf 47 = .ok (.iaload, 1) := by decide +kernel
theorem dX5_timesOf_48 : decode cX5_timesOf 48 = .ok (.invokestatic 43, 3) := by decide +kernel
theorem dX5_timesOf_51 : decode cX5_timesOf 51 = .ok (.ior, 1) := by decide +kernel
theorem dX5_timesOf_52 : decode cX5_timesOf 52 = .ok (.istore 4, 2) := by decide +kernel
theorem dX5_timesOf_54 : decode cX5_timesOf 54 = .ok (.iinc 5 1, 3) := by decide +kernel
theorem dX5_timesOf_57 : decode cX5_timesOf 57 = .ok (.goto (-51), 3) := by decide +kernel
theorem dX5_timesOf_60 : decode cX5_timesOf 60 = .ok (.iload 4, 2) := by decide +kernel
theorem dX5_timesOf_62 : decode cX5_timesOf 62 = .ok (.ireturn, 1) := by decide +kernel
theorem dX5_timesFilled_0 : decode cX5_timesFilled 0 = .ok (.iconst 0, 1) := by decide +kernel
theorem dX5_timesFilled_1 : decode cX5_timesFilled 1 = .ok (.istore_n 1, 1) := by decide +kernel
theorem dX5_timesFilled_2 : decode cX5_timesFilled 2 = .ok (.iconst 0, 1) := by decide +kernel
theorem dX5_timesFilled_3 : decode cX5_timesFilled 3 = .ok (.istore_n 2, 1) := by decide +kernel
theorem dX5_timesFilled_4 : decode cX5_timesFilled 4 = .ok (.iload_n 2, 1) := by decide +kernel
theorem dX5_timesFilled_5 : decode cX5_timesFilled 5 = .ok (.aload_n 0, 1) := by decide +kernel
theorem dX5_timesFilled_6 : decode cX5_timesFilled 6 = .ok (.getfield 24, 3) := by decide +kernel
theorem dX5_timesFilled_9 : decode cX5_timesFilled 9 = .ok (.if_icmp .ge 27, 3) := by decide +kernel
theorem dX5_timesFilled_12 : decode cX5_timesFilled 12 = .ok (.iload_n 1, 1) := by decide +kernel
theorem dX5_timesFilled_13 : decode cX5_timesFilled 13 = .ok (.aload_n 0, 1) := by decide +kernel
theorem dX5_timesFilled_14 : decode cX5_timesFilled 14 = .ok (.getfield 18, 3) := by decide +kernel
theorem dX5_timesFilled_17 : decode cX5_timesFilled 17 = .ok (.iload_n 2, 1) := by decide +kernel
theorem dX5_timesFilled_18 : decode cX5_timesFilled 18 = .ok (.iaload, 1) := by decide +kernel
theorem dX5_timesFilled_19 : decode cX5_timesFilled 19 = .ok (.aload_n 0, 1) := by decide +kernel
theorem dX5_timesFilled_20 : decode cX5_timesFilled 20 = .ok (.getfield 21, 3) := by decide +kernel
theorem dX5_timesFilled_23 : decode cX5_timesFilled 23 = .ok (.iload_n 2, 1) := by decide +kernel
theorem dX5_timesFilled_24 : decode cX5_timesFilled 24 = .ok (.iaload, 1) := by decide +kernel
theorem dX5_timesFilled_25 : decode cX5_timesFilled 25 = .ok (.invokestatic 43, 3) := by decide +kernel
theorem dX5_timesFilled_28 : decode cX5_timesFilled 28 = .ok (.ior, 1) := by decide +kernel
theorem dX5_timesFilled_29 : decode cX5_timesFilled 29 = .ok (.istore_n 1, 1) := by decide +kernel
theorem dX5_timesFilled_30 : decode cX5_timesFilled 30 = .ok (.iinc 2 1, 3) := by decide +kernel
theorem dX5_timesFilled_33 : decode cX5_timesFilled 33 = .ok (.goto (-29), 3) := by decide +kernel
theorem dX5_timesFilled_36 : decode cX5_timesFilled 36 = .ok (.iload_n 1, 1) := by decide +kernel
theorem dX5_timesFilled_37 : decode cX5_timesFilled 37 = .ok (.ireturn, 1) := by decide +kernel
theorem dX5_timesTogether_0 : decode cX5_timesTogether 0 = .ok (.iconst 0, 1) := by decide +kernel
theorem dX5_timesTogether_1 : decode cX5_timesTogether 1 = .ok (.istore_n 1, 1) := by decide +kernel
theorem dX5_timesTogether_2 : decode cX5_timesTogether 2 = .ok (.iconst 0, 1) := by decide +kernel
theorem dX5_timesTogether_3 : decode cX5_timesTogether 3 = .ok (.istore_n 2, 1) := by decide +kernel
theorem dX5_timesTogether_4 : decode cX5_timesTogether 4 = .ok (.iload_n 2, 1) := by decide +kernel
theorem dX5_timesTogether_5 : decode cX5_timesTogether 5 = .ok (.aload_n 0, 1) := by decide +kernel
theorem dX5_timesTogether_6 : decode cX5_timesTogether 6 = .ok (.getfield 24, 3) := by decide +kernel
theorem dX5_timesTogether_9 : decode cX5_timesTogether 9 = .ok (.if_icmp .ge 27, 3) := by decide +kernel
theorem dX5_timesTogether_12 : decode cX5_timesTogether 12 = .ok (.iload_n 1, 1) := by decide +kernel
theorem dX5_timesTogether_13 : decode cX5_timesTogether 13 = .ok (.aload_n 0, 1) := by decide +kernel
theorem dX5_timesTogether_14 : decode cX5_timesTogether 14 = .ok (.getfield 21, 3) := by decide +kernel
theorem dX5_timesTogether_17 : decode cX5_timesTogether 17 = .ok (.iload_n 2, 1) := by decide +kernel
theorem dX5_timesTogether_18 : decode cX5_timesTogether 18 = .ok (.iaload, 1) := by decide +kernel
theorem dX5_timesTogether_19 : decode cX5_timesTogether 19 = .ok (.aload_n 0, 1) := by decide +kernel
theorem dX5_timesTogether_20 : decode cX5_timesTogether 20 = .ok (.getfield 18, 3) := by decide +kernel
theorem dX5_timesTogether_23 : decode cX5_timesTogether 23 = .ok (.iload_n 2, 1) := by decide +kernel
theorem dX5_timesTogether_24 : decode cX5_timesTogether 24 = .ok (.iaload, 1) := by decide +kernel
theorem dX5_timesTogether_25 : decode cX5_timesTogether 25 = .ok (.isub, 1) := by decide +kernel
theorem dX5_timesTogether_26 : decode cX5_timesTogether 26 = .ok (.iconst 1, 1) := by decide +kernel
theorem dX5_timesTogether_27 : decode cX5_timesTogether 27 = .ok (.iadd, 1) := by decide +kernel
theorem dX5_timesTogether_28 : decode cX5_timesTogether 28 = .ok (.iadd, 1) := by decide +kernel
theorem dX5_timesTogether_29 : decode cX5_timesTogether 29 = .ok (.istore_n 1, 1) := by decide +kernel
theorem dX5_timesTogether_30 : decode cX5_timesTogether 30 = .ok (.iinc 2 1, 3) := by decide +kernel
theorem dX5_timesTogether_33 : decode cX5_timesTogether 33 = .ok (.goto (-29), 3) := by decide +kernel
theorem dX5_timesTogether_36 : decode cX5_timesTogether 36 = .ok (.iload_n 1, 1) := by decide +kernel
theorem dX5_timesTogether_37 : decode cX5_timesTogether 37 = .ok (.ireturn, 1) := by decide +kernel
theorem dX5_livesAt_0 : decode cX5_livesAt 0 = .ok (.aload_n 0, 1) := by decide +kernel
theorem dX5_livesAt_1 : decode cX5_livesAt 1 = .ok (.getfield 18, 3) := by decide +kernel
theorem dX5_livesAt_4 : decode cX5_livesAt 4 = .ok (.iload_n 1, 1) := by decide +kernel
theorem dX5_livesAt_5 : decode cX5_livesAt 5 = .ok (.iaload, 1) := by decide +kernel
theorem dX5_livesAt_6 : decode cX5_livesAt 6 = .ok (.iload_n 2, 1) := by decide +kernel
theorem dX5_livesAt_7 : decode cX5_livesAt 7 = .ok (.if_icmp .gt 17, 3) := by decide +kernel
theorem dX5_livesAt_10 : decode cX5_livesAt 10 = .ok (.iload_n 2, 1) := by decide +kernel
theorem dX5_livesAt_11 : decode cX5_livesAt 11 = .ok (.aload_n 0, 1) := by decide +kernel
theorem dX5_livesAt_12 : decode cX5_livesAt 12 = .ok (.getfield 21, 3) := by decide +kernel
theorem dX5_livesAt_15 : decode cX5_livesAt 15 = .ok (.iload_n 1, 1) := by decide +kernel
theorem dX5_livesAt_16 : decode cX5_livesAt 16 = .ok (.iaload, 1) := by decide +kernel
theorem dX5_livesAt_17 : decode cX5_livesAt 17 = .ok (.if_icmp .gt 7, 3) := by decide +kernel
theorem dX5_livesAt_20 : decode cX5_livesAt 20 = .ok (.iconst 1, 1) := by decide +kernel
theorem dX5_livesAt_21 : decode cX5_livesAt 21 = .ok (.goto 4, 3) := by decide +kernel
theorem dX5_livesAt_24 : decode cX5_livesAt 24 = .ok (.iconst 0, 1) := by decide +kernel
theorem dX5_livesAt_25 : decode cX5_livesAt 25 = .ok (.ireturn, 1) := by decide +kernel
theorem dX5_livingAt_0 : decode cX5_livingAt 0 = .ok (.iconst 0, 1) := by decide +kernel
theorem dX5_livingAt_1 : decode cX5_livingAt 1 = .ok (.istore_n 2, 1) := by decide +kernel
theorem dX5_livingAt_2 : decode cX5_livingAt 2 = .ok (.iconst 0, 1) := by decide +kernel
theorem dX5_livingAt_3 : decode cX5_livingAt 3 = .ok (.istore_n 3, 1) := by decide +kernel
theorem dX5_livingAt_4 : decode cX5_livingAt 4 = .ok (.iload_n 3, 1) := by decide +kernel
theorem dX5_livingAt_5 : decode cX5_livingAt 5 = .ok (.aload_n 0, 1) := by decide +kernel
theorem dX5_livingAt_6 : decode cX5_livingAt 6 = .ok (.getfield 24, 3) := by decide +kernel
theorem dX5_livingAt_9 : decode cX5_livingAt 9 = .ok (.if_icmp .ge 24, 3) := by decide +kernel
theorem dX5_livingAt_12 : decode cX5_livingAt 12 = .ok (.aload_n 0, 1) := by decide +kernel
theorem dX5_livingAt_13 : decode cX5_livingAt 13 = .ok (.iload_n 3, 1) := by decide +kernel
theorem dX5_livingAt_14 : decode cX5_livingAt 14 = .ok (.iload_n 1, 1) := by decide +kernel
theorem dX5_livingAt_15 : decode cX5_livingAt 15 = .ok (.invokevirtual 62, 3) := by decide +kernel
theorem dX5_livingAt_18 : decode cX5_livingAt 18 = .ok (.ifCond .eq 9, 3) := by decide +kernel
theorem dX5_livingAt_21 : decode cX5_livingAt 21 = .ok (.iload_n 2, 1) := by decide +kernel
theorem dX5_livingAt_22 : decode cX5_livingAt 22 = .ok (.iconst 1, 1) := by decide +kernel
theorem dX5_livingAt_23 : decode cX5_livingAt 23 = .ok (.iload_n 3, 1) := by decide +kernel
theorem dX5_livingAt_24 : decode cX5_livingAt 24 = .ok (.ishl, 1) := by decide +kernel
theorem dX5_livingAt_25 : decode cX5_livingAt 25 = .ok (.ior, 1) := by decide +kernel
theorem dX5_livingAt_26 : decode cX5_livingAt 26 = .ok (.istore_n 2, 1) := by decide +kernel
theorem dX5_livingAt_27 : decode cX5_livingAt 27 = .ok (.iinc 3 1, 3) := by decide +kernel
theorem dX5_livingAt_30 : decode cX5_livingAt 30 = .ok (.goto (-26), 3) := by decide +kernel
theorem dX5_livingAt_33 : decode cX5_livingAt 33 = .ok (.iload_n 2, 1) := by decide +kernel
theorem dX5_livingAt_34 : decode cX5_livingAt 34 = .ok (.ireturn, 1) := by decide +kernel
theorem dX5_fills_0 : decode cX5_fills 0 = .ok (.iload_n 2, 1) := by decide +kernel
theorem dX5_fills_1 : decode cX5_fills 1 = .ok (.iconst 1, 1) := by decide +kernel
theorem dX5_fills_2 : decode cX5_fills 2 = .ok (.if_icmp .ge 5, 3) := by decide +kernel
theorem dX5_fills_5 : decode cX5_fills 5 = .ok (.iconst 0, 1) := by decide +kernel
theorem dX5_fills_6 : decode cX5_fills 6 = .ok (.ireturn, 1) := by decide +kernel
theorem dX5_fills_7 : decode cX5_fills 7 = .ok (.iload_n 2, 1) := by decide +kernel
theorem dX5_fills_8 : decode cX5_fills 8 = .ok (.istore_n 3, 1) := by decide +kernel
theorem dX5_fills_9 : decode cX5_fills 9 = .ok (.iload_n 2, 1) := by decide +kernel
theorem dX5_fills_10 : decode cX5_fills 10 = .ok (.istore 4, 2) := by decide +kernel
theorem dX5_fills_12 : decode cX5_fills 12 = .ok (.iconst 1, 1) := by decide +kernel
theorem dX5_fills_13 : decode cX5_fills 13 = .ok (.istore 5, 2) := by decide +kernel
theorem dX5_fills_15 : decode cX5_fills 15 = .ok (.iload 5, 2) := by decide +kernel
theorem dX5_fills_17 : decode cX5_fills 17 = .ok (.iconst 5, 1) := by decide +kernel
theorem dX5_fills_18 : decode cX5_fills 18 = .ok (.if_icmp .ge 27, 3) := by decide +kernel
theorem dX5_fills_21 : decode cX5_fills 21 = .ok (.iload_n 3, 1) := by decide +kernel
theorem dX5_fills_22 : decode cX5_fills 22 = .ok (.bipush 16, 2) := by decide +kernel
theorem dX5_fills_24 : decode cX5_fills 24 = .ok (.if_icmp .ge 21, 3) := by decide +kernel
theorem dX5_fills_27 : decode cX5_fills 27 = .ok (.iconst 2, 1) := by decide +kernel
theorem dX5_fills_28 : decode cX5_fills 28 = .ok (.iload_n 3, 1) := by decide +kernel
theorem dX5_fills_29 : decode cX5_fills 29 = .ok (.imul, 1) := by decide +kernel
theorem dX5_fills_30 : decode cX5_fills 30 = .ok (.istore_n 3, 1) := by decide +kernel
theorem dX5_fills_31 : decode cX5_fills 31 = .ok (.iconst 2, 1) := by decide +kernel
theorem dX5_fills_32 : decode cX5_fills 32 = .ok (.iload 4, 2) := by decide +kernel
theorem dX5_fills_34 : decode cX5_fills 34 = .ok (.imul, 1) := by decide +kernel
theorem dX5_fills_35 : decode cX5_fills 35 = .ok (.iconst 1, 1) := by decide +kernel
theorem dX5_fills_36 : decode cX5_fills 36 = .ok (.iadd, 1) := by decide +kernel
theorem dX5_fills_37 : decode cX5_fills 37 = .ok (.istore 4, 2) := by decide +kernel
theorem dX5_fills_39 : decode cX5_fills 39 = .ok (.iinc 5 1, 3) := by decide +kernel
theorem dX5_fills_42 : decode cX5_fills 42 = .ok (.goto (-27), 3) := by decide +kernel
theorem dX5_fills_45 : decode cX5_fills 45 = .ok (.aload_n 0, 1) := by decide +kernel
theorem dX5_fills_46 : decode cX5_fills 46 = .ok (.getfield 18, 3) := by decide +kernel
theorem dX5_fills_49 : decode cX5_fills 49 = .ok (.iload_n 1, 1) := by decide +kernel
theorem dX5_fills_50 : decode cX5_fills 50 = .ok (.iaload, 1) := by decide +kernel
theorem dX5_fills_51 : decode cX5_fills 51 = .ok (.iload_n 3, 1) := by decide +kernel
theorem dX5_fills_52 : decode cX5_fills 52 = .ok (.bipush 16, 2) := by decide +kernel
theorem dX5_fills_54 : decode cX5_fills 54 = .ok (.isub, 1) := by decide +kernel
theorem dX5_fills_55 : decode cX5_fills 55 = .ok (.if_icmp .gt 21, 3) := by decide +kernel
theorem dX5_fills_58 : decode cX5_fills 58 = .ok (.iload 4, 2) := by decide +kernel
theorem dX5_fills_60 : decode cX5_fills 60 = .ok (.bipush 16, 2) := by decide +kernel
theorem dX5_fills_62 : decode cX5_fills 62 = .ok (.isub, 1) := by decide +kernel
theorem dX5_fills_63 : decode cX5_fills 63 = .ok (.aload_n 0, 1) := by decide +kernel
theorem dX5_fills_64 : decode cX5_fills 64 = .ok (.getfield 21, 3) := by decide +kernel
theorem dX5_fills_67 : decode cX5_fills 67 = .ok (.iload_n 1, 1) := by decide +kernel
theorem dX5_fills_68 : decode cX5_fills 68 = .ok (.iaload, 1) := by decide +kernel
theorem dX5_fills_69 : decode cX5_fills 69 = .ok (.if_icmp .gt 7, 3) := by decide +kernel
theorem dX5_fills_72 : decode cX5_fills 72 = .ok (.iconst 1, 1) := by decide +kernel
theorem dX5_fills_73 : decode cX5_fills 73 = .ok (.goto 4, 3) := by decide +kernel
theorem dX5_fills_76 : decode cX5_fills 76 = .ok (.iconst 0, 1) := by decide +kernel
theorem dX5_fills_77 : decode cX5_fills 77 = .ok (.ireturn, 1) := by decide +kernel
theorem dX5_lies_0 : decode cX5_lies 0 = .ok (.aload_n 0, 1) := by decide +kernel
theorem dX5_lies_1 : decode cX5_lies 1 = .ok (.iload_n 1, 1) := by decide +kernel
theorem dX5_lies_2 : decode cX5_lies 2 = .ok (.iload_n 2, 1) := by decide +kernel
theorem dX5_lies_3 : decode cX5_lies 3 = .ok (.invokevirtual 66, 3) := by decide +kernel
theorem dX5_lies_6 : decode cX5_lies 6 = .ok (.ifCond .eq 18, 3) := by decide +kernel
theorem dX5_lies_9 : decode cX5_lies 9 = .ok (.aload_n 0, 1) := by decide +kernel
theorem dX5_lies_10 : decode cX5_lies 10 = .ok (.iload_n 1, 1) := by decide +kernel
theorem dX5_lies_11 : decode cX5_lies 11 = .ok (.iload_n 2, 1) := by decide +kernel
theorem dX5_lies_12 : decode cX5_lies 12 = .ok (.iconst 2, 1) := by decide +kernel
theorem dX5_lies_13 : decode cX5_lies 13 = .ok (.idiv, 1) := by decide +kernel
theorem dX5_lies_14 : decode cX5_lies 14 = .ok (.invokevirtual 66, 3) := by decide +kernel
theorem dX5_lies_17 : decode cX5_lies 17 = .ok (.ifCond .ne 7, 3) := by decide +kernel
theorem dX5_lies_20 : decode cX5_lies 20 = .ok (.iconst 1, 1) := by decide +kernel
theorem dX5_lies_21 : decode cX5_lies 21 = .ok (.goto 4, 3) := by decide +kernel
theorem dX5_lies_24 : decode cX5_lies 24 = .ok (.iconst 0, 1) := by decide +kernel
theorem dX5_lies_25 : decode cX5_lies 25 = .ok (.ireturn, 1) := by decide +kernel
theorem dX5_lyingOn_0 : decode cX5_lyingOn 0 = .ok (.iconst 0, 1) := by decide +kernel
theorem dX5_lyingOn_1 : decode cX5_lyingOn 1 = .ok (.istore_n 2, 1) := by decide +kernel
theorem dX5_lyingOn_2 : decode cX5_lyingOn 2 = .ok (.iconst 0, 1) := by decide +kernel
theorem dX5_lyingOn_3 : decode cX5_lyingOn 3 = .ok (.istore_n 3, 1) := by decide +kernel
theorem dX5_lyingOn_4 : decode cX5_lyingOn 4 = .ok (.iload_n 3, 1) := by decide +kernel
theorem dX5_lyingOn_5 : decode cX5_lyingOn 5 = .ok (.aload_n 0, 1) := by decide +kernel
theorem dX5_lyingOn_6 : decode cX5_lyingOn 6 = .ok (.getfield 24, 3) := by decide +kernel
theorem dX5_lyingOn_9 : decode cX5_lyingOn 9 = .ok (.if_icmp .ge 24, 3) := by decide +kernel
theorem dX5_lyingOn_12 : decode cX5_lyingOn 12 = .ok (.aload_n 0, 1) := by decide +kernel
theorem dX5_lyingOn_13 : decode cX5_lyingOn 13 = .ok (.iload_n 3, 1) := by decide +kernel
theorem dX5_lyingOn_14 : decode cX5_lyingOn 14 = .ok (.iload_n 1, 1) := by decide +kernel
theorem dX5_lyingOn_15 : decode cX5_lyingOn 15 = .ok (.invokevirtual 69, 3) := by decide +kernel
theorem dX5_lyingOn_18 : decode cX5_lyingOn 18 = .ok (.ifCond .eq 9, 3) := by decide +kernel
theorem dX5_lyingOn_21 : decode cX5_lyingOn 21 = .ok (.iload_n 2, 1) := by decide +kernel
theorem dX5_lyingOn_22 : decode cX5_lyingOn 22 = .ok (.iconst 1, 1) := by decide +kernel
theorem dX5_lyingOn_23 : decode cX5_lyingOn 23 = .ok (.iload_n 3, 1) := by decide +kernel
theorem dX5_lyingOn_24 : decode cX5_lyingOn 24 = .ok (.ishl, 1) := by decide +kernel
theorem dX5_lyingOn_25 : decode cX5_lyingOn 25 = .ok (.ior, 1) := by decide +kernel
theorem dX5_lyingOn_26 : decode cX5_lyingOn 26 = .ok (.istore_n 2, 1) := by decide +kernel
theorem dX5_lyingOn_27 : decode cX5_lyingOn 27 = .ok (.iinc 3 1, 3) := by decide +kernel
theorem dX5_lyingOn_30 : decode cX5_lyingOn 30 = .ok (.goto (-26), 3) := by decide +kernel
theorem dX5_lyingOn_33 : decode cX5_lyingOn 33 = .ok (.iload_n 2, 1) := by decide +kernel
theorem dX5_lyingOn_34 : decode cX5_lyingOn 34 = .ok (.ireturn, 1) := by decide +kernel
theorem dX5_howManyNodes_0 : decode cX5_howManyNodes 0 = .ok (.iconst 0, 1) := by decide +kernel
theorem dX5_howManyNodes_1 : decode cX5_howManyNodes 1 = .ok (.istore_n 2, 1) := by decide +kernel
theorem dX5_howManyNodes_2 : decode cX5_howManyNodes 2 = .ok (.iconst 1, 1) := by decide +kernel
theorem dX5_howManyNodes_3 : decode cX5_howManyNodes 3 = .ok (.istore_n 3, 1) := by decide +kernel
theorem dX5_howManyNodes_4 : decode cX5_howManyNodes 4 = .ok (.iload_n 3, 1) := by decide +kernel
theorem dX5_howManyNodes_5 : decode cX5_howManyNodes 5 = .ok (.bipush 31, 2) := by decide +kernel
theorem dX5_howManyNodes_7 : decode cX5_howManyNodes 7 = .ok (.if_icmp .gt 21, 3) := by decide +kernel
theorem dX5_howManyNodes_10 : decode cX5_howManyNodes 10 = .ok (.aload_n 0, 1) := by decide +kernel
theorem dX5_howManyNodes_11 : decode cX5_howManyNodes 11 = .ok (.iload_n 1, 1) := by decide +kernel
theorem dX5_howManyNodes_12 : decode cX5_howManyNodes 12 = .ok (.iload_n 3, 1) := by decide +kernel
theorem dX5_howManyNodes_13 : decode cX5_howManyNodes 13 = .ok (.invokevirtual 69, 3) := by decide +kernel
theorem dX5_howManyNodes_16 : decode cX5_howManyNodes 16 = .ok (.ifCond .eq 6, 3) := by decide +kernel
theorem dX5_howManyNodes_19 : decode cX5_howManyNodes 19 = .ok (.iinc 2 1, 3) := by decide +kernel
theorem dX5_howManyNodes_22 : decode cX5_howManyNodes 22 = .ok (.iinc 3 1, 3) := by decide +kernel
theorem dX5_howManyNodes_25 : decode cX5_howManyNodes 25 = .ok (.goto (-21), 3) := by decide +kernel
theorem dX5_howManyNodes_28 : decode cX5_howManyNodes 28 = .ok (.iload_n 2, 1) := by decide +kernel
theorem dX5_howManyNodes_29 : decode cX5_howManyNodes 29 = .ok (.ireturn, 1) := by decide +kernel
theorem dJ6_bitCount_0f7a4_0 : decode cJ6_bitCount_0f7a4 0 = .ok (.iload_n 0, 1) := by decide +kernel
theorem dJ6_bitCount_0f7a4_1 : decode cJ6_bitCount_0f7a4 1 = .ok (.iload_n 0, 1) := by decide +kernel
theorem dJ6_bitCount_0f7a4_2 : decode cJ6_bitCount_0f7a4 2 = .ok (.iconst 1, 1) := by decide +kernel
theorem dJ6_bitCount_0f7a4_3 : decode cJ6_bitCount_0f7a4 3 = .ok (.iushr, 1) := by decide +kernel
theorem dJ6_bitCount_0f7a4_4 : decode cJ6_bitCount_0f7a4 4 = .ok (.ldc_w 265, 3) := by decide +kernel
theorem dJ6_bitCount_0f7a4_7 : decode cJ6_bitCount_0f7a4 7 = .ok (.iand, 1) := by decide +kernel
theorem dJ6_bitCount_0f7a4_8 : decode cJ6_bitCount_0f7a4 8 = .ok (.isub, 1) := by decide +kernel
theorem dJ6_bitCount_0f7a4_9 : decode cJ6_bitCount_0f7a4 9 = .ok (.istore_n 0, 1) := by decide +kernel
theorem dJ6_bitCount_0f7a4_10 : decode cJ6_bitCount_0f7a4 10 = .ok (.iload_n 0, 1) := by decide +kernel
theorem dJ6_bitCount_0f7a4_11 : decode cJ6_bitCount_0f7a4 11 = .ok (.ldc_w 266, 3) := by decide +kernel
theorem dJ6_bitCount_0f7a4_14 : decode cJ6_bitCount_0f7a4 14 = .ok (.iand, 1) := by decide +kernel
theorem dJ6_bitCount_0f7a4_15 : decode cJ6_bitCount_0f7a4 15 = .ok (.iload_n 0, 1) := by decide +kernel
theorem dJ6_bitCount_0f7a4_16 : decode cJ6_bitCount_0f7a4 16 = .ok (.iconst 2, 1) := by decide +kernel
theorem dJ6_bitCount_0f7a4_17 : decode cJ6_bitCount_0f7a4 17 = .ok (.iushr, 1) := by decide +kernel
theorem dJ6_bitCount_0f7a4_18 : decode cJ6_bitCount_0f7a4 18 = .ok (.ldc_w 266, 3) := by decide +kernel
theorem dJ6_bitCount_0f7a4_21 : decode cJ6_bitCount_0f7a4 21 = .ok (.iand, 1) := by decide +kernel
theorem dJ6_bitCount_0f7a4_22 : decode cJ6_bitCount_0f7a4 22 = .ok (.iadd, 1) := by decide +kernel
theorem dJ6_bitCount_0f7a4_23 : decode cJ6_bitCount_0f7a4 23 = .ok (.istore_n 0, 1) := by decide +kernel
theorem dJ6_bitCount_0f7a4_24 : decode cJ6_bitCount_0f7a4 24 = .ok (.iload_n 0, 1) := by decide +kernel
theorem dJ6_bitCount_0f7a4_25 : decode cJ6_bitCount_0f7a4 25 = .ok (.iload_n 0, 1) := by decide +kernel
theorem dJ6_bitCount_0f7a4_26 : decode cJ6_bitCount_0f7a4 26 = .ok (.iconst 4, 1) := by decide +kernel
theorem dJ6_bitCount_0f7a4_27 : decode cJ6_bitCount_0f7a4 27 = .ok (.iushr, 1) := by decide +kernel
theorem dJ6_bitCount_0f7a4_28 : decode cJ6_bitCount_0f7a4 28 = .ok (.iadd, 1) := by decide +kernel
theorem dJ6_bitCount_0f7a4_29 : decode cJ6_bitCount_0f7a4 29 = .ok (.ldc_w 267, 3) := by decide +kernel
theorem dJ6_bitCount_0f7a4_32 : decode cJ6_bitCount_0f7a4 32 = .ok (.iand, 1) := by decide +kernel
theorem dJ6_bitCount_0f7a4_33 : decode cJ6_bitCount_0f7a4 33 = .ok (.istore_n 0, 1) := by decide +kernel
theorem dJ6_bitCount_0f7a4_34 : decode cJ6_bitCount_0f7a4 34 = .ok (.iload_n 0, 1) := by decide +kernel
theorem dJ6_bitCount_0f7a4_35 : decode cJ6_bitCount_0f7a4 35 = .ok (.iload_n 0, 1) := by decide +kernel
theorem dJ6_bitCount_0f7a4_36 : decode cJ6_bitCount_0f7a4 36 = .ok (.bipush 8, 2) := by decide +kernel
theorem dJ6_bitCount_0f7a4_38 : decode cJ6_bitCount_0f7a4 38 = .ok (.iushr, 1) := by decide +kernel
theorem dJ6_bitCount_0f7a4_39 : decode cJ6_bitCount_0f7a4 39 = .ok (.iadd, 1) := by decide +kernel
theorem dJ6_bitCount_0f7a4_40 : decode cJ6_bitCount_0f7a4 40 = .ok (.istore_n 0, 1) := by decide +kernel
theorem dJ6_bitCount_0f7a4_41 : decode cJ6_bitCount_0f7a4 41 = .ok (.iload_n 0, 1) := by decide +kernel
theorem dJ6_bitCount_0f7a4_42 : decode cJ6_bitCount_0f7a4 42 = .ok (.iload_n 0, 1) := by decide +kernel
theorem dJ6_bitCount_0f7a4_43 : decode cJ6_bitCount_0f7a4 43 = .ok (.bipush 16, 2) := by decide +kernel
theorem dJ6_bitCount_0f7a4_45 : decode cJ6_bitCount_0f7a4 45 = .ok (.iushr, 1) := by decide +kernel
theorem dJ6_bitCount_0f7a4_46 : decode cJ6_bitCount_0f7a4 46 = .ok (.iadd, 1) := by decide +kernel
theorem dJ6_bitCount_0f7a4_47 : decode cJ6_bitCount_0f7a4 47 = .ok (.istore_n 0, 1) := by decide +kernel
theorem dJ6_bitCount_0f7a4_48 : decode cJ6_bitCount_0f7a4 48 = .ok (.iload_n 0, 1) := by decide +kernel
theorem dJ6_bitCount_0f7a4_49 : decode cJ6_bitCount_0f7a4 49 = .ok (.bipush 63, 2) := by decide +kernel
theorem dJ6_bitCount_0f7a4_51 : decode cJ6_bitCount_0f7a4 51 = .ok (.iand, 1) := by decide +kernel
theorem dJ6_bitCount_0f7a4_52 : decode cJ6_bitCount_0f7a4 52 = .ok (.ireturn, 1) := by decide +kernel
theorem dJ9_max_7cf53_0 : decode cJ9_max_7cf53 0 = .ok (.iload_n 0, 1) := by decide +kernel
theorem dJ9_max_7cf53_1 : decode cJ9_max_7cf53 1 = .ok (.iload_n 1, 1) := by decide +kernel
theorem dJ9_max_7cf53_2 : decode cJ9_max_7cf53 2 = .ok (.if_icmp .lt 7, 3) := by decide +kernel
theorem dJ9_max_7cf53_5 : decode cJ9_max_7cf53 5 = .ok (.iload_n 0, 1) := by decide +kernel
theorem dJ9_max_7cf53_6 : decode cJ9_max_7cf53 6 = .ok (.goto 4, 3) := by decide +kernel
theorem dJ9_max_7cf53_9 : decode cJ9_max_7cf53 9 = .ok (.iload_n 1, 1) := by decide +kernel
theorem dJ9_max_7cf53_10 : decode cJ9_max_7cf53 10 = .ok (.ireturn, 1) := by decide +kernel
theorem dJ9_min_7cf53_0 : decode cJ9_min_7cf53 0 = .ok (.iload_n 0, 1) := by decide +kernel
theorem dJ9_min_7cf53_1 : decode cJ9_min_7cf53 1 = .ok (.iload_n 1, 1) := by decide +kernel
theorem dJ9_min_7cf53_2 : decode cJ9_min_7cf53 2 = .ok (.if_icmp .gt 7, 3) := by decide +kernel
theorem dJ9_min_7cf53_5 : decode cJ9_min_7cf53 5 = .ok (.iload_n 0, 1) := by decide +kernel
theorem dJ9_min_7cf53_6 : decode cJ9_min_7cf53 6 = .ok (.goto 4, 3) := by decide +kernel
theorem dJ9_min_7cf53_9 : decode cJ9_min_7cf53 9 = .ok (.iload_n 1, 1) := by decide +kernel
theorem dJ9_min_7cf53_10 : decode cJ9_min_7cf53 10 = .ok (.ireturn, 1) := by decide +kernel
