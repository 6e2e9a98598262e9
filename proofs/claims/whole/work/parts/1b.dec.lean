theorem dX6_init_0 : decode cX6_init 0 = .ok (.aload_n 0, 1) := by decide +kernel
theorem dX6_init_1 : decode cX6_init 1 = .ok (.invokespecial 1, 3) := by decide +kernel
theorem dX6_init_4 : decode cX6_init 4 = .ok (.aload_n 0, 1) := by decide +kernel
theorem dX6_init_5 : decode cX6_init 5 = .ok (.new 7, 3) := by decide +kernel
theorem dX6_init_8 : decode cX6_init 8 = .ok (.dup, 1) := by decide +kernel
theorem dX6_init_9 : decode cX6_init 9 = .ok (.invokespecial 9, 3) := by decide +kernel
theorem dX6_init_12 : decode cX6_init 12 = .ok (.putfield 10, 3) := by decide +kernel
theorem dX6_init_15 : decode cX6_init 15 = .ok (.aload_n 0, 1) := by decide +kernel
theorem dX6_init_16 : decode cX6_init 16 = .ok (.new 16, 3) := by decide +kernel
theorem dX6_init_19 : decode cX6_init 19 = .ok (.dup, 1) := by decide +kernel
theorem dX6_init_20 : decode cX6_init 20 = .ok (.invokespecial 18, 3) := by decide +kernel
theorem dX6_init_23 : decode cX6_init 23 = .ok (.putfield 19, 3) := by decide +kernel
theorem dX6_init_26 : decode cX6_init 26 = .ok (.aload_n 0, 1) := by decide +kernel
theorem dX6_init_27 : decode cX6_init 27 = .ok (.new 16, 3) := by decide +kernel
theorem dX6_init_30 : decode cX6_init 30 = .ok (.dup, 1) := by decide +kernel
theorem dX6_init_31 : decode cX6_init 31 = .ok (.invokespecial 18, 3) := by decide +kernel
theorem dX6_init_34 : decode cX6_init 34 = .ok (.putfield 23, 3) := by decide +kernel
theorem dX6_init_37 : decode cX6_init 37 = .ok (.aload_n 0, 1) := by decide +kernel
theorem dX6_init_38 : decode cX6_init 38 = .ok (.new 26, 3) := by decide +kernel
theorem dX6_init_41 : decode cX6_init 41 = .ok (.dup, 1) := by decide +kernel
theorem dX6_init_42 : decode cX6_init 42 = .ok (.invokespecial 28, 3) := by decide +kernel
theorem dX6_init_45 : decode cX6_init 45 = .ok (.putfield 29, 3) := by decide +kernel
theorem dX6_init_48 : decode cX6_init 48 = .ok (.aload_n 0, 1) := by decide +kernel
theorem dX6_init_49 : decode cX6_init 49 = .ok (.new 33, 3) := by decide +kernel
theorem dX6_init_52 : decode cX6_init 52 = .ok (.dup, 1) := by decide +kernel
theorem dX6_init_53 : decode cX6_init 53 = .ok (.invokespecial 35, 3) := by decide +kernel
theorem dX6_init_56 : decode cX6_init 56 = .ok (.putfield 36, 3) := by decide +kernel
theorem dX6_init_59 : decode cX6_init 59 = .ok (.aload_n 0, 1) := by decide +kernel
theorem dX6_init_60 : decode cX6_init 60 = .ok (.new 40, 3) := by decide +kernel
theorem dX6_init_63 : decode cX6_init 63 = .ok (.dup, 1) := by decide +kernel
theorem dX6_init_64 : decode cX6_init 64 = .ok (.invokespecial 42, 3) := by decide +kernel
theorem dX6_init_67 : decode cX6_init 67 = .ok (.putfield 43, 3) := by decide +kernel
theorem dX6_init_70 : decode cX6_init 70 = .ok (.aload_n 0, 1) := by decide +kernel
theorem dX6_init_71 : decode cX6_init 71 = .ok (.new 47, 3) := by decide +kernel
theorem dX6_init_74 : decode cX6_init 74 = .ok (.dup, 1) := by decide +kernel
theorem dX6_init_75 : decode cX6_init 75 = .ok (.invokespecial 49, 3) := by decide +kernel
theorem dX6_init_78 : decode cX6_init 78 = .ok (.putfield 50, 3) := by decide +kernel
theorem dX6_init_81 : decode cX6_init 81 = .ok (.aload_n 0, 1) := by decide +kernel
theorem dX6_init_82 : decode cX6_init 82 = .ok (.iconst 2, 1) := by decide +kernel
theorem dX6_init_83 : decode cX6_init 83 = .ok (.anewarray 16, 3) := by decide +kernel
theorem dX6_init_86 : decode cX6_init 86 = .ok (.putfield 54, 3) := by decide +kernel
theorem dX6_init_89 : decode cX6_init 89 = .ok (.aload_n 0, 1) := by decide +kernel
theorem dX6_init_90 : decode cX6_init 90 = .ok (.iconst 2, 1) := by decide +kernel
theorem dX6_init_91 : decode cX6_init 91 = .ok (.newarray .boolean, 2) := by decide +kernel
theorem dX6_init_93 : decode cX6_init 93 = .ok (.putfield 58, 3) := by decide +kernel
theorem dX6_init_96 : decode cX6_init 96 = .ok (.iconst 0, 1) := by decide +kernel
theorem dX6_init_97 : decode cX6_init 97 = .ok (.istore_n 1, 1) := by decide +kernel
theorem dX6_init_98 : decode cX6_init 98 = .ok (.iload_n 1, 1) := by decide +kernel
theorem dX6_init_99 : decode cX6_init 99 = .ok (.iconst 2, 1) := by decide +kernel
theorem dX6_init_100 : decode cX6_init 100 = .ok (.if_icmp .ge 22, 3) := by decide +kernel
theorem dX6_init_103 : decode cX6_init 103 = .ok (.aload_n 0, 1) := by decide +kernel
theorem dX6_init_104 : decode cX6_init 104 = .ok (.getfield 54, 3) := by decide +kernel
theorem dX6_init_107 : decode cX6_init 107 = .ok (.iload_n 1, 1) := by decide +kernel
theorem dX6_init_108 : decode cX6_init 108 = .ok (.new 16, 3) := by decide +kernel
theorem dX6_init_111 : decode cX6_init 111 = .ok (.dup, 1) := by decide +kernel
theorem dX6_init_112 : decode cX6_init 112 = .ok (.invokespecial 18, 3) := by decide +kernel
theorem dX6_init_115 : decode cX6_init 115 = .ok (.aastore, 1) := by decide +kernel
theorem dX6_init_116 : decode cX6_init 116 = .ok (.iinc 1 1, 3) := by decide +kernel
theorem dX6_init_119 : decode cX6_init 119 = .ok (.goto (-21), 3) := by decide +kernel
theorem dX6_init_122 : decode cX6_init 122 = .ok (.return_, 1) := by decide +kernel
theorem dX6_write_0 : decode cX6_write 0 = .ok (.iload_n 1, 1) := by decide +kernel
theorem dX6_write_1 : decode cX6_write 1 = .ok (.ifCond .lt 10, 3) := by decide +kernel
theorem dX6_write_4 : decode cX6_write 4 = .ok (.iload_n 1, 1) := by decide +kernel
theorem dX6_write_5 : decode cX6_write 5 = .ok (.sipush 255, 3) := by decide +kernel
theorem dX6_write_8 : decode cX6_write 8 = .ok (.if_icmp .le 6, 3) := by decide +kernel
theorem dX6_write_11 : decode cX6_write 11 = .ok (.bipush (-2), 2) := by decide +kernel
theorem dX6_write_13 : decode cX6_write 13 = .ok (.ireturn, 1) := by decide +kernel
theorem dX6_write_14 : decode cX6_write 14 = .ok (.aload_n 0, 1) := by decide +kernel
theorem dX6_write_15 : decode cX6_write 15 = .ok (.getfield 10, 3) := by decide +kernel
theorem dX6_write_18 : decode cX6_write 18 = .ok (.iload_n 1, 1) := by decide +kernel
theorem dX6_write_19 : decode cX6_write 19 = .ok (.invokevirtual 62, 3) := by decide +kernel
theorem dX6_write_22 : decode cX6_write 22 = .ok (.ireturn, 1) := by decide +kernel
theorem dX6_wipe_0 : decode cX6_wipe 0 = .ok (.aload_n 0, 1) := by decide +kernel
theorem dX6_wipe_1 : decode cX6_wipe 1 = .ok (.getfield 10, 3) := by decide +kernel
theorem dX6_wipe_4 : decode cX6_wipe 4 = .ok (.getfield 66, 3) := by decide +kernel
theorem dX6_wipe_7 : decode cX6_wipe 7 = .ok (.istore_n 1, 1) := by decide +kernel
theorem dX6_wipe_8 : decode cX6_wipe 8 = .ok (.aload_n 0, 1) := by decide +kernel
theorem dX6_wipe_9 : decode cX6_wipe 9 = .ok (.getfield 10, 3) := by decide +kernel
theorem dX6_wipe_12 : decode cX6_wipe 12 = .ok (.iconst 0, 1) := by decide +kernel
theorem dX6_wipe_13 : decode cX6_wipe 13 = .ok (.putfield 66, 3) := by decide +kernel
theorem dX6_wipe_16 : decode cX6_wipe 16 = .ok (.iload_n 1, 1) := by decide +kernel
theorem dX6_wipe_17 : decode cX6_wipe 17 = .ok (.ireturn, 1) := by decide +kernel
theorem dX6_fault_0 : decode cX6_fault 0 = .ok (.aload_n 0, 1) := by decide +kernel
theorem dX6_fault_1 : decode cX6_fault 1 = .ok (.getfield 10, 3) := by decide +kernel
theorem dX6_fault_4 : decode cX6_fault 4 = .ok (.invokevirtual 70, 3) := by decide +kernel
theorem dX6_fault_7 : decode cX6_fault 7 = .ok (.ireturn, 1) := by decide +kernel
theorem dX6_life_0 : decode cX6_life 0 = .ok (.aload_n 0, 1) := by decide +kernel
theorem dX6_life_1 : decode cX6_life 1 = .ok (.getfield 10, 3) := by decide +kernel
theorem dX6_life_4 : decode cX6_life 4 = .ok (.invokevirtual 70, 3) := by decide +kernel
theorem dX6_life_7 : decode cX6_life 7 = .ok (.bipush (-9), 2) := by decide +kernel
theorem dX6_life_9 : decode cX6_life 9 = .ok (.if_icmp .eq 6, 3) := by decide +kernel
theorem dX6_life_12 : decode cX6_life 12 = .ok (.bipush (-3), 2) := by decide +kernel
theorem dX6_life_14 : decode cX6_life 14 = .ok (.ireturn, 1) := by decide +kernel
theorem dX6_life_15 : decode cX6_life 15 = .ok (.aload_n 0, 1) := by decide +kernel
theorem dX6_life_16 : decode cX6_life 16 = .ok (.getfield 10, 3) := by decide +kernel
theorem dX6_life_19 : decode cX6_life 19 = .ok (.aload_n 0, 1) := by decide +kernel
theorem dX6_life_20 : decode cX6_life 20 = .ok (.getfield 19, 3) := by decide +kernel
theorem dX6_life_23 : decode cX6_life 23 = .ok (.invokevirtual 74, 3) := by decide +kernel
theorem dX6_life_26 : decode cX6_life 26 = .ok (.aload_n 0, 1) := by decide +kernel
theorem dX6_life_27 : decode cX6_life 27 = .ok (.getfield 29, 3) := by decide +kernel
theorem dX6_life_30 : decode cX6_life 30 = .ok (.iconst 0, 1) := by decide +kernel
theorem dX6_life_31 : decode cX6_life 31 = .ok (.putfield 78, 3) := by decide +kernel
theorem dX6_life_34 : decode cX6_life 34 = .ok (.iconst 0, 1) := by decide +kernel
theorem dX6_life_35 : decode cX6_life 35 = .ok (.istore_n 1, 1) := by decide +kernel
theorem dX6_life_36 : decode cX6_life 36 = .ok (.iload_n 1, 1) := by decide +kernel
theorem dX6_life_37 : decode cX6_life 37 = .ok (.iconst 2, 1) := by decide +kernel
theorem dX6_life_38 : decode cX6_life 38 = .ok (.if_icmp .ge 16, 3) := by decide +kernel
theorem dX6_life_41 : decode cX6_life 41 = .ok (.aload_n 0, 1) := by decide +kernel
theorem dX6_life_42 : decode cX6_life 42 = .ok (.getfield 58, 3) := by decide +kernel
theorem dX6_life_45 : decode cX6_life 45 = .ok (.iload_n 1, 1) := by decide +kernel
theorem dX6_life_46 : decode cX6_life 46 = .ok (.iconst 0, 1) := by decide +kernel
theorem dX6_life_47 : decode cX6_life 47 = .ok (.bastore, 1) := by decide +kernel
theorem dX6_life_48 : decode cX6_life 48 = .ok (.iinc 1 1, 3) := by decide +kernel
theorem dX6_life_51 : decode cX6_life 51 = .ok (.goto (-15), 3) := by decide +kernel
theorem dX6_life_54 : decode cX6_life 54 = .ok (.aload_n 0, 1) := by decide +kernel
theorem dX6_life_55 : decode cX6_life 55 = .ok (.getfield 19, 3) := by decide +kernel
theorem dX6_life_58 : decode cX6_life 58 = .ok (.getfield 81, 3) := by decide +kernel
theorem dX6_life_61 : decode cX6_life 61 = .ok (.ireturn, 1) := by decide +kernel
theorem dX6_span_0 : decode cX6_span 0 = .ok (.aload_n 0, 1) := by decide +kernel
theorem dX6_span_1 : decode cX6_span 1 = .ok (.getfield 19, 3) := by decide +kernel
theorem dX6_span_4 : decode cX6_span 4 = .ok (.iload_n 1, 1) := by decide +kernel
theorem dX6_span_5 : decode cX6_span 5 = .ok (.invokevirtual 82, 3) := by decide +kernel
theorem dX6_span_8 : decode cX6_span 8 = .ok (.ifCond .ne 5, 3) := by decide +kernel
theorem dX6_span_11 : decode cX6_span 11 = .ok (.iconst (-1), 1) := by decide +kernel
theorem dX6_span_12 : decode cX6_span 12 = .ok (.ireturn, 1) := by decide +kernel
theorem dX6_span_13 : decode cX6_span 13 = .ok (.iload_n 2, 1) := by decide +kernel
theorem dX6_span_14 : decode cX6_span 14 = .ok (.tableswitch 83 0 4 #[34, 44, 54, 64, 74], 34) := by decide +kernel
theorem dX6_span_48 : decode cX6_span 48 = .ok (.aload_n 0, 1) := by decide +kernel
theorem dX6_span_49 : decode cX6_span 49 = .ok (.getfield 19, 3) := by decide +kernel
theorem dX6_span_52 : decode cX6_span 52 = .ok (.getfield 86, 3) := by decide +kernel
theorem dX6_span_55 : decode cX6_span 55 = .ok (.iload_n 1, 1) := by decide +kernel
theorem dX6_span_56 : decode cX6_span 56 = .ok (.iaload, 1) := by decide +kernel
theorem dX6_span_57 : decode cX6_span 57 = .ok (.ireturn, 1) := by decide +kernel
theorem dX6_span_58 : decode cX6_span 58 = .ok (.aload_n 0, 1) := by decide +kernel
theorem dX6_span_59 : decode cX6_span 59 = .ok (.getfield 19, 3) := by decide +kernel
theorem dX6_span_62 : decode cX6_span 62 = .ok (.getfield 90, 3) := by decide +kernel
theorem dX6_span_65 : decode cX6_span 65 = .ok (.iload_n 1, 1) := by decide +kernel
theorem dX6_span_66 : decode cX6_span 66 = .ok (.iaload, 1) := by decide +kernel
theorem dX6_span_67 : decode cX6_span 67 = .ok (.ireturn, 1) := by decide +kernel
theorem dX6_span_68 : decode cX6_span 68 = .ok (.aload_n 0, 1) := by decide +kernel
theorem dX6_span_69 : decode cX6_span 69 = .ok (.getfield 19, 3) := by decide +kernel
theorem dX6_span_72 : decode cX6_span 72 = .ok (.getfield 93, 3) := by decide +kernel
theorem dX6_span_75 : decode cX6_span 75 = .ok (.iload_n 1, 1) := by decide +kernel
theorem dX6_span_76 : decode cX6_span 76 = .ok (.iaload, 1) := by decide +kernel
theorem dX6_span_77 : decode cX6_span 77 = .ok (.ireturn, 1) := by decide +kernel
theorem dX6_span_78 : decode cX6_span 78 = .ok (.aload_n 0, 1) := by decide +kernel
theorem dX6_span_79 : decode cX6_span 79 = .ok (.getfield 19, 3) := by decide +kernel
theorem dX6_span_82 : decode cX6_span 82 = .ok (.getfield 96, 3) := by decide +kernel
theorem dX6_span_85 : decode cX6_span 85 = .ok (.iload_n 1, 1) := by decide +kernel
theorem dX6_span_86 : decode cX6_span 86 = .ok (.iaload, 1) := by decide +kernel
theorem dX6_span_87 : decode cX6_span 87 = .ok (.ireturn, 1) := by decide +kernel
theorem dX6_span_88 : decode cX6_span 88 = .ok (.aload_n 0, 1) := by decide +kernel
theorem dX6_span_89 : decode cX6_span 89 = .ok (.getfield 19, 3) := by decide +kernel
theorem dX6_span_92 : decode cX6_span 92 = .ok (.iload_n 1, 1) := by decide +kernel
theorem dX6_span_93 : decode cX6_span 93 = .ok (.invokevirtual 99, 3) := by decide +kernel
theorem dX6_span_96 : decode cX6_span 96 = .ok (.ireturn, 1) := by decide +kernel
theorem dX6_span_97 : decode cX6_span 97 = .ok (.bipush (-2), 2) := by decide +kernel
theorem dX6_span_99 : decode cX6_span 99 = .ok (.ireturn, 1) := by decide +kernel
theorem dX6_node_0 : decode cX6_node 0 = .ok (.iload_n 1, 1) := by decide +kernel
theorem dX6_node_1 : decode cX6_node 1 = .ok (.iconst 1, 1) := by decide +kernel
theorem dX6_node_2 : decode cX6_node 2 = .ok (.if_icmp .lt 9, 3) := by decide +kernel
theorem dX6_node_5 : decode cX6_node 5 = .ok (.iload_n 1, 1) := by decide +kernel
theorem dX6_node_6 : decode cX6_node 6 = .ok (.bipush 31, 2) := by decide +kernel
theorem dX6_node_8 : decode cX6_node 8 = .ok (.if_icmp .le 5, 3) := by decide +kernel
theorem dX6_node_11 : decode cX6_node 11 = .ok (.iconst (-1), 1) := by decide +kernel
theorem dX6_node_12 : decode cX6_node 12 = .ok (.ireturn, 1) := by decide +kernel
theorem dX6_node_13 : decode cX6_node 13 = .ok (.aload_n 0, 1) := by decide +kernel
theorem dX6_node_14 : decode cX6_node 14 = .ok (.getfield 19, 3) := by decide +kernel
theorem dX6_node_17 : decode cX6_node 17 = .ok (.iload_n 1, 1) := by decide +kernel
theorem dX6_node_18 : decode cX6_node 18 = .ok (.invokevirtual 102, 3) := by decide +kernel
theorem dX6_node_21 : decode cX6_node 21 = .ok (.ireturn, 1) := by decide +kernel
theorem dX6_put_0 : decode cX6_put 0 = .ok (.aload_n 0, 1) := by decide +kernel
theorem dX6_put_1 : decode cX6_put 1 = .ok (.getfield 23, 3) := by decide +kernel
theorem dX6_put_4 : decode cX6_put 4 = .ok (.aload_n 0, 1) := by decide +kernel
theorem dX6_put_5 : decode cX6_put 5 = .ok (.getfield 19, 3) := by decide +kernel
theorem dX6_put_8 : decode cX6_put 8 = .ok (.invokevirtual 105, 3) := by decide +kernel
theorem dX6_put_11 : decode cX6_put 11 = .ok (.aload_n 0, 1) := by decide +kernel
theorem dX6_put_12 : decode cX6_put 12 = .ok (.aload_n 0, 1) := by decide +kernel
theorem dX6_put_13 : decode cX6_put 13 = .ok (.getfield 19, 3) := by decide +kernel
theorem dX6_put_16 : decode cX6_put 16 = .ok (.iload_n 1, 1) := by decide +kernel
theorem dX6_put_17 : decode cX6_put 17 = .ok (.iload_n 2, 1) := by decide +kernel
theorem dX6_put_18 : decode cX6_put 18 = .ok (.iload_n 3, 1) := by decide +kernel
theorem dX6_put_19 : decode cX6_put 19 = .ok (.iload 4, 2) := by decide +kernel
theorem dX6_put_21 : decode cX6_put 21 = .ok (.invokevirtual 108, 3) := by decide +kernel
theorem dX6_put_24 : decode cX6_put 24 = .ok (.invokevirtual 112, 3) := by decide +kernel
theorem dX6_put_27 : decode cX6_put 27 = .ok (.ireturn, 1) := by decide +kernel
theorem dX6_cut_0 : decode cX6_cut 0 = .ok (.aload_n 0, 1) := by decide +kernel
theorem dX6_cut_1 : decode cX6_cut 1 = .ok (.getfield 23, 3) := by decide +kernel
theorem dX6_cut_4 : decode cX6_cut 4 = .ok (.aload_n 0, 1) := by decide +kernel
theorem dX6_cut_5 : decode cX6_cut 5 = .ok (.getfield 19, 3) := by decide +kernel
theorem dX6_cut_8 : decode cX6_cut 8 = .ok (.invokevirtual 105, 3) := by decide +kernel
theorem dX6_cut_11 : decode cX6_cut 11 = .ok (.aload_n 0, 1) := by decide +kernel
theorem dX6_cut_12 : decode cX6_cut 12 = .ok (.aload_n 0, 1) := by decide +kernel
theorem dX6_cut_13 : decode cX6_cut 13 = .ok (.getfield 19, 3) := by decide +kernel
theorem dX6_cut_16 : decode cX6_cut 16 = .ok (.iload_n 1, 1) := by decide +kernel
theorem dX6_cut_17 : decode cX6_cut 17 = .ok (.invokevirtual 115, 3) := by decide +kernel
theorem dX6_cut_20 : decode cX6_cut 20 = .ok (.invokevirtual 112, 3) := by decide +kernel
theorem dX6_cut_23 : decode cX6_cut 23 = .ok (.ireturn, 1) := by decide +kernel
theorem dX6_end_0 : decode cX6_end 0 = .ok (.aload_n 0, 1) := by decide +kernel
theorem dX6_end_1 : decode cX6_end 1 = .ok (.getfield 23, 3) := by decide +kernel
theorem dX6_end_4 : decode cX6_end 4 = .ok (.aload_n 0, 1) := by decide +kernel
theorem dX6_end_5 : decode cX6_end 5 = .ok (.getfield 19, 3) := by decide +kernel
theorem dX6_end_8 : decode cX6_end 8 = .ok (.invokevirtual 105, 3) := by decide +kernel
theorem dX6_end_11 : decode cX6_end 11 = .ok (.aload_n 0, 1) := by decide +kernel
theorem dX6_end_12 : decode cX6_end 12 = .ok (.aload_n 0, 1) := by decide +kernel
theorem dX6_end_13 : decode cX6_end 13 = .ok (.getfield 19, 3) := by decide +kernel
theorem dX6_end_16 : decode cX6_end 16 = .ok (.iload_n 1, 1) := by decide +kernel
theorem dX6_end_17 : decode cX6_end 17 = .ok (.iload_n 2, 1) := by decide +kernel
theorem dX6_end_18 : decode cX6_end 18 = .ok (.invokevirtual 118, 3) := by decide +kernel
theorem dX6_end_21 : decode cX6_end 21 = .ok (.invokevirtual 112, 3) := by decide +kernel
theorem dX6_end_24 : decode cX6_end 24 = .ok (.ireturn, 1) := by decide +kernel
theorem dX6_undo_0 : decode cX6_undo 0 = .ok (.aload_n 0, 1) := by decide +kernel
theorem dX6_undo_1 : decode cX6_undo 1 = .ok (.getfield 29, 3) := by decide +kernel
theorem dX6_undo_4 : decode cX6_undo 4 = .ok (.getfield 78, 3) := by decide +kernel
theorem dX6_undo_7 : decode cX6_undo 7 = .ok (.ifCond .ne 6, 3) := by decide +kernel
theorem dX6_undo_10 : decode cX6_undo 10 = .ok (.bipush (-3), 2) := by decide +kernel
theorem dX6_undo_12 : decode cX6_undo 12 = .ok (.ireturn, 1) := by decide +kernel
theorem dX6_undo_13 : decode cX6_undo 13 = .ok (.aload_n 0, 1) := by decide +kernel
theorem dX6_undo_14 : decode cX6_undo 14 = .ok (.getfield 29, 3) := by decide +kernel
theorem dX6_undo_17 : decode cX6_undo 17 = .ok (.aload_n 0, 1) := by decide +kernel
theorem dX6_undo_18 : decode cX6_undo 18 = .ok (.getfield 19, 3) := by decide +kernel
theorem dX6_undo_21 : decode cX6_undo 21 = .ok (.invokevirtual 122, 3) := by decide +kernel
theorem dX6_undo_24 : decode cX6_undo 24 = .ok (.aload_n 0, 1) := by decide +kernel
theorem dX6_undo_25 : decode cX6_undo 25 = .ok (.getfield 29, 3) := by decide +kernel
theorem dX6_undo_28 : decode cX6_undo 28 = .ok (.getfield 78, 3) := by decide +kernel
theorem dX6_undo_31 : decode cX6_undo 31 = .ok (.ireturn, 1) := by decide +kernel
theorem dX6_rememberIfDone_0 : decode cX6_rememberIfDone 0 = .ok (.iload_n 1, 1) := by decide +kernel
theorem dX6_rememberIfDone_1 : decode cX6_rememberIfDone 1 = .ok (.ifCond .lt 14, 3) := by decide +kernel
theorem dX6_rememberIfDone_4 : decode cX6_rememberIfDone 4 = .ok (.aload_n 0, 1) := by decide +kernel
theorem dX6_rememberIfDone_5 : decode cX6_rememberIfDone 5 = .ok (.getfield 29, 3) := by decide +kernel
theorem dX6_rememberIfDone_8 : decode cX6_rememberIfDone 8 = .ok (.aload_n 0, 1) := by decide +kernel
theorem dX6_rememberIfDone_9 : decode cX6_rememberIfDone 9 = .ok (.getfield 23, 3) := by decide +kernel
theorem dX6_rememberIfDone_12 : decode cX6_rememberIfDone 12 = .ok (.invokevirtual 125, 3) := by decide +kernel
theorem dX6_rememberIfDone_15 : decode cX6_rememberIfDone 15 = .ok (.iload_n 1, 1) := by decide +kernel
theorem dX6_rememberIfDone_16 : decode cX6_rememberIfDone 16 = .ok (.ireturn, 1) := by decide +kernel
theorem dX6_at_0 : decode cX6_at 0 = .ok (.iload_n 1, 1) := by decide +kernel
theorem dX6_at_1 : decode cX6_at 1 = .ok (.invokestatic 128, 3) := by decide +kernel
theorem dX6_at_4 : decode cX6_at 4 = .ok (.ifCond .ne 5, 3) := by decide +kernel
theorem dX6_at_7 : decode cX6_at 7 = .ok (.iconst (-1), 1) := by decide +kernel
theorem dX6_at_8 : decode cX6_at 8 = .ok (.ireturn, 1) := by decide +kernel
theorem dX6_at_9 : decode cX6_at 9 = .ok (.aload_n 0, 1) := by decide +kernel
theorem dX6_at_10 : decode cX6_at 10 = .ok (.getfield 36, 3) := by decide +kernel
theorem dX6_at_13 : decode cX6_at 13 = .ok (.aload_n 0, 1) := by decide +kernel
theorem dX6_at_14 : decode cX6_at 14 = .ok (.getfield 19, 3) := by decide +kernel
theorem dX6_at_17 : decode cX6_at 17 = .ok (.iload_n 1, 1) := by decide +kernel
theorem dX6_at_18 : decode cX6_at 18 = .ok (.invokevirtual 131, 3) := by decide +kernel
theorem dX6_at_21 : decode cX6_at 21 = .ok (.iload_n 2, 1) := by decide +kernel
theorem dX6_at_22 : decode cX6_at 22 = .ok (.tableswitch 75 0 4 #[34, 42, 51, 59, 67], 34) := by decide +kernel
theorem dX6_at_56 : decode cX6_at 56 = .ok (.aload_n 0, 1) := by decide +kernel
theorem dX6_at_57 : decode cX6_at 57 = .ok (.getfield 36, 3) := by decide +kernel
theorem dX6_at_60 : decode cX6_at 60 = .ok (.invokevirtual 135, 3) := by decide +kernel
theorem dX6_at_63 : decode cX6_at 63 = .ok (.ireturn, 1) := by decide +kernel
theorem dX6_at_64 : decode cX6_at 64 = .ok (.aload_n 0, 1) := by decide +kernel
theorem dX6_at_65 : decode cX6_at 65 = .ok (.getfield 19, 3) := by decide +kernel
theorem dX6_at_68 : decode cX6_at 68 = .ok (.iload_n 1, 1) := by decide +kernel
theorem dX6_at_69 : decode cX6_at 69 = .ok (.invokevirtual 138, 3) := by decide +kernel
theorem dX6_at_72 : decode cX6_at 72 = .ok (.ireturn, 1) := by decide +kernel
theorem dX6_at_73 : decode cX6_at 73 = .ok (.aload_n 0, 1) := by decide +kernel
theorem dX6_at_74 : decode cX6_at 74 = .ok (.getfield 36, 3) := by decide +kernel
theorem dX6_at_77 : decode cX6_at 77 = .ok (.invokevirtual 141, 3) := by decide +kernel
theorem dX6_at_80 : decode cX6_at 80 = .ok (.ireturn, 1) := by decide +kernel
theorem dX6_at_81 : decode cX6_at 81 = .ok (.aload_n 0, 1) := by decide +kernel
theorem dX6_at_82 : decode cX6_at 82 = .ok (.getfield 36, 3) := by decide +kernel
theorem dX6_at_85 : decode cX6_at 85 = .ok (.invokevirtual 144, 3) := by decide +kernel
theorem dX6_at_88 : decode cX6_at 88 = .ok (.ireturn, 1) := by decide +kernel
theorem dX6_at_89 : decode cX6_at 89 = .ok (.aload_n 0, 1) := by decide +kernel
theorem dX6_at_90 : decode cX6_at 90 = .ok (.getfield 36, 3) := by decide +kernel
theorem dX6_at_93 : decode cX6_at 93 = .ok (.invokevirtual 147, 3) := by decide +kernel
theorem dX6_at_96 : decode cX6_at 96 = .ok (.ireturn, 1) := by decide +kernel
theorem dX6_at_97 : decode cX6_at 97 = .ok (.bipush (-2), 2) := by decide +kernel
theorem dX6_at_99 : decode cX6_at 99 = .ok (.ireturn, 1) := by decide +kernel
theorem dX6_knot_0 : decode cX6_knot 0 = .ok (.iload_n 1, 1) := by decide +kernel
theorem dX6_knot_1 : decode cX6_knot 1 = .ok (.invokestatic 150, 3) := by decide +kernel
theorem dX6_knot_4 : decode cX6_knot 4 = .ok (.ifCond .eq 10, 3) := by decide +kernel
theorem dX6_knot_7 : decode cX6_knot 7 = .ok (.iload_n 2, 1) := by decide +kernel
theorem dX6_knot_8 : decode cX6_knot 8 = .ok (.invokestatic 128, 3) := by decide +kernel
theorem dX6_knot_11 : decode cX6_knot 11 = .ok (.ifCond .ne 5, 3) := by decide +kernel
theorem dX6_knot_14 : decode cX6_knot 14 = .ok (.iconst (-1), 1) := by decide +kernel
theorem dX6_knot_15 : decode cX6_knot 15 = .ok (.ireturn, 1) := by decide +kernel
theorem dX6_knot_16 : decode cX6_knot 16 = .ok (.aload_n 0, 1) := by decide +kernel
theorem dX6_knot_17 : decode cX6_knot 17 = .ok (.getfield 36, 3) := by decide +kernel
theorem dX6_knot_20 : decode cX6_knot 20 = .ok (.aload_n 0, 1) := by decide +kernel
theorem dX6_knot_21 : decode cX6_knot 21 = .ok (.getfield 19, 3) := by decide +kernel
theorem dX6_knot_24 : decode cX6_knot 24 = .ok (.iload_n 2, 1) := by decide +kernel
theorem dX6_knot_25 : decode cX6_knot 25 = .ok (.invokevirtual 131, 3) := by decide +kernel
theorem dX6_knot_28 : decode cX6_knot 28 = .ok (.iload_n 3, 1) := by decide +kernel
theorem dX6_knot_29 : decode cX6_knot 29 = .ok (.tableswitch 62 0 2 #[27, 36, 45], 27) := by decide +kernel
theorem dX6_knot_56 : decode cX6_knot 56 = .ok (.aload_n 0, 1) := by decide +kernel
theorem dX6_knot_57 : decode cX6_knot 57 = .ok (.getfield 36, 3) := by decide +kernel
theorem dX6_knot_60 : decode cX6_knot 60 = .ok (.iload_n 1, 1) := by decide +kernel
theorem dX6_knot_61 : decode cX6_knot 61 = .ok (.invokevirtual 153, 3) := by decide +kernel
theorem dX6_knot_64 : decode cX6_knot 64 = .ok (.ireturn, 1) := by decide +kernel
theorem dX6_knot_65 : decode cX6_knot 65 = .ok (.aload_n 0, 1) := by decide +kernel
theorem dX6_knot_66 : decode cX6_knot 66 = .ok (.getfield 36, 3) := by decide +kernel
theorem dX6_knot_69 : decode cX6_knot 69 = .ok (.iload_n 1, 1) := by decide +kernel
theorem dX6_knot_70 : decode cX6_knot 70 = .ok (.invokevirtual 156, 3) := by decide +kernel
theorem dX6_knot_73 : decode cX6_knot 73 = .ok (.ireturn, 1) := by decide +kernel
theorem dX6_knot_74 : decode cX6_knot 74 = .ok (.aload_n 0, 1) := by decide +kernel
theorem dX6_knot_75 : decode cX6_knot 75 = .ok (.getfield 36, 3) := by decide +kernel
theorem dX6_knot_78 : decode cX6_knot 78 = .ok (.getfield 159, 3) := by decide +kernel
theorem dX6_knot_81 : decode cX6_knot 81 = .ok (.aload_n 0, 1) := by decide +kernel
theorem dX6_knot_82 : decode cX6_knot 82 = .ok (.getfield 36, 3) := by decide +kernel
theorem dX6_knot_85 : decode cX6_knot 85 = .ok (.iload_n 1, 1) := by decide +kernel
theorem dX6_knot_86 : decode cX6_knot 86 = .ok (.invokevirtual 153, 3) := by decide +kernel
theorem dX6_knot_89 : decode cX6_knot 89 = .ok (.iaload, 1) := by decide +kernel
theorem dX6_knot_90 : decode cX6_knot 90 = .ok (.ireturn, 1) := by decide +kernel
theorem dX6_knot_91 : decode cX6_knot 91 = .ok (.bipush (-2), 2) := by decide +kernel
theorem dX6_knot_93 : decode cX6_knot 93 = .ok (.ireturn, 1) := by decide +kernel
theorem dX6_joined_0 : decode cX6_joined 0 = .ok (.iload_n 1, 1) := by decide +kernel
theorem dX6_joined_1 : decode cX6_joined 1 = .ok (.invokestatic 150, 3) := by decide +kernel
theorem dX6_joined_4 : decode cX6_joined 4 = .ok (.ifCond .eq 17, 3) := by decide +kernel
theorem dX6_joined_7 : decode cX6_joined 7 = .ok (.iload_n 2, 1) := by decide +kernel
theorem dX6_joined_8 : decode cX6_joined 8 = .ok (.invokestatic 150, 3) := by decide +kernel
theorem dX6_joined_11 : decode cX6_joined 11 = .ok (.ifCond .eq 10, 3) := by decide +kernel
theorem dX6_joined_14 : decode cX6_joined 14 = .ok (.iload_n 3, 1) := by decide +kernel
theorem dX6_joined_15 : decode cX6_joined 15 = .ok (.invokestatic 128, 3) := by decide +kernel
theorem dX6_joined_18 : decode cX6_joined 18 = .ok (.ifCond .ne 5, 3) := by decide +kernel
theorem dX6_joined_21 : decode cX6_joined 21 = .ok (.iconst (-1), 1) := by decide +kernel
theorem dX6_joined_22 : decode cX6_joined 22 = .ok (.ireturn, 1) := by decide +kernel
theorem dX6_joined_23 : decode cX6_joined 23 = .ok (.aload_n 0, 1) := by decide +kernel
theorem dX6_joined_24 : decode cX6_joined 24 = .ok (.getfield 36, 3) := by decide +kernel
theorem dX6_joined_27 : decode cX6_joined 27 = .ok (.aload_n 0, 1) := by decide +kernel
theorem dX6_joined_28 : decode cX6_joined 28 = .ok (.getfield 19, 3) := by decide +kernel
theorem dX6_joined_31 : decode cX6_joined 31 = .ok (.iload_n 3, 1) := by decide +kernel
theorem dX6_joined_32 : decode cX6_joined 32 = .ok (.invokevirtual 131, 3) := by decide +kernel
theorem dX6_joined_35 : decode cX6_joined 35 = .ok (.aload_n 0, 1) := by decide +kernel
theorem dX6_joined_36 : decode cX6_joined 36 = .ok (.getfield 36, 3) := by decide +kernel
theorem dX6_joined_39 : decode cX6_joined 39 = .ok (.iload_n 1, 1) := by decide +kernel
theorem dX6_joined_40 : decode cX6_joined 40 = .ok (.iload_n 2, 1) := by decide +kernel
theorem dX6_joined_41 : decode cX6_joined 41 = .ok (.invokevirtual 161, 3) := by decide +kernel
theorem dX6_joined_44 : decode cX6_joined 44 = .ok (.ifCond .eq 7, 3) := by decide +kernel
theorem dX6_joined_47 : decode cX6_joined 47 = .ok (.iconst 1, 1) := by decide +kernel
theorem dX6_joined_48 : decode cX6_joined 48 = .ok (.goto 4, 3) := by decide +kernel
theorem dX6_joined_51 : decode cX6_joined 51 = .ok (.iconst 0, 1) := by decide +kernel
theorem dX6_joined_52 : decode cX6_joined 52 = .ok (.ireturn, 1) := by decide +kernel
theorem dX6_side_0 : decode cX6_side 0 = .ok (.iload_n 1, 1) := by decide +kernel
theorem dX6_side_1 : decode cX6_side 1 = .ok (.invokestatic 150, 3) := by decide +kernel
theorem dX6_side_4 : decode cX6_side 4 = .ok (.ifCond .eq 17, 3) := by decide +kernel
theorem dX6_side_7 : decode cX6_side 7 = .ok (.iload_n 2, 1) := by decide +kernel
theorem dX6_side_8 : decode cX6_side 8 = .ok (.invokestatic 150, 3) := by decide +kernel
theorem dX6_side_11 : decode cX6_side 11 = .ok (.ifCond .eq 10, 3) := by decide +kernel
theorem dX6_side_14 : decode cX6_side 14 = .ok (.iload_n 3, 1) := by decide +kernel
theorem dX6_side_15 : decode cX6_side 15 = .ok (.invokestatic 128, 3) := by decide +kernel
theorem dX6_side_18 : decode cX6_side 18 = .ok (.ifCond .ne 5, 3) := by decide +kernel
theorem dX6_side_21 : decode cX6_side 21 = .ok (.iconst (-1), 1) := by decide +kernel
theorem dX6_side_22 : decode cX6_side 22 = .ok (.ireturn, 1) := by decide +kernel
theorem dX6_side_23 : decode cX6_side 23 = .ok (.iload_n 1, 1) := by decide +kernel
theorem dX6_side_24 : decode cX6_side 24 = .ok (.iload_n 2, 1) := by decide +kernel
theorem dX6_side_25 : decode cX6_side 25 = .ok (.if_icmp .ne 5, 3) := by decide +kernel
theorem dX6_side_28 : decode cX6_side 28 = .ok (.iconst 0, 1) := by decide +kernel
theorem dX6_side_29 : decode cX6_side 29 = .ok (.ireturn, 1) := by decide +kernel
theorem dX6_side_30 : decode cX6_side 30 = .ok (.aload_n 0, 1) := by decide +kernel
theorem dX6_side_31 : decode cX6_side 31 = .ok (.getfield 36, 3) := by decide +kernel
theorem dX6_side_34 : decode cX6_side 34 = .ok (.aload_n 0, 1) := by decide +kernel
theorem dX6_side_35 : decode cX6_side 35 = .ok (.getfield 19, 3) := by decide +kernel
theorem dX6_side_38 : decode cX6_side 38 = .ok (.iload_n 3, 1) := by decide +kernel
theorem dX6_side_39 : decode cX6_side 39 = .ok (.invokevirtual 131, 3) := by decide +kernel
theorem dX6_side_42 : decode cX6_side 42 = .ok (.aload_n 0, 1) := by decide +kernel
theorem dX6_side_43 : decode cX6_side 43 = .ok (.getfield 36, 3) := by decide +kernel
theorem dX6_side_46 : decode cX6_side 46 = .ok (.iload_n 1, 1) := by decide +kernel
theorem dX6_side_47 : decode cX6_side 47 = .ok (.iload_n 2, 1) := by decide +kernel
theorem dX6_side_48 : decode cX6_side 48 = .ok (.invokevirtual 161, 3) := by decide +kernel
theorem dX6_side_51 : decode cX6_side 51 = .ok (.ifCond .eq 22, 3) := by decide +kernel
theorem dX6_side_54 : decode cX6_side 54 = .ok (.aload_n 0, 1) := by decide +kernel
theorem dX6_side_55 : decode cX6_side 55 = .ok (.getfield 36, 3) := by decide +kernel
theorem dX6_side_58 : decode cX6_side 58 = .ok (.getfield 165, 3) := by decide +kernel
theorem dX6_side_61 : decode cX6_side 61 = .ok (.aload_n 0, 1) := by decide +kernel
theorem dX6_side_62 : decode cX6_side 62 = .ok (.getfield 36, 3) := by decide +kernel
theorem dX6_side_65 : decode cX6_side 65 = .ok (.iload_n 1, 1) := by decide +kernel
theorem dX6_side_66 : decode cX6_side 66 = .ok (.invokevirtual 153, 3) := by decide +kernel
theorem dX6_side_69 : decode cX6_side 69 = .ok (.baload, 1) := by decide +kernel
theorem dX6_side_70 : decode cX6_side 70 = .ok (.ifCond .eq 6, 3) := by decide +kernel
theorem dX6_side_73 : decode cX6_side 73 = .ok (.bipush (-3), 2) := by decide +kernel
theorem dX6_side_75 : decode cX6_side 75 = .ok (.ireturn, 1) := by decide +kernel
theorem dX6_side_76 : decode cX6_side 76 = .ok (.aload_n 0, 1) := by decide +kernel
theorem dX6_side_77 : decode cX6_side 77 = .ok (.getfield 36, 3) := by decide +kernel
theorem dX6_side_80 : decode cX6_side 80 = .ok (.iload_n 1, 1) := by decide +kernel
theorem dX6_side_81 : decode cX6_side 81 = .ok (.invokevirtual 168, 3) := by decide +kernel
theorem dX6_side_84 : decode cX6_side 84 = .ok (.aload_n 0, 1) := by decide +kernel
theorem dX6_side_85 : decode cX6_side 85 = .ok (.getfield 36, 3) := by decide +kernel
theorem dX6_side_88 : decode cX6_side 88 = .ok (.iload_n 2, 1) := by decide +kernel
theorem dX6_side_89 : decode cX6_side 89 = .ok (.invokevirtual 168, 3) := by decide +kernel
theorem dX6_side_92 : decode cX6_side 92 = .ok (.ixor, 1) := by decide +kernel
theorem dX6_side_93 : decode cX6_side 93 = .ok (.ireturn, 1) := by decide +kernel
theorem dX6_work_0 : decode cX6_work 0 = .ok (.iload_n 1, 1) := by decide +kernel
theorem dX6_work_1 : decode cX6_work 1 = .ok (.lookupswitch 37 #[(0, 27), (1, 32)], 27) := by decide +kernel
theorem dX6_work_28 : decode cX6_work 28 = .ok (.aload_n 0, 1) := by decide +kernel
theorem dX6_work_29 : decode cX6_work 29 = .ok (.invokevirtual 171, 3) := by decide +kernel
theorem dX6_work_32 : decode cX6_work 32 = .ok (.ireturn, 1) := by decide +kernel
theorem dX6_work_33 : decode cX6_work 33 = .ok (.aload_n 0, 1) := by decide +kernel
theorem dX6_work_34 : decode cX6_work 34 = .ok (.invokevirtual 174, 3) := by decide +kernel
theorem dX6_work_37 : decode cX6_work 37 = .ok (.ireturn, 1) := by decide +kernel
theorem dX6_work_38 : decode cX6_work 38 = .ok (.bipush (-2), 2) := by decide +kernel
theorem dX6_work_40 : decode cX6_work 40 = .ok (.ireturn, 1) := by decide +kernel
theorem dX6_lyingOnAll_0 : decode cX6_lyingOnAll 0 = .ok (.iconst 0, 1) := by decide +kernel
theorem dX6_lyingOnAll_1 : decode cX6_lyingOnAll 1 = .ok (.istore_n 1, 1) := by decide +kernel
theorem dX6_lyingOnAll_2 : decode cX6_lyingOnAll 2 = .ok (.iconst 1, 1) := by decide +kernel
theorem dX6_lyingOnAll_3 : decode cX6_lyingOnAll 3 = .ok (.istore_n 2, 1) := by decide +kernel
theorem dX6_lyingOnAll_4 : decode cX6_lyingOnAll 4 = .ok (.iload_n 2, 1) := by decide +kernel
theorem dX6_lyingOnAll_5 : decode cX6_lyingOnAll 5 = .ok (.bipush 31, 2) := by decide +kernel
theorem dX6_lyingOnAll_7 : decode cX6_lyingOnAll 7 = .ok (.if_icmp .gt 23, 3) := by decide +kernel
theorem dX6_lyingOnAll_10 : decode cX6_lyingOnAll 10 = .ok (.iload_n 1, 1) := by decide +kernel
theorem dX6_lyingOnAll_11 : decode cX6_lyingOnAll 11 = .ok (.aload_n 0, 1) := by decide +kernel
theorem dX6_lyingOnAll_12 : decode cX6_lyingOnAll 12 = .ok (.getfield 19, 3) := by decide +kernel
theorem dX6_lyingOnAll_15 : decode cX6_lyingOnAll 15 = .ok (.iload_n 2, 1) := by decide +kernel
theorem dX6_lyingOnAll_16 : decode cX6_lyingOnAll 16 = .ok (.invokevirtual 102, 3) := by decide +kernel
theorem dX6_lyingOnAll_19 : decode cX6_lyingOnAll 19 = .ok (.invokestatic 177, 3) := by decide +kernel
theorem dX6_lyingOnAll_22 : decode cX6_lyingOnAll 22 = .ok (.iadd, 1) := by decide +kernel
theorem dX6_lyingOnAll_23 : decode cX6_lyingOnAll 23 = .ok (.istore_n 1, 1) := by decide +kernel
theorem dX6_lyingOnAll_24 : decode cX6_lyingOnAll 24 = .ok (.iinc 2 1, 3) := by decide +kernel
theorem dX6_lyingOnAll_27 : decode cX6_lyingOnAll 27 = .ok (.goto (-23), 3) := by decide +kernel
theorem dX6_lyingOnAll_30 : decode cX6_lyingOnAll 30 = .ok (.iload_n 1, 1) := by decide +kernel
theorem dX6_lyingOnAll_31 : decode cX6_lyingOnAll 31 = .ok (.ireturn, 1) := by decide +kernel
theorem dX6_joiningOnAll_0 : decode cX6_joiningOnAll 0 = .ok (.iconst 0, 1) := by decide +kernel
theorem dX6_joiningOnAll_1 : decode cX6_joiningOnAll 1 = .ok (.istore_n 1, 1) := by decide +kernel
theorem dX6_joiningOnAll_2 : decode cX6_joiningOnAll 2 = .ok (.iconst 1, 1) := by decide +kernel
theorem dX6_joiningOnAll_3 : decode cX6_joiningOnAll 3 = .ok (.istore_n 2, 1) := by decide +kernel
theorem dX6_joiningOnAll_4 : decode cX6_joiningOnAll 4 = .ok (.iload_n 2, 1) := by decide +kernel
theorem dX6_joiningOnAll_5 : decode cX6_joiningOnAll 5 = .ok (.bipush 31, 2) := by decide +kernel
theorem dX6_joiningOnAll_7 : decode cX6_joiningOnAll 7 = .ok (.if_icmp .gt 24, 3) := by decide +kernel
theorem dX6_joiningOnAll_10 : decode cX6_joiningOnAll 10 = .ok (.iload_n 1, 1) := by decide +kernel
theorem dX6_joiningOnAll_11 : decode cX6_joiningOnAll 11 = .ok (.aload_n 0, 1) := by decide +kernel
theorem dX6_joiningOnAll_12 : decode cX6_joiningOnAll 12 = .ok (.getfield 36, 3) := by decide +kernel
theorem dX6_joiningOnAll_15 : decode cX6_joiningOnAll 15 = .ok (.aload_n 0, 1) := by decide +kernel
theorem dX6_joiningOnAll_16 : decode cX6_joiningOnAll 16 = .ok (.getfield 19, 3) := by decide +kernel
theorem dX6_joiningOnAll_19 : decode cX6_joiningOnAll 19 = .ok (.iload_n 2, 1) := by decide +kernel
theorem dX6_joiningOnAll_20 : decode cX6_joiningOnAll 20 = .ok (.invokevirtual 182, 3) := by decide +kernel
theorem dX6_joiningOnAll_23 : decode cX6_joiningOnAll 23 = .ok (.iadd, 1) := by decide +kernel
theorem dX6_joiningOnAll_24 : decode cX6_joiningOnAll 24 = .ok (.istore_n 1, 1) := by decide +kernel
theorem dX6_joiningOnAll_25 : decode cX6_joiningOnAll 25 = .ok (.iinc 2 1, 3) := by decide +kernel
theorem dX6_joiningOnAll_28 : decode cX6_joiningOnAll 28 = .ok (.goto (-24), 3) := by decide +kernel
theorem dX6_joiningOnAll_31 : decode cX6_joiningOnAll 31 = .ok (.iload_n 1, 1) := by decide +kernel
theorem dX6_joiningOnAll_32 : decode cX6_joiningOnAll 32 = .ok (.ireturn, 1) := by decide +kernel
theorem dX6_when_0 : decode cX6_when 0 = .ok (.iload_n 1, 1) := by decide +kernel
theorem dX6_when_1 : decode cX6_when 1 = .ok (.invokestatic 150, 3) := by decide +kernel
theorem dX6_when_4 : decode cX6_when 4 = .ok (.ifCond .eq 10, 3) := by decide +kernel
theorem dX6_when_7 : decode cX6_when 7 = .ok (.iload_n 2, 1) := by decide +kernel
theorem dX6_when_8 : decode cX6_when 8 = .ok (.invokestatic 150, 3) := by decide +kernel
theorem dX6_when_11 : decode cX6_when 11 = .ok (.ifCond .ne 5, 3) := by decide +kernel
theorem dX6_when_14 : decode cX6_when 14 = .ok (.iconst (-1), 1) := by decide +kernel
theorem dX6_when_15 : decode cX6_when 15 = .ok (.ireturn, 1) := by decide +kernel
theorem dX6_when_16 : decode cX6_when 16 = .ok (.iconst 0, 1) := by decide +kernel
theorem dX6_when_17 : decode cX6_when 17 = .ok (.istore_n 3, 1) := by decide +kernel
theorem dX6_when_18 : decode cX6_when 18 = .ok (.iconst 0, 1) := by decide +kernel
theorem dX6_when_19 : decode cX6_when 19 = .ok (.istore 4, 2) := by decide +kernel
theorem dX6_when_21 : decode cX6_when 21 = .ok (.iload 4, 2) := by decide +kernel
theorem dX6_when_23 : decode cX6_when 23 = .ok (.bipush 16, 2) := by decide +kernel
theorem dX6_when_25 : decode cX6_when 25 = .ok (.if_icmp .ge 41, 3) := by decide +kernel
theorem dX6_when_28 : decode cX6_when 28 = .ok (.aload_n 0, 1) := by decide +kernel
theorem dX6_when_29 : decode cX6_when 29 = .ok (.getfield 36, 3) := by decide +kernel
theorem dX6_when_32 : decode cX6_when 32 = .ok (.aload_n 0, 1) := by decide +kernel
theorem dX6_when_33 : decode cX6_when 33 = .ok (.getfield 19, 3) := by decide +kernel
theorem dX6_when_36 : decode cX6_when 36 = .ok (.iload 4, 2) := by decide +kernel
theorem dX6_when_38 : decode cX6_when 38 = .ok (.invokevirtual 131, 3) := by decide +kernel
theorem dX6_when_41 : decode cX6_when 41 = .ok (.aload_n 0, 1) := by decide +kernel
theorem dX6_when_42 : decode cX6_when 42 = .ok (.getfield 36, 3) := by decide +kernel
theorem dX6_when_45 : decode cX6_when 45 = .ok (.iload_n 1, 1) := by decide +kernel
theorem dX6_when_46 : decode cX6_when 46 = .ok (.iload_n 2, 1) := by decide +kernel
theorem dX6_when_47 : decode cX6_when 47 = .ok (.invokevirtual 161, 3) := by decide +kernel
theorem dX6_when_50 : decode cX6_when 50 = .ok (.ifCond .eq 10, 3) := by decide +kernel
theorem dX6_when_53 : decode cX6_when 53 = .ok (.iload_n 3, 1) := by decide +kernel
theorem dX6_when_54 : decode cX6_when 54 = .ok (.iconst 1, 1) := by decide +kernel
theorem dX6_when_55 : decode cX6_when 55 = .ok (.iload 4, 2) := by decide +kernel
theorem dX6_when_57 : decode cX6_when 57 = .ok (.ishl, 1) := by decide +kernel
theorem dX6_when_58 : decode cX6_when 58 = .ok (.ior, 1) := by decide +kernel
theorem dX6_when_59 : decode cX6_when 59 = .ok (.istore_n 3, 1) := by decide +kernel
theorem dX6_when_60 : decode cX6_when 60 = .ok (.iinc 4 1, 3) := by decide +kernel
theorem dX6_when_63 : decode cX6_when 63 = .ok (.goto (-42), 3) := by decide +kernel
theorem dX6_when_66 : decode cX6_when 66 = .ok (.iload_n 3, 1) := by decide +kernel
theorem dX6_when_67 : decode cX6_when 67 = .ok (.ireturn, 1) := by decide +kernel
theorem dX6_bridges_0 : decode cX6_bridges 0 = .ok (.iload_n 1, 1) := by decide +kernel
theorem dX6_bridges_1 : decode cX6_bridges 1 = .ok (.invokestatic 128, 3) := by decide +kernel
theorem dX6_bridges_4 : decode cX6_bridges 4 = .ok (.ifCond .ne 5, 3) := by decide +kernel
theorem dX6_bridges_7 : decode cX6_bridges 7 = .ok (.iconst (-1), 1) := by decide +kernel
theorem dX6_bridges_8 : decode cX6_bridges 8 = .ok (.ireturn, 1) := by decide +kernel
theorem dX6_bridges_9 : decode cX6_bridges 9 = .ok (.aload_n 0, 1) := by decide +kernel
theorem dX6_bridges_10 : decode cX6_bridges 10 = .ok (.getfield 43, 3) := by decide +kernel
theorem dX6_bridges_13 : decode cX6_bridges 13 = .ok (.aload_n 0, 1) := by decide +kernel
theorem dX6_bridges_14 : decode cX6_bridges 14 = .ok (.getfield 19, 3) := by decide +kernel
theorem dX6_bridges_17 : decode cX6_bridges 17 = .ok (.iload_n 1, 1) := by decide +kernel
theorem dX6_bridges_18 : decode cX6_bridges 18 = .ok (.invokevirtual 186, 3) := by decide +kernel
theorem dX6_bridges_21 : decode cX6_bridges 21 = .ok (.iconst 0, 1) := by decide +kernel
theorem dX6_bridges_22 : decode cX6_bridges 22 = .ok (.istore_n 2, 1) := by decide +kernel
theorem dX6_bridges_23 : decode cX6_bridges 23 = .ok (.iconst 0, 1) := by decide +kernel
theorem dX6_bridges_24 : decode cX6_bridges 24 = .ok (.istore_n 3, 1) := by decide +kernel
theorem dX6_bridges_25 : decode cX6_bridges 25 = .ok (.iload_n 3, 1) := by decide +kernel
theorem dX6_bridges_26 : decode cX6_bridges 26 = .ok (.aload_n 0, 1) := by decide +kernel
theorem dX6_bridges_27 : decode cX6_bridges 27 = .ok (.getfield 43, 3) := by decide +kernel
theorem dX6_bridges_30 : decode cX6_bridges 30 = .ok (.getfield 189, 3) := by decide +kernel
theorem dX6_bridges_33 : decode cX6_bridges 33 = .ok (.if_icmp .ge 62, 3) := by decide +kernel
theorem dX6_bridges_36 : decode cX6_bridges 36 = .ok (.aload_n 0, 1) := by decide +kernel
theorem dX6_bridges_37 : decode cX6_bridges 37 = .ok (.getfield 43, 3) := by decide +kernel
theorem dX6_bridges_40 : decode cX6_bridges 40 = .ok (.aload_n 0, 1) := by decide +kernel
theorem dX6_bridges_41 : decode cX6_bridges 41 = .ok (.getfield 43, 3) := by decide +kernel
theorem dX6_bridges_44 : decode cX6_bridges 44 = .ok (.getfield 190, 3) := by decide +kernel
theorem dX6_bridges_47 : decode cX6_bridges 47 = .ok (.iload_n 3, 1) := by decide +kernel
theorem dX6_bridges_48 : decode cX6_bridges 48 = .ok (.iaload, 1) := by decide +kernel
theorem dX6_bridges_49 : decode cX6_bridges 49 = .ok (.aload_n 0, 1) := by decide +kernel
theorem dX6_bridges_50 : decode cX6_bridges 50 = .ok (.getfield 43, 3) := by decide +kernel
theorem dX6_bridges_53 : decode cX6_bridges 53 = .ok (.getfield 191, 3) := by decide +kernel
theorem dX6_bridges_56 : decode cX6_bridges 56 = .ok (.iload_n 3, 1) := by decide +kernel
theorem dX6_bridges_57 : decode cX6_bridges 57 = .ok (.iaload, 1) := by decide +kernel
theorem dX6_bridges_58 : decode cX6_bridges 58 = .ok (.aload_n 0, 1) := by decide +kernel
theorem dX6_bridges_59 : decode cX6_bridges 59 = .ok (.getfield 43, 3) := by decide +kernel
theorem dX6_bridges_62 : decode cX6_bridges 62 = .ok (.invokevirtual 192, 3) := by decide +kernel
theorem dX6_bridges_65 : decode cX6_bridges 65 = .ok (.iconst 1, 1) := by decide +kernel
theorem dX6_bridges_66 : decode cX6_bridges 66 = .ok (.iload_n 3, 1) := by decide +kernel
theorem dX6_bridges_67 : decode cX6_bridges 67 = .ok (.ishl, 1) := by decide +kernel
theorem dX6_bridges_68 : decode cX6_bridges 68 = .ok (.ixor, 1) := by decide +kernel
theorem dX6_bridges_69 : decode cX6_bridges 69 = .ok (.invokevirtual 195, 3) := by decide +kernel
theorem dX6_bridges_72 : decode cX6_bridges 72 = .ok (.ifCond .ne 17, 3) := by decide +kernel
theorem dX6_bridges_75 : decode cX6_bridges 75 = .ok (.iload_n 2, 1) := by decide +kernel
theorem dX6_bridges_76 : decode cX6_bridges 76 = .ok (.iconst 1, 1) := by decide +kernel
theorem dX6_bridges_77 : decode cX6_bridges 77 = .ok (.aload_n 0, 1) := by decide +kernel
theorem dX6_bridges_78 : decode cX6_bridges 78 = .ok (.getfield 43, 3) := by decide +kernel
theorem dX6_bridges_81 : decode cX6_bridges 81 = .ok (.getfield 198, 3) := by decide +kernel
theorem dX6_bridges_84 : decode cX6_bridges 84 = .ok (.iload_n 3, 1) := by decide +kernel
theorem dX6_bridges_85 : decode cX6_bridges 85 = .ok (.iaload, 1) := by decide +kernel
theorem dX6_bridges_86 : decode cX6_bridges 86 = .ok (.ishl, 1) := by decide +kernel
theorem dX6_bridges_87 : decode cX6_bridges 87 = .ok (.ior, 1) := by decide +kernel
theorem dX6_bridges_88 : decode cX6_bridges 88 = .ok (.istore_n 2, 1) := by decide +kernel
theorem dX6_bridges_89 : decode cX6_bridges 89 = .ok (.iinc 3 1, 3) := by decide +kernel
theorem dX6_bridges_92 : decode cX6_bridges 92 = .ok (.goto (-67), 3) := by decide +kernel
theorem dX6_bridges_95 : decode cX6_bridges 95 = .ok (.iload_n 2, 1) := by decide +kernel
theorem dX6_bridges_96 : decode cX6_bridges 96 = .ok (.ireturn, 1) := by decide +kernel
theorem dX6_least_0 : decode cX6_least 0 = .ok (.iload_n 1, 1) := by decide +kernel
theorem dX6_least_1 : decode cX6_least 1 = .ok (.invokestatic 150, 3) := by decide +kernel
theorem dX6_least_4 : decode cX6_least 4 = .ok (.ifCond .eq 17, 3) := by decide +kernel
theorem dX6_least_7 : decode cX6_least 7 = .ok (.iload_n 2, 1) := by decide +kernel
theorem dX6_least_8 : decode cX6_least 8 = .ok (.invokestatic 150, 3) := by decide +kernel
theorem dX6_least_11 : decode cX6_least 11 = .ok (.ifCond .eq 10, 3) := by decide +kernel
theorem dX6_least_14 : decode cX6_least 14 = .ok (.iload_n 3, 1) := by decide +kernel
theorem dX6_least_15 : decode cX6_least 15 = .ok (.invokestatic 128, 3) := by decide +kernel
theorem dX6_least_18 : decode cX6_least 18 = .ok (.ifCond .ne 5, 3) := by decide +kernel
theorem dX6_least_21 : decode cX6_least 21 = .ok (.iconst (-1), 1) := by decide +kernel
theorem dX6_least_22 : decode cX6_least 22 = .ok (.ireturn, 1) := by decide +kernel
theorem dX6_least_23 : decode cX6_least 23 = .ok (.iload_n 1, 1) := by decide +kernel
theorem dX6_least_24 : decode cX6_least 24 = .ok (.iload_n 2, 1) := by decide +kernel
theorem dX6_least_25 : decode cX6_least 25 = .ok (.if_icmp .eq 14, 3) := by decide +kernel
theorem dX6_least_28 : decode cX6_least 28 = .ok (.iload 4, 2) := by decide +kernel
theorem dX6_least_30 : decode cX6_least 30 = .ok (.ifCond .lt 9, 3) := by decide +kernel
theorem dX6_least_33 : decode cX6_least 33 = .ok (.iload 4, 2) := by decide +kernel
theorem dX6_least_35 : decode cX6_least 35 = .ok (.iconst 1, 1) := by decide +kernel
theorem dX6_least_36 : decode cX6_least 36 = .ok (.if_icmp .le 6, 3) := by decide +kernel
theorem dX6_least_39 : decode cX6_least 39 = .ok (.bipush (-2), 2) := by decide +kernel
theorem dX6_least_41 : decode cX6_least 41 = .ok (.ireturn, 1) := by decide +kernel
theorem dX6_least_42 : decode cX6_least 42 = .ok (.aload_n 0, 1) := by decide +kernel
theorem dX6_least_43 : decode cX6_least 43 = .ok (.getfield 43, 3) := by decide +kernel
theorem dX6_least_46 : decode cX6_least 46 = .ok (.aload_n 0, 1) := by decide +kernel
theorem dX6_least_47 : decode cX6_least 47 = .ok (.getfield 19, 3) := by decide +kernel
theorem dX6_least_50 : decode cX6_least 50 = .ok (.iload_n 3, 1) := by decide +kernel
theorem dX6_least_51 : decode cX6_least 51 = .ok (.invokevirtual 186, 3) := by decide +kernel
theorem dX6_least_54 : decode cX6_least 54 = .ok (.aload_n 0, 1) := by decide +kernel
theorem dX6_least_55 : decode cX6_least 55 = .ok (.getfield 43, 3) := by decide +kernel
theorem dX6_least_58 : decode cX6_least 58 = .ok (.getfield 189, 3) := by decide +kernel
theorem dX6_least_61 : decode cX6_least 61 = .ok (.bipush 10, 2) := by decide +kernel
theorem dX6_least_63 : decode cX6_least 63 = .ok (.if_icmp .le 6, 3) := by decide +kernel
theorem dX6_least_66 : decode cX6_least 66 = .ok (.bipush (-4), 2) := by decide +kernel
theorem dX6_least_68 : decode cX6_least 68 = .ok (.ireturn, 1) := by decide +kernel
theorem dX6_least_69 : decode cX6_least 69 = .ok (.aload_n 0, 1) := by decide +kernel
theorem dX6_least_70 : decode cX6_least 70 = .ok (.iload_n 1, 1) := by decide +kernel
theorem dX6_least_71 : decode cX6_least 71 = .ok (.iload_n 2, 1) := by decide +kernel
theorem dX6_least_72 : decode cX6_least 72 = .ok (.invokevirtual 201, 3) := by decide +kernel
theorem dX6_least_75 : decode cX6_least 75 = .ok (.istore 5, 2) := by decide +kernel
theorem dX6_least_77 : decode cX6_least 77 = .ok (.iload 4, 2) := by decide +kernel
theorem dX6_least_79 : decode cX6_least 79 = .ok (.ifCond .ne 11, 3) := by decide +kernel
theorem dX6_least_82 : decode cX6_least 82 = .ok (.iload 5, 2) := by decide +kernel
theorem dX6_least_84 : decode cX6_least 84 = .ok (.invokestatic 177, 3) := by decide +kernel
theorem dX6_least_87 : decode cX6_least 87 = .ok (.goto 12, 3) := by decide +kernel
theorem dX6_least_90 : decode cX6_least 90 = .ok (.aload_n 0, 1) := by decide +kernel
theorem dX6_least_91 : decode cX6_least 91 = .ok (.getfield 43, 3) := by decide +kernel
theorem dX6_least_94 : decode cX6_least 94 = .ok (.iload 5, 2) := by decide +kernel
theorem dX6_least_96 : decode cX6_least 96 = .ok (.invokevirtual 204, 3) := by decide +kernel
theorem dX6_least_99 : decode cX6_least 99 = .ok (.ireturn, 1) := by decide +kernel
theorem dX6_leastApart_0 : decode cX6_leastApart 0 = .ok (.aload_n 0, 1) := by decide +kernel
theorem dX6_leastApart_1 : decode cX6_leastApart 1 = .ok (.getfield 43, 3) := by decide +kernel
theorem dX6_leastApart_4 : decode cX6_leastApart 4 = .ok (.invokevirtual 192, 3) := by decide +kernel
theorem dX6_leastApart_7 : decode cX6_leastApart 7 = .ok (.istore_n 3, 1) := by decide +kernel
theorem dX6_leastApart_8 : decode cX6_leastApart 8 = .ok (.iconst 0, 1) := by decide +kernel
theorem dX6_leastApart_9 : decode cX6_leastApart 9 = .ok (.istore 4, 2) := by decide +kernel
theorem dX6_leastApart_11 : decode cX6_leastApart 11 = .ok (.iload 4, 2) := by decide +kernel
theorem dX6_leastApart_13 : decode cX6_leastApart 13 = .ok (.aload_n 0, 1) := by decide +kernel
theorem dX6_leastApart_14 : decode cX6_leastApart 14 = .ok (.getfield 43, 3) := by decide +kernel
theorem dX6_leastApart_17 : decode cX6_leastApart 17 = .ok (.getfield 189, 3) := by decide +kernel
theorem dX6_leastApart_20 : decode cX6_leastApart 20 = .ok (.if_icmp .ge 53, 3) := by decide +kernel
theorem dX6_leastApart_23 : decode cX6_leastApart 23 = .ok (.iconst 0, 1) := by decide +kernel
theorem dX6_leastApart_24 : decode cX6_leastApart 24 = .ok (.istore 5, 2) := by decide +kernel
theorem dX6_leastApart_26 : decode cX6_leastApart 26 = .ok (.iload 5, 2) := by decide +kernel
theorem dX6_leastApart_28 : decode cX6_leastApart 28 = .ok (.iload_n 3, 1) := by decide +kernel
theorem dX6_leastApart_29 : decode cX6_leastApart 29 = .ok (.if_icmp .gt 38, 3) := by decide +kernel
theorem dX6_leastApart_32 : decode cX6_leastApart 32 = .ok (.iload 5, 2) := by decide +kernel
theorem dX6_leastApart_34 : decode cX6_leastApart 34 = .ok (.invokestatic 177, 3) := by decide +kernel
theorem dX6_leastApart_37 : decode cX6_leastApart 37 = .ok (.iload 4, 2) := by decide +kernel
theorem dX6_leastApart_39 : decode cX6_leastApart 39 = .ok (.if_icmp .ne 22, 3) := by decide +kernel
theorem dX6_leastApart_42 : decode cX6_leastApart 42 = .ok (.aload_n 0, 1) := by decide +kernel
theorem dX6_leastApart_43 : decode cX6_leastApart 43 = .ok (.getfield 43, 3) := by decide +kernel
theorem dX6_leastApart_46 : decode cX6_leastApart 46 = .ok (.iload_n 1, 1) := by decide +kernel
theorem dX6_leastApart_47 : decode cX6_leastApart 47 = .ok (.iload_n 2, 1) := by decide +kernel
theorem dX6_leastApart_48 : decode cX6_leastApart 48 = .ok (.iload_n 3, 1) := by decide +kernel
theorem dX6_leastApart_49 : decode cX6_leastApart 49 = .ok (.iload 5, 2) := by decide +kernel
theorem dX6_leastApart_51 : decode cX6_leastApart 51 = .ok (.ixor, 1) := by decide +kernel
theorem dX6_leastApart_52 : decode cX6_leastApart 52 = .ok (.invokevirtual 195, 3) := by decide +kernel
theorem dX6_leastApart_55 : decode cX6_leastApart 55 = .ok (.ifCond .ne 6, 3) := by decide +kernel
theorem dX6_leastApart_58 : decode cX6_leastApart 58 = .ok (.iload 5, 2) := by decide +kernel
theorem dX6_leastApart_60 : decode cX6_leastApart 60 = .ok (.ireturn, 1) := by decide +kernel
theorem dX6_leastApart_61 : decode cX6_leastApart 61 = .ok (.iinc 5 1, 3) := by decide +kernel
theorem dX6_leastApart_64 : decode cX6_leastApart 64 = .ok (.goto (-38), 3) := by decide +kernel
theorem dX6_leastApart_67 : decode cX6_leastApart 67 = .ok (.iinc 4 1, 3) := by decide +kernel
theorem dX6_leastApart_70 : decode cX6_leastApart 70 = .ok (.goto (-59), 3) := by decide +kernel
theorem dX6_leastApart_73 : decode cX6_leastApart 73 = .ok (.iload_n 3, 1) := by decide +kernel
theorem dX6_leastApart_74 : decode cX6_leastApart 74 = .ok (.ireturn, 1) := by decide +kernel
theorem dX6_judge_0 : decode cX6_judge 0 = .ok (.iload_n 1, 1) := by decide +kernel
theorem dX6_judge_1 : decode cX6_judge 1 = .ok (.iconst 1, 1) := by decide +kernel
theorem dX6_judge_2 : decode cX6_judge 2 = .ok (.if_icmp .lt 26, 3) := by decide +kernel
theorem dX6_judge_5 : decode cX6_judge 5 = .ok (.iload_n 1, 1) := by decide +kernel
theorem dX6_judge_6 : decode cX6_judge 6 = .ok (.iconst 3, 1) := by decide +kernel
theorem dX6_judge_7 : decode cX6_judge 7 = .ok (.if_icmp .gt 21, 3) := by decide +kernel
theorem dX6_judge_10 : decode cX6_judge 10 = .ok (.lload_n 2, 1) := by decide +kernel
theorem dX6_judge_11 : decode cX6_judge 11 = .ok (.lconst 0, 1) := by decide +kernel
theorem dX6_judge_12 : decode cX6_judge 12 = .ok (.lcmp, 1) := by decide +kernel
theorem dX6_judge_13 : decode cX6_judge 13 = .ok (.ifCond .lt 15, 3) := by decide +kernel
theorem dX6_judge_16 : decode cX6_judge 16 = .ok (.lload_n 2, 1) := by decide +kernel
theorem dX6_judge_17 : decode cX6_judge 17 = .ok (.ldc2_w 207, 3) := by decide +kernel
theorem dX6_judge_20 : decode cX6_judge 20 = .ok (.iload_n 1, 1) := by decide +kernel
theorem dX6_judge_21 : decode cX6_judge 21 = .ok (.invokestatic 209, 3) := by decide +kernel
theorem dX6_judge_24 : decode cX6_judge 24 = .ok (.lcmp, 1) := by decide +kernel
theorem dX6_judge_25 : decode cX6_judge 25 = .ok (.ifCond .lt 6, 3) := by decide +kernel
theorem dX6_judge_28 : decode cX6_judge 28 = .ok (.bipush (-2), 2) := by decide +kernel
theorem dX6_judge_30 : decode cX6_judge 30 = .ok (.ireturn, 1) := by decide +kernel
theorem dX6_judge_31 : decode cX6_judge 31 = .ok (.aload_n 0, 1) := by decide +kernel
theorem dX6_judge_32 : decode cX6_judge 32 = .ok (.getfield 23, 3) := by decide +kernel
theorem dX6_judge_35 : decode cX6_judge 35 = .ok (.aload_n 0, 1) := by decide +kernel
theorem dX6_judge_36 : decode cX6_judge 36 = .ok (.getfield 19, 3) := by decide +kernel
theorem dX6_judge_39 : decode cX6_judge 39 = .ok (.invokevirtual 105, 3) := by decide +kernel
theorem dX6_judge_42 : decode cX6_judge 42 = .ok (.ldc2_w 207, 3) := by decide +kernel
theorem dX6_judge_45 : decode cX6_judge 45 = .ok (.iload_n 1, 1) := by decide +kernel
theorem dX6_judge_46 : decode cX6_judge 46 = .ok (.iconst 1, 1) := by decide +kernel
theorem dX6_judge_47 : decode cX6_judge 47 = .ok (.isub, 1) := by decide +kernel
theorem dX6_judge_48 : decode cX6_judge 48 = .ok (.invokestatic 209, 3) := by decide +kernel
theorem dX6_judge_51 : decode cX6_judge 51 = .ok (.lstore 4, 2) := by decide +kernel
theorem dX6_judge_53 : decode cX6_judge 53 = .ok (.iconst 0, 1) := by decide +kernel
theorem dX6_judge_54 : decode cX6_judge 54 = .ok (.istore 6, 2) := by decide +kernel
theorem dX6_judge_56 : decode cX6_judge 56 = .ok (.iload 6, 2) := by decide +kernel
theorem dX6_judge_58 : decode cX6_judge 58 = .ok (.iload_n 1, 1) := by decide +kernel
theorem dX6_judge_59 : decode cX6_judge 59 = .ok (.if_icmp .ge 43, 3) := by decide +kernel
theorem dX6_judge_62 : decode cX6_judge 62 = .ok (.lload 4, 2) := by decide +kernel
theorem dX6_judge_64 : decode cX6_judge 64 = .ok (.lconst 0, 1) := by decide +kernel
theorem dX6_judge_65 : decode cX6_judge 65 = .ok (.lcmp, 1) := by decide +kernel
theorem dX6_judge_66 : decode cX6_judge 66 = .ok (.ifCond .le 36, 3) := by decide +kernel
theorem dX6_judge_69 : decode cX6_judge 69 = .ok (.aload_n 0, 1) := by decide +kernel
theorem dX6_judge_70 : decode cX6_judge 70 = .ok (.lload_n 2, 1) := by decide +kernel
theorem dX6_judge_71 : decode cX6_judge 71 = .ok (.lload 4, 2) := by decide +kernel
theorem dX6_judge_73 : decode cX6_judge 73 = .ok (.ldiv, 1) := by decide +kernel
theorem dX6_judge_74 : decode cX6_judge 74 = .ok (.ldc2_w 207, 3) := by decide +kernel
theorem dX6_judge_77 : decode cX6_judge 77 = .ok (.lrem, 1) := by decide +kernel
theorem dX6_judge_78 : decode cX6_judge 78 = .ok (.l2i, 1) := by decide +kernel
theorem dX6_judge_79 : decode cX6_judge 79 = .ok (.invokevirtual 213, 3) := by decide +kernel
theorem dX6_judge_82 : decode cX6_judge 82 = .ok (.ifCond .ne 6, 3) := by decide +kernel
theorem dX6_judge_85 : decode cX6_judge 85 = .ok (.iload 6, 2) := by decide +kernel
theorem dX6_judge_87 : decode cX6_judge 87 = .ok (.ireturn, 1) := by decide +kernel
theorem dX6_judge_88 : decode cX6_judge 88 = .ok (.lload 4, 2) := by decide +kernel
theorem dX6_judge_90 : decode cX6_judge 90 = .ok (.ldc2_w 207, 3) := by decide +kernel
theorem dX6_judge_93 : decode cX6_judge 93 = .ok (.ldiv, 1) := by decide +kernel
theorem dX6_judge_94 : decode cX6_judge 94 = .ok (.lstore 4, 2) := by decide +kernel
theorem dX6_judge_96 : decode cX6_judge 96 = .ok (.iinc 6 1, 3) := by decide +kernel
theorem dX6_judge_99 : decode cX6_judge 99 = .ok (.goto (-43), 3) := by decide +kernel
theorem dX6_judge_102 : decode cX6_judge 102 = .ok (.bipush (-9), 2) := by decide +kernel
theorem dX6_judge_104 : decode cX6_judge 104 = .ok (.ireturn, 1) := by decide +kernel
theorem dX6_stands_0 : decode cX6_stands 0 = .ok (.iload_n 1, 1) := by decide +kernel
theorem dX6_stands_1 : decode cX6_stands 1 = .ok (.sipush 1000, 3) := by decide +kernel
theorem dX6_stands_4 : decode cX6_stands 4 = .ok (.idiv, 1) := by decide +kernel
theorem dX6_stands_5 : decode cX6_stands 5 = .ok (.bipush 10, 2) := by decide +kernel
theorem dX6_stands_7 : decode cX6_stands 7 = .ok (.irem, 1) := by decide +kernel
theorem dX6_stands_8 : decode cX6_stands 8 = .ok (.istore_n 2, 1) := by decide +kernel
theorem dX6_stands_9 : decode cX6_stands 9 = .ok (.iload_n 1, 1) := by decide +kernel
theorem dX6_stands_10 : decode cX6_stands 10 = .ok (.bipush 100, 2) := by decide +kernel
theorem dX6_stands_12 : decode cX6_stands 12 = .ok (.idiv, 1) := by decide +kernel
theorem dX6_stands_13 : decode cX6_stands 13 = .ok (.bipush 10, 2) := by decide +kernel
theorem dX6_stands_15 : decode cX6_stands 15 = .ok (.irem, 1) := by decide +kernel
theorem dX6_stands_16 : decode cX6_stands 16 = .ok (.istore_n 3, 1) := by decide +kernel
theorem dX6_stands_17 : decode cX6_stands 17 = .ok (.iload_n 1, 1) := by decide +kernel
theorem dX6_stands_18 : decode cX6_stands 18 = .ok (.bipush 100, 2) := by decide +kernel
theorem dX6_stands_20 : decode cX6_stands 20 = .ok (.idiv, 1) := by decide +kernel
theorem dX6_stands_21 : decode cX6_stands 21 = .ok (.bipush 100, 2) := by decide +kernel
theorem dX6_stands_23 : decode cX6_stands 23 = .ok (.irem, 1) := by decide +kernel
theorem dX6_stands_24 : decode cX6_stands 24 = .ok (.istore 4, 2) := by decide +kernel
theorem dX6_stands_26 : decode cX6_stands 26 = .ok (.iload_n 1, 1) := by decide +kernel
theorem dX6_stands_27 : decode cX6_stands 27 = .ok (.bipush 100, 2) := by decide +kernel
theorem dX6_stands_29 : decode cX6_stands 29 = .ok (.irem, 1) := by decide +kernel
theorem dX6_stands_30 : decode cX6_stands 30 = .ok (.istore 5, 2) := by decide +kernel
theorem dX6_stands_32 : decode cX6_stands 32 = .ok (.iload_n 1, 1) := by decide +kernel
theorem dX6_stands_33 : decode cX6_stands 33 = .ok (.sipush 10000, 3) := by decide +kernel
theorem dX6_stands_36 : decode cX6_stands 36 = .ok (.idiv, 1) := by decide +kernel
theorem dX6_stands_37 : decode cX6_stands 37 = .ok (.tableswitch 173 1 5 #[35, 63, 86, 106, 145], 35) := by decide +kernel
theorem dX6_stands_72 : decode cX6_stands 72 = .ok (.aload_n 0, 1) := by decide +kernel
theorem dX6_stands_73 : decode cX6_stands 73 = .ok (.getfield 23, 3) := by decide +kernel
theorem dX6_stands_76 : decode cX6_stands 76 = .ok (.iload_n 2, 1) := by decide +kernel
theorem dX6_stands_77 : decode cX6_stands 77 = .ok (.iload_n 3, 1) := by decide +kernel
theorem dX6_stands_78 : decode cX6_stands 78 = .ok (.iload 5, 2) := by decide +kernel
theorem dX6_stands_80 : decode cX6_stands 80 = .ok (.bipush 10, 2) := by decide +kernel
theorem dX6_stands_82 : decode cX6_stands 82 = .ok (.idiv, 1) := by decide +kernel
theorem dX6_stands_83 : decode cX6_stands 83 = .ok (.iload 5, 2) := by decide +kernel
theorem dX6_stands_85 : decode cX6_stands 85 = .ok (.bipush 10, 2) := by decide +kernel
theorem dX6_stands_87 : decode cX6_stands 87 = .ok (.irem, 1) := by decide +kernel
theorem dX6_stands_88 : decode cX6_stands 88 = .ok (.invokevirtual 108, 3) := by decide +kernel
theorem dX6_stands_91 : decode cX6_stands 91 = .ok (.ifCond .lt 7, 3) := by decide +kernel
theorem dX6_stands_94 : decode cX6_stands 94 = .ok (.iconst 1, 1) := by decide +kernel
theorem dX6_stands_95 : decode cX6_stands 95 = .ok (.goto 4, 3) := by decide +kernel
theorem dX6_stands_98 : decode cX6_stands 98 = .ok (.iconst 0, 1) := by decide +kernel
theorem dX6_stands_99 : decode cX6_stands 99 = .ok (.ireturn, 1) := by decide +kernel
theorem dX6_stands_100 : decode cX6_stands 100 = .ok (.iload 4, 2) := by decide +kernel
theorem dX6_stands_102 : decode cX6_stands 102 = .ok (.ifCond .ne 19, 3) := by decide +kernel
theorem dX6_stands_105 : decode cX6_stands 105 = .ok (.aload_n 0, 1) := by decide +kernel
theorem dX6_stands_106 : decode cX6_stands 106 = .ok (.getfield 23, 3) := by decide +kernel
theorem dX6_stands_109 : decode cX6_stands 109 = .ok (.iload 5, 2) := by decide +kernel
theorem dX6_stands_111 : decode cX6_stands 111 = .ok (.invokevirtual 115, 3) := by decide +kernel
theorem dX6_stands_114 : decode cX6_stands 114 = .ok (.ifCond .lt 7, 3) := by decide +kernel
theorem dX6_stands_117 : decode cX6_stands 117 = .ok (.iconst 1, 1) := by decide +kernel
theorem dX6_stands_118 : decode cX6_stands 118 = .ok (.goto 4, 3) := by decide +kernel
theorem dX6_stands_121 : decode cX6_stands 121 = .ok (.iconst 0, 1) := by decide +kernel
theorem dX6_stands_122 : decode cX6_stands 122 = .ok (.ireturn, 1) := by decide +kernel
theorem dX6_stands_123 : decode cX6_stands 123 = .ok (.aload_n 0, 1) := by decide +kernel
theorem dX6_stands_124 : decode cX6_stands 124 = .ok (.getfield 23, 3) := by decide +kernel
theorem dX6_stands_127 : decode cX6_stands 127 = .ok (.iload 4, 2) := by decide +kernel
theorem dX6_stands_129 : decode cX6_stands 129 = .ok (.iload 5, 2) := by decide +kernel
theorem dX6_stands_131 : decode cX6_stands 131 = .ok (.invokevirtual 118, 3) := by decide +kernel
theorem dX6_stands_134 : decode cX6_stands 134 = .ok (.ifCond .lt 7, 3) := by decide +kernel
theorem dX6_stands_137 : decode cX6_stands 137 = .ok (.iconst 1, 1) := by decide +kernel
theorem dX6_stands_138 : decode cX6_stands 138 = .ok (.goto 4, 3) := by decide +kernel
theorem dX6_stands_141 : decode cX6_stands 141 = .ok (.iconst 0, 1) := by decide +kernel
theorem dX6_stands_142 : decode cX6_stands 142 = .ok (.ireturn, 1) := by decide +kernel
theorem dX6_stands_143 : decode cX6_stands 143 = .ok (.iload_n 2, 1) := by decide +kernel
theorem dX6_stands_144 : decode cX6_stands 144 = .ok (.invokestatic 150, 3) := by decide +kernel
theorem dX6_stands_147 : decode cX6_stands 147 = .ok (.ifCond .eq 33, 3) := by decide +kernel
theorem dX6_stands_150 : decode cX6_stands 150 = .ok (.iload_n 3, 1) := by decide +kernel
theorem dX6_stands_151 : decode cX6_stands 151 = .ok (.invokestatic 150, 3) := by decide +kernel
theorem dX6_stands_154 : decode cX6_stands 154 = .ok (.ifCond .eq 26, 3) := by decide +kernel
theorem dX6_stands_157 : decode cX6_stands 157 = .ok (.iload 5, 2) := by decide +kernel
theorem dX6_stands_159 : decode cX6_stands 159 = .ok (.invokestatic 128, 3) := by decide +kernel
theorem dX6_stands_162 : decode cX6_stands 162 = .ok (.ifCond .eq 18, 3) := by decide +kernel
theorem dX6_stands_165 : decode cX6_stands 165 = .ok (.aload_n 0, 1) := by decide +kernel
theorem dX6_stands_166 : decode cX6_stands 166 = .ok (.iload_n 2, 1) := by decide +kernel
theorem dX6_stands_167 : decode cX6_stands 167 = .ok (.iload_n 3, 1) := by decide +kernel
theorem dX6_stands_168 : decode cX6_stands 168 = .ok (.iload 5, 2) := by decide +kernel
theorem dX6_stands_170 : decode cX6_stands 170 = .ok (.invokevirtual 216, 3) := by decide +kernel
theorem dX6_stands_173 : decode cX6_stands 173 = .ok (.ifCond .eq 7, 3) := by decide +kernel
theorem dX6_stands_176 : decode cX6_stands 176 = .ok (.iconst 1, 1) := by decide +kernel
theorem dX6_stands_177 : decode cX6_stands 177 = .ok (.goto 4, 3) := by decide +kernel
theorem dX6_stands_180 : decode cX6_stands 180 = .ok (.iconst 0, 1) := by decide +kernel
theorem dX6_stands_181 : decode cX6_stands 181 = .ok (.ireturn, 1) := by decide +kernel
theorem dX6_stands_182 : decode cX6_stands 182 = .ok (.iload_n 2, 1) := by decide +kernel
theorem dX6_stands_183 : decode cX6_stands 183 = .ok (.ifCond .ne 25, 3) := by decide +kernel
theorem dX6_stands_186 : decode cX6_stands 186 = .ok (.iload 5, 2) := by decide +kernel
theorem dX6_stands_188 : decode cX6_stands 188 = .ok (.invokestatic 128, 3) := by decide +kernel
theorem dX6_stands_191 : decode cX6_stands 191 = .ok (.ifCond .eq 17, 3) := by decide +kernel
theorem dX6_stands_194 : decode cX6_stands 194 = .ok (.aload_n 0, 1) := by decide +kernel
theorem dX6_stands_195 : decode cX6_stands 195 = .ok (.iload 5, 2) := by decide +kernel
theorem dX6_stands_197 : decode cX6_stands 197 = .ok (.invokevirtual 219, 3) := by decide +kernel
theorem dX6_stands_200 : decode cX6_stands 200 = .ok (.iload_n 3, 1) := by decide +kernel
theorem dX6_stands_201 : decode cX6_stands 201 = .ok (.if_icmp .lt 7, 3) := by decide +kernel
theorem dX6_stands_204 : decode cX6_stands 204 = .ok (.iconst 1, 1) := by decide +kernel
theorem dX6_stands_205 : decode cX6_stands 205 = .ok (.goto 4, 3) := by decide +kernel
theorem dX6_stands_208 : decode cX6_stands 208 = .ok (.iconst 0, 1) := by decide +kernel
theorem dX6_stands_209 : decode cX6_stands 209 = .ok (.ireturn, 1) := by decide +kernel
theorem dX6_stands_210 : decode cX6_stands 210 = .ok (.iconst 0, 1) := by decide +kernel
theorem dX6_stands_211 : decode cX6_stands 211 = .ok (.ireturn, 1) := by decide +kernel
theorem dX6_areJoinedInTrial_0 : decode cX6_areJoinedInTrial 0 = .ok (.aload_n 0, 1) := by decide +kernel
theorem dX6_areJoinedInTrial_1 : decode cX6_areJoinedInTrial 1 = .ok (.getfield 36, 3) := by decide +kernel
theorem dX6_areJoinedInTrial_4 : decode cX6_areJoinedInTrial 4 = .ok (.aload_n 0, 1) := by decide +kernel
theorem dX6_areJoinedInTrial_5 : decode cX6_areJoinedInTrial 5 = .ok (.getfield 23, 3) := by decide +kernel
theorem dX6_areJoinedInTrial_8 : decode cX6_areJoinedInTrial 8 = .ok (.iload_n 3, 1) := by decide +kernel
theorem dX6_areJoinedInTrial_9 : decode cX6_areJoinedInTrial 9 = .ok (.invokevirtual 131, 3) := by decide +kernel
theorem dX6_areJoinedInTrial_12 : decode cX6_areJoinedInTrial 12 = .ok (.aload_n 0, 1) := by decide +kernel
theorem dX6_areJoinedInTrial_13 : decode cX6_areJoinedInTrial 13 = .ok (.getfield 36, 3) := by decide +kernel
theorem dX6_areJoinedInTrial_16 : decode cX6_areJoinedInTrial 16 = .ok (.iload_n 1, 1) := by decide +kernel
theorem dX6_areJoinedInTrial_17 : decode cX6_areJoinedInTrial 17 = .ok (.iload_n 2, 1) := by decide +kernel
theorem dX6_areJoinedInTrial_18 : decode cX6_areJoinedInTrial 18 = .ok (.invokevirtual 161, 3) := by decide +kernel
theorem dX6_areJoinedInTrial_21 : decode cX6_areJoinedInTrial 21 = .ok (.ireturn, 1) := by decide +kernel
theorem dX6_partsInTrial_0 : decode cX6_partsInTrial 0 = .ok (.aload_n 0, 1) := by decide +kernel
theorem dX6_partsInTrial_1 : decode cX6_partsInTrial 1 = .ok (.getfield 36, 3) := by decide +kernel
theorem dX6_partsInTrial_4 : decode cX6_partsInTrial 4 = .ok (.aload_n 0, 1) := by decide +kernel
theorem dX6_partsInTrial_5 : decode cX6_partsInTrial 5 = .ok (.getfield 23, 3) := by decide +kernel
theorem dX6_partsInTrial_8 : decode cX6_partsInTrial 8 = .ok (.iload_n 1, 1) := by decide +kernel
theorem dX6_partsInTrial_9 : decode cX6_partsInTrial 9 = .ok (.invokevirtual 131, 3) := by decide +kernel
theorem dX6_partsInTrial_12 : decode cX6_partsInTrial 12 = .ok (.aload_n 0, 1) := by decide +kernel
theorem dX6_partsInTrial_13 : decode cX6_partsInTrial 13 = .ok (.getfield 36, 3) := by decide +kernel
theorem dX6_partsInTrial_16 : decode cX6_partsInTrial 16 = .ok (.invokevirtual 135, 3) := by decide +kernel
theorem dX6_partsInTrial_19 : decode cX6_partsInTrial 19 = .ok (.ireturn, 1) := by decide +kernel
theorem dX6_see_0 : decode cX6_see 0 = .ok (.iload_n 1, 1) := by decide +kernel
theorem dX6_see_1 : decode cX6_see 1 = .ok (.invokestatic 128, 3) := by decide +kernel
theorem dX6_see_4 : decode cX6_see 4 = .ok (.ifCond .eq 17, 3) := by decide +kernel
theorem dX6_see_7 : decode cX6_see 7 = .ok (.iload_n 2, 1) := by decide +kernel
theorem dX6_see_8 : decode cX6_see 8 = .ok (.invokestatic 150, 3) := by decide +kernel
theorem dX6_see_11 : decode cX6_see 11 = .ok (.ifCond .eq 10, 3) := by decide +kernel
theorem dX6_see_14 : decode cX6_see 14 = .ok (.iload_n 3, 1) := by decide +kernel
theorem dX6_see_15 : decode cX6_see 15 = .ok (.invokestatic 150, 3) := by decide +kernel
theorem dX6_see_18 : decode cX6_see 18 = .ok (.ifCond .ne 5, 3) := by decide +kernel
theorem dX6_see_21 : decode cX6_see 21 = .ok (.iconst (-1), 1) := by decide +kernel
theorem dX6_see_22 : decode cX6_see 22 = .ok (.ireturn, 1) := by decide +kernel
theorem dX6_see_23 : decode cX6_see 23 = .ok (.iload_n 2, 1) := by decide +kernel
theorem dX6_see_24 : decode cX6_see 24 = .ok (.iload_n 3, 1) := by decide +kernel
theorem dX6_see_25 : decode cX6_see 25 = .ok (.if_icmp .eq 14, 3) := by decide +kernel
theorem dX6_see_28 : decode cX6_see 28 = .ok (.iload 4, 2) := by decide +kernel
theorem dX6_see_30 : decode cX6_see 30 = .ok (.ifCond .lt 9, 3) := by decide +kernel
theorem dX6_see_33 : decode cX6_see 33 = .ok (.iload 4, 2) := by decide +kernel
theorem dX6_see_35 : decode cX6_see 35 = .ok (.iconst 1, 1) := by decide +kernel
theorem dX6_see_36 : decode cX6_see 36 = .ok (.if_icmp .le 6, 3) := by decide +kernel
theorem dX6_see_39 : decode cX6_see 39 = .ok (.bipush (-2), 2) := by decide +kernel
theorem dX6_see_41 : decode cX6_see 41 = .ok (.ireturn, 1) := by decide +kernel
theorem dX6_see_42 : decode cX6_see 42 = .ok (.aload_n 0, 1) := by decide +kernel
theorem dX6_see_43 : decode cX6_see 43 = .ok (.getfield 50, 3) := by decide +kernel
theorem dX6_see_46 : decode cX6_see 46 = .ok (.iload_n 1, 1) := by decide +kernel
theorem dX6_see_47 : decode cX6_see 47 = .ok (.iload_n 2, 1) := by decide +kernel
theorem dX6_see_48 : decode cX6_see 48 = .ok (.iload_n 3, 1) := by decide +kernel
theorem dX6_see_49 : decode cX6_see 49 = .ok (.iload 4, 2) := by decide +kernel
theorem dX6_see_51 : decode cX6_see 51 = .ok (.iconst 1, 1) := by decide +kernel
theorem dX6_see_52 : decode cX6_see 52 = .ok (.if_icmp .ne 7, 3) := by decide +kernel
theorem dX6_see_55 : decode cX6_see 55 = .ok (.iconst 1, 1) := by decide +kernel
theorem dX6_see_56 : decode cX6_see 56 = .ok (.goto 4, 3) := by decide +kernel
theorem dX6_see_59 : decode cX6_see 59 = .ok (.iconst 0, 1) := by decide +kernel
theorem dX6_see_60 : decode cX6_see 60 = .ok (.invokevirtual 222, 3) := by decide +kernel
theorem dX6_see_63 : decode cX6_see 63 = .ok (.ireturn, 1) := by decide +kernel
theorem dX6_unsee_0 : decode cX6_unsee 0 = .ok (.aload_n 0, 1) := by decide +kernel
theorem dX6_unsee_1 : decode cX6_unsee 1 = .ok (.getfield 50, 3) := by decide +kernel
theorem dX6_unsee_4 : decode cX6_unsee 4 = .ok (.getfield 225, 3) := by decide +kernel
theorem dX6_unsee_7 : decode cX6_unsee 7 = .ok (.istore_n 1, 1) := by decide +kernel
theorem dX6_unsee_8 : decode cX6_unsee 8 = .ok (.aload_n 0, 1) := by decide +kernel
theorem dX6_unsee_9 : decode cX6_unsee 9 = .ok (.getfield 50, 3) := by decide +kernel
theorem dX6_unsee_12 : decode cX6_unsee 12 = .ok (.iconst 0, 1) := by decide +kernel
theorem dX6_unsee_13 : decode cX6_unsee 13 = .ok (.putfield 225, 3) := by decide +kernel
theorem dX6_unsee_16 : decode cX6_unsee 16 = .ok (.iload_n 1, 1) := by decide +kernel
theorem dX6_unsee_17 : decode cX6_unsee 17 = .ok (.ireturn, 1) := by decide +kernel
theorem dX6_missing_0 : decode cX6_missing 0 = .ok (.iload_n 1, 1) := by decide +kernel
theorem dX6_missing_1 : decode cX6_missing 1 = .ok (.ifCond .lt 8, 3) := by decide +kernel
theorem dX6_missing_4 : decode cX6_missing 4 = .ok (.iload_n 1, 1) := by decide +kernel
theorem dX6_missing_5 : decode cX6_missing 5 = .ok (.iconst 1, 1) := by decide +kernel
theorem dX6_missing_6 : decode cX6_missing 6 = .ok (.if_icmp .le 6, 3) := by decide +kernel
theorem dX6_missing_9 : decode cX6_missing 9 = .ok (.bipush (-2), 2) := by decide +kernel
theorem dX6_missing_11 : decode cX6_missing 11 = .ok (.ireturn, 1) := by decide +kernel
theorem dX6_missing_12 : decode cX6_missing 12 = .ok (.aload_n 0, 1) := by decide +kernel
theorem dX6_missing_13 : decode cX6_missing 13 = .ok (.getfield 19, 3) := by decide +kernel
theorem dX6_missing_16 : decode cX6_missing 16 = .ok (.getfield 81, 3) := by decide +kernel
theorem dX6_missing_19 : decode cX6_missing 19 = .ok (.bipush 16, 2) := by decide +kernel
theorem dX6_missing_21 : decode cX6_missing 21 = .ok (.if_icmp .lt 6, 3) := by decide +kernel
theorem dX6_missing_24 : decode cX6_missing 24 = .ok (.bipush (-4), 2) := by decide +kernel
theorem dX6_missing_26 : decode cX6_missing 26 = .ok (.ireturn, 1) := by decide +kernel
theorem dX6_missing_27 : decode cX6_missing 27 = .ok (.aload_n 0, 1) := by decide +kernel
theorem dX6_missing_28 : decode cX6_missing 28 = .ok (.getfield 50, 3) := by decide +kernel
theorem dX6_missing_31 : decode cX6_missing 31 = .ok (.aload_n 0, 1) := by decide +kernel
theorem dX6_missing_32 : decode cX6_missing 32 = .ok (.getfield 19, 3) := by decide +kernel
theorem dX6_missing_35 : decode cX6_missing 35 = .ok (.aload_n 0, 1) := by decide +kernel
theorem dX6_missing_36 : decode cX6_missing 36 = .ok (.getfield 43, 3) := by decide +kernel
theorem dX6_missing_39 : decode cX6_missing 39 = .ok (.invokevirtual 226, 3) := by decide +kernel
theorem dX6_missing_42 : decode cX6_missing 42 = .ok (.iload_n 1, 1) := by decide +kernel
theorem dX6_missing_43 : decode cX6_missing 43 = .ok (.ifCond .ne 10, 3) := by decide +kernel
theorem dX6_missing_46 : decode cX6_missing 46 = .ok (.aload_n 0, 1) := by decide +kernel
theorem dX6_missing_47 : decode cX6_missing 47 = .ok (.invokevirtual 230, 3) := by decide +kernel
theorem dX6_missing_50 : decode cX6_missing 50 = .ok (.goto 7, 3) := by decide +kernel
theorem dX6_missing_53 : decode cX6_missing 53 = .ok (.aload_n 0, 1) := by decide +kernel
theorem dX6_missing_54 : decode cX6_missing 54 = .ok (.invokevirtual 233, 3) := by decide +kernel
theorem dX6_missing_57 : decode cX6_missing 57 = .ok (.ireturn, 1) := by decide +kernel
theorem dX6_howManyMissing_0 : decode cX6_howManyMissing 0 = .ok (.iconst 0, 1) := by decide +kernel
theorem dX6_howManyMissing_1 : decode cX6_howManyMissing 1 = .ok (.istore_n 1, 1) := by decide +kernel
theorem dX6_howManyMissing_2 : decode cX6_howManyMissing 2 = .ok (.iconst 0, 1) := by decide +kernel
theorem dX6_howManyMissing_3 : decode cX6_howManyMissing 3 = .ok (.istore_n 2, 1) := by decide +kernel
theorem dX6_howManyMissing_4 : decode cX6_howManyMissing 4 = .ok (.iload_n 2, 1) := by decide +kernel
theorem dX6_howManyMissing_5 : decode cX6_howManyMissing 5 = .ok (.bipush 8, 2) := by decide +kernel
theorem dX6_howManyMissing_7 : decode cX6_howManyMissing 7 = .ok (.if_icmp .ge 70, 3) := by decide +kernel
theorem dX6_howManyMissing_10 : decode cX6_howManyMissing 10 = .ok (.iload_n 2, 1) := by decide +kernel
theorem dX6_howManyMissing_11 : decode cX6_howManyMissing 11 = .ok (.iconst 1, 1) := by decide +kernel
theorem dX6_howManyMissing_12 : decode cX6_howManyMissing 12 = .ok (.iadd, 1) := by decide +kernel
theorem dX6_howManyMissing_13 : decode cX6_howManyMissing 13 = .ok (.istore_n 3, 1) := by decide +kernel
theorem dX6_howManyMissing_14 : decode cX6_howManyMissing 14 = .ok (.iload_n 3, 1) := by decide +kernel
theorem dX6_howManyMissing_15 : decode cX6_howManyMissing 15 = .ok (.bipush 8, 2) := by decide +kernel
theorem dX6_howManyMissing_17 : decode cX6_howManyMissing 17 = .ok (.if_icmp .ge 54, 3) := by decide +kernel
theorem dX6_howManyMissing_20 : decode cX6_howManyMissing 20 = .ok (.aload_n 0, 1) := by decide +kernel
theorem dX6_howManyMissing_21 : decode cX6_howManyMissing 21 = .ok (.getfield 19, 3) := by decide +kernel
theorem dX6_howManyMissing_24 : decode cX6_howManyMissing 24 = .ok (.iload_n 2, 1) := by decide +kernel
theorem dX6_howManyMissing_25 : decode cX6_howManyMissing 25 = .ok (.iload_n 3, 1) := by decide +kernel
theorem dX6_howManyMissing_26 : decode cX6_howManyMissing 26 = .ok (.bipush (-9), 2) := by decide +kernel
theorem dX6_howManyMissing_28 : decode cX6_howManyMissing 28 = .ok (.invokevirtual 236, 3) := by decide +kernel
theorem dX6_howManyMissing_31 : decode cX6_howManyMissing 31 = .ok (.istore 4, 2) := by decide +kernel
theorem dX6_howManyMissing_33 : decode cX6_howManyMissing 33 = .ok (.iconst 0, 1) := by decide +kernel
theorem dX6_howManyMissing_34 : decode cX6_howManyMissing 34 = .ok (.istore 5, 2) := by decide +kernel
theorem dX6_howManyMissing_36 : decode cX6_howManyMissing 36 = .ok (.iload 5, 2) := by decide +kernel
theorem dX6_howManyMissing_38 : decode cX6_howManyMissing 38 = .ok (.bipush 16, 2) := by decide +kernel
theorem dX6_howManyMissing_40 : decode cX6_howManyMissing 40 = .ok (.if_icmp .ge 25, 3) := by decide +kernel
theorem dX6_howManyMissing_43 : decode cX6_howManyMissing 43 = .ok (.iload_n 1, 1) := by decide +kernel
theorem dX6_howManyMissing_44 : decode cX6_howManyMissing 44 = .ok (.aload_n 0, 1) := by decide +kernel
theorem dX6_howManyMissing_45 : decode cX6_howManyMissing 45 = .ok (.iload_n 2, 1) := by decide +kernel
theorem dX6_howManyMissing_46 : decode cX6_howManyMissing 46 = .ok (.iload_n 3, 1) := by decide +kernel
theorem dX6_howManyMissing_47 : decode cX6_howManyMissing 47 = .ok (.iload 5, 2) := by decide +kernel
theorem dX6_howManyMissing_49 : decode cX6_howManyMissing 49 = .ok (.iload 4, 2) := by decide +kernel
theorem dX6_howManyMissing_51 : decode cX6_howManyMissing 51 = .ok (.invokevirtual 240, 3) := by decide +kernel
theorem dX6_howManyMissing_54 : decode cX6_howManyMissing 54 = .ok (.invokestatic 177, 3) := by decide +kernel
theorem dX6_howManyMissing_57 : decode cX6_howManyMissing 57 = .ok (.iadd, 1) := by decide +kernel
theorem dX6_howManyMissing_58 : decode cX6_howManyMissing 58 = .ok (.istore_n 1, 1) := by decide +kernel
theorem dX6_howManyMissing_59 : decode cX6_howManyMissing 59 = .ok (.iinc 5 1, 3) := by decide +kernel
theorem dX6_howManyMissing_62 : decode cX6_howManyMissing 62 = .ok (.goto (-26), 3) := by decide +kernel
theorem dX6_howManyMissing_65 : decode cX6_howManyMissing 65 = .ok (.iinc 3 1, 3) := by decide +kernel
theorem dX6_howManyMissing_68 : decode cX6_howManyMissing 68 = .ok (.goto (-54), 3) := by decide +kernel
theorem dX6_howManyMissing_71 : decode cX6_howManyMissing 71 = .ok (.iinc 2 1, 3) := by decide +kernel
theorem dX6_howManyMissing_74 : decode cX6_howManyMissing 74 = .ok (.goto (-70), 3) := by decide +kernel
theorem dX6_howManyMissing_77 : decode cX6_howManyMissing 77 = .ok (.iload_n 1, 1) := by decide +kernel
theorem dX6_howManyMissing_78 : decode cX6_howManyMissing 78 = .ok (.ireturn, 1) := by decide +kernel
theorem dX6_firstMissing_0 : decode cX6_firstMissing 0 = .ok (.iconst 0, 1) := by decide +kernel
theorem dX6_firstMissing_1 : decode cX6_firstMissing 1 = .ok (.istore_n 1, 1) := by decide +kernel
theorem dX6_firstMissing_2 : decode cX6_firstMissing 2 = .ok (.iload_n 1, 1) := by decide +kernel
theorem dX6_firstMissing_3 : decode cX6_firstMissing 3 = .ok (.bipush 8, 2) := by decide +kernel
theorem dX6_firstMissing_5 : decode cX6_firstMissing 5 = .ok (.if_icmp .ge 92, 3) := by decide +kernel
theorem dX6_firstMissing_8 : decode cX6_firstMissing 8 = .ok (.iload_n 1, 1) := by decide +kernel
theorem dX6_firstMissing_9 : decode cX6_firstMissing 9 = .ok (.iconst 1, 1) := by decide +kernel
theorem dX6_firstMissing_10 : decode cX6_firstMissing 10 = .ok (.iadd, 1) := by decide +kernel
theorem dX6_firstMissing_11 : decode cX6_firstMissing 11 = .ok (.istore_n 2, 1) := by decide +kernel
theorem dX6_firstMissing_12 : decode cX6_firstMissing 12 = .ok (.iload_n 2, 1) := by decide +kernel
theorem dX6_firstMissing_13 : decode cX6_firstMissing 13 = .ok (.bipush 8, 2) := by decide +kernel
theorem dX6_firstMissing_15 : decode cX6_firstMissing 15 = .ok (.if_icmp .ge 76, 3) := by decide +kernel
theorem dX6_firstMissing_18 : decode cX6_firstMissing 18 = .ok (.aload_n 0, 1) := by decide +kernel
theorem dX6_firstMissing_19 : decode cX6_firstMissing 19 = .ok (.getfield 19, 3) := by decide +kernel
theorem dX6_firstMissing_22 : decode cX6_firstMissing 22 = .ok (.iload_n 1, 1) := by decide +kernel
theorem dX6_firstMissing_23 : decode cX6_firstMissing 23 = .ok (.iload_n 2, 1) := by decide +kernel
theorem dX6_firstMissing_24 : decode cX6_firstMissing 24 = .ok (.bipush (-9), 2) := by decide +kernel
theorem dX6_firstMissing_26 : decode cX6_firstMissing 26 = .ok (.invokevirtual 236, 3) := by decide +kernel
theorem dX6_firstMissing_29 : decode cX6_firstMissing 29 = .ok (.istore_n 3, 1) := by decide +kernel
theorem dX6_firstMissing_30 : decode cX6_firstMissing 30 = .ok (.iconst 0, 1) := by decide +kernel
theorem dX6_firstMissing_31 : decode cX6_firstMissing 31 = .ok (.istore 4, 2) := by decide +kernel
theorem dX6_firstMissing_33 : decode cX6_firstMissing 33 = .ok (.iload 4, 2) := by decide +kernel
theorem dX6_firstMissing_35 : decode cX6_firstMissing 35 = .ok (.bipush 16, 2) := by decide +kernel
theorem dX6_firstMissing_37 : decode cX6_firstMissing 37 = .ok (.if_icmp .ge 48, 3) := by decide +kernel
theorem dX6_firstMissing_40 : decode cX6_firstMissing 40 = .ok (.aload_n 0, 1) := by decide +kernel
theorem dX6_firstMissing_41 : decode cX6_firstMissing 41 = .ok (.iload_n 1, 1) := by decide +kernel
theorem dX6_firstMissing_42 : decode cX6_firstMissing 42 = .ok (.iload_n 2, 1) := by decide +kernel
theorem dX6_firstMissing_43 : decode cX6_firstMissing 43 = .ok (.iload 4, 2) := by decide +kernel
theorem dX6_firstMissing_45 : decode cX6_firstMissing 45 = .ok (.iload_n 3, 1) := by decide +kernel
theorem dX6_firstMissing_46 : decode cX6_firstMissing 46 = .ok (.invokevirtual 240, 3) := by decide +kernel
theorem dX6_firstMissing_49 : decode cX6_firstMissing 49 = .ok (.istore 5, 2) := by decide +kernel
theorem dX6_firstMissing_51 : decode cX6_firstMissing 51 = .ok (.iload 5, 2) := by decide +kernel
theorem dX6_firstMissing_53 : decode cX6_firstMissing 53 = .ok (.ifCond .eq 26, 3) := by decide +kernel
theorem dX6_firstMissing_56 : decode cX6_firstMissing 56 = .ok (.ldc 243, 2) := by decide +kernel
theorem dX6_firstMissing_58 : decode cX6_firstMissing 58 = .ok (.iload_n 1, 1) := by decide +kernel
theorem dX6_firstMissing_59 : decode cX6_firstMissing 59 = .ok (.imul, 1) := by decide +kernel
theorem dX6_firstMissing_60 : decode cX6_firstMissing 60 = .ok (.sipush 10000, 3) := by decide +kernel
theorem dX6_firstMissing_63 : decode cX6_firstMissing 63 = .ok (.iload_n 2, 1) := by decide +kernel
theorem dX6_firstMissing_64 : decode cX6_firstMissing 64 = .ok (.imul, 1) := by decide +kernel
theorem dX6_firstMissing_65 : decode cX6_firstMissing 65 = .ok (.iadd, 1) := by decide +kernel
theorem dX6_firstMissing_66 : decode cX6_firstMissing 66 = .ok (.bipush 100, 2) := by decide +kernel
theorem dX6_firstMissing_68 : decode cX6_firstMissing 68 = .ok (.iload 4, 2) := by decide +kernel
theorem dX6_firstMissing_70 : decode cX6_firstMissing 70 = .ok (.imul, 1) := by decide +kernel
theorem dX6_firstMissing_71 : decode cX6_firstMissing 71 = .ok (.iadd, 1) := by decide +kernel
theorem dX6_firstMissing_72 : decode cX6_firstMissing 72 = .ok (.iload 5, 2) := by decide +kernel
theorem dX6_firstMissing_74 : decode cX6_firstMissing 74 = .ok (.invokestatic 244, 3) := by decide +kernel
theorem dX6_firstMissing_77 : decode cX6_firstMissing 77 = .ok (.iadd, 1) := by decide +kernel
theorem dX6_firstMissing_78 : decode cX6_firstMissing 78 = .ok (.ireturn, 1) := by decide +kernel
theorem dX6_firstMissing_79 : decode cX6_firstMissing 79 = .ok (.iinc 4 1, 3) := by decide +kernel
theorem dX6_firstMissing_82 : decode cX6_firstMissing 82 = .ok (.goto (-49), 3) := by decide +kernel
theorem dX6_firstMissing_85 : decode cX6_firstMissing 85 = .ok (.iinc 2 1, 3) := by decide +kernel
theorem dX6_firstMissing_88 : decode cX6_firstMissing 88 = .ok (.goto (-76), 3) := by decide +kernel
theorem dX6_firstMissing_91 : decode cX6_firstMissing 91 = .ok (.iinc 1 1, 3) := by decide +kernel
theorem dX6_firstMissing_94 : decode cX6_firstMissing 94 = .ok (.goto (-92), 3) := by decide +kernel
theorem dX6_firstMissing_97 : decode cX6_firstMissing 97 = .ok (.bipush (-9), 2) := by decide +kernel
theorem dX6_firstMissing_99 : decode cX6_firstMissing 99 = .ok (.ireturn, 1) := by decide +kernel
theorem dX6_missingEnds_0 : decode cX6_missingEnds 0 = .ok (.iconst 0, 1) := by decide +kernel
theorem dX6_missingEnds_1 : decode cX6_missingEnds 1 = .ok (.istore 5, 2) := by decide +kernel
theorem dX6_missingEnds_3 : decode cX6_missingEnds 3 = .ok (.iload_n 3, 1) := by decide +kernel
theorem dX6_missingEnds_4 : decode cX6_missingEnds 4 = .ok (.istore 6, 2) := by decide +kernel
theorem dX6_missingEnds_6 : decode cX6_missingEnds 6 = .ok (.iload 6, 2) := by decide +kernel
theorem dX6_missingEnds_8 : decode cX6_missingEnds 8 = .ok (.bipush 16, 2) := by decide +kernel
theorem dX6_missingEnds_10 : decode cX6_missingEnds 10 = .ok (.if_icmp .ge 46, 3) := by decide +kernel
theorem dX6_missingEnds_13 : decode cX6_missingEnds 13 = .ok (.iload 4, 2) := by decide +kernel
theorem dX6_missingEnds_15 : decode cX6_missingEnds 15 = .ok (.iload 6, 2) := by decide +kernel
theorem dX6_missingEnds_17 : decode cX6_missingEnds 17 = .ok (.ishr, 1) := by decide +kernel
theorem dX6_missingEnds_18 : decode cX6_missingEnds 18 = .ok (.iconst 1, 1) := by decide +kernel
theorem dX6_missingEnds_19 : decode cX6_missingEnds 19 = .ok (.iand, 1) := by decide +kernel
theorem dX6_missingEnds_20 : decode cX6_missingEnds 20 = .ok (.ifCond .ne 36, 3) := by decide +kernel
theorem dX6_missingEnds_23 : decode cX6_missingEnds 23 = .ok (.aload_n 0, 1) := by decide +kernel
theorem dX6_missingEnds_24 : decode cX6_missingEnds 24 = .ok (.getfield 50, 3) := by decide +kernel
theorem dX6_missingEnds_27 : decode cX6_missingEnds 27 = .ok (.iload_n 1, 1) := by decide +kernel
theorem dX6_missingEnds_28 : decode cX6_missingEnds 28 = .ok (.iload_n 2, 1) := by decide +kernel
theorem dX6_missingEnds_29 : decode cX6_missingEnds 29 = .ok (.iload_n 3, 1) := by decide +kernel
theorem dX6_missingEnds_30 : decode cX6_missingEnds 30 = .ok (.iload 6, 2) := by decide +kernel
theorem dX6_missingEnds_32 : decode cX6_missingEnds 32 = .ok (.invokestatic 247, 3) := by decide +kernel
theorem dX6_missingEnds_35 : decode cX6_missingEnds 35 = .ok (.invokevirtual 250, 3) := by decide +kernel
theorem dX6_missingEnds_38 : decode cX6_missingEnds 38 = .ok (.ifCond .eq 12, 3) := by decide +kernel
theorem dX6_missingEnds_41 : decode cX6_missingEnds 41 = .ok (.iload 5, 2) := by decide +kernel
theorem dX6_missingEnds_43 : decode cX6_missingEnds 43 = .ok (.iconst 1, 1) := by decide +kernel
theorem dX6_missingEnds_44 : decode cX6_missingEnds 44 = .ok (.iload 6, 2) := by decide +kernel
theorem dX6_missingEnds_46 : decode cX6_missingEnds 46 = .ok (.ishl, 1) := by decide +kernel
theorem dX6_missingEnds_47 : decode cX6_missingEnds 47 = .ok (.ior, 1) := by decide +kernel
theorem dX6_missingEnds_48 : decode cX6_missingEnds 48 = .ok (.istore 5, 2) := by decide +kernel
theorem dX6_missingEnds_50 : decode cX6_missingEnds 50 = .ok (.iinc 6 1, 3) := by decide +kernel
theorem dX6_missingEnds_53 : decode cX6_missingEnds 53 = .ok (.goto (-47), 3) := by decide +kernel
theorem dX6_missingEnds_56 : decode cX6_missingEnds 56 = .ok (.iload 5, 2) := by decide +kernel
theorem dX6_missingEnds_58 : decode cX6_missingEnds 58 = .ok (.ireturn, 1) := by decide +kernel
theorem dX6_share_0 : decode cX6_share 0 = .ok (.aload_n 0, 1) := by decide +kernel
theorem dX6_share_1 : decode cX6_share 1 = .ok (.getfield 19, 3) := by decide +kernel
theorem dX6_share_4 : decode cX6_share 4 = .ok (.iload_n 1, 1) := by decide +kernel
theorem dX6_share_5 : decode cX6_share 5 = .ok (.invokevirtual 82, 3) := by decide +kernel
theorem dX6_share_8 : decode cX6_share 8 = .ok (.ifCond .eq 10, 3) := by decide +kernel
theorem dX6_share_11 : decode cX6_share 11 = .ok (.iload_n 2, 1) := by decide +kernel
theorem dX6_share_12 : decode cX6_share 12 = .ok (.invokestatic 128, 3) := by decide +kernel
theorem dX6_share_15 : decode cX6_share 15 = .ok (.ifCond .ne 5, 3) := by decide +kernel
theorem dX6_share_18 : decode cX6_share 18 = .ok (.iconst (-1), 1) := by decide +kernel
theorem dX6_share_19 : decode cX6_share 19 = .ok (.ireturn, 1) := by decide +kernel
theorem dX6_share_20 : decode cX6_share 20 = .ok (.aload_n 0, 1) := by decide +kernel
theorem dX6_share_21 : decode cX6_share 21 = .ok (.getfield 43, 3) := by decide +kernel
theorem dX6_share_24 : decode cX6_share 24 = .ok (.aload_n 0, 1) := by decide +kernel
theorem dX6_share_25 : decode cX6_share 25 = .ok (.getfield 19, 3) := by decide +kernel
theorem dX6_share_28 : decode cX6_share 28 = .ok (.iload_n 2, 1) := by decide +kernel
theorem dX6_share_29 : decode cX6_share 29 = .ok (.invokevirtual 186, 3) := by decide +kernel
theorem dX6_share_32 : decode cX6_share 32 = .ok (.aload_n 0, 1) := by decide +kernel
theorem dX6_share_33 : decode cX6_share 33 = .ok (.getfield 43, 3) := by decide +kernel
theorem dX6_share_36 : decode cX6_share 36 = .ok (.getfield 189, 3) := by decide +kernel
theorem dX6_share_39 : decode cX6_share 39 = .ok (.bipush 8, 2) := by decide +kernel
theorem dX6_share_41 : decode cX6_share 41 = .ok (.if_icmp .le 6, 3) := by decide +kernel
theorem dX6_share_44 : decode cX6_share 44 = .ok (.bipush (-4), 2) := by decide +kernel
theorem dX6_share_46 : decode cX6_share 46 = .ok (.ireturn, 1) := by decide +kernel
theorem dX6_share_47 : decode cX6_share 47 = .ok (.aload_n 0, 1) := by decide +kernel
theorem dX6_share_48 : decode cX6_share 48 = .ok (.iload_n 1, 1) := by decide +kernel
theorem dX6_share_49 : decode cX6_share 49 = .ok (.invokevirtual 253, 3) := by decide +kernel
theorem dX6_share_52 : decode cX6_share 52 = .ok (.aload_n 0, 1) := by decide +kernel
theorem dX6_share_53 : decode cX6_share 53 = .ok (.getfield 43, 3) := by decide +kernel
theorem dX6_share_56 : decode cX6_share 56 = .ok (.getfield 189, 3) := by decide +kernel
theorem dX6_share_59 : decode cX6_share 59 = .ok (.invokestatic 257, 3) := by decide +kernel
theorem dX6_share_62 : decode cX6_share 62 = .ok (.iload_n 3, 1) := by decide +kernel
theorem dX6_share_63 : decode cX6_share 63 = .ok (.invokestatic 260, 3) := by decide +kernel
theorem dX6_share_66 : decode cX6_share 66 = .ok (.ireturn, 1) := by decide +kernel
theorem dX6_ordersInWhichItJoins_0 : decode cX6_ordersInWhichItJoins 0 = .ok (.aload_n 0, 1) := by decide +kernel
theorem dX6_ordersInWhichItJoins_1 : decode cX6_ordersInWhichItJoins 1 = .ok (.getfield 43, 3) := by decide +kernel
theorem dX6_ordersInWhichItJoins_4 : decode cX6_ordersInWhichItJoins 4 = .ok (.iload_n 1, 1) := by decide +kernel
theorem dX6_ordersInWhichItJoins_5 : decode cX6_ordersInWhichItJoins 5 = .ok (.invokevirtual 264, 3) := by decide +kernel
theorem dX6_ordersInWhichItJoins_8 : decode cX6_ordersInWhichItJoins 8 = .ok (.istore_n 2, 1) := by decide +kernel
theorem dX6_ordersInWhichItJoins_9 : decode cX6_ordersInWhichItJoins 9 = .ok (.iload_n 2, 1) := by decide +kernel
theorem dX6_ordersInWhichItJoins_10 : decode cX6_ordersInWhichItJoins 10 = .ok (.ifCond .ge 5, 3) := by decide +kernel
theorem dX6_ordersInWhichItJoins_13 : decode cX6_ordersInWhichItJoins 13 = .ok (.lconst 0, 1) := by decide +kernel
theorem dX6_ordersInWhichItJoins_14 : decode cX6_ordersInWhichItJoins 14 = .ok (.lreturn, 1) := by decide +kernel
theorem dX6_ordersInWhichItJoins_15 : decode cX6_ordersInWhichItJoins 15 = .ok (.lconst 0, 1) := by decide +kernel
theorem dX6_ordersInWhichItJoins_16 : decode cX6_ordersInWhichItJoins 16 = .ok (.lstore_n 3, 1) := by decide +kernel
theorem dX6_ordersInWhichItJoins_17 : decode cX6_ordersInWhichItJoins 17 = .ok (.iconst 0, 1) := by decide +kernel
theorem dX6_ordersInWhichItJoins_18 : decode cX6_ordersInWhichItJoins 18 = .ok (.istore 5, 2) := by decide +kernel
theorem dX6_ordersInWhichItJoins_20 : decode cX6_ordersInWhichItJoins 20 = .ok (.iload 5, 2) := by decide +kernel
theorem dX6_ordersInWhichItJoins_22 : decode cX6_ordersInWhichItJoins 22 = .ok (.aload_n 0, 1) := by decide +kernel
theorem dX6_ordersInWhichItJoins_23 : decode cX6_ordersInWhichItJoins 23 = .ok (.getfield 43, 3) := by decide +kernel
theorem dX6_ordersInWhichItJoins_26 : decode cX6_ordersInWhichItJoins 26 = .ok (.invokevirtual 192, 3) := by decide +kernel
theorem dX6_ordersInWhichItJoins_29 : decode cX6_ordersInWhichItJoins 29 = .ok (.if_icmp .gt 91, 3) := by decide +kernel
theorem dX6_ordersInWhichItJoins_32 : decode cX6_ordersInWhichItJoins 32 = .ok (.iload 5, 2) := by decide +kernel
theorem dX6_ordersInWhichItJoins_34 : decode cX6_ordersInWhichItJoins 34 = .ok (.iload_n 2, 1) := by decide +kernel
theorem dX6_ordersInWhichItJoins_35 : decode cX6_ordersInWhichItJoins 35 = .ok (.ishr, 1) := by decide +kernel
theorem dX6_ordersInWhichItJoins_36 : decode cX6_ordersInWhichItJoins 36 = .ok (.iconst 1, 1) := by decide +kernel
theorem dX6_ordersInWhichItJoins_37 : decode cX6_ordersInWhichItJoins 37 = .ok (.iand, 1) := by decide +kernel
theorem dX6_ordersInWhichItJoins_38 : decode cX6_ordersInWhichItJoins 38 = .ok (.ifCond .ne 7, 3) := by decide +kernel
theorem dX6_ordersInWhichItJoins_41 : decode cX6_ordersInWhichItJoins 41 = .ok (.iconst 1, 1) := by decide +kernel
theorem dX6_ordersInWhichItJoins_42 : decode cX6_ordersInWhichItJoins 42 = .ok (.goto 4, 3) := by decide +kernel
theorem dX6_ordersInWhichItJoins_45 : decode cX6_ordersInWhichItJoins 45 = .ok (.iconst 0, 1) := by decide +kernel
theorem dX6_ordersInWhichItJoins_46 : decode cX6_ordersInWhichItJoins 46 = .ok (.istore 6, 2) := by decide +kernel
theorem dX6_ordersInWhichItJoins_48 : decode cX6_ordersInWhichItJoins 48 = .ok (.iload 6, 2) := by decide +kernel
theorem dX6_ordersInWhichItJoins_50 : decode cX6_ordersInWhichItJoins 50 = .ok (.ifCond .eq 64, 3) := by decide +kernel
theorem dX6_ordersInWhichItJoins_53 : decode cX6_ordersInWhichItJoins 53 = .ok (.aload_n 0, 1) := by decide +kernel
theorem dX6_ordersInWhichItJoins_54 : decode cX6_ordersInWhichItJoins 54 = .ok (.getfield 43, 3) := by decide +kernel
theorem dX6_ordersInWhichItJoins_57 : decode cX6_ordersInWhichItJoins 57 = .ok (.aload_n 0, 1) := by decide +kernel
theorem dX6_ordersInWhichItJoins_58 : decode cX6_ordersInWhichItJoins 58 = .ok (.getfield 43, 3) := by decide +kernel
theorem dX6_ordersInWhichItJoins_61 : decode cX6_ordersInWhichItJoins 61 = .ok (.getfield 190, 3) := by decide +kernel
theorem dX6_ordersInWhichItJoins_64 : decode cX6_ordersInWhichItJoins 64 = .ok (.iload_n 2, 1) := by decide +kernel
theorem dX6_ordersInWhichItJoins_65 : decode cX6_ordersInWhichItJoins 65 = .ok (.iaload, 1) := by decide +kernel
theorem dX6_ordersInWhichItJoins_66 : decode cX6_ordersInWhichItJoins 66 = .ok (.aload_n 0, 1) := by decide +kernel
theorem dX6_ordersInWhichItJoins_67 : decode cX6_ordersInWhichItJoins 67 = .ok (.getfield 43, 3) := by decide +kernel
theorem dX6_ordersInWhichItJoins_70 : decode cX6_ordersInWhichItJoins 70 = .ok (.getfield 191, 3) := by decide +kernel
theorem dX6_ordersInWhichItJoins_73 : decode cX6_ordersInWhichItJoins 73 = .ok (.iload_n 2, 1) := by decide +kernel
theorem dX6_ordersInWhichItJoins_74 : decode cX6_ordersInWhichItJoins 74 = .ok (.iaload, 1) := by decide +kernel
theorem dX6_ordersInWhichItJoins_75 : decode cX6_ordersInWhichItJoins 75 = .ok (.iload 5, 2) := by decide +kernel
theorem dX6_ordersInWhichItJoins_77 : decode cX6_ordersInWhichItJoins 77 = .ok (.invokevirtual 195, 3) := by decide +kernel
theorem dX6_ordersInWhichItJoins_80 : decode cX6_ordersInWhichItJoins 80 = .ok (.ifCond .ne 34, 3) := by decide +kernel
theorem dX6_ordersInWhichItJoins_83 : decode cX6_ordersInWhichItJoins 83 = .ok (.iload 5, 2) := by decide +kernel
theorem dX6_ordersInWhichItJoins_85 : decode cX6_ordersInWhichItJoins 85 = .ok (.invokestatic 177, 3) := by decide +kernel
theorem dX6_ordersInWhichItJoins_88 : decode cX6_ordersInWhichItJoins 88 = .ok (.istore 7, 2) := by decide +kernel
theorem dX6_ordersInWhichItJoins_90 : decode cX6_ordersInWhichItJoins 90 = .ok (.lload_n 3, 1) := by decide +kernel
theorem dX6_ordersInWhichItJoins_91 : decode cX6_ordersInWhichItJoins 91 = .ok (.iload 7, 2) := by decide +kernel
theorem dX6_ordersInWhichItJoins_93 : decode cX6_ordersInWhichItJoins 93 = .ok (.invokestatic 257, 3) := by decide +kernel
theorem dX6_ordersInWhichItJoins_96 : decode cX6_ordersInWhichItJoins 96 = .ok (.aload_n 0, 1) := by decide +kernel
theorem dX6_ordersInWhichItJoins_97 : decode cX6_ordersInWhichItJoins 97 = .ok (.getfield 43, 3) := by decide +kernel
theorem dX6_ordersInWhichItJoins_100 : decode cX6_ordersInWhichItJoins 100 = .ok (.getfield 189, 3) := by decide +kernel
theorem dX6_ordersInWhichItJoins_103 : decode cX6_ordersInWhichItJoins 103 = .ok (.iconst 1, 1) := by decide +kernel
theorem dX6_ordersInWhichItJoins_104 : decode cX6_ordersInWhichItJoins 104 = .ok (.isub, 1) := by decide +kernel
theorem dX6_ordersInWhichItJoins_105 : decode cX6_ordersInWhichItJoins 105 = .ok (.iload 7, 2) := by decide +kernel
theorem dX6_ordersInWhichItJoins_107 : decode cX6_ordersInWhichItJoins 107 = .ok (.isub, 1) := by decide +kernel
theorem dX6_ordersInWhichItJoins_108 : decode cX6_ordersInWhichItJoins 108 = .ok (.invokestatic 257, 3) := by decide +kernel
theorem dX6_ordersInWhichItJoins_111 : decode cX6_ordersInWhichItJoins 111 = .ok (.lmul, 1) := by decide +kernel
theorem dX6_ordersInWhichItJoins_112 : decode cX6_ordersInWhichItJoins 112 = .ok (.ladd, 1) := by decide +kernel
theorem dX6_ordersInWhichItJoins_113 : decode cX6_ordersInWhichItJoins 113 = .ok (.lstore_n 3, 1) := by decide +kernel
theorem dX6_ordersInWhichItJoins_114 : decode cX6_ordersInWhichItJoins 114 = .ok (.iinc 5 1, 3) := by decide +kernel
theorem dX6_ordersInWhichItJoins_117 : decode cX6_ordersInWhichItJoins 117 = .ok (.goto (-97), 3) := by decide +kernel
theorem dX6_ordersInWhichItJoins_120 : decode cX6_ordersInWhichItJoins 120 = .ok (.lload_n 3, 1) := by decide +kernel
theorem dX6_ordersInWhichItJoins_121 : decode cX6_ordersInWhichItJoins 121 = .ok (.lreturn, 1) := by decide +kernel
theorem dX6_fails_0 : decode cX6_fails 0 = .ok (.iload_n 1, 1) := by decide +kernel
theorem dX6_fails_1 : decode cX6_fails 1 = .ok (.invokestatic 150, 3) := by decide +kernel
theorem dX6_fails_4 : decode cX6_fails 4 = .ok (.ifCond .eq 17, 3) := by decide +kernel
theorem dX6_fails_7 : decode cX6_fails 7 = .ok (.iload_n 2, 1) := by decide +kernel
theorem dX6_fails_8 : decode cX6_fails 8 = .ok (.invokestatic 150, 3) := by decide +kernel
theorem dX6_fails_11 : decode cX6_fails 11 = .ok (.ifCond .eq 10, 3) := by decide +kernel
theorem dX6_fails_14 : decode cX6_fails 14 = .ok (.iload_n 3, 1) := by decide +kernel
theorem dX6_fails_15 : decode cX6_fails 15 = .ok (.invokestatic 128, 3) := by decide +kernel
theorem dX6_fails_18 : decode cX6_fails 18 = .ok (.ifCond .ne 5, 3) := by decide +kernel
theorem dX6_fails_21 : decode cX6_fails 21 = .ok (.iconst (-1), 1) := by decide +kernel
theorem dX6_fails_22 : decode cX6_fails 22 = .ok (.ireturn, 1) := by decide +kernel
theorem dX6_fails_23 : decode cX6_fails 23 = .ok (.iload 4, 2) := by decide +kernel
theorem dX6_fails_25 : decode cX6_fails 25 = .ok (.ifCond .lt 10, 3) := by decide +kernel
theorem dX6_fails_28 : decode cX6_fails 28 = .ok (.iload 4, 2) := by decide +kernel
theorem dX6_fails_30 : decode cX6_fails 30 = .ok (.bipush 10, 2) := by decide +kernel
theorem dX6_fails_32 : decode cX6_fails 32 = .ok (.if_icmp .le 6, 3) := by decide +kernel
theorem dX6_fails_35 : decode cX6_fails 35 = .ok (.bipush (-2), 2) := by decide +kernel
theorem dX6_fails_37 : decode cX6_fails 37 = .ok (.ireturn, 1) := by decide +kernel
theorem dX6_fails_38 : decode cX6_fails 38 = .ok (.aload_n 0, 1) := by decide +kernel
theorem dX6_fails_39 : decode cX6_fails 39 = .ok (.getfield 43, 3) := by decide +kernel
theorem dX6_fails_42 : decode cX6_fails 42 = .ok (.aload_n 0, 1) := by decide +kernel
theorem dX6_fails_43 : decode cX6_fails 43 = .ok (.getfield 19, 3) := by decide +kernel
theorem dX6_fails_46 : decode cX6_fails 46 = .ok (.iload_n 3, 1) := by decide +kernel
theorem dX6_fails_47 : decode cX6_fails 47 = .ok (.invokevirtual 186, 3) := by decide +kernel
theorem dX6_fails_50 : decode cX6_fails 50 = .ok (.aload_n 0, 1) := by decide +kernel
theorem dX6_fails_51 : decode cX6_fails 51 = .ok (.getfield 43, 3) := by decide +kernel
theorem dX6_fails_54 : decode cX6_fails 54 = .ok (.getfield 189, 3) := by decide +kernel
theorem dX6_fails_57 : decode cX6_fails 57 = .ok (.bipush 8, 2) := by decide +kernel
theorem dX6_fails_59 : decode cX6_fails 59 = .ok (.if_icmp .le 6, 3) := by decide +kernel
theorem dX6_fails_62 : decode cX6_fails 62 = .ok (.bipush (-4), 2) := by decide +kernel
theorem dX6_fails_64 : decode cX6_fails 64 = .ok (.ireturn, 1) := by decide +kernel
theorem dX6_fails_65 : decode cX6_fails 65 = .ok (.aload_n 0, 1) := by decide +kernel
theorem dX6_fails_66 : decode cX6_fails 66 = .ok (.iload_n 1, 1) := by decide +kernel
theorem dX6_fails_67 : decode cX6_fails 67 = .ok (.iload_n 2, 1) := by decide +kernel
theorem dX6_fails_68 : decode cX6_fails 68 = .ok (.iload 4, 2) := by decide +kernel
theorem dX6_fails_70 : decode cX6_fails 70 = .ok (.invokevirtual 267, 3) := by decide +kernel
theorem dX6_fails_73 : decode cX6_fails 73 = .ok (.ldc2_w 271, 3) := by decide +kernel
theorem dX6_fails_76 : decode cX6_fails 76 = .ok (.aload_n 0, 1) := by decide +kernel
theorem dX6_fails_77 : decode cX6_fails 77 = .ok (.getfield 43, 3) := by decide +kernel
theorem dX6_fails_80 : decode cX6_fails 80 = .ok (.getfield 189, 3) := by decide +kernel
theorem dX6_fails_83 : decode cX6_fails 83 = .ok (.invokestatic 209, 3) := by decide +kernel
theorem dX6_fails_86 : decode cX6_fails 86 = .ok (.iload 5, 2) := by decide +kernel
theorem dX6_fails_88 : decode cX6_fails 88 = .ok (.invokestatic 260, 3) := by decide +kernel
theorem dX6_fails_91 : decode cX6_fails 91 = .ok (.ireturn, 1) := by decide +kernel
theorem dX6_chancesOfJoined_0 : decode cX6_chancesOfJoined 0 = .ok (.lconst 0, 1) := by decide +kernel
theorem dX6_chancesOfJoined_1 : decode cX6_chancesOfJoined 1 = .ok (.lstore 4, 2) := by decide +kernel
theorem dX6_chancesOfJoined_3 : decode cX6_chancesOfJoined 3 = .ok (.iconst 0, 1) := by decide +kernel
theorem dX6_chancesOfJoined_4 : decode cX6_chancesOfJoined 4 = .ok (.istore 6, 2) := by decide +kernel
theorem dX6_chancesOfJoined_6 : decode cX6_chancesOfJoined 6 = .ok (.iload 6, 2) := by decide +kernel
theorem dX6_chancesOfJoined_8 : decode cX6_chancesOfJoined 8 = .ok (.aload_n 0, 1) := by decide +kernel
theorem dX6_chancesOfJoined_9 : decode cX6_chancesOfJoined 9 = .ok (.getfield 43, 3) := by decide +kernel
theorem dX6_chancesOfJoined_12 : decode cX6_chancesOfJoined 12 = .ok (.invokevirtual 192, 3) := by decide +kernel
theorem dX6_chancesOfJoined_15 : decode cX6_chancesOfJoined 15 = .ok (.if_icmp .gt 61, 3) := by decide +kernel
theorem dX6_chancesOfJoined_18 : decode cX6_chancesOfJoined 18 = .ok (.aload_n 0, 1) := by decide +kernel
theorem dX6_chancesOfJoined_19 : decode cX6_chancesOfJoined 19 = .ok (.getfield 43, 3) := by decide +kernel
theorem dX6_chancesOfJoined_22 : decode cX6_chancesOfJoined 22 = .ok (.iload_n 1, 1) := by decide +kernel
theorem dX6_chancesOfJoined_23 : decode cX6_chancesOfJoined 23 = .ok (.iload_n 2, 1) := by decide +kernel
theorem dX6_chancesOfJoined_24 : decode cX6_chancesOfJoined 24 = .ok (.iload 6, 2) := by decide +kernel
theorem dX6_chancesOfJoined_26 : decode cX6_chancesOfJoined 26 = .ok (.invokevirtual 195, 3) := by decide +kernel
theorem dX6_chancesOfJoined_29 : decode cX6_chancesOfJoined 29 = .ok (.ifCond .eq 41, 3) := by decide +kernel
theorem dX6_chancesOfJoined_32 : decode cX6_chancesOfJoined 32 = .ok (.iload 6, 2) := by decide +kernel
theorem dX6_chancesOfJoined_34 : decode cX6_chancesOfJoined 34 = .ok (.invokestatic 177, 3) := by decide +kernel
theorem dX6_chancesOfJoined_37 : decode cX6_chancesOfJoined 37 = .ok (.istore 7, 2) := by decide +kernel
theorem dX6_chancesOfJoined_39 : decode cX6_chancesOfJoined 39 = .ok (.lload 4, 2) := by decide +kernel
theorem dX6_chancesOfJoined_41 : decode cX6_chancesOfJoined 41 = .ok (.bipush 10, 2) := by decide +kernel
theorem dX6_chancesOfJoined_43 : decode cX6_chancesOfJoined 43 = .ok (.iload_n 3, 1) := by decide +kernel
theorem dX6_chancesOfJoined_44 : decode cX6_chancesOfJoined 44 = .ok (.isub, 1) := by decide +kernel
theorem dX6_chancesOfJoined_45 : decode cX6_chancesOfJoined 45 = .ok (.i2l, 1) := by decide +kernel
theorem dX6_chancesOfJoined_46 : decode cX6_chancesOfJoined 46 = .ok (.iload 7, 2) := by decide +kernel
theorem dX6_chancesOfJoined_48 : decode cX6_chancesOfJoined 48 = .ok (.invokestatic 209, 3) := by decide +kernel
theorem dX6_chancesOfJoined_51 : decode cX6_chancesOfJoined 51 = .ok (.iload_n 3, 1) := by decide +kernel
theorem dX6_chancesOfJoined_52 : decode cX6_chancesOfJoined 52 = .ok (.i2l, 1) := by decide +kernel
theorem dX6_chancesOfJoined_53 : decode cX6_chancesOfJoined 53 = .ok (.aload_n 0, 1) := by decide +kernel
theorem dX6_chancesOfJoined_54 : decode cX6_chancesOfJoined 54 = .ok (.getfield 43, 3) := by decide +kernel
theorem dX6_chancesOfJoined_57 : decode cX6_chancesOfJoined 57 = .ok (.getfield 189, 3) := by decide +kernel
theorem dX6_chancesOfJoined_60 : decode cX6_chancesOfJoined 60 = .ok (.iload 7, 2) := by decide +kernel
theorem dX6_chancesOfJoined_62 : decode cX6_chancesOfJoined 62 = .ok (.isub, 1) := by decide +kernel
theorem dX6_chancesOfJoined_63 : decode cX6_chancesOfJoined 63 = .ok (.invokestatic 209, 3) := by decide +kernel
theorem dX6_chancesOfJoined_66 : decode cX6_chancesOfJoined 66 = .ok (.lmul, 1) := by decide +kernel
theorem dX6_chancesOfJoined_67 : decode cX6_chancesOfJoined 67 = .ok (.ladd, 1) := by decide +kernel
theorem dX6_chancesOfJoined_68 : decode cX6_chancesOfJoined 68 = .ok (.lstore 4, 2) := by decide +kernel
theorem dX6_chancesOfJoined_70 : decode cX6_chancesOfJoined 70 = .ok (.iinc 6 1, 3) := by decide +kernel
theorem dX6_chancesOfJoined_73 : decode cX6_chancesOfJoined 73 = .ok (.goto (-67), 3) := by decide +kernel
theorem dX6_chancesOfJoined_76 : decode cX6_chancesOfJoined 76 = .ok (.lload 4, 2) := by decide +kernel
theorem dX6_chancesOfJoined_78 : decode cX6_chancesOfJoined 78 = .ok (.lreturn, 1) := by decide +kernel
theorem dX6_seed_0 : decode cX6_seed 0 = .ok (.aload_n 0, 1) := by decide +kernel
theorem dX6_seed_1 : decode cX6_seed 1 = .ok (.getfield 273, 3) := by decide +kernel
theorem dX6_seed_4 : decode cX6_seed 4 = .ok (.lstore_n 3, 1) := by decide +kernel
theorem dX6_seed_5 : decode cX6_seed 5 = .ok (.aload_n 0, 1) := by decide +kernel
theorem dX6_seed_6 : decode cX6_seed 6 = .ok (.lload_n 1, 1) := by decide +kernel
theorem dX6_seed_7 : decode cX6_seed 7 = .ok (.putfield 273, 3) := by decide +kernel
theorem dX6_seed_10 : decode cX6_seed 10 = .ok (.lload_n 3, 1) := by decide +kernel
theorem dX6_seed_11 : decode cX6_seed 11 = .ok (.lreturn, 1) := by decide +kernel
theorem dX6_drawn_0 : decode cX6_drawn 0 = .ok (.iload_n 1, 1) := by decide +kernel
theorem dX6_drawn_1 : decode cX6_drawn 1 = .ok (.iconst 1, 1) := by decide +kernel
theorem dX6_drawn_2 : decode cX6_drawn 2 = .ok (.if_icmp .lt 9, 3) := by decide +kernel
theorem dX6_drawn_5 : decode cX6_drawn 5 = .ok (.iload_n 1, 1) := by decide +kernel
theorem dX6_drawn_6 : decode cX6_drawn 6 = .ok (.bipush 16, 2) := by decide +kernel
theorem dX6_drawn_8 : decode cX6_drawn 8 = .ok (.if_icmp .le 6, 3) := by decide +kernel
theorem dX6_drawn_11 : decode cX6_drawn 11 = .ok (.bipush (-2), 2) := by decide +kernel
theorem dX6_drawn_13 : decode cX6_drawn 13 = .ok (.ireturn, 1) := by decide +kernel
theorem dX6_drawn_14 : decode cX6_drawn 14 = .ok (.aload_n 0, 1) := by decide +kernel
theorem dX6_drawn_15 : decode cX6_drawn 15 = .ok (.getfield 23, 3) := by decide +kernel
theorem dX6_drawn_18 : decode cX6_drawn 18 = .ok (.aload_n 0, 1) := by decide +kernel
theorem dX6_drawn_19 : decode cX6_drawn 19 = .ok (.getfield 19, 3) := by decide +kernel
theorem dX6_drawn_22 : decode cX6_drawn 22 = .ok (.invokevirtual 105, 3) := by decide +kernel
theorem dX6_drawn_25 : decode cX6_drawn 25 = .ok (.iconst 0, 1) := by decide +kernel
theorem dX6_drawn_26 : decode cX6_drawn 26 = .ok (.istore_n 2, 1) := by decide +kernel
theorem dX6_drawn_27 : decode cX6_drawn 27 = .ok (.iconst 0, 1) := by decide +kernel
theorem dX6_drawn_28 : decode cX6_drawn 28 = .ok (.istore_n 3, 1) := by decide +kernel
theorem dX6_drawn_29 : decode cX6_drawn 29 = .ok (.iload_n 3, 1) := by decide +kernel
theorem dX6_drawn_30 : decode cX6_drawn 30 = .ok (.iload_n 1, 1) := by decide +kernel
theorem dX6_drawn_31 : decode cX6_drawn 31 = .ok (.if_icmp .ge 46, 3) := by decide +kernel
theorem dX6_drawn_34 : decode cX6_drawn 34 = .ok (.aload_n 0, 1) := by decide +kernel
theorem dX6_drawn_35 : decode cX6_drawn 35 = .ok (.aload_n 0, 1) := by decide +kernel
theorem dX6_drawn_36 : decode cX6_drawn 36 = .ok (.getfield 273, 3) := by decide +kernel
theorem dX6_drawn_39 : decode cX6_drawn 39 = .ok (.ldc2_w 277, 3) := by decide +kernel
theorem dX6_drawn_42 : decode cX6_drawn 42 = .ok (.lmul, 1) := by decide +kernel
theorem dX6_drawn_43 : decode cX6_drawn 43 = .ok (.ldc2_w 279, 3) := by decide +kernel
theorem dX6_drawn_46 : decode cX6_drawn 46 = .ok (.ladd, 1) := by decide +kernel
theorem dX6_drawn_47 : decode cX6_drawn 47 = .ok (.putfield 273, 3) := by decide +kernel
theorem dX6_drawn_50 : decode cX6_drawn 50 = .ok (.aload_n 0, 1) := by decide +kernel
theorem dX6_drawn_51 : decode cX6_drawn 51 = .ok (.aload_n 0, 1) := by decide +kernel
theorem dX6_drawn_52 : decode cX6_drawn 52 = .ok (.getfield 273, 3) := by decide +kernel
theorem dX6_drawn_55 : decode cX6_drawn 55 = .ok (.bipush 33, 2) := by decide +kernel
theorem dX6_drawn_57 : decode cX6_drawn 57 = .ok (.lushr, 1) := by decide +kernel
theorem dX6_drawn_58 : decode cX6_drawn 58 = .ok (.l2i, 1) := by decide +kernel
theorem dX6_drawn_59 : decode cX6_drawn 59 = .ok (.invokevirtual 281, 3) := by decide +kernel
theorem dX6_drawn_62 : decode cX6_drawn 62 = .ok (.iload_n 2, 1) := by decide +kernel
theorem dX6_drawn_63 : decode cX6_drawn 63 = .ok (.aload_n 0, 1) := by decide +kernel
theorem dX6_drawn_64 : decode cX6_drawn 64 = .ok (.bipush 8, 2) := by decide +kernel
theorem dX6_drawn_66 : decode cX6_drawn 66 = .ok (.invokevirtual 219, 3) := by decide +kernel
theorem dX6_drawn_69 : decode cX6_drawn 69 = .ok (.iadd, 1) := by decide +kernel
theorem dX6_drawn_70 : decode cX6_drawn 70 = .ok (.istore_n 2, 1) := by decide +kernel
theorem dX6_drawn_71 : decode cX6_drawn 71 = .ok (.iinc 3 1, 3) := by decide +kernel
theorem dX6_drawn_74 : decode cX6_drawn 74 = .ok (.goto (-45), 3) := by decide +kernel
theorem dX6_drawn_77 : decode cX6_drawn 77 = .ok (.iload_n 2, 1) := by decide +kernel
theorem dX6_drawn_78 : decode cX6_drawn 78 = .ok (.ireturn, 1) := by decide +kernel
theorem dX6_addDrawn_0 : decode cX6_addDrawn 0 = .ok (.iload_n 1, 1) := by decide +kernel
theorem dX6_addDrawn_1 : decode cX6_addDrawn 1 = .ok (.bipush 64, 2) := by decide +kernel
theorem dX6_addDrawn_3 : decode cX6_addDrawn 3 = .ok (.idiv, 1) := by decide +kernel
theorem dX6_addDrawn_4 : decode cX6_addDrawn 4 = .ok (.bipush 16, 2) := by decide +kernel
theorem dX6_addDrawn_6 : decode cX6_addDrawn 6 = .ok (.irem, 1) := by decide +kernel
theorem dX6_addDrawn_7 : decode cX6_addDrawn 7 = .ok (.istore_n 2, 1) := by decide +kernel
theorem dX6_addDrawn_8 : decode cX6_addDrawn 8 = .ok (.iload_n 2, 1) := by decide +kernel
theorem dX6_addDrawn_9 : decode cX6_addDrawn 9 = .ok (.iload_n 1, 1) := by decide +kernel
theorem dX6_addDrawn_10 : decode cX6_addDrawn 10 = .ok (.sipush 1024, 3) := by decide +kernel
theorem dX6_addDrawn_13 : decode cX6_addDrawn 13 = .ok (.idiv, 1) := by decide +kernel
theorem dX6_addDrawn_14 : decode cX6_addDrawn 14 = .ok (.bipush 16, 2) := by decide +kernel
theorem dX6_addDrawn_16 : decode cX6_addDrawn 16 = .ok (.irem, 1) := by decide +kernel
theorem dX6_addDrawn_17 : decode cX6_addDrawn 17 = .ok (.iadd, 1) := by decide +kernel
theorem dX6_addDrawn_18 : decode cX6_addDrawn 18 = .ok (.bipush 15, 2) := by decide +kernel
theorem dX6_addDrawn_20 : decode cX6_addDrawn 20 = .ok (.invokestatic 285, 3) := by decide +kernel
theorem dX6_addDrawn_23 : decode cX6_addDrawn 23 = .ok (.istore_n 3, 1) := by decide +kernel
theorem dX6_addDrawn_24 : decode cX6_addDrawn 24 = .ok (.aload_n 0, 1) := by decide +kernel
theorem dX6_addDrawn_25 : decode cX6_addDrawn 25 = .ok (.getfield 23, 3) := by decide +kernel
theorem dX6_addDrawn_28 : decode cX6_addDrawn 28 = .ok (.iload_n 1, 1) := by decide +kernel
theorem dX6_addDrawn_29 : decode cX6_addDrawn 29 = .ok (.bipush 8, 2) := by decide +kernel
theorem dX6_addDrawn_31 : decode cX6_addDrawn 31 = .ok (.irem, 1) := by decide +kernel
theorem dX6_addDrawn_32 : decode cX6_addDrawn 32 = .ok (.iload_n 1, 1) := by decide +kernel
theorem dX6_addDrawn_33 : decode cX6_addDrawn 33 = .ok (.bipush 8, 2) := by decide +kernel
theorem dX6_addDrawn_35 : decode cX6_addDrawn 35 = .ok (.idiv, 1) := by decide +kernel
theorem dX6_addDrawn_36 : decode cX6_addDrawn 36 = .ok (.bipush 8, 2) := by decide +kernel
theorem dX6_addDrawn_38 : decode cX6_addDrawn 38 = .ok (.irem, 1) := by decide +kernel
theorem dX6_addDrawn_39 : decode cX6_addDrawn 39 = .ok (.iload_n 2, 1) := by decide +kernel
theorem dX6_addDrawn_40 : decode cX6_addDrawn 40 = .ok (.iload_n 3, 1) := by decide +kernel
theorem dX6_addDrawn_41 : decode cX6_addDrawn 41 = .ok (.invokevirtual 108, 3) := by decide +kernel
theorem dX6_addDrawn_44 : decode cX6_addDrawn 44 = .ok (.pop, 1) := by decide +kernel
theorem dX6_addDrawn_45 : decode cX6_addDrawn 45 = .ok (.return_, 1) := by decide +kernel
theorem dX6_keep_0 : decode cX6_keep 0 = .ok (.iload_n 1, 1) := by decide +kernel
theorem dX6_keep_1 : decode cX6_keep 1 = .ok (.ifCond .lt 8, 3) := by decide +kernel
theorem dX6_keep_4 : decode cX6_keep 4 = .ok (.iload_n 1, 1) := by decide +kernel
theorem dX6_keep_5 : decode cX6_keep 5 = .ok (.iconst 2, 1) := by decide +kernel
theorem dX6_keep_6 : decode cX6_keep 6 = .ok (.if_icmp .lt 5, 3) := by decide +kernel
theorem dX6_keep_9 : decode cX6_keep 9 = .ok (.iconst (-1), 1) := by decide +kernel
theorem dX6_keep_10 : decode cX6_keep 10 = .ok (.ireturn, 1) := by decide +kernel
theorem dX6_keep_11 : decode cX6_keep 11 = .ok (.aload_n 0, 1) := by decide +kernel
theorem dX6_keep_12 : decode cX6_keep 12 = .ok (.getfield 54, 3) := by decide +kernel
theorem dX6_keep_15 : decode cX6_keep 15 = .ok (.iload_n 1, 1) := by decide +kernel
theorem dX6_keep_16 : decode cX6_keep 16 = .ok (.aaload, 1) := by decide +kernel
theorem dX6_keep_17 : decode cX6_keep 17 = .ok (.aload_n 0, 1) := by decide +kernel
theorem dX6_keep_18 : decode cX6_keep 18 = .ok (.getfield 19, 3) := by decide +kernel
theorem dX6_keep_21 : decode cX6_keep 21 = .ok (.invokevirtual 105, 3) := by decide +kernel
theorem dX6_keep_24 : decode cX6_keep 24 = .ok (.aload_n 0, 1) := by decide +kernel
theorem dX6_keep_25 : decode cX6_keep 25 = .ok (.getfield 58, 3) := by decide +kernel
theorem dX6_keep_28 : decode cX6_keep 28 = .ok (.iload_n 1, 1) := by decide +kernel
theorem dX6_keep_29 : decode cX6_keep 29 = .ok (.iconst 1, 1) := by decide +kernel
theorem dX6_keep_30 : decode cX6_keep 30 = .ok (.bastore, 1) := by decide +kernel
theorem dX6_keep_31 : decode cX6_keep 31 = .ok (.aload_n 0, 1) := by decide +kernel
theorem dX6_keep_32 : decode cX6_keep 32 = .ok (.getfield 19, 3) := by decide +kernel
theorem dX6_keep_35 : decode cX6_keep 35 = .ok (.getfield 81, 3) := by decide +kernel
theorem dX6_keep_38 : decode cX6_keep 38 = .ok (.ireturn, 1) := by decide +kernel
theorem dX6_again_0 : decode cX6_again 0 = .ok (.iload_n 1, 1) := by decide +kernel
theorem dX6_again_1 : decode cX6_again 1 = .ok (.ifCond .lt 8, 3) := by decide +kernel
theorem dX6_again_4 : decode cX6_again 4 = .ok (.iload_n 1, 1) := by decide +kernel
theorem dX6_again_5 : decode cX6_again 5 = .ok (.iconst 2, 1) := by decide +kernel
theorem dX6_again_6 : decode cX6_again 6 = .ok (.if_icmp .lt 5, 3) := by decide +kernel
theorem dX6_again_9 : decode cX6_again 9 = .ok (.iconst (-1), 1) := by decide +kernel
theorem dX6_again_10 : decode cX6_again 10 = .ok (.ireturn, 1) := by decide +kernel
theorem dX6_again_11 : decode cX6_again 11 = .ok (.aload_n 0, 1) := by decide +kernel
theorem dX6_again_12 : decode cX6_again 12 = .ok (.getfield 58, 3) := by decide +kernel
theorem dX6_again_15 : decode cX6_again 15 = .ok (.iload_n 1, 1) := by decide +kernel
theorem dX6_again_16 : decode cX6_again 16 = .ok (.baload, 1) := by decide +kernel
theorem dX6_again_17 : decode cX6_again 17 = .ok (.ifCond .ne 6, 3) := by decide +kernel
theorem dX6_again_20 : decode cX6_again 20 = .ok (.bipush (-3), 2) := by decide +kernel
theorem dX6_again_22 : decode cX6_again 22 = .ok (.ireturn, 1) := by decide +kernel
theorem dX6_again_23 : decode cX6_again 23 = .ok (.aload_n 0, 1) := by decide +kernel
theorem dX6_again_24 : decode cX6_again 24 = .ok (.getfield 19, 3) := by decide +kernel
theorem dX6_again_27 : decode cX6_again 27 = .ok (.aload_n 0, 1) := by decide +kernel
theorem dX6_again_28 : decode cX6_again 28 = .ok (.getfield 54, 3) := by decide +kernel
theorem dX6_again_31 : decode cX6_again 31 = .ok (.iload_n 1, 1) := by decide +kernel
theorem dX6_again_32 : decode cX6_again 32 = .ok (.aaload, 1) := by decide +kernel
theorem dX6_again_33 : decode cX6_again 33 = .ok (.invokevirtual 105, 3) := by decide +kernel
theorem dX6_again_36 : decode cX6_again 36 = .ok (.aload_n 0, 1) := by decide +kernel
theorem dX6_again_37 : decode cX6_again 37 = .ok (.getfield 29, 3) := by decide +kernel
theorem dX6_again_40 : decode cX6_again 40 = .ok (.iconst 0, 1) := by decide +kernel
theorem dX6_again_41 : decode cX6_again 41 = .ok (.putfield 78, 3) := by decide +kernel
theorem dX6_again_44 : decode cX6_again 44 = .ok (.aload_n 0, 1) := by decide +kernel
theorem dX6_again_45 : decode cX6_again 45 = .ok (.getfield 19, 3) := by decide +kernel
theorem dX6_again_48 : decode cX6_again 48 = .ok (.getfield 81, 3) := by decide +kernel
theorem dX6_again_51 : decode cX6_again 51 = .ok (.ireturn, 1) := by decide +kernel
theorem dX6_count_0 : decode cX6_count 0 = .ok (.iload_n 1, 1) := by decide +kernel
theorem dX6_count_1 : decode cX6_count 1 = .ok (.tableswitch 87 0 5 #[39, 47, 55, 63, 71, 79], 39) := by decide +kernel
theorem dX6_count_40 : decode cX6_count 40 = .ok (.aload_n 0, 1) := by decide +kernel
theorem dX6_count_41 : decode cX6_count 41 = .ok (.getfield 10, 3) := by decide +kernel
theorem dX6_count_44 : decode cX6_count 44 = .ok (.getfield 66, 3) := by decide +kernel
theorem dX6_count_47 : decode cX6_count 47 = .ok (.ireturn, 1) := by decide +kernel
theorem dX6_count_48 : decode cX6_count 48 = .ok (.aload_n 0, 1) := by decide +kernel
theorem dX6_count_49 : decode cX6_count 49 = .ok (.getfield 19, 3) := by decide +kernel
theorem dX6_count_52 : decode cX6_count 52 = .ok (.getfield 81, 3) := by decide +kernel
theorem dX6_count_55 : decode cX6_count 55 = .ok (.ireturn, 1) := by decide +kernel
theorem dX6_count_56 : decode cX6_count 56 = .ok (.aload_n 0, 1) := by decide +kernel
theorem dX6_count_57 : decode cX6_count 57 = .ok (.getfield 19, 3) := by decide +kernel
theorem dX6_count_60 : decode cX6_count 60 = .ok (.invokevirtual 290, 3) := by decide +kernel
theorem dX6_count_63 : decode cX6_count 63 = .ok (.ireturn, 1) := by decide +kernel
theorem dX6_count_64 : decode cX6_count 64 = .ok (.aload_n 0, 1) := by decide +kernel
theorem dX6_count_65 : decode cX6_count 65 = .ok (.getfield 19, 3) := by decide +kernel
theorem dX6_count_68 : decode cX6_count 68 = .ok (.invokevirtual 293, 3) := by decide +kernel
theorem dX6_count_71 : decode cX6_count 71 = .ok (.ireturn, 1) := by decide +kernel
theorem dX6_count_72 : decode cX6_count 72 = .ok (.aload_n 0, 1) := by decide +kernel
theorem dX6_count_73 : decode cX6_count 73 = .ok (.getfield 29, 3) := by decide +kernel
theorem dX6_count_76 : decode cX6_count 76 = .ok (.getfield 78, 3) := by decide +kernel
theorem dX6_count_79 : decode cX6_count 79 = .ok (.ireturn, 1) := by decide +kernel
theorem dX6_count_80 : decode cX6_count 80 = .ok (.aload_n 0, 1) := by decide +kernel
theorem dX6_count_81 : decode cX6_count 81 = .ok (.getfield 50, 3) := by decide +kernel
theorem dX6_count_84 : decode cX6_count 84 = .ok (.getfield 225, 3) := by decide +kernel
theorem dX6_count_87 : decode cX6_count 87 = .ok (.ireturn, 1) := by decide +kernel
theorem dX6_count_88 : decode cX6_count 88 = .ok (.bipush (-2), 2) := by decide +kernel
theorem dX6_count_90 : decode cX6_count 90 = .ok (.ireturn, 1) := by decide +kernel
theorem dX6_isKnot_0 : decode cX6_isKnot 0 = .ok (.iload_n 0, 1) := by decide +kernel
theorem dX6_isKnot_1 : decode cX6_isKnot 1 = .ok (.ifCond .lt 13, 3) := by decide +kernel
theorem dX6_isKnot_4 : decode cX6_isKnot 4 = .ok (.iload_n 0, 1) := by decide +kernel
theorem dX6_isKnot_5 : decode cX6_isKnot 5 = .ok (.bipush 8, 2) := by decide +kernel
theorem dX6_isKnot_7 : decode cX6_isKnot 7 = .ok (.if_icmp .ge 7, 3) := by decide +kernel
theorem dX6_isKnot_10 : decode cX6_isKnot 10 = .ok (.iconst 1, 1) := by decide +kernel
theorem dX6_isKnot_11 : decode cX6_isKnot 11 = .ok (.goto 4, 3) := by decide +kernel
theorem dX6_isKnot_14 : decode cX6_isKnot 14 = .ok (.iconst 0, 1) := by decide +kernel
theorem dX6_isKnot_15 : decode cX6_isKnot 15 = .ok (.ireturn, 1) := by decide +kernel
theorem dX6_isTime_0 : decode cX6_isTime 0 = .ok (.iload_n 0, 1) := by decide +kernel
theorem dX6_isTime_1 : decode cX6_isTime 1 = .ok (.ifCond .lt 13, 3) := by decide +kernel
theorem dX6_isTime_4 : decode cX6_isTime 4 = .ok (.iload_n 0, 1) := by decide +kernel
theorem dX6_isTime_5 : decode cX6_isTime 5 = .ok (.bipush 16, 2) := by decide +kernel
theorem dX6_isTime_7 : decode cX6_isTime 7 = .ok (.if_icmp .ge 7, 3) := by decide +kernel
theorem dX6_isTime_10 : decode cX6_isTime 10 = .ok (.iconst 1, 1) := by decide +kernel
theorem dX6_isTime_11 : decode cX6_isTime 11 = .ok (.goto 4, 3) := by decide +kernel
theorem dX6_isTime_14 : decode cX6_isTime 14 = .ok (.iconst 0, 1) := by decide +kernel
theorem dX6_isTime_15 : decode cX6_isTime 15 = .ok (.ireturn, 1) := by decide +kernel
theorem dX6_stretch_0 : decode cX6_stretch 0 = .ok (.iload_n 0, 1) := by decide +kernel
theorem dX6_stretch_1 : decode cX6_stretch 1 = .ok (.invokestatic 128, 3) := by decide +kernel
theorem dX6_stretch_4 : decode cX6_stretch 4 = .ok (.ifCond .eq 15, 3) := by decide +kernel
theorem dX6_stretch_7 : decode cX6_stretch 7 = .ok (.iload_n 1, 1) := by decide +kernel
theorem dX6_stretch_8 : decode cX6_stretch 8 = .ok (.invokestatic 128, 3) := by decide +kernel
theorem dX6_stretch_11 : decode cX6_stretch 11 = .ok (.ifCond .eq 8, 3) := by decide +kernel
theorem dX6_stretch_14 : decode cX6_stretch 14 = .ok (.iload_n 1, 1) := by decide +kernel
theorem dX6_stretch_15 : decode cX6_stretch 15 = .ok (.iload_n 0, 1) := by decide +kernel
theorem dX6_stretch_16 : decode cX6_stretch 16 = .ok (.if_icmp .ge 5, 3) := by decide +kernel
theorem dX6_stretch_19 : decode cX6_stretch 19 = .ok (.iconst 0, 1) := by decide +kernel
theorem dX6_stretch_20 : decode cX6_stretch 20 = .ok (.ireturn, 1) := by decide +kernel
theorem dX6_stretch_21 : decode cX6_stretch 21 = .ok (.ldc_w 296, 3) := by decide +kernel
theorem dX6_stretch_24 : decode cX6_stretch 24 = .ok (.bipush 15, 2) := by decide +kernel
theorem dX6_stretch_26 : decode cX6_stretch 26 = .ok (.iload_n 1, 1) := by decide +kernel
theorem dX6_stretch_27 : decode cX6_stretch 27 = .ok (.iload_n 0, 1) := by decide +kernel
theorem dX6_stretch_28 : decode cX6_stretch 28 = .ok (.isub, 1) := by decide +kernel
theorem dX6_stretch_29 : decode cX6_stretch 29 = .ok (.isub, 1) := by decide +kernel
theorem dX6_stretch_30 : decode cX6_stretch 30 = .ok (.ishr, 1) := by decide +kernel
theorem dX6_stretch_31 : decode cX6_stretch 31 = .ok (.iload_n 0, 1) := by decide +kernel
theorem dX6_stretch_32 : decode cX6_stretch 32 = .ok (.ishl, 1) := by decide +kernel
theorem dX6_stretch_33 : decode cX6_stretch 33 = .ok (.ireturn, 1) := by decide +kernel
theorem dX6_lowestBit_0 : decode cX6_lowestBit 0 = .ok (.iconst 0, 1) := by decide +kernel
theorem dX6_lowestBit_1 : decode cX6_lowestBit 1 = .ok (.istore_n 1, 1) := by decide +kernel
theorem dX6_lowestBit_2 : decode cX6_lowestBit 2 = .ok (.iload_n 1, 1) := by decide +kernel
theorem dX6_lowestBit_3 : decode cX6_lowestBit 3 = .ok (.bipush 16, 2) := by decide +kernel
theorem dX6_lowestBit_5 : decode cX6_lowestBit 5 = .ok (.if_icmp .ge 19, 3) := by decide +kernel
theorem dX6_lowestBit_8 : decode cX6_lowestBit 8 = .ok (.iload_n 0, 1) := by decide +kernel
theorem dX6_lowestBit_9 : decode cX6_lowestBit 9 = .ok (.iload_n 1, 1) := by decide +kernel
theorem dX6_lowestBit_10 : decode cX6_lowestBit 10 = .ok (.ishr, 1) := by decide +kernel
theorem dX6_lowestBit_11 : decode cX6_lowestBit 11 = .ok (.iconst 1, 1) := by decide +kernel
theorem dX6_lowestBit_12 : decode cX6_lowestBit 12 = .ok (.iand, 1) := by decide +kernel
theorem dX6_lowestBit_13 : decode cX6_lowestBit 13 = .ok (.ifCond .eq 5, 3) := by decide +kernel
theorem dX6_lowestBit_16 : decode cX6_lowestBit 16 = .ok (.iload_n 1, 1) := by decide +kernel
theorem dX6_lowestBit_17 : decode cX6_lowestBit 17 = .ok (.ireturn, 1) := by decide +kernel
theorem dX6_lowestBit_18 : decode cX6_lowestBit 18 = .ok (.iinc 1 1, 3) := by decide +kernel
theorem dX6_lowestBit_21 : decode cX6_lowestBit 21 = .ok (.goto (-19), 3) := by decide +kernel
theorem dX6_lowestBit_24 : decode cX6_lowestBit 24 = .ok (.bipush (-9), 2) := by decide +kernel
theorem dX6_lowestBit_26 : decode cX6_lowestBit 26 = .ok (.ireturn, 1) := by decide +kernel
theorem dX6_power_0 : decode cX6_power 0 = .ok (.lconst 1, 1) := by decide +kernel
theorem dX6_power_1 : decode cX6_power 1 = .ok (.lstore_n 3, 1) := by decide +kernel
theorem dX6_power_2 : decode cX6_power 2 = .ok (.iconst 0, 1) := by decide +kernel
theorem dX6_power_3 : decode cX6_power 3 = .ok (.istore 5, 2) := by decide +kernel
theorem dX6_power_5 : decode cX6_power 5 = .ok (.iload 5, 2) := by decide +kernel
theorem dX6_power_7 : decode cX6_power 7 = .ok (.iload_n 2, 1) := by decide +kernel
theorem dX6_power_8 : decode cX6_power 8 = .ok (.if_icmp .ge 13, 3) := by decide +kernel
theorem dX6_power_11 : decode cX6_power 11 = .ok (.lload_n 3, 1) := by decide +kernel
theorem dX6_power_12 : decode cX6_power 12 = .ok (.lload_n 0, 1) := by decide +kernel
theorem dX6_power_13 : decode cX6_power 13 = .ok (.lmul, 1) := by decide +kernel
theorem dX6_power_14 : decode cX6_power 14 = .ok (.lstore_n 3, 1) := by decide +kernel
theorem dX6_power_15 : decode cX6_power 15 = .ok (.iinc 5 1, 3) := by decide +kernel
theorem dX6_power_18 : decode cX6_power 18 = .ok (.goto (-13), 3) := by decide +kernel
theorem dX6_power_21 : decode cX6_power 21 = .ok (.lload_n 3, 1) := by decide +kernel
theorem dX6_power_22 : decode cX6_power 22 = .ok (.lreturn, 1) := by decide +kernel
theorem dX6_factorial_0 : decode cX6_factorial 0 = .ok (.lconst 1, 1) := by decide +kernel
theorem dX6_factorial_1 : decode cX6_factorial 1 = .ok (.lstore_n 1, 1) := by decide +kernel
theorem dX6_factorial_2 : decode cX6_factorial 2 = .ok (.iconst 2, 1) := by decide +kernel
theorem dX6_factorial_3 : decode cX6_factorial 3 = .ok (.istore_n 3, 1) := by decide +kernel
theorem dX6_factorial_4 : decode cX6_factorial 4 = .ok (.iload_n 3, 1) := by decide +kernel
theorem dX6_factorial_5 : decode cX6_factorial 5 = .ok (.iload_n 0, 1) := by decide +kernel
theorem dX6_factorial_6 : decode cX6_factorial 6 = .ok (.if_icmp .gt 14, 3) := by decide +kernel
theorem dX6_factorial_9 : decode cX6_factorial 9 = .ok (.lload_n 1, 1) := by decide +kernel
theorem dX6_factorial_10 : decode cX6_factorial 10 = .ok (.iload_n 3, 1) := by decide +kernel
theorem dX6_factorial_11 : decode cX6_factorial 11 = .ok (.i2l, 1) := by decide +kernel
theorem dX6_factorial_12 : decode cX6_factorial 12 = .ok (.lmul, 1) := by decide +kernel
theorem dX6_factorial_13 : decode cX6_factorial 13 = .ok (.lstore_n 1, 1) := by decide +kernel
theorem dX6_factorial_14 : decode cX6_factorial 14 = .ok (.iinc 3 1, 3) := by decide +kernel
theorem dX6_factorial_17 : decode cX6_factorial 17 = .ok (.goto (-13), 3) := by decide +kernel
theorem dX6_factorial_20 : decode cX6_factorial 20 = .ok (.lload_n 1, 1) := by decide +kernel
theorem dX6_factorial_21 : decode cX6_factorial 21 = .ok (.lreturn, 1) := by decide +kernel
theorem dX6_told_0 : decode cX6_told 0 = .ok (.lload_n 0, 1) := by decide +kernel
theorem dX6_told_1 : decode cX6_told 1 = .ok (.lload_n 2, 1) := by decide +kernel
theorem dX6_told_2 : decode cX6_told 2 = .ok (.invokestatic 297, 3) := by decide +kernel
theorem dX6_told_5 : decode cX6_told 5 = .ok (.lstore 5, 2) := by decide +kernel
theorem dX6_told_7 : decode cX6_told 7 = .ok (.lload 5, 2) := by decide +kernel
theorem dX6_told_9 : decode cX6_told 9 = .ok (.lconst 1, 1) := by decide +kernel
theorem dX6_told_10 : decode cX6_told 10 = .ok (.lcmp, 1) := by decide +kernel
theorem dX6_told_11 : decode cX6_told 11 = .ok (.ifCond .ge 5, 3) := by decide +kernel
theorem dX6_told_14 : decode cX6_told 14 = .ok (.iconst 0, 1) := by decide +kernel
theorem dX6_told_15 : decode cX6_told 15 = .ok (.ireturn, 1) := by decide +kernel
theorem dX6_told_16 : decode cX6_told 16 = .ok (.iload 4, 2) := by decide +kernel
theorem dX6_told_18 : decode cX6_told 18 = .ok (.ifCond .eq 7, 3) := by decide +kernel
theorem dX6_told_21 : decode cX6_told 21 = .ok (.lload_n 0, 1) := by decide +kernel
theorem dX6_told_22 : decode cX6_told 22 = .ok (.goto 4, 3) := by decide +kernel
theorem dX6_told_25 : decode cX6_told 25 = .ok (.lload_n 2, 1) := by decide +kernel
theorem dX6_told_26 : decode cX6_told 26 = .ok (.lload 5, 2) := by decide +kernel
theorem dX6_told_28 : decode cX6_told 28 = .ok (.ldiv, 1) := by decide +kernel
theorem dX6_told_29 : decode cX6_told 29 = .ok (.l2i, 1) := by decide +kernel
theorem dX6_told_30 : decode cX6_told 30 = .ok (.ireturn, 1) := by decide +kernel
theorem dX6_commonDivisor_0 : decode cX6_commonDivisor 0 = .ok (.lload_n 0, 1) := by decide +kernel
theorem dX6_commonDivisor_1 : decode cX6_commonDivisor 1 = .ok (.lstore 4, 2) := by decide +kernel
theorem dX6_commonDivisor_3 : decode cX6_commonDivisor 3 = .ok (.lload_n 2, 1) := by decide +kernel
theorem dX6_commonDivisor_4 : decode cX6_commonDivisor 4 = .ok (.lstore 6, 2) := by decide +kernel
theorem dX6_commonDivisor_6 : decode cX6_commonDivisor 6 = .ok (.iconst 0, 1) := by decide +kernel
theorem dX6_commonDivisor_7 : decode cX6_commonDivisor 7 = .ok (.istore 8, 2) := by decide +kernel
theorem dX6_commonDivisor_9 : decode cX6_commonDivisor 9 = .ok (.iload 8, 2) := by decide +kernel
theorem dX6_commonDivisor_11 : decode cX6_commonDivisor 11 = .ok (.bipush 100, 2) := by decide +kernel
theorem dX6_commonDivisor_13 : decode cX6_commonDivisor 13 = .ok (.if_icmp .ge 31, 3) := by decide +kernel
theorem dX6_commonDivisor_16 : decode cX6_commonDivisor 16 = .ok (.lload 6, 2) := by decide +kernel
theorem dX6_commonDivisor_18 : decode cX6_commonDivisor 18 = .ok (.lconst 0, 1) := by decide +kernel
theorem dX6_commonDivisor_19 : decode cX6_commonDivisor 19 = .ok (.lcmp, 1) := by decide +kernel
theorem dX6_commonDivisor_20 : decode cX6_commonDivisor 20 = .ok (.ifCond .eq 24, 3) := by decide +kernel
theorem dX6_commonDivisor_23 : decode cX6_commonDivisor 23 = .ok (.lload 4, 2) := by decide +kernel
theorem dX6_commonDivisor_25 : decode cX6_commonDivisor 25 = .ok (.lload 6, 2) := by decide +kernel
theorem dX6_commonDivisor_27 : decode cX6_commonDivisor 27 = .ok (.lrem, 1) := by decide +kernel
theorem dX6_commonDivisor_28 : decode cX6_commonDivisor 28 = .ok (.lstore 9, 2) := by decide +kernel
theorem dX6_commonDivisor_30 : decode cX6_commonDivisor 30 = .ok (.lload 6, 2) := by decide +kernel
theorem dX6_commonDivisor_32 : decode cX6_commonDivisor 32 = .ok (.lstore 4, 2) := by decide +kernel
theorem dX6_commonDivisor_34 : decode cX6_commonDivisor 34 = .ok (.lload 9, 2) := by decide +kernel
theorem dX6_commonDivisor_36 : decode cX6_commonDivisor 36 = .ok (.lstore 6, 2) := by decide +kernel
theorem dX6_commonDivisor_38 : decode cX6_commonDivisor 38 = .ok (.iinc 8 1, 3) := by decide +kernel
theorem dX6_commonDivisor_41 : decode cX6_commonDivisor 41 = .ok (.goto (-32), 3) := by decide +kernel
theorem dX6_commonDivisor_44 : decode cX6_commonDivisor 44 = .ok (.lload 4, 2) := by decide +kernel
theorem dX6_commonDivisor_46 : decode cX6_commonDivisor 46 = .ok (.lreturn, 1) := by decide +kernel
