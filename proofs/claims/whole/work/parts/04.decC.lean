theorem dX8_init_0 : decode cX8_init 0 = .ok (.aload_n 0, 1) := by decide +kernel
theorem dX8_init_1 : decode cX8_init 1 = .ok (.invokespecial 1, 3) := by decide +kernel
theorem dX8_init_4 : decode cX8_init 4 = .ok (.aload_n 0, 1) := by decide +kernel
theorem dX8_init_5 : decode cX8_init 5 = .ok (.sipush 918, 3) := by decide +kernel
theorem dX8_init_8 : decode cX8_init 8 = .ok (.newarray .int, 2) := by decide +kernel
theorem dX8_init_10 : decode cX8_init 10 = .ok (.putfield 7, 3) := by decide +kernel
theorem dX8_init_13 : decode cX8_init 13 = .ok (.aload_n 0, 1) := by decide +kernel
theorem dX8_init_14 : decode cX8_init 14 = .ok (.sipush 200, 3) := by decide +kernel
theorem dX8_init_17 : decode cX8_init 17 = .ok (.newarray .int, 2) := by decide +kernel
theorem dX8_init_19 : decode cX8_init 19 = .ok (.putfield 13, 3) := by decide +kernel
theorem dX8_init_22 : decode cX8_init 22 = .ok (.aload_n 0, 1) := by decide +kernel
theorem dX8_init_23 : decode cX8_init 23 = .ok (.bipush 20, 2) := by decide +kernel
theorem dX8_init_25 : decode cX8_init 25 = .ok (.newarray .int, 2) := by decide +kernel
theorem dX8_init_27 : decode cX8_init 27 = .ok (.putfield 16, 3) := by decide +kernel
theorem dX8_init_30 : decode cX8_init 30 = .ok (.aload_n 0, 1) := by decide +kernel
theorem dX8_init_31 : decode cX8_init 31 = .ok (.getfield 16, 3) := by decide +kernel
theorem dX8_init_34 : decode cX8_init 34 = .ok (.iconst 0, 1) := by decide +kernel
theorem dX8_init_35 : decode cX8_init 35 = .ok (.iconst 3, 1) := by decide +kernel
theorem dX8_init_36 : decode cX8_init 36 = .ok (.iastore, 1) := by decide +kernel
theorem dX8_init_37 : decode cX8_init 37 = .ok (.aload_n 0, 1) := by decide +kernel
theorem dX8_init_38 : decode cX8_init 38 = .ok (.iconst 0, 1) := by decide +kernel
theorem dX8_init_39 : decode cX8_init 39 = .ok (.iconst 4, 1) := by decide +kernel
theorem dX8_init_40 : decode cX8_init 40 = .ok (.iconst 2, 1) := by decide +kernel
theorem dX8_init_41 : decode cX8_init 41 = .ok (.iconst 3, 1) := by decide +kernel
theorem dX8_init_42 : decode cX8_init 42 = .ok (.invokevirtual 19, 3) := by decide +kernel
theorem dX8_init_45 : decode cX8_init 45 = .ok (.aload_n 0, 1) := by decide +kernel
theorem dX8_init_46 : decode cX8_init 46 = .ok (.iconst 1, 1) := by decide +kernel
theorem dX8_init_47 : decode cX8_init 47 = .ok (.bipush 6, 2) := by decide +kernel
theorem dX8_init_49 : decode cX8_init 49 = .ok (.iconst 0, 1) := by decide +kernel
theorem dX8_init_50 : decode cX8_init 50 = .ok (.iconst 1, 1) := by decide +kernel
theorem dX8_init_51 : decode cX8_init 51 = .ok (.invokevirtual 19, 3) := by decide +kernel
theorem dX8_init_54 : decode cX8_init 54 = .ok (.aload_n 0, 1) := by decide +kernel
theorem dX8_init_55 : decode cX8_init 55 = .ok (.iconst 2, 1) := by decide +kernel
theorem dX8_init_56 : decode cX8_init 56 = .ok (.iconst 2, 1) := by decide +kernel
theorem dX8_init_57 : decode cX8_init 57 = .ok (.iconst 1, 1) := by decide +kernel
theorem dX8_init_58 : decode cX8_init 58 = .ok (.iconst 2, 1) := by decide +kernel
theorem dX8_init_59 : decode cX8_init 59 = .ok (.invokevirtual 19, 3) := by decide +kernel
theorem dX8_init_62 : decode cX8_init 62 = .ok (.aload_n 0, 1) := by decide +kernel
theorem dX8_init_63 : decode cX8_init 63 = .ok (.iconst 5, 1) := by decide +kernel
theorem dX8_init_64 : decode cX8_init 64 = .ok (.bipush 12, 2) := by decide +kernel
theorem dX8_init_66 : decode cX8_init 66 = .ok (.invokevirtual 23, 3) := by decide +kernel
theorem dX8_init_69 : decode cX8_init 69 = .ok (.return_, 1) := by decide +kernel
theorem dX8_within_0 : decode cX8_within 0 = .ok (.iload_n 0, 1) := by decide +kernel
theorem dX8_within_1 : decode cX8_within 1 = .ok (.iload_n 1, 1) := by decide +kernel
theorem dX8_within_2 : decode cX8_within 2 = .ok (.if_icmp .lt 12, 3) := by decide +kernel
theorem dX8_within_5 : decode cX8_within 5 = .ok (.iload_n 0, 1) := by decide +kernel
theorem dX8_within_6 : decode cX8_within 6 = .ok (.iload_n 2, 1) := by decide +kernel
theorem dX8_within_7 : decode cX8_within 7 = .ok (.if_icmp .gt 7, 3) := by decide +kernel
theorem dX8_within_10 : decode cX8_within 10 = .ok (.iconst 1, 1) := by decide +kernel
theorem dX8_within_11 : decode cX8_within 11 = .ok (.goto 4, 3) := by decide +kernel
theorem dX8_within_14 : decode cX8_within 14 = .ok (.iconst 0, 1) := by decide +kernel
theorem dX8_within_15 : decode cX8_within 15 = .ok (.ireturn, 1) := by decide +kernel
theorem dX8_ones_0 : decode cX8_ones 0 = .ok (.iconst 0, 1) := by decide +kernel
theorem dX8_ones_1 : decode cX8_ones 1 = .ok (.istore_n 1, 1) := by decide +kernel
theorem dX8_ones_2 : decode cX8_ones 2 = .ok (.iconst 0, 1) := by decide +kernel
theorem dX8_ones_3 : decode cX8_ones 3 = .ok (.istore_n 2, 1) := by decide +kernel
theorem dX8_ones_4 : decode cX8_ones 4 = .ok (.iload_n 2, 1) := by decide +kernel
theorem dX8_ones_5 : decode cX8_ones 5 = .ok (.bipush 18, 2) := by decide +kernel
theorem dX8_ones_7 : decode cX8_ones 7 = .ok (.if_icmp .ge 17, 3) := by decide +kernel
theorem dX8_ones_10 : decode cX8_ones 10 = .ok (.iload_n 1, 1) := by decide +kernel
theorem dX8_ones_11 : decode cX8_ones 11 = .ok (.iload_n 0, 1) := by decide +kernel
theorem dX8_ones_12 : decode cX8_ones 12 = .ok (.iload_n 2, 1) := by decide +kernel
theorem dX8_ones_13 : decode cX8_ones 13 = .ok (.ishr, 1) := by decide +kernel
theorem dX8_ones_14 : decode cX8_ones 14 = .ok (.iconst 1, 1) := by decide +kernel
theorem dX8_ones_15 : decode cX8_ones 15 = .ok (.iand, 1) := by decide +kernel
theorem dX8_ones_16 : decode cX8_ones 16 = .ok (.iadd, 1) := by decide +kernel
theorem dX8_ones_17 : decode cX8_ones 17 = .ok (.istore_n 1, 1) := by decide +kernel
theorem dX8_ones_18 : decode cX8_ones 18 = .ok (.iinc 2 1, 3) := by decide +kernel
theorem dX8_ones_21 : decode cX8_ones 21 = .ok (.goto (-17), 3) := by decide +kernel
theorem dX8_ones_24 : decode cX8_ones 24 = .ok (.iload_n 1, 1) := by decide +kernel
theorem dX8_ones_25 : decode cX8_ones 25 = .ok (.ireturn, 1) := by decide +kernel
theorem dX8_laysFile_0 : decode cX8_laysFile 0 = .ok (.aload_n 0, 1) := by decide +kernel
theorem dX8_laysFile_1 : decode cX8_laysFile 1 = .ok (.getfield 16, 3) := by decide +kernel
theorem dX8_laysFile_4 : decode cX8_laysFile 4 = .ok (.iconst 1, 1) := by decide +kernel
theorem dX8_laysFile_5 : decode cX8_laysFile 5 = .ok (.iconst 3, 1) := by decide +kernel
theorem dX8_laysFile_6 : decode cX8_laysFile 6 = .ok (.iload_n 1, 1) := by decide +kernel
theorem dX8_laysFile_7 : decode cX8_laysFile 7 = .ok (.imul, 1) := by decide +kernel
theorem dX8_laysFile_8 : decode cX8_laysFile 8 = .ok (.iadd, 1) := by decide +kernel
theorem dX8_laysFile_9 : decode cX8_laysFile 9 = .ok (.iload_n 2, 1) := by decide +kernel
theorem dX8_laysFile_10 : decode cX8_laysFile 10 = .ok (.iastore, 1) := by decide +kernel
theorem dX8_laysFile_11 : decode cX8_laysFile 11 = .ok (.aload_n 0, 1) := by decide +kernel
theorem dX8_laysFile_12 : decode cX8_laysFile 12 = .ok (.getfield 16, 3) := by decide +kernel
theorem dX8_laysFile_15 : decode cX8_laysFile 15 = .ok (.iconst 2, 1) := by decide +kernel
theorem dX8_laysFile_16 : decode cX8_laysFile 16 = .ok (.iconst 3, 1) := by decide +kernel
theorem dX8_laysFile_17 : decode cX8_laysFile 17 = .ok (.iload_n 1, 1) := by decide +kernel
theorem dX8_laysFile_18 : decode cX8_laysFile 18 = .ok (.imul, 1) := by decide +kernel
theorem dX8_laysFile_19 : decode cX8_laysFile 19 = .ok (.iadd, 1) := by decide +kernel
theorem dX8_laysFile_20 : decode cX8_laysFile 20 = .ok (.iload_n 3, 1) := by decide +kernel
theorem dX8_laysFile_21 : decode cX8_laysFile 21 = .ok (.iastore, 1) := by decide +kernel
theorem dX8_laysFile_22 : decode cX8_laysFile 22 = .ok (.aload_n 0, 1) := by decide +kernel
theorem dX8_laysFile_23 : decode cX8_laysFile 23 = .ok (.getfield 16, 3) := by decide +kernel
theorem dX8_laysFile_26 : decode cX8_laysFile 26 = .ok (.iconst 3, 1) := by decide +kernel
theorem dX8_laysFile_27 : decode cX8_laysFile 27 = .ok (.iconst 3, 1) := by decide +kernel
theorem dX8_laysFile_28 : decode cX8_laysFile 28 = .ok (.iload_n 1, 1) := by decide +kernel
theorem dX8_laysFile_29 : decode cX8_laysFile 29 = .ok (.imul, 1) := by decide +kernel
theorem dX8_laysFile_30 : decode cX8_laysFile 30 = .ok (.iadd, 1) := by decide +kernel
theorem dX8_laysFile_31 : decode cX8_laysFile 31 = .ok (.iload 4, 2) := by decide +kernel
theorem dX8_laysFile_33 : decode cX8_laysFile 33 = .ok (.iastore, 1) := by decide +kernel
theorem dX8_laysFile_34 : decode cX8_laysFile 34 = .ok (.return_, 1) := by decide +kernel
theorem dX8_begins_0 : decode cX8_begins 0 = .ok (.iconst 0, 1) := by decide +kernel
theorem dX8_begins_1 : decode cX8_begins 1 = .ok (.istore_n 3, 1) := by decide +kernel
theorem dX8_begins_2 : decode cX8_begins 2 = .ok (.iload_n 3, 1) := by decide +kernel
theorem dX8_begins_3 : decode cX8_begins 3 = .ok (.sipush 153, 3) := by decide +kernel
theorem dX8_begins_6 : decode cX8_begins 6 = .ok (.if_icmp .ge 16, 3) := by decide +kernel
theorem dX8_begins_9 : decode cX8_begins 9 = .ok (.aload_n 0, 1) := by decide +kernel
theorem dX8_begins_10 : decode cX8_begins 10 = .ok (.getfield 7, 3) := by decide +kernel
theorem dX8_begins_13 : decode cX8_begins 13 = .ok (.iload_n 3, 1) := by decide +kernel
theorem dX8_begins_14 : decode cX8_begins 14 = .ok (.iconst 0, 1) := by decide +kernel
theorem dX8_begins_15 : decode cX8_begins 15 = .ok (.iastore, 1) := by decide +kernel
theorem dX8_begins_16 : decode cX8_begins 16 = .ok (.iinc 3 1, 3) := by decide +kernel
theorem dX8_begins_19 : decode cX8_begins 19 = .ok (.goto (-17), 3) := by decide +kernel
theorem dX8_begins_22 : decode cX8_begins 22 = .ok (.aload_n 0, 1) := by decide +kernel
theorem dX8_begins_23 : decode cX8_begins 23 = .ok (.getfield 7, 3) := by decide +kernel
theorem dX8_begins_26 : decode cX8_begins 26 = .ok (.bipush 42, 2) := by decide +kernel
theorem dX8_begins_28 : decode cX8_begins 28 = .ok (.aload_n 0, 1) := by decide +kernel
theorem dX8_begins_29 : decode cX8_begins 29 = .ok (.getfield 16, 3) := by decide +kernel
theorem dX8_begins_32 : decode cX8_begins 32 = .ok (.iconst 0, 1) := by decide +kernel
theorem dX8_begins_33 : decode cX8_begins 33 = .ok (.iaload, 1) := by decide +kernel
theorem dX8_begins_34 : decode cX8_begins 34 = .ok (.iastore, 1) := by decide +kernel
theorem dX8_begins_35 : decode cX8_begins 35 = .ok (.iconst 0, 1) := by decide +kernel
theorem dX8_begins_36 : decode cX8_begins 36 = .ok (.istore_n 3, 1) := by decide +kernel
theorem dX8_begins_37 : decode cX8_begins 37 = .ok (.iload_n 3, 1) := by decide +kernel
theorem dX8_begins_38 : decode cX8_begins 38 = .ok (.aload_n 0, 1) := by decide +kernel
theorem dX8_begins_39 : decode cX8_begins 39 = .ok (.getfield 16, 3) := by decide +kernel
theorem dX8_begins_42 : decode cX8_begins 42 = .ok (.iconst 0, 1) := by decide +kernel
theorem dX8_begins_43 : decode cX8_begins 43 = .ok (.iaload, 1) := by decide +kernel
theorem dX8_begins_44 : decode cX8_begins 44 = .ok (.if_icmp .ge 65, 3) := by decide +kernel
theorem dX8_begins_47 : decode cX8_begins 47 = .ok (.aload_n 0, 1) := by decide +kernel
theorem dX8_begins_48 : decode cX8_begins 48 = .ok (.getfield 7, 3) := by decide +kernel
theorem dX8_begins_51 : decode cX8_begins 51 = .ok (.iconst 0, 1) := by decide +kernel
theorem dX8_begins_52 : decode cX8_begins 52 = .ok (.iload_n 3, 1) := by decide +kernel
theorem dX8_begins_53 : decode cX8_begins 53 = .ok (.iadd, 1) := by decide +kernel
theorem dX8_begins_54 : decode cX8_begins 54 = .ok (.aload_n 0, 1) := by decide +kernel
theorem dX8_begins_55 : decode cX8_begins 55 = .ok (.getfield 16, 3) := by decide +kernel
theorem dX8_begins_58 : decode cX8_begins 58 = .ok (.iconst 1, 1) := by decide +kernel
theorem dX8_begins_59 : decode cX8_begins 59 = .ok (.iconst 3, 1) := by decide +kernel
theorem dX8_begins_60 : decode cX8_begins 60 = .ok (.iload_n 3, 1) := by decide +kernel
theorem dX8_begins_61 : decode cX8_begins 61 = .ok (.imul, 1) := by decide +kernel
theorem dX8_begins_62 : decode cX8_begins 62 = .ok (.iadd, 1) := by decide +kernel
theorem dX8_begins_63 : decode cX8_begins 63 = .ok (.iaload, 1) := by decide +kernel
theorem dX8_begins_64 : decode cX8_begins 64 = .ok (.iastore, 1) := by decide +kernel
theorem dX8_begins_65 : decode cX8_begins 65 = .ok (.aload_n 0, 1) := by decide +kernel
theorem dX8_begins_66 : decode cX8_begins 66 = .ok (.getfield 7, 3) := by decide +kernel
theorem dX8_begins_69 : decode cX8_begins 69 = .ok (.bipush 6, 2) := by decide +kernel
theorem dX8_begins_71 : decode cX8_begins 71 = .ok (.iload_n 3, 1) := by decide +kernel
theorem dX8_begins_72 : decode cX8_begins 72 = .ok (.iadd, 1) := by decide +kernel
theorem dX8_begins_73 : decode cX8_begins 73 = .ok (.aload_n 0, 1) := by decide +kernel
theorem dX8_begins_74 : decode cX8_begins 74 = .ok (.getfield 16, 3) := by decide +kernel
theorem dX8_begins_77 : decode cX8_begins 77 = .ok (.iconst 2, 1) := by decide +kernel
theorem dX8_begins_78 : decode cX8_begins 78 = .ok (.iconst 3, 1) := by decide +kernel
theorem dX8_begins_79 : decode cX8_begins 79 = .ok (.iload_n 3, 1) := by decide +kernel
theorem dX8_begins_80 : decode cX8_begins 80 = .ok (.imul, 1) := by decide +kernel
theorem dX8_begins_81 : decode cX8_begins 81 = .ok (.iadd, 1) := by decide +kernel
theorem dX8_begins_82 : decode cX8_begins 82 = .ok (.iaload, 1) := by decide +kernel
theorem dX8_begins_83 : decode cX8_begins 83 = .ok (.iastore, 1) := by decide +kernel
theorem dX8_begins_84 : decode cX8_begins 84 = .ok (.aload_n 0, 1) := by decide +kernel
theorem dX8_begins_85 : decode cX8_begins 85 = .ok (.getfield 7, 3) := by decide +kernel
theorem dX8_begins_88 : decode cX8_begins 88 = .ok (.bipush 12, 2) := by decide +kernel
theorem dX8_begins_90 : decode cX8_begins 90 = .ok (.iload_n 3, 1) := by decide +kernel
theorem dX8_begins_91 : decode cX8_begins 91 = .ok (.iadd, 1) := by decide +kernel
theorem dX8_begins_92 : decode cX8_begins 92 = .ok (.aload_n 0, 1) := by decide +kernel
theorem dX8_begins_93 : decode cX8_begins 93 = .ok (.getfield 16, 3) := by decide +kernel
theorem dX8_begins_96 : decode cX8_begins 96 = .ok (.iconst 3, 1) := by decide +kernel
theorem dX8_begins_97 : decode cX8_begins 97 = .ok (.iconst 3, 1) := by decide +kernel
theorem dX8_begins_98 : decode cX8_begins 98 = .ok (.iload_n 3, 1) := by decide +kernel
theorem dX8_begins_99 : decode cX8_begins 99 = .ok (.imul, 1) := by decide +kernel
theorem dX8_begins_100 : decode cX8_begins 100 = .ok (.iadd, 1) := by decide +kernel
theorem dX8_begins_101 : decode cX8_begins 101 = .ok (.iaload, 1) := by decide +kernel
theorem dX8_begins_102 : decode cX8_begins 102 = .ok (.iastore, 1) := by decide +kernel
theorem dX8_begins_103 : decode cX8_begins 103 = .ok (.iinc 3 1, 3) := by decide +kernel
theorem dX8_begins_106 : decode cX8_begins 106 = .ok (.goto (-69), 3) := by decide +kernel
theorem dX8_begins_109 : decode cX8_begins 109 = .ok (.aload_n 0, 1) := by decide +kernel
theorem dX8_begins_110 : decode cX8_begins 110 = .ok (.getfield 7, 3) := by decide +kernel
theorem dX8_begins_113 : decode cX8_begins 113 = .ok (.bipush 43, 2) := by decide +kernel
theorem dX8_begins_115 : decode cX8_begins 115 = .ok (.iload_n 1, 1) := by decide +kernel
theorem dX8_begins_116 : decode cX8_begins 116 = .ok (.iastore, 1) := by decide +kernel
theorem dX8_begins_117 : decode cX8_begins 117 = .ok (.aload_n 0, 1) := by decide +kernel
theorem dX8_begins_118 : decode cX8_begins 118 = .ok (.getfield 7, 3) := by decide +kernel
theorem dX8_begins_121 : decode cX8_begins 121 = .ok (.bipush 44, 2) := by decide +kernel
theorem dX8_begins_123 : decode cX8_begins 123 = .ok (.iload_n 2, 1) := by decide +kernel
theorem dX8_begins_124 : decode cX8_begins 124 = .ok (.iastore, 1) := by decide +kernel
theorem dX8_begins_125 : decode cX8_begins 125 = .ok (.aload_n 0, 1) := by decide +kernel
theorem dX8_begins_126 : decode cX8_begins 126 = .ok (.iconst 0, 1) := by decide +kernel
theorem dX8_begins_127 : decode cX8_begins 127 = .ok (.putfield 27, 3) := by decide +kernel
theorem dX8_begins_130 : decode cX8_begins 130 = .ok (.return_, 1) := by decide +kernel
theorem dX8_write_0 : decode cX8_write 0 = .ok (.iload_n 1, 1) := by decide +kernel
theorem dX8_write_1 : decode cX8_write 1 = .ok (.bipush 32, 2) := by decide +kernel
theorem dX8_write_3 : decode cX8_write 3 = .ok (.bipush 126, 2) := by decide +kernel
theorem dX8_write_5 : decode cX8_write 5 = .ok (.invokestatic 31, 3) := by decide +kernel
theorem dX8_write_8 : decode cX8_write 8 = .ok (.ifCond .ne 5, 3) := by decide +kernel
theorem dX8_write_11 : decode cX8_write 11 = .ok (.iconst (-1), 1) := by decide +kernel
theorem dX8_write_12 : decode cX8_write 12 = .ok (.ireturn, 1) := by decide +kernel
theorem dX8_write_13 : decode cX8_write 13 = .ok (.aload_n 0, 1) := by decide +kernel
theorem dX8_write_14 : decode cX8_write 14 = .ok (.getfield 35, 3) := by decide +kernel
theorem dX8_write_17 : decode cX8_write 17 = .ok (.sipush 200, 3) := by decide +kernel
theorem dX8_write_20 : decode cX8_write 20 = .ok (.if_icmp .ne 6, 3) := by decide +kernel
theorem dX8_write_23 : decode cX8_write 23 = .ok (.bipush (-3), 2) := by decide +kernel
theorem dX8_write_25 : decode cX8_write 25 = .ok (.ireturn, 1) := by decide +kernel
theorem dX8_write_26 : decode cX8_write 26 = .ok (.aload_n 0, 1) := by decide +kernel
theorem dX8_write_27 : decode cX8_write 27 = .ok (.getfield 13, 3) := by decide +kernel
theorem dX8_write_30 : decode cX8_write 30 = .ok (.aload_n 0, 1) := by decide +kernel
theorem dX8_write_31 : decode cX8_write 31 = .ok (.getfield 35, 3) := by decide +kernel
theorem dX8_write_34 : decode cX8_write 34 = .ok (.iload_n 1, 1) := by decide +kernel
theorem dX8_write_35 : decode cX8_write 35 = .ok (.iastore, 1) := by decide +kernel
theorem dX8_write_36 : decode cX8_write 36 = .ok (.aload_n 0, 1) := by decide +kernel
theorem dX8_write_37 : decode cX8_write 37 = .ok (.dup, 1) := by decide +kernel
theorem dX8_write_38 : decode cX8_write 38 = .ok (.getfield 35, 3) := by decide +kernel
theorem dX8_write_41 : decode cX8_write 41 = .ok (.iconst 1, 1) := by decide +kernel
theorem dX8_write_42 : decode cX8_write 42 = .ok (.iadd, 1) := by decide +kernel
theorem dX8_write_43 : decode cX8_write 43 = .ok (.putfield 35, 3) := by decide +kernel
theorem dX8_write_46 : decode cX8_write 46 = .ok (.aload_n 0, 1) := by decide +kernel
theorem dX8_write_47 : decode cX8_write 47 = .ok (.getfield 35, 3) := by decide +kernel
theorem dX8_write_50 : decode cX8_write 50 = .ok (.ireturn, 1) := by decide +kernel
theorem dX8_wipe_0 : decode cX8_wipe 0 = .ok (.aload_n 0, 1) := by decide +kernel
theorem dX8_wipe_1 : decode cX8_wipe 1 = .ok (.getfield 35, 3) := by decide +kernel
theorem dX8_wipe_4 : decode cX8_wipe 4 = .ok (.istore_n 1, 1) := by decide +kernel
theorem dX8_wipe_5 : decode cX8_wipe 5 = .ok (.aload_n 0, 1) := by decide +kernel
theorem dX8_wipe_6 : decode cX8_wipe 6 = .ok (.iconst 0, 1) := by decide +kernel
theorem dX8_wipe_7 : decode cX8_wipe 7 = .ok (.putfield 35, 3) := by decide +kernel
theorem dX8_wipe_10 : decode cX8_wipe 10 = .ok (.iload_n 1, 1) := by decide +kernel
theorem dX8_wipe_11 : decode cX8_wipe 11 = .ok (.ireturn, 1) := by decide +kernel
theorem dX8_here_0 : decode cX8_here 0 = .ok (.aload_n 0, 1) := by decide +kernel
theorem dX8_here_1 : decode cX8_here 1 = .ok (.getfield 38, 3) := by decide +kernel
theorem dX8_here_4 : decode cX8_here 4 = .ok (.aload_n 0, 1) := by decide +kernel
theorem dX8_here_5 : decode cX8_here 5 = .ok (.getfield 35, 3) := by decide +kernel
theorem dX8_here_8 : decode cX8_here 8 = .ok (.if_icmp .ge 15, 3) := by decide +kernel
theorem dX8_here_11 : decode cX8_here 11 = .ok (.aload_n 0, 1) := by decide +kernel
theorem dX8_here_12 : decode cX8_here 12 = .ok (.getfield 13, 3) := by decide +kernel
theorem dX8_here_15 : decode cX8_here 15 = .ok (.aload_n 0, 1) := by decide +kernel
theorem dX8_here_16 : decode cX8_here 16 = .ok (.getfield 38, 3) := by decide +kernel
theorem dX8_here_19 : decode cX8_here 19 = .ok (.iaload, 1) := by decide +kernel
theorem dX8_here_20 : decode cX8_here 20 = .ok (.goto 4, 3) := by decide +kernel
theorem dX8_here_23 : decode cX8_here 23 = .ok (.iconst 0, 1) := by decide +kernel
theorem dX8_here_24 : decode cX8_here 24 = .ok (.ireturn, 1) := by decide +kernel
theorem dX8_passes_0 : decode cX8_passes 0 = .ok (.iconst 0, 1) := by decide +kernel
theorem dX8_passes_1 : decode cX8_passes 1 = .ok (.istore 4, 2) := by decide +kernel
theorem dX8_passes_3 : decode cX8_passes 3 = .ok (.aload_n 0, 1) := by decide +kernel
theorem dX8_passes_4 : decode cX8_passes 4 = .ok (.iconst 0, 1) := by decide +kernel
theorem dX8_passes_5 : decode cX8_passes 5 = .ok (.putfield 41, 3) := by decide +kernel
theorem dX8_passes_8 : decode cX8_passes 8 = .ok (.aload_n 0, 1) := by decide +kernel
theorem dX8_passes_9 : decode cX8_passes 9 = .ok (.invokevirtual 44, 3) := by decide +kernel
theorem dX8_passes_12 : decode cX8_passes 12 = .ok (.bipush 48, 2) := by decide +kernel
theorem dX8_passes_14 : decode cX8_passes 14 = .ok (.bipush 57, 2) := by decide +kernel
theorem dX8_passes_16 : decode cX8_passes 16 = .ok (.invokestatic 31, 3) := by decide +kernel
theorem dX8_passes_19 : decode cX8_passes 19 = .ok (.ifCond .eq 44, 3) := by decide +kernel
theorem dX8_passes_22 : decode cX8_passes 22 = .ok (.iload 4, 2) := by decide +kernel
theorem dX8_passes_24 : decode cX8_passes 24 = .ok (.iconst 2, 1) := by decide +kernel
theorem dX8_passes_25 : decode cX8_passes 25 = .ok (.if_icmp .ge 38, 3) := by decide +kernel
theorem dX8_passes_28 : decode cX8_passes 28 = .ok (.aload_n 0, 1) := by decide +kernel
theorem dX8_passes_29 : decode cX8_passes 29 = .ok (.bipush 10, 2) := by decide +kernel
theorem dX8_passes_31 : decode cX8_passes 31 = .ok (.aload_n 0, 1) := by decide +kernel
theorem dX8_passes_32 : decode cX8_passes 32 = .ok (.getfield 41, 3) := by decide +kernel
theorem dX8_passes_35 : decode cX8_passes 35 = .ok (.imul, 1) := by decide +kernel
theorem dX8_passes_36 : decode cX8_passes 36 = .ok (.aload_n 0, 1) := by decide +kernel
theorem dX8_passes_37 : decode cX8_passes 37 = .ok (.invokevirtual 44, 3) := by decide +kernel
theorem dX8_passes_40 : decode cX8_passes 40 = .ok (.iadd, 1) := by decide +kernel
theorem dX8_passes_41 : decode cX8_passes 41 = .ok (.bipush 48, 2) := by decide +kernel
theorem dX8_passes_43 : decode cX8_passes 43 = .ok (.isub, 1) := by decide +kernel
theorem dX8_passes_44 : decode cX8_passes 44 = .ok (.putfield 41, 3) := by decide +kernel
theorem dX8_passes_47 : decode cX8_passes 47 = .ok (.aload_n 0, 1) := by decide +kernel
theorem dX8_passes_48 : decode cX8_passes 48 = .ok (.dup, 1) := by decide +kernel
theorem dX8_passes_49 : decode cX8_passes 49 = .ok (.getfield 38, 3) := by decide +kernel
theorem dX8_passes_52 : decode cX8_passes 52 = .ok (.iconst 1, 1) := by decide +kernel
theorem dX8_passes_53 : decode cX8_passes 53 = .ok (.iadd, 1) := by decide +kernel
theorem dX8_passes_54 : decode cX8_passes 54 = .ok (.putfield 38, 3) := by decide +kernel
theorem dX8_passes_57 : decode cX8_passes 57 = .ok (.iinc 4 1, 3) := by decide +kernel
theorem dX8_passes_60 : decode cX8_passes 60 = .ok (.goto (-52), 3) := by decide +kernel
theorem dX8_passes_63 : decode cX8_passes 63 = .ok (.iload 4, 2) := by decide +kernel
theorem dX8_passes_65 : decode cX8_passes 65 = .ok (.ifCond .le 27, 3) := by decide +kernel
theorem dX8_passes_68 : decode cX8_passes 68 = .ok (.aload_n 0, 1) := by decide +kernel
theorem dX8_passes_69 : decode cX8_passes 69 = .ok (.getfield 41, 3) := by decide +kernel
theorem dX8_passes_72 : decode cX8_passes 72 = .ok (.iload_n 1, 1) := by decide +kernel
theorem dX8_passes_73 : decode cX8_passes 73 = .ok (.iload_n 2, 1) := by decide +kernel
theorem dX8_passes_74 : decode cX8_passes 74 = .ok (.invokestatic 31, 3) := by decide +kernel
theorem dX8_passes_77 : decode cX8_passes 77 = .ok (.ifCond .eq 15, 3) := by decide +kernel
theorem dX8_passes_80 : decode cX8_passes 80 = .ok (.aload_n 0, 1) := by decide +kernel
theorem dX8_passes_81 : decode cX8_passes 81 = .ok (.invokevirtual 44, 3) := by decide +kernel
theorem dX8_passes_84 : decode cX8_passes 84 = .ok (.iload_n 3, 1) := by decide +kernel
theorem dX8_passes_85 : decode cX8_passes 85 = .ok (.if_icmp .ne 7, 3) := by decide +kernel
theorem dX8_passes_88 : decode cX8_passes 88 = .ok (.iconst 1, 1) := by decide +kernel
theorem dX8_passes_89 : decode cX8_passes 89 = .ok (.goto 4, 3) := by decide +kernel
theorem dX8_passes_92 : decode cX8_passes 92 = .ok (.iconst 0, 1) := by decide +kernel
theorem dX8_passes_93 : decode cX8_passes 93 = .ok (.istore 5, 2) := by decide +kernel
theorem dX8_passes_95 : decode cX8_passes 95 = .ok (.aload_n 0, 1) := by decide +kernel
theorem dX8_passes_96 : decode cX8_passes 96 = .ok (.dup, 1) := by decide +kernel
theorem dX8_passes_97 : decode cX8_passes 97 = .ok (.getfield 38, 3) := by decide +kernel
theorem dX8_passes_100 : decode cX8_passes 100 = .ok (.iconst 1, 1) := by decide +kernel
theorem dX8_passes_101 : decode cX8_passes 101 = .ok (.iadd, 1) := by decide +kernel
theorem dX8_passes_102 : decode cX8_passes 102 = .ok (.putfield 38, 3) := by decide +kernel
theorem dX8_passes_105 : decode cX8_passes 105 = .ok (.iload 5, 2) := by decide +kernel
theorem dX8_passes_107 : decode cX8_passes 107 = .ok (.ireturn, 1) := by decide +kernel
theorem dX8_passesFile_0 : decode cX8_passesFile 0 = .ok (.aload_n 0, 1) := by decide +kernel
theorem dX8_passesFile_1 : decode cX8_passesFile 1 = .ok (.getfield 16, 3) := by decide +kernel
theorem dX8_passesFile_4 : decode cX8_passesFile 4 = .ok (.iconst 0, 1) := by decide +kernel
theorem dX8_passesFile_5 : decode cX8_passesFile 5 = .ok (.iaload, 1) := by decide +kernel
theorem dX8_passesFile_6 : decode cX8_passesFile 6 = .ok (.istore_n 1, 1) := by decide +kernel
theorem dX8_passesFile_7 : decode cX8_passesFile 7 = .ok (.iload_n 1, 1) := by decide +kernel
theorem dX8_passesFile_8 : decode cX8_passesFile 8 = .ok (.bipush 6, 2) := by decide +kernel
theorem dX8_passesFile_10 : decode cX8_passesFile 10 = .ok (.if_icmp .eq 15, 3) := by decide +kernel
theorem dX8_passesFile_13 : decode cX8_passesFile 13 = .ok (.aload_n 0, 1) := by decide +kernel
theorem dX8_passesFile_14 : decode cX8_passesFile 14 = .ok (.iconst 1, 1) := by decide +kernel
theorem dX8_passesFile_15 : decode cX8_passesFile 15 = .ok (.bipush 12, 2) := by decide +kernel
theorem dX8_passesFile_17 : decode cX8_passesFile 17 = .ok (.bipush 44, 2) := by decide +kernel
theorem dX8_passesFile_19 : decode cX8_passesFile 19 = .ok (.invokevirtual 48, 3) := by decide +kernel
theorem dX8_passesFile_22 : decode cX8_passesFile 22 = .ok (.ifCond .ne 5, 3) := by decide +kernel
theorem dX8_passesFile_25 : decode cX8_passesFile 25 = .ok (.iconst 0, 1) := by decide +kernel
theorem dX8_passesFile_26 : decode cX8_passesFile 26 = .ok (.ireturn, 1) := by decide +kernel
theorem dX8_passesFile_27 : decode cX8_passesFile 27 = .ok (.aload_n 0, 1) := by decide +kernel
theorem dX8_passesFile_28 : decode cX8_passesFile 28 = .ok (.getfield 41, 3) := by decide +kernel
theorem dX8_passesFile_31 : decode cX8_passesFile 31 = .ok (.istore_n 2, 1) := by decide +kernel
theorem dX8_passesFile_32 : decode cX8_passesFile 32 = .ok (.aload_n 0, 1) := by decide +kernel
theorem dX8_passesFile_33 : decode cX8_passesFile 33 = .ok (.iconst 0, 1) := by decide +kernel
theorem dX8_passesFile_34 : decode cX8_passesFile 34 = .ok (.bipush 6, 2) := by decide +kernel
theorem dX8_passesFile_36 : decode cX8_passesFile 36 = .ok (.bipush 44, 2) := by decide +kernel
theorem dX8_passesFile_38 : decode cX8_passesFile 38 = .ok (.invokevirtual 48, 3) := by decide +kernel
theorem dX8_passesFile_41 : decode cX8_passesFile 41 = .ok (.ifCond .ne 5, 3) := by decide +kernel
theorem dX8_passesFile_44 : decode cX8_passesFile 44 = .ok (.iconst 0, 1) := by decide +kernel
theorem dX8_passesFile_45 : decode cX8_passesFile 45 = .ok (.ireturn, 1) := by decide +kernel
theorem dX8_passesFile_46 : decode cX8_passesFile 46 = .ok (.aload_n 0, 1) := by decide +kernel
theorem dX8_passesFile_47 : decode cX8_passesFile 47 = .ok (.getfield 41, 3) := by decide +kernel
theorem dX8_passesFile_50 : decode cX8_passesFile 50 = .ok (.istore_n 3, 1) := by decide +kernel
theorem dX8_passesFile_51 : decode cX8_passesFile 51 = .ok (.aload_n 0, 1) := by decide +kernel
theorem dX8_passesFile_52 : decode cX8_passesFile 52 = .ok (.iconst 1, 1) := by decide +kernel
theorem dX8_passesFile_53 : decode cX8_passesFile 53 = .ok (.bipush 9, 2) := by decide +kernel
theorem dX8_passesFile_55 : decode cX8_passesFile 55 = .ok (.bipush 59, 2) := by decide +kernel
theorem dX8_passesFile_57 : decode cX8_passesFile 57 = .ok (.invokevirtual 48, 3) := by decide +kernel
theorem dX8_passesFile_60 : decode cX8_passesFile 60 = .ok (.ifCond .ne 5, 3) := by decide +kernel
theorem dX8_passesFile_63 : decode cX8_passesFile 63 = .ok (.iconst 0, 1) := by decide +kernel
theorem dX8_passesFile_64 : decode cX8_passesFile 64 = .ok (.ireturn, 1) := by decide +kernel
theorem dX8_passesFile_65 : decode cX8_passesFile 65 = .ok (.aload_n 0, 1) := by decide +kernel
theorem dX8_passesFile_66 : decode cX8_passesFile 66 = .ok (.iload_n 1, 1) := by decide +kernel
theorem dX8_passesFile_67 : decode cX8_passesFile 67 = .ok (.iload_n 2, 1) := by decide +kernel
theorem dX8_passesFile_68 : decode cX8_passesFile 68 = .ok (.iload_n 3, 1) := by decide +kernel
theorem dX8_passesFile_69 : decode cX8_passesFile 69 = .ok (.aload_n 0, 1) := by decide +kernel
theorem dX8_passesFile_70 : decode cX8_passesFile 70 = .ok (.getfield 41, 3) := by decide +kernel
theorem dX8_passesFile_73 : decode cX8_passesFile 73 = .ok (.invokevirtual 19, 3) := by decide +kernel
theorem dX8_passesFile_76 : decode cX8_passesFile 76 = .ok (.aload_n 0, 1) := by decide +kernel
theorem dX8_passesFile_77 : decode cX8_passesFile 77 = .ok (.getfield 16, 3) := by decide +kernel
theorem dX8_passesFile_80 : decode cX8_passesFile 80 = .ok (.iconst 0, 1) := by decide +kernel
theorem dX8_passesFile_81 : decode cX8_passesFile 81 = .ok (.dup2, 1) := by decide +kernel
theorem dX8_passesFile_82 : decode cX8_passesFile 82 = .ok (.iaload, 1) := by decide +kernel
theorem dX8_passesFile_83 : decode cX8_passesFile 83 = .ok (.iconst 1, 1) := by decide +kernel
theorem dX8_passesFile_84 : decode cX8_passesFile 84 = .ok (.iadd, 1) := by decide +kernel
theorem dX8_passesFile_85 : decode cX8_passesFile 85 = .ok (.iastore, 1) := by decide +kernel
theorem dX8_passesFile_86 : decode cX8_passesFile 86 = .ok (.iconst 1, 1) := by decide +kernel
theorem dX8_passesFile_87 : decode cX8_passesFile 87 = .ok (.ireturn, 1) := by decide +kernel
theorem dX8_passesTable_0 : decode cX8_passesTable 0 = .ok (.aload_n 0, 1) := by decide +kernel
theorem dX8_passesTable_1 : decode cX8_passesTable 1 = .ok (.iconst 3, 1) := by decide +kernel
theorem dX8_passesTable_2 : decode cX8_passesTable 2 = .ok (.bipush 20, 2) := by decide +kernel
theorem dX8_passesTable_4 : decode cX8_passesTable 4 = .ok (.bipush 44, 2) := by decide +kernel
theorem dX8_passesTable_6 : decode cX8_passesTable 6 = .ok (.invokevirtual 48, 3) := by decide +kernel
theorem dX8_passesTable_9 : decode cX8_passesTable 9 = .ok (.ifCond .ne 5, 3) := by decide +kernel
theorem dX8_passesTable_12 : decode cX8_passesTable 12 = .ok (.iconst 0, 1) := by decide +kernel
theorem dX8_passesTable_13 : decode cX8_passesTable 13 = .ok (.ireturn, 1) := by decide +kernel
theorem dX8_passesTable_14 : decode cX8_passesTable 14 = .ok (.aload_n 0, 1) := by decide +kernel
theorem dX8_passesTable_15 : decode cX8_passesTable 15 = .ok (.aload_n 0, 1) := by decide +kernel
theorem dX8_passesTable_16 : decode cX8_passesTable 16 = .ok (.getfield 41, 3) := by decide +kernel
theorem dX8_passesTable_19 : decode cX8_passesTable 19 = .ok (.putfield 51, 3) := by decide +kernel
theorem dX8_passesTable_22 : decode cX8_passesTable 22 = .ok (.aload_n 0, 1) := by decide +kernel
theorem dX8_passesTable_23 : decode cX8_passesTable 23 = .ok (.iconst 1, 1) := by decide +kernel
theorem dX8_passesTable_24 : decode cX8_passesTable 24 = .ok (.bipush 99, 2) := by decide +kernel
theorem dX8_passesTable_26 : decode cX8_passesTable 26 = .ok (.bipush 59, 2) := by decide +kernel
theorem dX8_passesTable_28 : decode cX8_passesTable 28 = .ok (.invokevirtual 48, 3) := by decide +kernel
theorem dX8_passesTable_31 : decode cX8_passesTable 31 = .ok (.istore_n 1, 1) := by decide +kernel
theorem dX8_passesTable_32 : decode cX8_passesTable 32 = .ok (.aload_n 0, 1) := by decide +kernel
theorem dX8_passesTable_33 : decode cX8_passesTable 33 = .ok (.aload_n 0, 1) := by decide +kernel
theorem dX8_passesTable_34 : decode cX8_passesTable 34 = .ok (.getfield 41, 3) := by decide +kernel
theorem dX8_passesTable_37 : decode cX8_passesTable 37 = .ok (.putfield 54, 3) := by decide +kernel
theorem dX8_passesTable_40 : decode cX8_passesTable 40 = .ok (.iload_n 1, 1) := by decide +kernel
theorem dX8_passesTable_41 : decode cX8_passesTable 41 = .ok (.ireturn, 1) := by decide +kernel
theorem dX8_faultIs_0 : decode cX8_faultIs 0 = .ok (.aload_n 0, 1) := by decide +kernel
theorem dX8_faultIs_1 : decode cX8_faultIs 1 = .ok (.getfield 16, 3) := by decide +kernel
theorem dX8_faultIs_4 : decode cX8_faultIs 4 = .ok (.iconst 0, 1) := by decide +kernel
theorem dX8_faultIs_5 : decode cX8_faultIs 5 = .ok (.iconst 0, 1) := by decide +kernel
theorem dX8_faultIs_6 : decode cX8_faultIs 6 = .ok (.iastore, 1) := by decide +kernel
theorem dX8_faultIs_7 : decode cX8_faultIs 7 = .ok (.aload_n 0, 1) := by decide +kernel
theorem dX8_faultIs_8 : decode cX8_faultIs 8 = .ok (.bipush 6, 2) := by decide +kernel
theorem dX8_faultIs_10 : decode cX8_faultIs 10 = .ok (.putfield 51, 3) := by decide +kernel
theorem dX8_faultIs_13 : decode cX8_faultIs 13 = .ok (.aload_n 0, 1) := by decide +kernel
theorem dX8_faultIs_14 : decode cX8_faultIs 14 = .ok (.bipush 20, 2) := by decide +kernel
theorem dX8_faultIs_16 : decode cX8_faultIs 16 = .ok (.putfield 54, 3) := by decide +kernel
theorem dX8_faultIs_19 : decode cX8_faultIs 19 = .ok (.aload_n 0, 1) := by decide +kernel
theorem dX8_faultIs_20 : decode cX8_faultIs 20 = .ok (.iconst 0, 1) := by decide +kernel
theorem dX8_faultIs_21 : decode cX8_faultIs 21 = .ok (.putfield 38, 3) := by decide +kernel
theorem dX8_faultIs_24 : decode cX8_faultIs 24 = .ok (.aload_n 0, 1) := by decide +kernel
theorem dX8_faultIs_25 : decode cX8_faultIs 25 = .ok (.getfield 38, 3) := by decide +kernel
theorem dX8_faultIs_28 : decode cX8_faultIs 28 = .ok (.aload_n 0, 1) := by decide +kernel
theorem dX8_faultIs_29 : decode cX8_faultIs 29 = .ok (.getfield 35, 3) := by decide +kernel
theorem dX8_faultIs_32 : decode cX8_faultIs 32 = .ok (.if_icmp .ge 57, 3) := by decide +kernel
theorem dX8_faultIs_35 : decode cX8_faultIs 35 = .ok (.aload_n 0, 1) := by decide +kernel
theorem dX8_faultIs_36 : decode cX8_faultIs 36 = .ok (.getfield 38, 3) := by decide +kernel
theorem dX8_faultIs_39 : decode cX8_faultIs 39 = .ok (.istore_n 1, 1) := by decide +kernel
theorem dX8_faultIs_40 : decode cX8_faultIs 40 = .ok (.aload_n 0, 1) := by decide +kernel
theorem dX8_faultIs_41 : decode cX8_faultIs 41 = .ok (.invokevirtual 44, 3) := by decide +kernel
theorem dX8_faultIs_44 : decode cX8_faultIs 44 = .ok (.istore_n 2, 1) := by decide +kernel
theorem dX8_faultIs_45 : decode cX8_faultIs 45 = .ok (.aload_n 0, 1) := by decide +kernel
theorem dX8_faultIs_46 : decode cX8_faultIs 46 = .ok (.dup, 1) := by decide +kernel
theorem dX8_faultIs_47 : decode cX8_faultIs 47 = .ok (.getfield 38, 3) := by decide +kernel
theorem dX8_faultIs_50 : decode cX8_faultIs 50 = .ok (.iconst 1, 1) := by decide +kernel
theorem dX8_faultIs_51 : decode cX8_faultIs 51 = .ok (.iadd, 1) := by decide +kernel
theorem dX8_faultIs_52 : decode cX8_faultIs 52 = .ok (.putfield 38, 3) := by decide +kernel
theorem dX8_faultIs_55 : decode cX8_faultIs 55 = .ok (.iload_n 2, 1) := by decide +kernel
theorem dX8_faultIs_56 : decode cX8_faultIs 56 = .ok (.bipush 102, 2) := by decide +kernel
theorem dX8_faultIs_58 : decode cX8_faultIs 58 = .ok (.if_icmp .ne 13, 3) := by decide +kernel
theorem dX8_faultIs_61 : decode cX8_faultIs 61 = .ok (.aload_n 0, 1) := by decide +kernel
theorem dX8_faultIs_62 : decode cX8_faultIs 62 = .ok (.invokevirtual 57, 3) := by decide +kernel
theorem dX8_faultIs_65 : decode cX8_faultIs 65 = .ok (.ifCond .eq 19, 3) := by decide +kernel
theorem dX8_faultIs_68 : decode cX8_faultIs 68 = .ok (.goto 18, 3) := by decide +kernel
theorem dX8_faultIs_71 : decode cX8_faultIs 71 = .ok (.iload_n 2, 1) := by decide +kernel
theorem dX8_faultIs_72 : decode cX8_faultIs 72 = .ok (.bipush 116, 2) := by decide +kernel
theorem dX8_faultIs_74 : decode cX8_faultIs 74 = .ok (.if_icmp .ne 10, 3) := by decide +kernel
theorem dX8_faultIs_77 : decode cX8_faultIs 77 = .ok (.aload_n 0, 1) := by decide +kernel
theorem dX8_faultIs_78 : decode cX8_faultIs 78 = .ok (.invokevirtual 61, 3) := by decide +kernel
theorem dX8_faultIs_81 : decode cX8_faultIs 81 = .ok (.ifCond .ne 5, 3) := by decide +kernel
theorem dX8_faultIs_84 : decode cX8_faultIs 84 = .ok (.iload_n 1, 1) := by decide +kernel
theorem dX8_faultIs_85 : decode cX8_faultIs 85 = .ok (.ireturn, 1) := by decide +kernel
theorem dX8_faultIs_86 : decode cX8_faultIs 86 = .ok (.goto (-62), 3) := by decide +kernel
theorem dX8_faultIs_89 : decode cX8_faultIs 89 = .ok (.bipush (-4), 2) := by decide +kernel
theorem dX8_faultIs_91 : decode cX8_faultIs 91 = .ok (.ireturn, 1) := by decide +kernel
theorem dX8_fault_0 : decode cX8_fault 0 = .ok (.aload_n 0, 1) := by decide +kernel
theorem dX8_fault_1 : decode cX8_fault 1 = .ok (.invokevirtual 64, 3) := by decide +kernel
theorem dX8_fault_4 : decode cX8_fault 4 = .ok (.ireturn, 1) := by decide +kernel
theorem dX8_lay_0 : decode cX8_lay 0 = .ok (.aload_n 0, 1) := by decide +kernel
theorem dX8_lay_1 : decode cX8_lay 1 = .ok (.invokevirtual 64, 3) := by decide +kernel
theorem dX8_lay_4 : decode cX8_lay 4 = .ok (.bipush (-4), 2) := by decide +kernel
theorem dX8_lay_6 : decode cX8_lay 6 = .ok (.if_icmp .ne 12, 3) := by decide +kernel
theorem dX8_lay_9 : decode cX8_lay 9 = .ok (.aload_n 0, 1) := by decide +kernel
theorem dX8_lay_10 : decode cX8_lay 10 = .ok (.getfield 16, 3) := by decide +kernel
theorem dX8_lay_13 : decode cX8_lay 13 = .ok (.iconst 0, 1) := by decide +kernel
theorem dX8_lay_14 : decode cX8_lay 14 = .ok (.iaload, 1) := by decide +kernel
theorem dX8_lay_15 : decode cX8_lay 15 = .ok (.ifCond .ne 6, 3) := by decide +kernel
theorem dX8_lay_18 : decode cX8_lay 18 = .ok (.bipush (-2), 2) := by decide +kernel
theorem dX8_lay_20 : decode cX8_lay 20 = .ok (.ireturn, 1) := by decide +kernel
theorem dX8_lay_21 : decode cX8_lay 21 = .ok (.aload_n 0, 1) := by decide +kernel
theorem dX8_lay_22 : decode cX8_lay 22 = .ok (.aload_n 0, 1) := by decide +kernel
theorem dX8_lay_23 : decode cX8_lay 23 = .ok (.getfield 51, 3) := by decide +kernel
theorem dX8_lay_26 : decode cX8_lay 26 = .ok (.aload_n 0, 1) := by decide +kernel
theorem dX8_lay_27 : decode cX8_lay 27 = .ok (.getfield 54, 3) := by decide +kernel
theorem dX8_lay_30 : decode cX8_lay 30 = .ok (.invokevirtual 23, 3) := by decide +kernel
theorem dX8_lay_33 : decode cX8_lay 33 = .ok (.aload_n 0, 1) := by decide +kernel
theorem dX8_lay_34 : decode cX8_lay 34 = .ok (.getfield 7, 3) := by decide +kernel
theorem dX8_lay_37 : decode cX8_lay 37 = .ok (.bipush 42, 2) := by decide +kernel
theorem dX8_lay_39 : decode cX8_lay 39 = .ok (.iaload, 1) := by decide +kernel
theorem dX8_lay_40 : decode cX8_lay 40 = .ok (.ireturn, 1) := by decide +kernel
theorem dX8_sendsNext_0 : decode cX8_sendsNext 0 = .ok (.iconst 0, 1) := by decide +kernel
theorem dX8_sendsNext_1 : decode cX8_sendsNext 1 = .ok (.istore_n 2, 1) := by decide +kernel
theorem dX8_sendsNext_2 : decode cX8_sendsNext 2 = .ok (.iconst 0, 1) := by decide +kernel
theorem dX8_sendsNext_3 : decode cX8_sendsNext 3 = .ok (.istore_n 3, 1) := by decide +kernel
theorem dX8_sendsNext_4 : decode cX8_sendsNext 4 = .ok (.iconst 0, 1) := by decide +kernel
theorem dX8_sendsNext_5 : decode cX8_sendsNext 5 = .ok (.istore 4, 2) := by decide +kernel
theorem dX8_sendsNext_7 : decode cX8_sendsNext 7 = .ok (.iload 4, 2) := by decide +kernel
theorem dX8_sendsNext_9 : decode cX8_sendsNext 9 = .ok (.aload_n 0, 1) := by decide +kernel
theorem dX8_sendsNext_10 : decode cX8_sendsNext 10 = .ok (.getfield 7, 3) := by decide +kernel
theorem dX8_sendsNext_13 : decode cX8_sendsNext 13 = .ok (.iload_n 1, 1) := by decide +kernel
theorem dX8_sendsNext_14 : decode cX8_sendsNext 14 = .ok (.bipush 42, 2) := by decide +kernel
theorem dX8_sendsNext_16 : decode cX8_sendsNext 16 = .ok (.iadd, 1) := by decide +kernel
theorem dX8_sendsNext_17 : decode cX8_sendsNext 17 = .ok (.iaload, 1) := by decide +kernel
theorem dX8_sendsNext_18 : decode cX8_sendsNext 18 = .ok (.if_icmp .ge 84, 3) := by decide +kernel
theorem dX8_sendsNext_21 : decode cX8_sendsNext 21 = .ok (.aload_n 0, 1) := by decide +kernel
theorem dX8_sendsNext_22 : decode cX8_sendsNext 22 = .ok (.getfield 7, 3) := by decide +kernel
theorem dX8_sendsNext_25 : decode cX8_sendsNext 25 = .ok (.iload_n 1, 1) := by decide +kernel
theorem dX8_sendsNext_26 : decode cX8_sendsNext 26 = .ok (.bipush 30, 2) := by decide +kernel
theorem dX8_sendsNext_28 : decode cX8_sendsNext 28 = .ok (.iadd, 1) := by decide +kernel
theorem dX8_sendsNext_29 : decode cX8_sendsNext 29 = .ok (.iload 4, 2) := by decide +kernel
theorem dX8_sendsNext_31 : decode cX8_sendsNext 31 = .ok (.iadd, 1) := by decide +kernel
theorem dX8_sendsNext_32 : decode cX8_sendsNext 32 = .ok (.dup2, 1) := by decide +kernel
theorem dX8_sendsNext_33 : decode cX8_sendsNext 33 = .ok (.iaload, 1) := by decide +kernel
theorem dX8_sendsNext_34 : decode cX8_sendsNext 34 = .ok (.aload_n 0, 1) := by decide +kernel
theorem dX8_sendsNext_35 : decode cX8_sendsNext 35 = .ok (.getfield 7, 3) := by decide +kernel
theorem dX8_sendsNext_38 : decode cX8_sendsNext 38 = .ok (.iload_n 1, 1) := by decide +kernel
theorem dX8_sendsNext_39 : decode cX8_sendsNext 39 = .ok (.bipush 12, 2) := by decide +kernel
theorem dX8_sendsNext_41 : decode cX8_sendsNext 41 = .ok (.iadd, 1) := by decide +kernel
theorem dX8_sendsNext_42 : decode cX8_sendsNext 42 = .ok (.iload 4, 2) := by decide +kernel
theorem dX8_sendsNext_44 : decode cX8_sendsNext 44 = .ok (.iadd, 1) := by decide +kernel
theorem dX8_sendsNext_45 : decode cX8_sendsNext 45 = .ok (.iaload, 1) := by decide +kernel
theorem dX8_sendsNext_46 : decode cX8_sendsNext 46 = .ok (.iadd, 1) := by decide +kernel
theorem dX8_sendsNext_47 : decode cX8_sendsNext 47 = .ok (.iastore, 1) := by decide +kernel
theorem dX8_sendsNext_48 : decode cX8_sendsNext 48 = .ok (.iload_n 2, 1) := by decide +kernel
theorem dX8_sendsNext_49 : decode cX8_sendsNext 49 = .ok (.aload_n 0, 1) := by decide +kernel
theorem dX8_sendsNext_50 : decode cX8_sendsNext 50 = .ok (.getfield 7, 3) := by decide +kernel
theorem dX8_sendsNext_53 : decode cX8_sendsNext 53 = .ok (.iload_n 1, 1) := by decide +kernel
theorem dX8_sendsNext_54 : decode cX8_sendsNext 54 = .ok (.bipush 12, 2) := by decide +kernel
theorem dX8_sendsNext_56 : decode cX8_sendsNext 56 = .ok (.iadd, 1) := by decide +kernel
theorem dX8_sendsNext_57 : decode cX8_sendsNext 57 = .ok (.iload 4, 2) := by decide +kernel
theorem dX8_sendsNext_59 : decode cX8_sendsNext 59 = .ok (.iadd, 1) := by decide +kernel
theorem dX8_sendsNext_60 : decode cX8_sendsNext 60 = .ok (.iaload, 1) := by decide +kernel
theorem dX8_sendsNext_61 : decode cX8_sendsNext 61 = .ok (.iadd, 1) := by decide +kernel
theorem dX8_sendsNext_62 : decode cX8_sendsNext 62 = .ok (.istore_n 2, 1) := by decide +kernel
theorem dX8_sendsNext_63 : decode cX8_sendsNext 63 = .ok (.aload_n 0, 1) := by decide +kernel
theorem dX8_sendsNext_64 : decode cX8_sendsNext 64 = .ok (.getfield 7, 3) := by decide +kernel
theorem dX8_sendsNext_67 : decode cX8_sendsNext 67 = .ok (.iload_n 1, 1) := by decide +kernel
theorem dX8_sendsNext_68 : decode cX8_sendsNext 68 = .ok (.bipush 30, 2) := by decide +kernel
theorem dX8_sendsNext_70 : decode cX8_sendsNext 70 = .ok (.iadd, 1) := by decide +kernel
theorem dX8_sendsNext_71 : decode cX8_sendsNext 71 = .ok (.iload 4, 2) := by decide +kernel
theorem dX8_sendsNext_73 : decode cX8_sendsNext 73 = .ok (.iadd, 1) := by decide +kernel
theorem dX8_sendsNext_74 : decode cX8_sendsNext 74 = .ok (.iaload, 1) := by decide +kernel
theorem dX8_sendsNext_75 : decode cX8_sendsNext 75 = .ok (.aload_n 0, 1) := by decide +kernel
theorem dX8_sendsNext_76 : decode cX8_sendsNext 76 = .ok (.getfield 7, 3) := by decide +kernel
theorem dX8_sendsNext_79 : decode cX8_sendsNext 79 = .ok (.iload_n 1, 1) := by decide +kernel
theorem dX8_sendsNext_80 : decode cX8_sendsNext 80 = .ok (.bipush 30, 2) := by decide +kernel
theorem dX8_sendsNext_82 : decode cX8_sendsNext 82 = .ok (.iadd, 1) := by decide +kernel
theorem dX8_sendsNext_83 : decode cX8_sendsNext 83 = .ok (.iload_n 3, 1) := by decide +kernel
theorem dX8_sendsNext_84 : decode cX8_sendsNext 84 = .ok (.iadd, 1) := by decide +kernel
theorem dX8_sendsNext_85 : decode cX8_sendsNext 85 = .ok (.iaload, 1) := by decide +kernel
theorem dX8_sendsNext_86 : decode cX8_sendsNext 86 = .ok (.if_icmp .le 8, 3) := by decide +kernel
theorem dX8_sendsNext_89 : decode cX8_sendsNext 89 = .ok (.iload 4, 2) := by decide +kernel
theorem dX8_sendsNext_91 : decode cX8_sendsNext 91 = .ok (.goto 4, 3) := by decide +kernel
theorem dX8_sendsNext_94 : decode cX8_sendsNext 94 = .ok (.iload_n 3, 1) := by decide +kernel
theorem dX8_sendsNext_95 : decode cX8_sendsNext 95 = .ok (.istore_n 3, 1) := by decide +kernel
theorem dX8_sendsNext_96 : decode cX8_sendsNext 96 = .ok (.iinc 4 1, 3) := by decide +kernel
theorem dX8_sendsNext_99 : decode cX8_sendsNext 99 = .ok (.goto (-92), 3) := by decide +kernel
theorem dX8_sendsNext_102 : decode cX8_sendsNext 102 = .ok (.aload_n 0, 1) := by decide +kernel
theorem dX8_sendsNext_103 : decode cX8_sendsNext 103 = .ok (.getfield 7, 3) := by decide +kernel
theorem dX8_sendsNext_106 : decode cX8_sendsNext 106 = .ok (.iload_n 1, 1) := by decide +kernel
theorem dX8_sendsNext_107 : decode cX8_sendsNext 107 = .ok (.bipush 30, 2) := by decide +kernel
theorem dX8_sendsNext_109 : decode cX8_sendsNext 109 = .ok (.iadd, 1) := by decide +kernel
theorem dX8_sendsNext_110 : decode cX8_sendsNext 110 = .ok (.iload_n 3, 1) := by decide +kernel
theorem dX8_sendsNext_111 : decode cX8_sendsNext 111 = .ok (.iadd, 1) := by decide +kernel
theorem dX8_sendsNext_112 : decode cX8_sendsNext 112 = .ok (.dup2, 1) := by decide +kernel
theorem dX8_sendsNext_113 : decode cX8_sendsNext 113 = .ok (.iaload, 1) := by decide +kernel
theorem dX8_sendsNext_114 : decode cX8_sendsNext 114 = .ok (.iload_n 2, 1) := by decide +kernel
theorem dX8_sendsNext_115 : decode cX8_sendsNext 115 = .ok (.isub, 1) := by decide +kernel
theorem dX8_sendsNext_116 : decode cX8_sendsNext 116 = .ok (.iastore, 1) := by decide +kernel
theorem dX8_sendsNext_117 : decode cX8_sendsNext 117 = .ok (.iload_n 3, 1) := by decide +kernel
theorem dX8_sendsNext_118 : decode cX8_sendsNext 118 = .ok (.ireturn, 1) := by decide +kernel
theorem dX8_logs_0 : decode cX8_logs 0 = .ok (.bipush 39, 2) := by decide +kernel
theorem dX8_logs_2 : decode cX8_logs 2 = .ok (.istore 5, 2) := by decide +kernel
theorem dX8_logs_4 : decode cX8_logs 4 = .ok (.iload 5, 2) := by decide +kernel
theorem dX8_logs_6 : decode cX8_logs 6 = .ok (.iconst 3, 1) := by decide +kernel
theorem dX8_logs_7 : decode cX8_logs 7 = .ok (.if_icmp .le 35, 3) := by decide +kernel
theorem dX8_logs_10 : decode cX8_logs 10 = .ok (.aload_n 0, 1) := by decide +kernel
theorem dX8_logs_11 : decode cX8_logs 11 = .ok (.getfield 7, 3) := by decide +kernel
theorem dX8_logs_14 : decode cX8_logs 14 = .ok (.iload_n 1, 1) := by decide +kernel
theorem dX8_logs_15 : decode cX8_logs 15 = .ok (.bipush 49, 2) := by decide +kernel
theorem dX8_logs_17 : decode cX8_logs 17 = .ok (.iadd, 1) := by decide +kernel
theorem dX8_logs_18 : decode cX8_logs 18 = .ok (.iload 5, 2) := by decide +kernel
theorem dX8_logs_20 : decode cX8_logs 20 = .ok (.iadd, 1) := by decide +kernel
theorem dX8_logs_21 : decode cX8_logs 21 = .ok (.aload_n 0, 1) := by decide +kernel
theorem dX8_logs_22 : decode cX8_logs 22 = .ok (.getfield 7, 3) := by decide +kernel
theorem dX8_logs_25 : decode cX8_logs 25 = .ok (.iload_n 1, 1) := by decide +kernel
theorem dX8_logs_26 : decode cX8_logs 26 = .ok (.bipush 49, 2) := by decide +kernel
theorem dX8_logs_28 : decode cX8_logs 28 = .ok (.iadd, 1) := by decide +kernel
theorem dX8_logs_29 : decode cX8_logs 29 = .ok (.iload 5, 2) := by decide +kernel
theorem dX8_logs_31 : decode cX8_logs 31 = .ok (.iadd, 1) := by decide +kernel
theorem dX8_logs_32 : decode cX8_logs 32 = .ok (.iconst 4, 1) := by decide +kernel
theorem dX8_logs_33 : decode cX8_logs 33 = .ok (.isub, 1) := by decide +kernel
theorem dX8_logs_34 : decode cX8_logs 34 = .ok (.iaload, 1) := by decide +kernel
theorem dX8_logs_35 : decode cX8_logs 35 = .ok (.iastore, 1) := by decide +kernel
theorem dX8_logs_36 : decode cX8_logs 36 = .ok (.iinc 5 (-1), 3) := by decide +kernel
theorem dX8_logs_39 : decode cX8_logs 39 = .ok (.goto (-35), 3) := by decide +kernel
theorem dX8_logs_42 : decode cX8_logs 42 = .ok (.aload_n 0, 1) := by decide +kernel
theorem dX8_logs_43 : decode cX8_logs 43 = .ok (.getfield 7, 3) := by decide +kernel
theorem dX8_logs_46 : decode cX8_logs 46 = .ok (.iload_n 1, 1) := by decide +kernel
theorem dX8_logs_47 : decode cX8_logs 47 = .ok (.bipush 49, 2) := by decide +kernel
theorem dX8_logs_49 : decode cX8_logs 49 = .ok (.iadd, 1) := by decide +kernel
theorem dX8_logs_50 : decode cX8_logs 50 = .ok (.iload_n 2, 1) := by decide +kernel
theorem dX8_logs_51 : decode cX8_logs 51 = .ok (.iastore, 1) := by decide +kernel
theorem dX8_logs_52 : decode cX8_logs 52 = .ok (.aload_n 0, 1) := by decide +kernel
theorem dX8_logs_53 : decode cX8_logs 53 = .ok (.getfield 7, 3) := by decide +kernel
theorem dX8_logs_56 : decode cX8_logs 56 = .ok (.iload_n 1, 1) := by decide +kernel
theorem dX8_logs_57 : decode cX8_logs 57 = .ok (.bipush 49, 2) := by decide +kernel
theorem dX8_logs_59 : decode cX8_logs 59 = .ok (.iadd, 1) := by decide +kernel
theorem dX8_logs_60 : decode cX8_logs 60 = .ok (.iconst 1, 1) := by decide +kernel
theorem dX8_logs_61 : decode cX8_logs 61 = .ok (.iadd, 1) := by decide +kernel
theorem dX8_logs_62 : decode cX8_logs 62 = .ok (.iload_n 3, 1) := by decide +kernel
theorem dX8_logs_63 : decode cX8_logs 63 = .ok (.iastore, 1) := by decide +kernel
theorem dX8_logs_64 : decode cX8_logs 64 = .ok (.aload_n 0, 1) := by decide +kernel
theorem dX8_logs_65 : decode cX8_logs 65 = .ok (.getfield 7, 3) := by decide +kernel
theorem dX8_logs_68 : decode cX8_logs 68 = .ok (.iload_n 1, 1) := by decide +kernel
theorem dX8_logs_69 : decode cX8_logs 69 = .ok (.bipush 49, 2) := by decide +kernel
theorem dX8_logs_71 : decode cX8_logs 71 = .ok (.iadd, 1) := by decide +kernel
theorem dX8_logs_72 : decode cX8_logs 72 = .ok (.iconst 2, 1) := by decide +kernel
theorem dX8_logs_73 : decode cX8_logs 73 = .ok (.iadd, 1) := by decide +kernel
theorem dX8_logs_74 : decode cX8_logs 74 = .ok (.iload 4, 2) := by decide +kernel
theorem dX8_logs_76 : decode cX8_logs 76 = .ok (.iastore, 1) := by decide +kernel
theorem dX8_logs_77 : decode cX8_logs 77 = .ok (.aload_n 0, 1) := by decide +kernel
theorem dX8_logs_78 : decode cX8_logs 78 = .ok (.getfield 7, 3) := by decide +kernel
theorem dX8_logs_81 : decode cX8_logs 81 = .ok (.iload_n 1, 1) := by decide +kernel
theorem dX8_logs_82 : decode cX8_logs 82 = .ok (.bipush 49, 2) := by decide +kernel
theorem dX8_logs_84 : decode cX8_logs 84 = .ok (.iadd, 1) := by decide +kernel
theorem dX8_logs_85 : decode cX8_logs 85 = .ok (.iconst 3, 1) := by decide +kernel
theorem dX8_logs_86 : decode cX8_logs 86 = .ok (.iadd, 1) := by decide +kernel
theorem dX8_logs_87 : decode cX8_logs 87 = .ok (.aload_n 0, 1) := by decide +kernel
theorem dX8_logs_88 : decode cX8_logs 88 = .ok (.getfield 7, 3) := by decide +kernel
theorem dX8_logs_91 : decode cX8_logs 91 = .ok (.iload_n 1, 1) := by decide +kernel
theorem dX8_logs_92 : decode cX8_logs 92 = .ok (.bipush 45, 2) := by decide +kernel
theorem dX8_logs_94 : decode cX8_logs 94 = .ok (.iadd, 1) := by decide +kernel
theorem dX8_logs_95 : decode cX8_logs 95 = .ok (.iaload, 1) := by decide +kernel
theorem dX8_logs_96 : decode cX8_logs 96 = .ok (.iastore, 1) := by decide +kernel
theorem dX8_logs_97 : decode cX8_logs 97 = .ok (.return_, 1) := by decide +kernel
theorem dX8_isLost_0 : decode cX8_isLost 0 = .ok (.ldc2_w 67, 3) := by decide +kernel
theorem dX8_isLost_3 : decode cX8_isLost 3 = .ok (.iload_n 2, 1) := by decide +kernel
theorem dX8_isLost_4 : decode cX8_isLost 4 = .ok (.i2l, 1) := by decide +kernel
theorem dX8_isLost_5 : decode cX8_isLost 5 = .ok (.lmul, 1) := by decide +kernel
theorem dX8_isLost_6 : decode cX8_isLost 6 = .ok (.ldc2_w 69, 3) := by decide +kernel
theorem dX8_isLost_9 : decode cX8_isLost 9 = .ok (.aload_n 0, 1) := by decide +kernel
theorem dX8_isLost_10 : decode cX8_isLost 10 = .ok (.getfield 7, 3) := by decide +kernel
theorem dX8_isLost_13 : decode cX8_isLost 13 = .ok (.iload_n 1, 1) := by decide +kernel
theorem dX8_isLost_14 : decode cX8_isLost 14 = .ok (.bipush 45, 2) := by decide +kernel
theorem dX8_isLost_16 : decode cX8_isLost 16 = .ok (.iadd, 1) := by decide +kernel
theorem dX8_isLost_17 : decode cX8_isLost 17 = .ok (.iaload, 1) := by decide +kernel
theorem dX8_isLost_18 : decode cX8_isLost 18 = .ok (.i2l, 1) := by decide +kernel
theorem dX8_isLost_19 : decode cX8_isLost 19 = .ok (.lmul, 1) := by decide +kernel
theorem dX8_isLost_20 : decode cX8_isLost 20 = .ok (.ladd, 1) := by decide +kernel
theorem dX8_isLost_21 : decode cX8_isLost 21 = .ok (.lconst 1, 1) := by decide +kernel
theorem dX8_isLost_22 : decode cX8_isLost 22 = .ok (.ladd, 1) := by decide +kernel
theorem dX8_isLost_23 : decode cX8_isLost 23 = .ok (.lstore_n 3, 1) := by decide +kernel
theorem dX8_isLost_24 : decode cX8_isLost 24 = .ok (.lload_n 3, 1) := by decide +kernel
theorem dX8_isLost_25 : decode cX8_isLost 25 = .ok (.lload_n 3, 1) := by decide +kernel
theorem dX8_isLost_26 : decode cX8_isLost 26 = .ok (.lmul, 1) := by decide +kernel
theorem dX8_isLost_27 : decode cX8_isLost 27 = .ok (.ldc2_w 71, 3) := by decide +kernel
theorem dX8_isLost_30 : decode cX8_isLost 30 = .ok (.lrem, 1) := by decide +kernel
theorem dX8_isLost_31 : decode cX8_isLost 31 = .ok (.ldc2_w 73, 3) := by decide +kernel
theorem dX8_isLost_34 : decode cX8_isLost 34 = .ok (.lrem, 1) := by decide +kernel
theorem dX8_isLost_35 : decode cX8_isLost 35 = .ok (.aload_n 0, 1) := by decide +kernel
theorem dX8_isLost_36 : decode cX8_isLost 36 = .ok (.getfield 7, 3) := by decide +kernel
theorem dX8_isLost_39 : decode cX8_isLost 39 = .ok (.iload_n 1, 1) := by decide +kernel
theorem dX8_isLost_40 : decode cX8_isLost 40 = .ok (.bipush 89, 2) := by decide +kernel
theorem dX8_isLost_42 : decode cX8_isLost 42 = .ok (.iadd, 1) := by decide +kernel
theorem dX8_isLost_43 : decode cX8_isLost 43 = .ok (.bipush 16, 2) := by decide +kernel
theorem dX8_isLost_45 : decode cX8_isLost 45 = .ok (.iload_n 2, 1) := by decide +kernel
theorem dX8_isLost_46 : decode cX8_isLost 46 = .ok (.imul, 1) := by decide +kernel
theorem dX8_isLost_47 : decode cX8_isLost 47 = .ok (.iadd, 1) := by decide +kernel
theorem dX8_isLost_48 : decode cX8_isLost 48 = .ok (.iconst 0, 1) := by decide +kernel
theorem dX8_isLost_49 : decode cX8_isLost 49 = .ok (.iadd, 1) := by decide +kernel
theorem dX8_isLost_50 : decode cX8_isLost 50 = .ok (.iaload, 1) := by decide +kernel
theorem dX8_isLost_51 : decode cX8_isLost 51 = .ok (.i2l, 1) := by decide +kernel
theorem dX8_isLost_52 : decode cX8_isLost 52 = .ok (.lcmp, 1) := by decide +kernel
theorem dX8_isLost_53 : decode cX8_isLost 53 = .ok (.ifCond .ge 7, 3) := by decide +kernel
theorem dX8_isLost_56 : decode cX8_isLost 56 = .ok (.iconst 1, 1) := by decide +kernel
theorem dX8_isLost_57 : decode cX8_isLost 57 = .ok (.goto 4, 3) := by decide +kernel
theorem dX8_isLost_60 : decode cX8_isLost 60 = .ok (.iconst 0, 1) := by decide +kernel
theorem dX8_isLost_61 : decode cX8_isLost 61 = .ok (.ireturn, 1) := by decide +kernel
theorem dX8_hearsTable_0 : decode cX8_hearsTable 0 = .ok (.aload_n 0, 1) := by decide +kernel
theorem dX8_hearsTable_1 : decode cX8_hearsTable 1 = .ok (.getfield 7, 3) := by decide +kernel
theorem dX8_hearsTable_4 : decode cX8_hearsTable 4 = .ok (.iload_n 2, 1) := by decide +kernel
theorem dX8_hearsTable_5 : decode cX8_hearsTable 5 = .ok (.iconst 2, 1) := by decide +kernel
theorem dX8_hearsTable_6 : decode cX8_hearsTable 6 = .ok (.iadd, 1) := by decide +kernel
theorem dX8_hearsTable_7 : decode cX8_hearsTable 7 = .ok (.aload_n 0, 1) := by decide +kernel
theorem dX8_hearsTable_8 : decode cX8_hearsTable 8 = .ok (.getfield 7, 3) := by decide +kernel
theorem dX8_hearsTable_11 : decode cX8_hearsTable 11 = .ok (.iload_n 1, 1) := by decide +kernel
theorem dX8_hearsTable_12 : decode cX8_hearsTable 12 = .ok (.bipush 45, 2) := by decide +kernel
theorem dX8_hearsTable_14 : decode cX8_hearsTable 14 = .ok (.iadd, 1) := by decide +kernel
theorem dX8_hearsTable_15 : decode cX8_hearsTable 15 = .ok (.iaload, 1) := by decide +kernel
theorem dX8_hearsTable_16 : decode cX8_hearsTable 16 = .ok (.aload_n 0, 1) := by decide +kernel
theorem dX8_hearsTable_17 : decode cX8_hearsTable 17 = .ok (.getfield 7, 3) := by decide +kernel
theorem dX8_hearsTable_20 : decode cX8_hearsTable 20 = .ok (.iload_n 1, 1) := by decide +kernel
theorem dX8_hearsTable_21 : decode cX8_hearsTable 21 = .ok (.bipush 44, 2) := by decide +kernel
theorem dX8_hearsTable_23 : decode cX8_hearsTable 23 = .ok (.iadd, 1) := by decide +kernel
theorem dX8_hearsTable_24 : decode cX8_hearsTable 24 = .ok (.iaload, 1) := by decide +kernel
theorem dX8_hearsTable_25 : decode cX8_hearsTable 25 = .ok (.iadd, 1) := by decide +kernel
theorem dX8_hearsTable_26 : decode cX8_hearsTable 26 = .ok (.iconst 1, 1) := by decide +kernel
theorem dX8_hearsTable_27 : decode cX8_hearsTable 27 = .ok (.isub, 1) := by decide +kernel
theorem dX8_hearsTable_28 : decode cX8_hearsTable 28 = .ok (.iastore, 1) := by decide +kernel
theorem dX8_hearsTable_29 : decode cX8_hearsTable 29 = .ok (.iconst 0, 1) := by decide +kernel
theorem dX8_hearsTable_30 : decode cX8_hearsTable 30 = .ok (.istore_n 3, 1) := by decide +kernel
theorem dX8_hearsTable_31 : decode cX8_hearsTable 31 = .ok (.iload_n 3, 1) := by decide +kernel
theorem dX8_hearsTable_32 : decode cX8_hearsTable 32 = .ok (.aload_n 0, 1) := by decide +kernel
theorem dX8_hearsTable_33 : decode cX8_hearsTable 33 = .ok (.getfield 7, 3) := by decide +kernel
theorem dX8_hearsTable_36 : decode cX8_hearsTable 36 = .ok (.iload_n 1, 1) := by decide +kernel
theorem dX8_hearsTable_37 : decode cX8_hearsTable 37 = .ok (.bipush 42, 2) := by decide +kernel
theorem dX8_hearsTable_39 : decode cX8_hearsTable 39 = .ok (.iadd, 1) := by decide +kernel
theorem dX8_hearsTable_40 : decode cX8_hearsTable 40 = .ok (.iaload, 1) := by decide +kernel
theorem dX8_hearsTable_41 : decode cX8_hearsTable 41 = .ok (.if_icmp .ge 92, 3) := by decide +kernel
theorem dX8_hearsTable_44 : decode cX8_hearsTable 44 = .ok (.aload_n 0, 1) := by decide +kernel
theorem dX8_hearsTable_45 : decode cX8_hearsTable 45 = .ok (.getfield 7, 3) := by decide +kernel
theorem dX8_hearsTable_48 : decode cX8_hearsTable 48 = .ok (.iload_n 2, 1) := by decide +kernel
theorem dX8_hearsTable_49 : decode cX8_hearsTable 49 = .ok (.iconst 4, 1) := by decide +kernel
theorem dX8_hearsTable_50 : decode cX8_hearsTable 50 = .ok (.iadd, 1) := by decide +kernel
theorem dX8_hearsTable_51 : decode cX8_hearsTable 51 = .ok (.iload_n 3, 1) := by decide +kernel
theorem dX8_hearsTable_52 : decode cX8_hearsTable 52 = .ok (.iadd, 1) := by decide +kernel
theorem dX8_hearsTable_53 : decode cX8_hearsTable 53 = .ok (.iaload, 1) := by decide +kernel
theorem dX8_hearsTable_54 : decode cX8_hearsTable 54 = .ok (.aload_n 0, 1) := by decide +kernel
theorem dX8_hearsTable_55 : decode cX8_hearsTable 55 = .ok (.getfield 7, 3) := by decide +kernel
theorem dX8_hearsTable_58 : decode cX8_hearsTable 58 = .ok (.iload_n 1, 1) := by decide +kernel
theorem dX8_hearsTable_59 : decode cX8_hearsTable 59 = .ok (.bipush 18, 2) := by decide +kernel
theorem dX8_hearsTable_61 : decode cX8_hearsTable 61 = .ok (.iadd, 1) := by decide +kernel
theorem dX8_hearsTable_62 : decode cX8_hearsTable 62 = .ok (.iload_n 3, 1) := by decide +kernel
theorem dX8_hearsTable_63 : decode cX8_hearsTable 63 = .ok (.iadd, 1) := by decide +kernel
theorem dX8_hearsTable_64 : decode cX8_hearsTable 64 = .ok (.iaload, 1) := by decide +kernel
theorem dX8_hearsTable_65 : decode cX8_hearsTable 65 = .ok (.if_icmp .ne 7, 3) := by decide +kernel
theorem dX8_hearsTable_68 : decode cX8_hearsTable 68 = .ok (.iconst 1, 1) := by decide +kernel
theorem dX8_hearsTable_69 : decode cX8_hearsTable 69 = .ok (.goto 4, 3) := by decide +kernel
theorem dX8_hearsTable_72 : decode cX8_hearsTable 72 = .ok (.iconst 0, 1) := by decide +kernel
theorem dX8_hearsTable_73 : decode cX8_hearsTable 73 = .ok (.istore 4, 2) := by decide +kernel
theorem dX8_hearsTable_75 : decode cX8_hearsTable 75 = .ok (.aload_n 0, 1) := by decide +kernel
theorem dX8_hearsTable_76 : decode cX8_hearsTable 76 = .ok (.getfield 7, 3) := by decide +kernel
theorem dX8_hearsTable_79 : decode cX8_hearsTable 79 = .ok (.iload_n 2, 1) := by decide +kernel
theorem dX8_hearsTable_80 : decode cX8_hearsTable 80 = .ok (.bipush 10, 2) := by decide +kernel
theorem dX8_hearsTable_82 : decode cX8_hearsTable 82 = .ok (.iadd, 1) := by decide +kernel
theorem dX8_hearsTable_83 : decode cX8_hearsTable 83 = .ok (.iload_n 3, 1) := by decide +kernel
theorem dX8_hearsTable_84 : decode cX8_hearsTable 84 = .ok (.iadd, 1) := by decide +kernel
theorem dX8_hearsTable_85 : decode cX8_hearsTable 85 = .ok (.iload 4, 2) := by decide +kernel
theorem dX8_hearsTable_87 : decode cX8_hearsTable 87 = .ok (.ifCond .eq 17, 3) := by decide +kernel
theorem dX8_hearsTable_90 : decode cX8_hearsTable 90 = .ok (.aload_n 0, 1) := by decide +kernel
theorem dX8_hearsTable_91 : decode cX8_hearsTable 91 = .ok (.getfield 7, 3) := by decide +kernel
theorem dX8_hearsTable_94 : decode cX8_hearsTable 94 = .ok (.iload_n 2, 1) := by decide +kernel
theorem dX8_hearsTable_95 : decode cX8_hearsTable 95 = .ok (.bipush 10, 2) := by decide +kernel
theorem dX8_hearsTable_97 : decode cX8_hearsTable 97 = .ok (.iadd, 1) := by decide +kernel
theorem dX8_hearsTable_98 : decode cX8_hearsTable 98 = .ok (.iload_n 3, 1) := by decide +kernel
theorem dX8_hearsTable_99 : decode cX8_hearsTable 99 = .ok (.iadd, 1) := by decide +kernel
theorem dX8_hearsTable_100 : decode cX8_hearsTable 100 = .ok (.iaload, 1) := by decide +kernel
theorem dX8_hearsTable_101 : decode cX8_hearsTable 101 = .ok (.goto 4, 3) := by decide +kernel
theorem dX8_hearsTable_104 : decode cX8_hearsTable 104 = .ok (.iconst 0, 1) := by decide +kernel
theorem dX8_hearsTable_105 : decode cX8_hearsTable 105 = .ok (.iastore, 1) := by decide +kernel
theorem dX8_hearsTable_106 : decode cX8_hearsTable 106 = .ok (.aload_n 0, 1) := by decide +kernel
theorem dX8_hearsTable_107 : decode cX8_hearsTable 107 = .ok (.getfield 7, 3) := by decide +kernel
theorem dX8_hearsTable_110 : decode cX8_hearsTable 110 = .ok (.iload_n 2, 1) := by decide +kernel
theorem dX8_hearsTable_111 : decode cX8_hearsTable 111 = .ok (.iconst 4, 1) := by decide +kernel
theorem dX8_hearsTable_112 : decode cX8_hearsTable 112 = .ok (.iadd, 1) := by decide +kernel
theorem dX8_hearsTable_113 : decode cX8_hearsTable 113 = .ok (.iload_n 3, 1) := by decide +kernel
theorem dX8_hearsTable_114 : decode cX8_hearsTable 114 = .ok (.iadd, 1) := by decide +kernel
theorem dX8_hearsTable_115 : decode cX8_hearsTable 115 = .ok (.aload_n 0, 1) := by decide +kernel
theorem dX8_hearsTable_116 : decode cX8_hearsTable 116 = .ok (.getfield 7, 3) := by decide +kernel
theorem dX8_hearsTable_119 : decode cX8_hearsTable 119 = .ok (.iload_n 1, 1) := by decide +kernel
theorem dX8_hearsTable_120 : decode cX8_hearsTable 120 = .ok (.bipush 18, 2) := by decide +kernel
theorem dX8_hearsTable_122 : decode cX8_hearsTable 122 = .ok (.iadd, 1) := by decide +kernel
theorem dX8_hearsTable_123 : decode cX8_hearsTable 123 = .ok (.iload_n 3, 1) := by decide +kernel
theorem dX8_hearsTable_124 : decode cX8_hearsTable 124 = .ok (.iadd, 1) := by decide +kernel
theorem dX8_hearsTable_125 : decode cX8_hearsTable 125 = .ok (.iaload, 1) := by decide +kernel
theorem dX8_hearsTable_126 : decode cX8_hearsTable 126 = .ok (.iastore, 1) := by decide +kernel
theorem dX8_hearsTable_127 : decode cX8_hearsTable 127 = .ok (.iinc 3 1, 3) := by decide +kernel
theorem dX8_hearsTable_130 : decode cX8_hearsTable 130 = .ok (.goto (-99), 3) := by decide +kernel
theorem dX8_hearsTable_133 : decode cX8_hearsTable 133 = .ok (.return_, 1) := by decide +kernel
theorem dX8_hearsSymbol_0 : decode cX8_hearsSymbol 0 = .ok (.aload_n 0, 1) := by decide +kernel
theorem dX8_hearsSymbol_1 : decode cX8_hearsSymbol 1 = .ok (.getfield 7, 3) := by decide +kernel
theorem dX8_hearsSymbol_4 : decode cX8_hearsSymbol 4 = .ok (.iload_n 2, 1) := by decide +kernel
theorem dX8_hearsSymbol_5 : decode cX8_hearsSymbol 5 = .ok (.iconst 2, 1) := by decide +kernel
theorem dX8_hearsSymbol_6 : decode cX8_hearsSymbol 6 = .ok (.iadd, 1) := by decide +kernel
theorem dX8_hearsSymbol_7 : decode cX8_hearsSymbol 7 = .ok (.iaload, 1) := by decide +kernel
theorem dX8_hearsSymbol_8 : decode cX8_hearsSymbol 8 = .ok (.aload_n 0, 1) := by decide +kernel
theorem dX8_hearsSymbol_9 : decode cX8_hearsSymbol 9 = .ok (.getfield 7, 3) := by decide +kernel
theorem dX8_hearsSymbol_12 : decode cX8_hearsSymbol 12 = .ok (.iload_n 1, 1) := by decide +kernel
theorem dX8_hearsSymbol_13 : decode cX8_hearsSymbol 13 = .ok (.bipush 45, 2) := by decide +kernel
theorem dX8_hearsSymbol_15 : decode cX8_hearsSymbol 15 = .ok (.iadd, 1) := by decide +kernel
theorem dX8_hearsSymbol_16 : decode cX8_hearsSymbol 16 = .ok (.iaload, 1) := by decide +kernel
theorem dX8_hearsSymbol_17 : decode cX8_hearsSymbol 17 = .ok (.if_icmp .lt 45, 3) := by decide +kernel
theorem dX8_hearsSymbol_20 : decode cX8_hearsSymbol 20 = .ok (.aload_n 0, 1) := by decide +kernel
theorem dX8_hearsSymbol_21 : decode cX8_hearsSymbol 21 = .ok (.getfield 7, 3) := by decide +kernel
theorem dX8_hearsSymbol_24 : decode cX8_hearsSymbol 24 = .ok (.iload_n 2, 1) := by decide +kernel
theorem dX8_hearsSymbol_25 : decode cX8_hearsSymbol 25 = .ok (.iconst 4, 1) := by decide +kernel
theorem dX8_hearsSymbol_26 : decode cX8_hearsSymbol 26 = .ok (.iadd, 1) := by decide +kernel
theorem dX8_hearsSymbol_27 : decode cX8_hearsSymbol 27 = .ok (.iload_n 3, 1) := by decide +kernel
theorem dX8_hearsSymbol_28 : decode cX8_hearsSymbol 28 = .ok (.iadd, 1) := by decide +kernel
theorem dX8_hearsSymbol_29 : decode cX8_hearsSymbol 29 = .ok (.iaload, 1) := by decide +kernel
theorem dX8_hearsSymbol_30 : decode cX8_hearsSymbol 30 = .ok (.aload_n 0, 1) := by decide +kernel
theorem dX8_hearsSymbol_31 : decode cX8_hearsSymbol 31 = .ok (.getfield 7, 3) := by decide +kernel
theorem dX8_hearsSymbol_34 : decode cX8_hearsSymbol 34 = .ok (.iload_n 1, 1) := by decide +kernel
theorem dX8_hearsSymbol_35 : decode cX8_hearsSymbol 35 = .ok (.bipush 18, 2) := by decide +kernel
theorem dX8_hearsSymbol_37 : decode cX8_hearsSymbol 37 = .ok (.iadd, 1) := by decide +kernel
theorem dX8_hearsSymbol_38 : decode cX8_hearsSymbol 38 = .ok (.iload_n 3, 1) := by decide +kernel
theorem dX8_hearsSymbol_39 : decode cX8_hearsSymbol 39 = .ok (.iadd, 1) := by decide +kernel
theorem dX8_hearsSymbol_40 : decode cX8_hearsSymbol 40 = .ok (.iaload, 1) := by decide +kernel
theorem dX8_hearsSymbol_41 : decode cX8_hearsSymbol 41 = .ok (.if_icmp .ne 21, 3) := by decide +kernel
theorem dX8_hearsSymbol_44 : decode cX8_hearsSymbol 44 = .ok (.aload_n 0, 1) := by decide +kernel
theorem dX8_hearsSymbol_45 : decode cX8_hearsSymbol 45 = .ok (.getfield 7, 3) := by decide +kernel
theorem dX8_hearsSymbol_48 : decode cX8_hearsSymbol 48 = .ok (.iload_n 2, 1) := by decide +kernel
theorem dX8_hearsSymbol_49 : decode cX8_hearsSymbol 49 = .ok (.bipush 10, 2) := by decide +kernel
theorem dX8_hearsSymbol_51 : decode cX8_hearsSymbol 51 = .ok (.iadd, 1) := by decide +kernel
theorem dX8_hearsSymbol_52 : decode cX8_hearsSymbol 52 = .ok (.iload_n 3, 1) := by decide +kernel
theorem dX8_hearsSymbol_53 : decode cX8_hearsSymbol 53 = .ok (.iadd, 1) := by decide +kernel
theorem dX8_hearsSymbol_54 : decode cX8_hearsSymbol 54 = .ok (.dup2, 1) := by decide +kernel
theorem dX8_hearsSymbol_55 : decode cX8_hearsSymbol 55 = .ok (.iaload, 1) := by decide +kernel
theorem dX8_hearsSymbol_56 : decode cX8_hearsSymbol 56 = .ok (.iconst 1, 1) := by decide +kernel
theorem dX8_hearsSymbol_57 : decode cX8_hearsSymbol 57 = .ok (.iload 4, 2) := by decide +kernel
theorem dX8_hearsSymbol_59 : decode cX8_hearsSymbol 59 = .ok (.ishl, 1) := by decide +kernel
theorem dX8_hearsSymbol_60 : decode cX8_hearsSymbol 60 = .ok (.ior, 1) := by decide +kernel
theorem dX8_hearsSymbol_61 : decode cX8_hearsSymbol 61 = .ok (.iastore, 1) := by decide +kernel
theorem dX8_hearsSymbol_62 : decode cX8_hearsSymbol 62 = .ok (.return_, 1) := by decide +kernel
theorem dX8_ticks_0 : decode cX8_ticks 0 = .ok (.aload_n 0, 1) := by decide +kernel
theorem dX8_ticks_1 : decode cX8_ticks 1 = .ok (.getfield 7, 3) := by decide +kernel
theorem dX8_ticks_4 : decode cX8_ticks 4 = .ok (.iload_n 1, 1) := by decide +kernel
theorem dX8_ticks_5 : decode cX8_ticks 5 = .ok (.bipush 45, 2) := by decide +kernel
theorem dX8_ticks_7 : decode cX8_ticks 7 = .ok (.iadd, 1) := by decide +kernel
theorem dX8_ticks_8 : decode cX8_ticks 8 = .ok (.iaload, 1) := by decide +kernel
theorem dX8_ticks_9 : decode cX8_ticks 9 = .ok (.aload_n 0, 1) := by decide +kernel
theorem dX8_ticks_10 : decode cX8_ticks 10 = .ok (.getfield 7, 3) := by decide +kernel
theorem dX8_ticks_13 : decode cX8_ticks 13 = .ok (.iload_n 1, 1) := by decide +kernel
theorem dX8_ticks_14 : decode cX8_ticks 14 = .ok (.bipush 43, 2) := by decide +kernel
theorem dX8_ticks_16 : decode cX8_ticks 16 = .ok (.iadd, 1) := by decide +kernel
theorem dX8_ticks_17 : decode cX8_ticks 17 = .ok (.iaload, 1) := by decide +kernel
theorem dX8_ticks_18 : decode cX8_ticks 18 = .ok (.irem, 1) := by decide +kernel
theorem dX8_ticks_19 : decode cX8_ticks 19 = .ok (.ifCond .ne 7, 3) := by decide +kernel
theorem dX8_ticks_22 : decode cX8_ticks 22 = .ok (.iconst 1, 1) := by decide +kernel
theorem dX8_ticks_23 : decode cX8_ticks 23 = .ok (.goto 4, 3) := by decide +kernel
theorem dX8_ticks_26 : decode cX8_ticks 26 = .ok (.iconst 0, 1) := by decide +kernel
theorem dX8_ticks_27 : decode cX8_ticks 27 = .ok (.istore_n 2, 1) := by decide +kernel
theorem dX8_ticks_28 : decode cX8_ticks 28 = .ok (.iload_n 2, 1) := by decide +kernel
theorem dX8_ticks_29 : decode cX8_ticks 29 = .ok (.ifCond .eq 8, 3) := by decide +kernel
theorem dX8_ticks_32 : decode cX8_ticks 32 = .ok (.bipush (-4), 2) := by decide +kernel
theorem dX8_ticks_34 : decode cX8_ticks 34 = .ok (.goto 8, 3) := by decide +kernel
theorem dX8_ticks_37 : decode cX8_ticks 37 = .ok (.aload_n 0, 1) := by decide +kernel
theorem dX8_ticks_38 : decode cX8_ticks 38 = .ok (.iload_n 1, 1) := by decide +kernel
theorem dX8_ticks_39 : decode cX8_ticks 39 = .ok (.invokevirtual 75, 3) := by decide +kernel
theorem dX8_ticks_42 : decode cX8_ticks 42 = .ok (.istore_n 3, 1) := by decide +kernel
theorem dX8_ticks_43 : decode cX8_ticks 43 = .ok (.iload_n 2, 1) := by decide +kernel
theorem dX8_ticks_44 : decode cX8_ticks 44 = .ok (.ifCond .eq 8, 3) := by decide +kernel
theorem dX8_ticks_47 : decode cX8_ticks 47 = .ok (.bipush (-4), 2) := by decide +kernel
theorem dX8_ticks_49 : decode cX8_ticks 49 = .ok (.goto 14, 3) := by decide +kernel
theorem dX8_ticks_52 : decode cX8_ticks 52 = .ok (.aload_n 0, 1) := by decide +kernel
theorem dX8_ticks_53 : decode cX8_ticks 53 = .ok (.getfield 7, 3) := by decide +kernel
theorem dX8_ticks_56 : decode cX8_ticks 56 = .ok (.iload_n 1, 1) := by decide +kernel
theorem dX8_ticks_57 : decode cX8_ticks 57 = .ok (.bipush 24, 2) := by decide +kernel
theorem dX8_ticks_59 : decode cX8_ticks 59 = .ok (.iadd, 1) := by decide +kernel
theorem dX8_ticks_60 : decode cX8_ticks 60 = .ok (.iload_n 3, 1) := by decide +kernel
theorem dX8_ticks_61 : decode cX8_ticks 61 = .ok (.iadd, 1) := by decide +kernel
theorem dX8_ticks_62 : decode cX8_ticks 62 = .ok (.iaload, 1) := by decide +kernel
theorem dX8_ticks_63 : decode cX8_ticks 63 = .ok (.istore 4, 2) := by decide +kernel
theorem dX8_ticks_65 : decode cX8_ticks 65 = .ok (.aload_n 0, 1) := by decide +kernel
theorem dX8_ticks_66 : decode cX8_ticks 66 = .ok (.iload_n 1, 1) := by decide +kernel
theorem dX8_ticks_67 : decode cX8_ticks 67 = .ok (.iload_n 3, 1) := by decide +kernel
theorem dX8_ticks_68 : decode cX8_ticks 68 = .ok (.iload 4, 2) := by decide +kernel
theorem dX8_ticks_70 : decode cX8_ticks 70 = .ok (.iload_n 2, 1) := by decide +kernel
theorem dX8_ticks_71 : decode cX8_ticks 71 = .ok (.ifCond .eq 8, 3) := by decide +kernel
theorem dX8_ticks_74 : decode cX8_ticks 74 = .ok (.bipush (-4), 2) := by decide +kernel
theorem dX8_ticks_76 : decode cX8_ticks 76 = .ok (.goto 14, 3) := by decide +kernel
theorem dX8_ticks_79 : decode cX8_ticks 79 = .ok (.aload_n 0, 1) := by decide +kernel
theorem dX8_ticks_80 : decode cX8_ticks 80 = .ok (.getfield 7, 3) := by decide +kernel
theorem dX8_ticks_83 : decode cX8_ticks 83 = .ok (.iload_n 1, 1) := by decide +kernel
theorem dX8_ticks_84 : decode cX8_ticks 84 = .ok (.bipush 18, 2) := by decide +kernel
theorem dX8_ticks_86 : decode cX8_ticks 86 = .ok (.iadd, 1) := by decide +kernel
theorem dX8_ticks_87 : decode cX8_ticks 87 = .ok (.iload_n 3, 1) := by decide +kernel
theorem dX8_ticks_88 : decode cX8_ticks 88 = .ok (.iadd, 1) := by decide +kernel
theorem dX8_ticks_89 : decode cX8_ticks 89 = .ok (.iaload, 1) := by decide +kernel
theorem dX8_ticks_90 : decode cX8_ticks 90 = .ok (.invokevirtual 79, 3) := by decide +kernel
theorem dX8_ticks_93 : decode cX8_ticks 93 = .ok (.iconst 0, 1) := by decide +kernel
theorem dX8_ticks_94 : decode cX8_ticks 94 = .ok (.istore 5, 2) := by decide +kernel
theorem dX8_ticks_96 : decode cX8_ticks 96 = .ok (.iload 5, 2) := by decide +kernel
theorem dX8_ticks_98 : decode cX8_ticks 98 = .ok (.aload_n 0, 1) := by decide +kernel
theorem dX8_ticks_99 : decode cX8_ticks 99 = .ok (.getfield 7, 3) := by decide +kernel
theorem dX8_ticks_102 : decode cX8_ticks 102 = .ok (.iload_n 1, 1) := by decide +kernel
theorem dX8_ticks_103 : decode cX8_ticks 103 = .ok (.bipush 48, 2) := by decide +kernel
theorem dX8_ticks_105 : decode cX8_ticks 105 = .ok (.iadd, 1) := by decide +kernel
theorem dX8_ticks_106 : decode cX8_ticks 106 = .ok (.iaload, 1) := by decide +kernel
theorem dX8_ticks_107 : decode cX8_ticks 107 = .ok (.if_icmp .ge 71, 3) := by decide +kernel
theorem dX8_ticks_110 : decode cX8_ticks 110 = .ok (.iload_n 1, 1) := by decide +kernel
theorem dX8_ticks_111 : decode cX8_ticks 111 = .ok (.bipush 89, 2) := by decide +kernel
theorem dX8_ticks_113 : decode cX8_ticks 113 = .ok (.iadd, 1) := by decide +kernel
theorem dX8_ticks_114 : decode cX8_ticks 114 = .ok (.bipush 16, 2) := by decide +kernel
theorem dX8_ticks_116 : decode cX8_ticks 116 = .ok (.iload 5, 2) := by decide +kernel
theorem dX8_ticks_118 : decode cX8_ticks 118 = .ok (.imul, 1) := by decide +kernel
theorem dX8_ticks_119 : decode cX8_ticks 119 = .ok (.iadd, 1) := by decide +kernel
theorem dX8_ticks_120 : decode cX8_ticks 120 = .ok (.istore 6, 2) := by decide +kernel
theorem dX8_ticks_122 : decode cX8_ticks 122 = .ok (.aload_n 0, 1) := by decide +kernel
theorem dX8_ticks_123 : decode cX8_ticks 123 = .ok (.iload_n 1, 1) := by decide +kernel
theorem dX8_ticks_124 : decode cX8_ticks 124 = .ok (.iload 5, 2) := by decide +kernel
theorem dX8_ticks_126 : decode cX8_ticks 126 = .ok (.invokevirtual 82, 3) := by decide +kernel
theorem dX8_ticks_129 : decode cX8_ticks 129 = .ok (.ifCond .eq 19, 3) := by decide +kernel
theorem dX8_ticks_132 : decode cX8_ticks 132 = .ok (.aload_n 0, 1) := by decide +kernel
theorem dX8_ticks_133 : decode cX8_ticks 133 = .ok (.getfield 7, 3) := by decide +kernel
theorem dX8_ticks_136 : decode cX8_ticks 136 = .ok (.iload 6, 2) := by decide +kernel
theorem dX8_ticks_138 : decode cX8_ticks 138 = .ok (.iconst 3, 1) := by decide +kernel
theorem dX8_ticks_139 : decode cX8_ticks 139 = .ok (.iadd, 1) := by decide +kernel
theorem dX8_ticks_140 : decode cX8_ticks 140 = .ok (.dup2, 1) := by decide +kernel
theorem dX8_ticks_141 : decode cX8_ticks 141 = .ok (.iaload, 1) := by decide +kernel
theorem dX8_ticks_142 : decode cX8_ticks 142 = .ok (.iconst 1, 1) := by decide +kernel
theorem dX8_ticks_143 : decode cX8_ticks 143 = .ok (.iadd, 1) := by decide +kernel
theorem dX8_ticks_144 : decode cX8_ticks 144 = .ok (.iastore, 1) := by decide +kernel
theorem dX8_ticks_145 : decode cX8_ticks 145 = .ok (.goto 27, 3) := by decide +kernel
theorem dX8_ticks_148 : decode cX8_ticks 148 = .ok (.iload_n 2, 1) := by decide +kernel
theorem dX8_ticks_149 : decode cX8_ticks 149 = .ok (.ifCond .eq 13, 3) := by decide +kernel
theorem dX8_ticks_152 : decode cX8_ticks 152 = .ok (.aload_n 0, 1) := by decide +kernel
theorem dX8_ticks_153 : decode cX8_ticks 153 = .ok (.iload_n 1, 1) := by decide +kernel
theorem dX8_ticks_154 : decode cX8_ticks 154 = .ok (.iload 6, 2) := by decide +kernel
theorem dX8_ticks_156 : decode cX8_ticks 156 = .ok (.invokevirtual 86, 3) := by decide +kernel
theorem dX8_ticks_159 : decode cX8_ticks 159 = .ok (.goto 13, 3) := by decide +kernel
theorem dX8_ticks_162 : decode cX8_ticks 162 = .ok (.aload_n 0, 1) := by decide +kernel
theorem dX8_ticks_163 : decode cX8_ticks 163 = .ok (.iload_n 1, 1) := by decide +kernel
theorem dX8_ticks_164 : decode cX8_ticks 164 = .ok (.iload 6, 2) := by decide +kernel
theorem dX8_ticks_166 : decode cX8_ticks 166 = .ok (.iload_n 3, 1) := by decide +kernel
theorem dX8_ticks_167 : decode cX8_ticks 167 = .ok (.iload 4, 2) := by decide +kernel
theorem dX8_ticks_169 : decode cX8_ticks 169 = .ok (.invokevirtual 89, 3) := by decide +kernel
theorem dX8_ticks_172 : decode cX8_ticks 172 = .ok (.iinc 5 1, 3) := by decide +kernel
theorem dX8_ticks_175 : decode cX8_ticks 175 = .ok (.goto (-79), 3) := by decide +kernel
theorem dX8_ticks_178 : decode cX8_ticks 178 = .ok (.iload_n 2, 1) := by decide +kernel
theorem dX8_ticks_179 : decode cX8_ticks 179 = .ok (.ifCond .eq 19, 3) := by decide +kernel
theorem dX8_ticks_182 : decode cX8_ticks 182 = .ok (.aload_n 0, 1) := by decide +kernel
theorem dX8_ticks_183 : decode cX8_ticks 183 = .ok (.getfield 7, 3) := by decide +kernel
theorem dX8_ticks_186 : decode cX8_ticks 186 = .ok (.iload_n 1, 1) := by decide +kernel
theorem dX8_ticks_187 : decode cX8_ticks 187 = .ok (.bipush 46, 2) := by decide +kernel
theorem dX8_ticks_189 : decode cX8_ticks 189 = .ok (.iadd, 1) := by decide +kernel
theorem dX8_ticks_190 : decode cX8_ticks 190 = .ok (.dup2, 1) := by decide +kernel
theorem dX8_ticks_191 : decode cX8_ticks 191 = .ok (.iaload, 1) := by decide +kernel
theorem dX8_ticks_192 : decode cX8_ticks 192 = .ok (.iconst 1, 1) := by decide +kernel
theorem dX8_ticks_193 : decode cX8_ticks 193 = .ok (.iadd, 1) := by decide +kernel
theorem dX8_ticks_194 : decode cX8_ticks 194 = .ok (.iastore, 1) := by decide +kernel
theorem dX8_ticks_195 : decode cX8_ticks 195 = .ok (.goto 69, 3) := by decide +kernel
theorem dX8_ticks_198 : decode cX8_ticks 198 = .ok (.aload_n 0, 1) := by decide +kernel
theorem dX8_ticks_199 : decode cX8_ticks 199 = .ok (.getfield 7, 3) := by decide +kernel
theorem dX8_ticks_202 : decode cX8_ticks 202 = .ok (.iload_n 1, 1) := by decide +kernel
theorem dX8_ticks_203 : decode cX8_ticks 203 = .ok (.bipush 24, 2) := by decide +kernel
theorem dX8_ticks_205 : decode cX8_ticks 205 = .ok (.iadd, 1) := by decide +kernel
theorem dX8_ticks_206 : decode cX8_ticks 206 = .ok (.iload_n 3, 1) := by decide +kernel
theorem dX8_ticks_207 : decode cX8_ticks 207 = .ok (.iadd, 1) := by decide +kernel
theorem dX8_ticks_208 : decode cX8_ticks 208 = .ok (.iload 4, 2) := by decide +kernel
theorem dX8_ticks_210 : decode cX8_ticks 210 = .ok (.iconst 1, 1) := by decide +kernel
theorem dX8_ticks_211 : decode cX8_ticks 211 = .ok (.iadd, 1) := by decide +kernel
theorem dX8_ticks_212 : decode cX8_ticks 212 = .ok (.aload_n 0, 1) := by decide +kernel
theorem dX8_ticks_213 : decode cX8_ticks 213 = .ok (.getfield 7, 3) := by decide +kernel
theorem dX8_ticks_216 : decode cX8_ticks 216 = .ok (.iload_n 1, 1) := by decide +kernel
theorem dX8_ticks_217 : decode cX8_ticks 217 = .ok (.iconst 0, 1) := by decide +kernel
theorem dX8_ticks_218 : decode cX8_ticks 218 = .ok (.iadd, 1) := by decide +kernel
theorem dX8_ticks_219 : decode cX8_ticks 219 = .ok (.iload_n 3, 1) := by decide +kernel
theorem dX8_ticks_220 : decode cX8_ticks 220 = .ok (.iadd, 1) := by decide +kernel
theorem dX8_ticks_221 : decode cX8_ticks 221 = .ok (.iaload, 1) := by decide +kernel
theorem dX8_ticks_222 : decode cX8_ticks 222 = .ok (.aload_n 0, 1) := by decide +kernel
theorem dX8_ticks_223 : decode cX8_ticks 223 = .ok (.getfield 7, 3) := by decide +kernel
theorem dX8_ticks_226 : decode cX8_ticks 226 = .ok (.iload_n 1, 1) := by decide +kernel
theorem dX8_ticks_227 : decode cX8_ticks 227 = .ok (.bipush 6, 2) := by decide +kernel
theorem dX8_ticks_229 : decode cX8_ticks 229 = .ok (.iadd, 1) := by decide +kernel
theorem dX8_ticks_230 : decode cX8_ticks 230 = .ok (.iload_n 3, 1) := by decide +kernel
theorem dX8_ticks_231 : decode cX8_ticks 231 = .ok (.iadd, 1) := by decide +kernel
theorem dX8_ticks_232 : decode cX8_ticks 232 = .ok (.iaload, 1) := by decide +kernel
theorem dX8_ticks_233 : decode cX8_ticks 233 = .ok (.iadd, 1) := by decide +kernel
theorem dX8_ticks_234 : decode cX8_ticks 234 = .ok (.irem, 1) := by decide +kernel
theorem dX8_ticks_235 : decode cX8_ticks 235 = .ok (.iastore, 1) := by decide +kernel
theorem dX8_ticks_236 : decode cX8_ticks 236 = .ok (.aload_n 0, 1) := by decide +kernel
theorem dX8_ticks_237 : decode cX8_ticks 237 = .ok (.getfield 7, 3) := by decide +kernel
theorem dX8_ticks_240 : decode cX8_ticks 240 = .ok (.iload_n 1, 1) := by decide +kernel
theorem dX8_ticks_241 : decode cX8_ticks 241 = .ok (.bipush 36, 2) := by decide +kernel
theorem dX8_ticks_243 : decode cX8_ticks 243 = .ok (.iadd, 1) := by decide +kernel
theorem dX8_ticks_244 : decode cX8_ticks 244 = .ok (.iload_n 3, 1) := by decide +kernel
theorem dX8_ticks_245 : decode cX8_ticks 245 = .ok (.iadd, 1) := by decide +kernel
theorem dX8_ticks_246 : decode cX8_ticks 246 = .ok (.dup2, 1) := by decide +kernel
theorem dX8_ticks_247 : decode cX8_ticks 247 = .ok (.iaload, 1) := by decide +kernel
theorem dX8_ticks_248 : decode cX8_ticks 248 = .ok (.iconst 1, 1) := by decide +kernel
theorem dX8_ticks_249 : decode cX8_ticks 249 = .ok (.iadd, 1) := by decide +kernel
theorem dX8_ticks_250 : decode cX8_ticks 250 = .ok (.iastore, 1) := by decide +kernel
theorem dX8_ticks_251 : decode cX8_ticks 251 = .ok (.aload_n 0, 1) := by decide +kernel
theorem dX8_ticks_252 : decode cX8_ticks 252 = .ok (.getfield 7, 3) := by decide +kernel
theorem dX8_ticks_255 : decode cX8_ticks 255 = .ok (.iload_n 1, 1) := by decide +kernel
theorem dX8_ticks_256 : decode cX8_ticks 256 = .ok (.bipush 47, 2) := by decide +kernel
theorem dX8_ticks_258 : decode cX8_ticks 258 = .ok (.iadd, 1) := by decide +kernel
theorem dX8_ticks_259 : decode cX8_ticks 259 = .ok (.dup2, 1) := by decide +kernel
theorem dX8_ticks_260 : decode cX8_ticks 260 = .ok (.iaload, 1) := by decide +kernel
theorem dX8_ticks_261 : decode cX8_ticks 261 = .ok (.iconst 1, 1) := by decide +kernel
theorem dX8_ticks_262 : decode cX8_ticks 262 = .ok (.iadd, 1) := by decide +kernel
theorem dX8_ticks_263 : decode cX8_ticks 263 = .ok (.iastore, 1) := by decide +kernel
theorem dX8_ticks_264 : decode cX8_ticks 264 = .ok (.aload_n 0, 1) := by decide +kernel
theorem dX8_ticks_265 : decode cX8_ticks 265 = .ok (.getfield 7, 3) := by decide +kernel
theorem dX8_ticks_268 : decode cX8_ticks 268 = .ok (.iload_n 1, 1) := by decide +kernel
theorem dX8_ticks_269 : decode cX8_ticks 269 = .ok (.bipush 45, 2) := by decide +kernel
theorem dX8_ticks_271 : decode cX8_ticks 271 = .ok (.iadd, 1) := by decide +kernel
theorem dX8_ticks_272 : decode cX8_ticks 272 = .ok (.dup2, 1) := by decide +kernel
theorem dX8_ticks_273 : decode cX8_ticks 273 = .ok (.iaload, 1) := by decide +kernel
theorem dX8_ticks_274 : decode cX8_ticks 274 = .ok (.iconst 1, 1) := by decide +kernel
theorem dX8_ticks_275 : decode cX8_ticks 275 = .ok (.iadd, 1) := by decide +kernel
theorem dX8_ticks_276 : decode cX8_ticks 276 = .ok (.iastore, 1) := by decide +kernel
theorem dX8_ticks_277 : decode cX8_ticks 277 = .ok (.iload_n 3, 1) := by decide +kernel
theorem dX8_ticks_278 : decode cX8_ticks 278 = .ok (.ireturn, 1) := by decide +kernel
theorem dX8_copies_0 : decode cX8_copies 0 = .ok (.iconst 0, 1) := by decide +kernel
theorem dX8_copies_1 : decode cX8_copies 1 = .ok (.istore_n 3, 1) := by decide +kernel
theorem dX8_copies_2 : decode cX8_copies 2 = .ok (.iload_n 3, 1) := by decide +kernel
theorem dX8_copies_3 : decode cX8_copies 3 = .ok (.sipush 153, 3) := by decide +kernel
theorem dX8_copies_6 : decode cX8_copies 6 = .ok (.if_icmp .ge 25, 3) := by decide +kernel
theorem dX8_copies_9 : decode cX8_copies 9 = .ok (.aload_n 0, 1) := by decide +kernel
theorem dX8_copies_10 : decode cX8_copies 10 = .ok (.getfield 7, 3) := by decide +kernel
theorem dX8_copies_13 : decode cX8_copies 13 = .ok (.iload_n 2, 1) := by decide +kernel
theorem dX8_copies_14 : decode cX8_copies 14 = .ok (.iload_n 3, 1) := by decide +kernel
theorem dX8_copies_15 : decode cX8_copies 15 = .ok (.iadd, 1) := by decide +kernel
theorem dX8_copies_16 : decode cX8_copies 16 = .ok (.aload_n 0, 1) := by decide +kernel
theorem dX8_copies_17 : decode cX8_copies 17 = .ok (.getfield 7, 3) := by decide +kernel
theorem dX8_copies_20 : decode cX8_copies 20 = .ok (.iload_n 1, 1) := by decide +kernel
theorem dX8_copies_21 : decode cX8_copies 21 = .ok (.iload_n 3, 1) := by decide +kernel
theorem dX8_copies_22 : decode cX8_copies 22 = .ok (.iadd, 1) := by decide +kernel
theorem dX8_copies_23 : decode cX8_copies 23 = .ok (.iaload, 1) := by decide +kernel
theorem dX8_copies_24 : decode cX8_copies 24 = .ok (.iastore, 1) := by decide +kernel
theorem dX8_copies_25 : decode cX8_copies 25 = .ok (.iinc 3 1, 3) := by decide +kernel
theorem dX8_copies_28 : decode cX8_copies 28 = .ok (.goto (-26), 3) := by decide +kernel
theorem dX8_copies_31 : decode cX8_copies 31 = .ok (.return_, 1) := by decide +kernel
theorem dX8_minds_0 : decode cX8_minds 0 = .ok (.aload_n 0, 1) := by decide +kernel
theorem dX8_minds_1 : decode cX8_minds 1 = .ok (.getfield 27, 3) := by decide +kernel
theorem dX8_minds_4 : decode cX8_minds 4 = .ok (.iconst 4, 1) := by decide +kernel
theorem dX8_minds_5 : decode cX8_minds 5 = .ok (.if_icmp .ne 42, 3) := by decide +kernel
theorem dX8_minds_8 : decode cX8_minds 8 = .ok (.iconst 2, 1) := by decide +kernel
theorem dX8_minds_9 : decode cX8_minds 9 = .ok (.istore_n 1, 1) := by decide +kernel
theorem dX8_minds_10 : decode cX8_minds 10 = .ok (.iload_n 1, 1) := by decide +kernel
theorem dX8_minds_11 : decode cX8_minds 11 = .ok (.iconst 5, 1) := by decide +kernel
theorem dX8_minds_12 : decode cX8_minds 12 = .ok (.if_icmp .ge 25, 3) := by decide +kernel
theorem dX8_minds_15 : decode cX8_minds 15 = .ok (.aload_n 0, 1) := by decide +kernel
theorem dX8_minds_16 : decode cX8_minds 16 = .ok (.sipush 153, 3) := by decide +kernel
theorem dX8_minds_19 : decode cX8_minds 19 = .ok (.iload_n 1, 1) := by decide +kernel
theorem dX8_minds_20 : decode cX8_minds 20 = .ok (.iconst 1, 1) := by decide +kernel
theorem dX8_minds_21 : decode cX8_minds 21 = .ok (.iadd, 1) := by decide +kernel
theorem dX8_minds_22 : decode cX8_minds 22 = .ok (.imul, 1) := by decide +kernel
theorem dX8_minds_23 : decode cX8_minds 23 = .ok (.sipush 153, 3) := by decide +kernel
theorem dX8_minds_26 : decode cX8_minds 26 = .ok (.iload_n 1, 1) := by decide +kernel
theorem dX8_minds_27 : decode cX8_minds 27 = .ok (.imul, 1) := by decide +kernel
theorem dX8_minds_28 : decode cX8_minds 28 = .ok (.invokevirtual 92, 3) := by decide +kernel
theorem dX8_minds_31 : decode cX8_minds 31 = .ok (.iinc 1 1, 3) := by decide +kernel
theorem dX8_minds_34 : decode cX8_minds 34 = .ok (.goto (-24), 3) := by decide +kernel
theorem dX8_minds_37 : decode cX8_minds 37 = .ok (.aload_n 0, 1) := by decide +kernel
theorem dX8_minds_38 : decode cX8_minds 38 = .ok (.dup, 1) := by decide +kernel
theorem dX8_minds_39 : decode cX8_minds 39 = .ok (.getfield 27, 3) := by decide +kernel
theorem dX8_minds_42 : decode cX8_minds 42 = .ok (.iconst 1, 1) := by decide +kernel
theorem dX8_minds_43 : decode cX8_minds 43 = .ok (.isub, 1) := by decide +kernel
theorem dX8_minds_44 : decode cX8_minds 44 = .ok (.putfield 27, 3) := by decide +kernel
theorem dX8_minds_47 : decode cX8_minds 47 = .ok (.aload_n 0, 1) := by decide +kernel
theorem dX8_minds_48 : decode cX8_minds 48 = .ok (.iconst 0, 1) := by decide +kernel
theorem dX8_minds_49 : decode cX8_minds 49 = .ok (.sipush 153, 3) := by decide +kernel
theorem dX8_minds_52 : decode cX8_minds 52 = .ok (.iconst 2, 1) := by decide +kernel
theorem dX8_minds_53 : decode cX8_minds 53 = .ok (.aload_n 0, 1) := by decide +kernel
theorem dX8_minds_54 : decode cX8_minds 54 = .ok (.getfield 27, 3) := by decide +kernel
theorem dX8_minds_57 : decode cX8_minds 57 = .ok (.iadd, 1) := by decide +kernel
theorem dX8_minds_58 : decode cX8_minds 58 = .ok (.imul, 1) := by decide +kernel
theorem dX8_minds_59 : decode cX8_minds 59 = .ok (.invokevirtual 92, 3) := by decide +kernel
theorem dX8_minds_62 : decode cX8_minds 62 = .ok (.aload_n 0, 1) := by decide +kernel
theorem dX8_minds_63 : decode cX8_minds 63 = .ok (.dup, 1) := by decide +kernel
theorem dX8_minds_64 : decode cX8_minds 64 = .ok (.getfield 27, 3) := by decide +kernel
theorem dX8_minds_67 : decode cX8_minds 67 = .ok (.iconst 1, 1) := by decide +kernel
theorem dX8_minds_68 : decode cX8_minds 68 = .ok (.iadd, 1) := by decide +kernel
theorem dX8_minds_69 : decode cX8_minds 69 = .ok (.putfield 27, 3) := by decide +kernel
theorem dX8_minds_72 : decode cX8_minds 72 = .ok (.return_, 1) := by decide +kernel
theorem dX8_undo_0 : decode cX8_undo 0 = .ok (.aload_n 0, 1) := by decide +kernel
theorem dX8_undo_1 : decode cX8_undo 1 = .ok (.getfield 27, 3) := by decide +kernel
theorem dX8_undo_4 : decode cX8_undo 4 = .ok (.ifCond .ne 6, 3) := by decide +kernel
theorem dX8_undo_7 : decode cX8_undo 7 = .ok (.bipush (-2), 2) := by decide +kernel
theorem dX8_undo_9 : decode cX8_undo 9 = .ok (.ireturn, 1) := by decide +kernel
theorem dX8_undo_10 : decode cX8_undo 10 = .ok (.aload_n 0, 1) := by decide +kernel
theorem dX8_undo_11 : decode cX8_undo 11 = .ok (.dup, 1) := by decide +kernel
theorem dX8_undo_12 : decode cX8_undo 12 = .ok (.getfield 27, 3) := by decide +kernel
theorem dX8_undo_15 : decode cX8_undo 15 = .ok (.iconst 1, 1) := by decide +kernel
theorem dX8_undo_16 : decode cX8_undo 16 = .ok (.isub, 1) := by decide +kernel
theorem dX8_undo_17 : decode cX8_undo 17 = .ok (.putfield 27, 3) := by decide +kernel
theorem dX8_undo_20 : decode cX8_undo 20 = .ok (.aload_n 0, 1) := by decide +kernel
theorem dX8_undo_21 : decode cX8_undo 21 = .ok (.sipush 153, 3) := by decide +kernel
theorem dX8_undo_24 : decode cX8_undo 24 = .ok (.iconst 2, 1) := by decide +kernel
theorem dX8_undo_25 : decode cX8_undo 25 = .ok (.aload_n 0, 1) := by decide +kernel
theorem dX8_undo_26 : decode cX8_undo 26 = .ok (.getfield 27, 3) := by decide +kernel
theorem dX8_undo_29 : decode cX8_undo 29 = .ok (.iadd, 1) := by decide +kernel
theorem dX8_undo_30 : decode cX8_undo 30 = .ok (.imul, 1) := by decide +kernel
theorem dX8_undo_31 : decode cX8_undo 31 = .ok (.iconst 0, 1) := by decide +kernel
theorem dX8_undo_32 : decode cX8_undo 32 = .ok (.invokevirtual 92, 3) := by decide +kernel
theorem dX8_undo_35 : decode cX8_undo 35 = .ok (.aload_n 0, 1) := by decide +kernel
theorem dX8_undo_36 : decode cX8_undo 36 = .ok (.getfield 27, 3) := by decide +kernel
theorem dX8_undo_39 : decode cX8_undo 39 = .ok (.ireturn, 1) := by decide +kernel
theorem dX8_tick_0 : decode cX8_tick 0 = .ok (.iload_n 1, 1) := by decide +kernel
theorem dX8_tick_1 : decode cX8_tick 1 = .ok (.iconst 1, 1) := by decide +kernel
theorem dX8_tick_2 : decode cX8_tick 2 = .ok (.bipush 99, 2) := by decide +kernel
theorem dX8_tick_4 : decode cX8_tick 4 = .ok (.invokestatic 31, 3) := by decide +kernel
theorem dX8_tick_7 : decode cX8_tick 7 = .ok (.ifCond .ne 5, 3) := by decide +kernel
theorem dX8_tick_10 : decode cX8_tick 10 = .ok (.iconst (-1), 1) := by decide +kernel
theorem dX8_tick_11 : decode cX8_tick 11 = .ok (.ireturn, 1) := by decide +kernel
theorem dX8_tick_12 : decode cX8_tick 12 = .ok (.aload_n 0, 1) := by decide +kernel
theorem dX8_tick_13 : decode cX8_tick 13 = .ok (.getfield 7, 3) := by decide +kernel
theorem dX8_tick_16 : decode cX8_tick 16 = .ok (.bipush 45, 2) := by decide +kernel
theorem dX8_tick_18 : decode cX8_tick 18 = .ok (.iaload, 1) := by decide +kernel
theorem dX8_tick_19 : decode cX8_tick 19 = .ok (.iload_n 1, 1) := by decide +kernel
theorem dX8_tick_20 : decode cX8_tick 20 = .ok (.iadd, 1) := by decide +kernel
theorem dX8_tick_21 : decode cX8_tick 21 = .ok (.sipush 9999, 3) := by decide +kernel
theorem dX8_tick_24 : decode cX8_tick 24 = .ok (.if_icmp .le 6, 3) := by decide +kernel
theorem dX8_tick_27 : decode cX8_tick 27 = .ok (.bipush (-2), 2) := by decide +kernel
theorem dX8_tick_29 : decode cX8_tick 29 = .ok (.ireturn, 1) := by decide +kernel
theorem dX8_tick_30 : decode cX8_tick 30 = .ok (.aload_n 0, 1) := by decide +kernel
theorem dX8_tick_31 : decode cX8_tick 31 = .ok (.invokevirtual 95, 3) := by decide +kernel
theorem dX8_tick_34 : decode cX8_tick 34 = .ok (.aload_n 0, 1) := by decide +kernel
theorem dX8_tick_35 : decode cX8_tick 35 = .ok (.getfield 7, 3) := by decide +kernel
theorem dX8_tick_38 : decode cX8_tick 38 = .ok (.bipush 47, 2) := by decide +kernel
theorem dX8_tick_40 : decode cX8_tick 40 = .ok (.iaload, 1) := by decide +kernel
theorem dX8_tick_41 : decode cX8_tick 41 = .ok (.istore_n 2, 1) := by decide +kernel
theorem dX8_tick_42 : decode cX8_tick 42 = .ok (.iconst 0, 1) := by decide +kernel
theorem dX8_tick_43 : decode cX8_tick 43 = .ok (.istore_n 3, 1) := by decide +kernel
theorem dX8_tick_44 : decode cX8_tick 44 = .ok (.iload_n 3, 1) := by decide +kernel
theorem dX8_tick_45 : decode cX8_tick 45 = .ok (.iload_n 1, 1) := by decide +kernel
theorem dX8_tick_46 : decode cX8_tick 46 = .ok (.if_icmp .ge 15, 3) := by decide +kernel
theorem dX8_tick_49 : decode cX8_tick 49 = .ok (.aload_n 0, 1) := by decide +kernel
theorem dX8_tick_50 : decode cX8_tick 50 = .ok (.iconst 0, 1) := by decide +kernel
theorem dX8_tick_51 : decode cX8_tick 51 = .ok (.invokevirtual 98, 3) := by decide +kernel
theorem dX8_tick_54 : decode cX8_tick 54 = .ok (.pop, 1) := by decide +kernel
theorem dX8_tick_55 : decode cX8_tick 55 = .ok (.iinc 3 1, 3) := by decide +kernel
theorem dX8_tick_58 : decode cX8_tick 58 = .ok (.goto (-14), 3) := by decide +kernel
theorem dX8_tick_61 : decode cX8_tick 61 = .ok (.aload_n 0, 1) := by decide +kernel
theorem dX8_tick_62 : decode cX8_tick 62 = .ok (.getfield 7, 3) := by decide +kernel
theorem dX8_tick_65 : decode cX8_tick 65 = .ok (.bipush 47, 2) := by decide +kernel
theorem dX8_tick_67 : decode cX8_tick 67 = .ok (.iaload, 1) := by decide +kernel
theorem dX8_tick_68 : decode cX8_tick 68 = .ok (.iload_n 2, 1) := by decide +kernel
theorem dX8_tick_69 : decode cX8_tick 69 = .ok (.isub, 1) := by decide +kernel
theorem dX8_tick_70 : decode cX8_tick 70 = .ok (.ireturn, 1) := by decide +kernel
theorem dX8_isFile_0 : decode cX8_isFile 0 = .ok (.iload_n 1, 1) := by decide +kernel
theorem dX8_isFile_1 : decode cX8_isFile 1 = .ok (.iconst 0, 1) := by decide +kernel
theorem dX8_isFile_2 : decode cX8_isFile 2 = .ok (.aload_n 0, 1) := by decide +kernel
theorem dX8_isFile_3 : decode cX8_isFile 3 = .ok (.getfield 7, 3) := by decide +kernel
theorem dX8_isFile_6 : decode cX8_isFile 6 = .ok (.bipush 42, 2) := by decide +kernel
theorem dX8_isFile_8 : decode cX8_isFile 8 = .ok (.iaload, 1) := by decide +kernel
theorem dX8_isFile_9 : decode cX8_isFile 9 = .ok (.iconst 1, 1) := by decide +kernel
theorem dX8_isFile_10 : decode cX8_isFile 10 = .ok (.isub, 1) := by decide +kernel
theorem dX8_isFile_11 : decode cX8_isFile 11 = .ok (.invokestatic 31, 3) := by decide +kernel
theorem dX8_isFile_14 : decode cX8_isFile 14 = .ok (.ireturn, 1) := by decide +kernel
theorem dX8_isListener_0 : decode cX8_isListener 0 = .ok (.iload_n 1, 1) := by decide +kernel
theorem dX8_isListener_1 : decode cX8_isListener 1 = .ok (.iconst 0, 1) := by decide +kernel
theorem dX8_isListener_2 : decode cX8_isListener 2 = .ok (.aload_n 0, 1) := by decide +kernel
theorem dX8_isListener_3 : decode cX8_isListener 3 = .ok (.getfield 7, 3) := by decide +kernel
theorem dX8_isListener_6 : decode cX8_isListener 6 = .ok (.bipush 48, 2) := by decide +kernel
theorem dX8_isListener_8 : decode cX8_isListener 8 = .ok (.iaload, 1) := by decide +kernel
theorem dX8_isListener_9 : decode cX8_isListener 9 = .ok (.iconst 1, 1) := by decide +kernel
theorem dX8_isListener_10 : decode cX8_isListener 10 = .ok (.isub, 1) := by decide +kernel
theorem dX8_isListener_11 : decode cX8_isListener 11 = .ok (.invokestatic 31, 3) := by decide +kernel
theorem dX8_isListener_14 : decode cX8_isListener 14 = .ok (.ireturn, 1) := by decide +kernel
theorem dX8_renew_0 : decode cX8_renew 0 = .ok (.aload_n 0, 1) := by decide +kernel
theorem dX8_renew_1 : decode cX8_renew 1 = .ok (.iload_n 1, 1) := by decide +kernel
theorem dX8_renew_2 : decode cX8_renew 2 = .ok (.invokevirtual 101, 3) := by decide +kernel
theorem dX8_renew_5 : decode cX8_renew 5 = .ok (.ifCond .ne 5, 3) := by decide +kernel
theorem dX8_renew_8 : decode cX8_renew 8 = .ok (.iconst (-1), 1) := by decide +kernel
theorem dX8_renew_9 : decode cX8_renew 9 = .ok (.ireturn, 1) := by decide +kernel
theorem dX8_renew_10 : decode cX8_renew 10 = .ok (.aload_n 0, 1) := by decide +kernel
theorem dX8_renew_11 : decode cX8_renew 11 = .ok (.invokevirtual 95, 3) := by decide +kernel
theorem dX8_renew_14 : decode cX8_renew 14 = .ok (.aload_n 0, 1) := by decide +kernel
theorem dX8_renew_15 : decode cX8_renew 15 = .ok (.getfield 7, 3) := by decide +kernel
theorem dX8_renew_18 : decode cX8_renew 18 = .ok (.bipush 18, 2) := by decide +kernel
theorem dX8_renew_20 : decode cX8_renew 20 = .ok (.iload_n 1, 1) := by decide +kernel
theorem dX8_renew_21 : decode cX8_renew 21 = .ok (.iadd, 1) := by decide +kernel
theorem dX8_renew_22 : decode cX8_renew 22 = .ok (.aload_n 0, 1) := by decide +kernel
theorem dX8_renew_23 : decode cX8_renew 23 = .ok (.getfield 7, 3) := by decide +kernel
theorem dX8_renew_26 : decode cX8_renew 26 = .ok (.bipush 18, 2) := by decide +kernel
theorem dX8_renew_28 : decode cX8_renew 28 = .ok (.iload_n 1, 1) := by decide +kernel
theorem dX8_renew_29 : decode cX8_renew 29 = .ok (.iadd, 1) := by decide +kernel
theorem dX8_renew_30 : decode cX8_renew 30 = .ok (.iaload, 1) := by decide +kernel
theorem dX8_renew_31 : decode cX8_renew 31 = .ok (.iconst 1, 1) := by decide +kernel
theorem dX8_renew_32 : decode cX8_renew 32 = .ok (.iadd, 1) := by decide +kernel
theorem dX8_renew_33 : decode cX8_renew 33 = .ok (.bipush 100, 2) := by decide +kernel
theorem dX8_renew_35 : decode cX8_renew 35 = .ok (.irem, 1) := by decide +kernel
theorem dX8_renew_36 : decode cX8_renew 36 = .ok (.iastore, 1) := by decide +kernel
theorem dX8_renew_37 : decode cX8_renew 37 = .ok (.aload_n 0, 1) := by decide +kernel
theorem dX8_renew_38 : decode cX8_renew 38 = .ok (.getfield 7, 3) := by decide +kernel
theorem dX8_renew_41 : decode cX8_renew 41 = .ok (.bipush 24, 2) := by decide +kernel
theorem dX8_renew_43 : decode cX8_renew 43 = .ok (.iload_n 1, 1) := by decide +kernel
theorem dX8_renew_44 : decode cX8_renew 44 = .ok (.iadd, 1) := by decide +kernel
theorem dX8_renew_45 : decode cX8_renew 45 = .ok (.iconst 0, 1) := by decide +kernel
theorem dX8_renew_46 : decode cX8_renew 46 = .ok (.iastore, 1) := by decide +kernel
theorem dX8_renew_47 : decode cX8_renew 47 = .ok (.aload_n 0, 1) := by decide +kernel
theorem dX8_renew_48 : decode cX8_renew 48 = .ok (.getfield 7, 3) := by decide +kernel
theorem dX8_renew_51 : decode cX8_renew 51 = .ok (.bipush 18, 2) := by decide +kernel
theorem dX8_renew_53 : decode cX8_renew 53 = .ok (.iload_n 1, 1) := by decide +kernel
theorem dX8_renew_54 : decode cX8_renew 54 = .ok (.iadd, 1) := by decide +kernel
theorem dX8_renew_55 : decode cX8_renew 55 = .ok (.iaload, 1) := by decide +kernel
theorem dX8_renew_56 : decode cX8_renew 56 = .ok (.ireturn, 1) := by decide +kernel
theorem dX8_weigh_0 : decode cX8_weigh 0 = .ok (.aload_n 0, 1) := by decide +kernel
theorem dX8_weigh_1 : decode cX8_weigh 1 = .ok (.iload_n 1, 1) := by decide +kernel
theorem dX8_weigh_2 : decode cX8_weigh 2 = .ok (.invokevirtual 101, 3) := by decide +kernel
theorem dX8_weigh_5 : decode cX8_weigh 5 = .ok (.ifCond .eq 13, 3) := by decide +kernel
theorem dX8_weigh_8 : decode cX8_weigh 8 = .ok (.iload_n 2, 1) := by decide +kernel
theorem dX8_weigh_9 : decode cX8_weigh 9 = .ok (.iconst 1, 1) := by decide +kernel
theorem dX8_weigh_10 : decode cX8_weigh 10 = .ok (.bipush 9, 2) := by decide +kernel
theorem dX8_weigh_12 : decode cX8_weigh 12 = .ok (.invokestatic 31, 3) := by decide +kernel
theorem dX8_weigh_15 : decode cX8_weigh 15 = .ok (.ifCond .ne 5, 3) := by decide +kernel
theorem dX8_weigh_18 : decode cX8_weigh 18 = .ok (.iconst (-1), 1) := by decide +kernel
theorem dX8_weigh_19 : decode cX8_weigh 19 = .ok (.ireturn, 1) := by decide +kernel
theorem dX8_weigh_20 : decode cX8_weigh 20 = .ok (.aload_n 0, 1) := by decide +kernel
theorem dX8_weigh_21 : decode cX8_weigh 21 = .ok (.getfield 7, 3) := by decide +kernel
theorem dX8_weigh_24 : decode cX8_weigh 24 = .ok (.bipush 12, 2) := by decide +kernel
theorem dX8_weigh_26 : decode cX8_weigh 26 = .ok (.iload_n 1, 1) := by decide +kernel
theorem dX8_weigh_27 : decode cX8_weigh 27 = .ok (.iadd, 1) := by decide +kernel
theorem dX8_weigh_28 : decode cX8_weigh 28 = .ok (.iaload, 1) := by decide +kernel
theorem dX8_weigh_29 : decode cX8_weigh 29 = .ok (.istore_n 3, 1) := by decide +kernel
theorem dX8_weigh_30 : decode cX8_weigh 30 = .ok (.iload_n 3, 1) := by decide +kernel
theorem dX8_weigh_31 : decode cX8_weigh 31 = .ok (.iload_n 2, 1) := by decide +kernel
theorem dX8_weigh_32 : decode cX8_weigh 32 = .ok (.if_icmp .ne 6, 3) := by decide +kernel
theorem dX8_weigh_35 : decode cX8_weigh 35 = .ok (.bipush (-2), 2) := by decide +kernel
theorem dX8_weigh_37 : decode cX8_weigh 37 = .ok (.ireturn, 1) := by decide +kernel
theorem dX8_weigh_38 : decode cX8_weigh 38 = .ok (.aload_n 0, 1) := by decide +kernel
theorem dX8_weigh_39 : decode cX8_weigh 39 = .ok (.invokevirtual 95, 3) := by decide +kernel
theorem dX8_weigh_42 : decode cX8_weigh 42 = .ok (.aload_n 0, 1) := by decide +kernel
theorem dX8_weigh_43 : decode cX8_weigh 43 = .ok (.getfield 7, 3) := by decide +kernel
theorem dX8_weigh_46 : decode cX8_weigh 46 = .ok (.bipush 12, 2) := by decide +kernel
theorem dX8_weigh_48 : decode cX8_weigh 48 = .ok (.iload_n 1, 1) := by decide +kernel
theorem dX8_weigh_49 : decode cX8_weigh 49 = .ok (.iadd, 1) := by decide +kernel
theorem dX8_weigh_50 : decode cX8_weigh 50 = .ok (.iload_n 2, 1) := by decide +kernel
theorem dX8_weigh_51 : decode cX8_weigh 51 = .ok (.iastore, 1) := by decide +kernel
theorem dX8_weigh_52 : decode cX8_weigh 52 = .ok (.iload_n 3, 1) := by decide +kernel
theorem dX8_weigh_53 : decode cX8_weigh 53 = .ok (.ireturn, 1) := by decide +kernel
theorem dX8_join_0 : decode cX8_join 0 = .ok (.iload_n 1, 1) := by decide +kernel
theorem dX8_join_1 : decode cX8_join 1 = .ok (.iconst 0, 1) := by decide +kernel
theorem dX8_join_2 : decode cX8_join 2 = .ok (.bipush 99, 2) := by decide +kernel
theorem dX8_join_4 : decode cX8_join 4 = .ok (.invokestatic 31, 3) := by decide +kernel
theorem dX8_join_7 : decode cX8_join 7 = .ok (.ifCond .ne 5, 3) := by decide +kernel
theorem dX8_join_10 : decode cX8_join 10 = .ok (.iconst (-1), 1) := by decide +kernel
theorem dX8_join_11 : decode cX8_join 11 = .ok (.ireturn, 1) := by decide +kernel
theorem dX8_join_12 : decode cX8_join 12 = .ok (.aload_n 0, 1) := by decide +kernel
theorem dX8_join_13 : decode cX8_join 13 = .ok (.getfield 7, 3) := by decide +kernel
theorem dX8_join_16 : decode cX8_join 16 = .ok (.bipush 48, 2) := by decide +kernel
theorem dX8_join_18 : decode cX8_join 18 = .ok (.iaload, 1) := by decide +kernel
theorem dX8_join_19 : decode cX8_join 19 = .ok (.iconst 4, 1) := by decide +kernel
theorem dX8_join_20 : decode cX8_join 20 = .ok (.if_icmp .ne 6, 3) := by decide +kernel
theorem dX8_join_23 : decode cX8_join 23 = .ok (.bipush (-3), 2) := by decide +kernel
theorem dX8_join_25 : decode cX8_join 25 = .ok (.ireturn, 1) := by decide +kernel
theorem dX8_join_26 : decode cX8_join 26 = .ok (.aload_n 0, 1) := by decide +kernel
theorem dX8_join_27 : decode cX8_join 27 = .ok (.invokevirtual 95, 3) := by decide +kernel
theorem dX8_join_30 : decode cX8_join 30 = .ok (.bipush 89, 2) := by decide +kernel
theorem dX8_join_32 : decode cX8_join 32 = .ok (.bipush 16, 2) := by decide +kernel
theorem dX8_join_34 : decode cX8_join 34 = .ok (.aload_n 0, 1) := by decide +kernel
theorem dX8_join_35 : decode cX8_join 35 = .ok (.getfield 7, 3) := by decide +kernel
theorem dX8_join_38 : decode cX8_join 38 = .ok (.bipush 48, 2) := by decide +kernel
theorem dX8_join_40 : decode cX8_join 40 = .ok (.iaload, 1) := by decide +kernel
theorem dX8_join_41 : decode cX8_join 41 = .ok (.imul, 1) := by decide +kernel
theorem dX8_join_42 : decode cX8_join 42 = .ok (.iadd, 1) := by decide +kernel
theorem dX8_join_43 : decode cX8_join 43 = .ok (.istore_n 2, 1) := by decide +kernel
theorem dX8_join_44 : decode cX8_join 44 = .ok (.iconst 0, 1) := by decide +kernel
theorem dX8_join_45 : decode cX8_join 45 = .ok (.istore_n 3, 1) := by decide +kernel
theorem dX8_join_46 : decode cX8_join 46 = .ok (.iload_n 3, 1) := by decide +kernel
theorem dX8_join_47 : decode cX8_join 47 = .ok (.bipush 16, 2) := by decide +kernel
theorem dX8_join_49 : decode cX8_join 49 = .ok (.if_icmp .ge 18, 3) := by decide +kernel
theorem dX8_join_52 : decode cX8_join 52 = .ok (.aload_n 0, 1) := by decide +kernel
theorem dX8_join_53 : decode cX8_join 53 = .ok (.getfield 7, 3) := by decide +kernel
theorem dX8_join_56 : decode cX8_join 56 = .ok (.iload_n 2, 1) := by decide +kernel
theorem dX8_join_57 : decode cX8_join 57 = .ok (.iload_n 3, 1) := by decide +kernel
theorem dX8_join_58 : decode cX8_join 58 = .ok (.iadd, 1) := by decide +kernel
theorem dX8_join_59 : decode cX8_join 59 = .ok (.iconst 0, 1) := by decide +kernel
theorem dX8_join_60 : decode cX8_join 60 = .ok (.iastore, 1) := by decide +kernel
theorem dX8_join_61 : decode cX8_join 61 = .ok (.iinc 3 1, 3) := by decide +kernel
theorem dX8_join_64 : decode cX8_join 64 = .ok (.goto (-18), 3) := by decide +kernel
theorem dX8_join_67 : decode cX8_join 67 = .ok (.aload_n 0, 1) := by decide +kernel
theorem dX8_join_68 : decode cX8_join 68 = .ok (.getfield 7, 3) := by decide +kernel
theorem dX8_join_71 : decode cX8_join 71 = .ok (.iload_n 2, 1) := by decide +kernel
theorem dX8_join_72 : decode cX8_join 72 = .ok (.iconst 0, 1) := by decide +kernel
theorem dX8_join_73 : decode cX8_join 73 = .ok (.iadd, 1) := by decide +kernel
theorem dX8_join_74 : decode cX8_join 74 = .ok (.iload_n 1, 1) := by decide +kernel
theorem dX8_join_75 : decode cX8_join 75 = .ok (.iastore, 1) := by decide +kernel
theorem dX8_join_76 : decode cX8_join 76 = .ok (.aload_n 0, 1) := by decide +kernel
theorem dX8_join_77 : decode cX8_join 77 = .ok (.getfield 7, 3) := by decide +kernel
theorem dX8_join_80 : decode cX8_join 80 = .ok (.iload_n 2, 1) := by decide +kernel
theorem dX8_join_81 : decode cX8_join 81 = .ok (.iconst 1, 1) := by decide +kernel
theorem dX8_join_82 : decode cX8_join 82 = .ok (.iadd, 1) := by decide +kernel
theorem dX8_join_83 : decode cX8_join 83 = .ok (.aload_n 0, 1) := by decide +kernel
theorem dX8_join_84 : decode cX8_join 84 = .ok (.getfield 7, 3) := by decide +kernel
theorem dX8_join_87 : decode cX8_join 87 = .ok (.bipush 45, 2) := by decide +kernel
theorem dX8_join_89 : decode cX8_join 89 = .ok (.iaload, 1) := by decide +kernel
theorem dX8_join_90 : decode cX8_join 90 = .ok (.iastore, 1) := by decide +kernel
theorem dX8_join_91 : decode cX8_join 91 = .ok (.aload_n 0, 1) := by decide +kernel
theorem dX8_join_92 : decode cX8_join 92 = .ok (.getfield 7, 3) := by decide +kernel
theorem dX8_join_95 : decode cX8_join 95 = .ok (.iload_n 2, 1) := by decide +kernel
theorem dX8_join_96 : decode cX8_join 96 = .ok (.iconst 2, 1) := by decide +kernel
theorem dX8_join_97 : decode cX8_join 97 = .ok (.iadd, 1) := by decide +kernel
theorem dX8_join_98 : decode cX8_join 98 = .ok (.bipush (-4), 2) := by decide +kernel
theorem dX8_join_100 : decode cX8_join 100 = .ok (.iastore, 1) := by decide +kernel
theorem dX8_join_101 : decode cX8_join 101 = .ok (.aload_n 0, 1) := by decide +kernel
theorem dX8_join_102 : decode cX8_join 102 = .ok (.getfield 7, 3) := by decide +kernel
theorem dX8_join_105 : decode cX8_join 105 = .ok (.bipush 48, 2) := by decide +kernel
theorem dX8_join_107 : decode cX8_join 107 = .ok (.dup2, 1) := by decide +kernel
theorem dX8_join_108 : decode cX8_join 108 = .ok (.iaload, 1) := by decide +kernel
theorem dX8_join_109 : decode cX8_join 109 = .ok (.iconst 1, 1) := by decide +kernel
theorem dX8_join_110 : decode cX8_join 110 = .ok (.iadd, 1) := by decide +kernel
theorem dX8_join_111 : decode cX8_join 111 = .ok (.iastore, 1) := by decide +kernel
theorem dX8_join_112 : decode cX8_join 112 = .ok (.aload_n 0, 1) := by decide +kernel
theorem dX8_join_113 : decode cX8_join 113 = .ok (.getfield 7, 3) := by decide +kernel
theorem dX8_join_116 : decode cX8_join 116 = .ok (.bipush 48, 2) := by decide +kernel
theorem dX8_join_118 : decode cX8_join 118 = .ok (.iaload, 1) := by decide +kernel
theorem dX8_join_119 : decode cX8_join 119 = .ok (.iconst 1, 1) := by decide +kernel
theorem dX8_join_120 : decode cX8_join 120 = .ok (.isub, 1) := by decide +kernel
theorem dX8_join_121 : decode cX8_join 121 = .ok (.ireturn, 1) := by decide +kernel
theorem dX8_knows_0 : decode cX8_knows 0 = .ok (.aload_n 0, 1) := by decide +kernel
theorem dX8_knows_1 : decode cX8_knows 1 = .ok (.getfield 7, 3) := by decide +kernel
theorem dX8_knows_4 : decode cX8_knows 4 = .ok (.bipush 89, 2) := by decide +kernel
theorem dX8_knows_6 : decode cX8_knows 6 = .ok (.bipush 16, 2) := by decide +kernel
theorem dX8_knows_8 : decode cX8_knows 8 = .ok (.iload_n 1, 1) := by decide +kernel
theorem dX8_knows_9 : decode cX8_knows 9 = .ok (.imul, 1) := by decide +kernel
theorem dX8_knows_10 : decode cX8_knows 10 = .ok (.iadd, 1) := by decide +kernel
theorem dX8_knows_11 : decode cX8_knows 11 = .ok (.iconst 2, 1) := by decide +kernel
theorem dX8_knows_12 : decode cX8_knows 12 = .ok (.iadd, 1) := by decide +kernel
theorem dX8_knows_13 : decode cX8_knows 13 = .ok (.iaload, 1) := by decide +kernel
theorem dX8_knows_14 : decode cX8_knows 14 = .ok (.aload_n 0, 1) := by decide +kernel
theorem dX8_knows_15 : decode cX8_knows 15 = .ok (.getfield 7, 3) := by decide +kernel
theorem dX8_knows_18 : decode cX8_knows 18 = .ok (.bipush 45, 2) := by decide +kernel
theorem dX8_knows_20 : decode cX8_knows 20 = .ok (.iaload, 1) := by decide +kernel
theorem dX8_knows_21 : decode cX8_knows 21 = .ok (.if_icmp .lt 7, 3) := by decide +kernel
theorem dX8_knows_24 : decode cX8_knows 24 = .ok (.iconst 1, 1) := by decide +kernel
theorem dX8_knows_25 : decode cX8_knows 25 = .ok (.goto 4, 3) := by decide +kernel
theorem dX8_knows_28 : decode cX8_knows 28 = .ok (.iconst 0, 1) := by decide +kernel
theorem dX8_knows_29 : decode cX8_knows 29 = .ok (.ireturn, 1) := by decide +kernel
theorem dX8_lacks_0 : decode cX8_lacks 0 = .ok (.aload_n 0, 1) := by decide +kernel
theorem dX8_lacks_1 : decode cX8_lacks 1 = .ok (.getfield 7, 3) := by decide +kernel
theorem dX8_lacks_4 : decode cX8_lacks 4 = .ok (.iconst 0, 1) := by decide +kernel
theorem dX8_lacks_5 : decode cX8_lacks 5 = .ok (.iload_n 2, 1) := by decide +kernel
theorem dX8_lacks_6 : decode cX8_lacks 6 = .ok (.iadd, 1) := by decide +kernel
theorem dX8_lacks_7 : decode cX8_lacks 7 = .ok (.iaload, 1) := by decide +kernel
theorem dX8_lacks_8 : decode cX8_lacks 8 = .ok (.aload_n 0, 1) := by decide +kernel
theorem dX8_lacks_9 : decode cX8_lacks 9 = .ok (.getfield 7, 3) := by decide +kernel
theorem dX8_lacks_12 : decode cX8_lacks 12 = .ok (.bipush 89, 2) := by decide +kernel
theorem dX8_lacks_14 : decode cX8_lacks 14 = .ok (.bipush 16, 2) := by decide +kernel
theorem dX8_lacks_16 : decode cX8_lacks 16 = .ok (.iload_n 1, 1) := by decide +kernel
theorem dX8_lacks_17 : decode cX8_lacks 17 = .ok (.imul, 1) := by decide +kernel
theorem dX8_lacks_18 : decode cX8_lacks 18 = .ok (.iadd, 1) := by decide +kernel
theorem dX8_lacks_19 : decode cX8_lacks 19 = .ok (.bipush 10, 2) := by decide +kernel
theorem dX8_lacks_21 : decode cX8_lacks 21 = .ok (.iadd, 1) := by decide +kernel
theorem dX8_lacks_22 : decode cX8_lacks 22 = .ok (.iload_n 2, 1) := by decide +kernel
theorem dX8_lacks_23 : decode cX8_lacks 23 = .ok (.iadd, 1) := by decide +kernel
theorem dX8_lacks_24 : decode cX8_lacks 24 = .ok (.iaload, 1) := by decide +kernel
theorem dX8_lacks_25 : decode cX8_lacks 25 = .ok (.invokestatic 105, 3) := by decide +kernel
theorem dX8_lacks_28 : decode cX8_lacks 28 = .ok (.isub, 1) := by decide +kernel
theorem dX8_lacks_29 : decode cX8_lacks 29 = .ok (.istore_n 3, 1) := by decide +kernel
theorem dX8_lacks_30 : decode cX8_lacks 30 = .ok (.iload_n 3, 1) := by decide +kernel
theorem dX8_lacks_31 : decode cX8_lacks 31 = .ok (.ifCond .ge 7, 3) := by decide +kernel
theorem dX8_lacks_34 : decode cX8_lacks 34 = .ok (.iconst 0, 1) := by decide +kernel
theorem dX8_lacks_35 : decode cX8_lacks 35 = .ok (.goto 4, 3) := by decide +kernel
theorem dX8_lacks_38 : decode cX8_lacks 38 = .ok (.iload_n 3, 1) := by decide +kernel
theorem dX8_lacks_39 : decode cX8_lacks 39 = .ok (.ireturn, 1) := by decide +kernel
theorem dX8_repair_0 : decode cX8_repair 0 = .ok (.aload_n 0, 1) := by decide +kernel
theorem dX8_repair_1 : decode cX8_repair 1 = .ok (.iload_n 1, 1) := by decide +kernel
theorem dX8_repair_2 : decode cX8_repair 2 = .ok (.invokevirtual 108, 3) := by decide +kernel
theorem dX8_repair_5 : decode cX8_repair 5 = .ok (.ifCond .eq 11, 3) := by decide +kernel
theorem dX8_repair_8 : decode cX8_repair 8 = .ok (.aload_n 0, 1) := by decide +kernel
theorem dX8_repair_9 : decode cX8_repair 9 = .ok (.iload_n 2, 1) := by decide +kernel
theorem dX8_repair_10 : decode cX8_repair 10 = .ok (.invokevirtual 101, 3) := by decide +kernel
theorem dX8_repair_13 : decode cX8_repair 13 = .ok (.ifCond .ne 5, 3) := by decide +kernel
theorem dX8_repair_16 : decode cX8_repair 16 = .ok (.iconst (-1), 1) := by decide +kernel
theorem dX8_repair_17 : decode cX8_repair 17 = .ok (.ireturn, 1) := by decide +kernel
theorem dX8_repair_18 : decode cX8_repair 18 = .ok (.aload_n 0, 1) := by decide +kernel
theorem dX8_repair_19 : decode cX8_repair 19 = .ok (.iload_n 1, 1) := by decide +kernel
theorem dX8_repair_20 : decode cX8_repair 20 = .ok (.iload_n 2, 1) := by decide +kernel
theorem dX8_repair_21 : decode cX8_repair 21 = .ok (.invokevirtual 111, 3) := by decide +kernel
theorem dX8_repair_24 : decode cX8_repair 24 = .ok (.istore_n 3, 1) := by decide +kernel
theorem dX8_repair_25 : decode cX8_repair 25 = .ok (.aload_n 0, 1) := by decide +kernel
theorem dX8_repair_26 : decode cX8_repair 26 = .ok (.iload_n 1, 1) := by decide +kernel
theorem dX8_repair_27 : decode cX8_repair 27 = .ok (.invokevirtual 115, 3) := by decide +kernel
theorem dX8_repair_30 : decode cX8_repair 30 = .ok (.ifCond .eq 7, 3) := by decide +kernel
theorem dX8_repair_33 : decode cX8_repair 33 = .ok (.iload_n 3, 1) := by decide +kernel
theorem dX8_repair_34 : decode cX8_repair 34 = .ok (.ifCond .ne 6, 3) := by decide +kernel
theorem dX8_repair_37 : decode cX8_repair 37 = .ok (.bipush (-2), 2) := by decide +kernel
theorem dX8_repair_39 : decode cX8_repair 39 = .ok (.ireturn, 1) := by decide +kernel
theorem dX8_repair_40 : decode cX8_repair 40 = .ok (.aload_n 0, 1) := by decide +kernel
theorem dX8_repair_41 : decode cX8_repair 41 = .ok (.invokevirtual 95, 3) := by decide +kernel
theorem dX8_repair_44 : decode cX8_repair 44 = .ok (.bipush 89, 2) := by decide +kernel
theorem dX8_repair_46 : decode cX8_repair 46 = .ok (.bipush 16, 2) := by decide +kernel
theorem dX8_repair_48 : decode cX8_repair 48 = .ok (.iload_n 1, 1) := by decide +kernel
theorem dX8_repair_49 : decode cX8_repair 49 = .ok (.imul, 1) := by decide +kernel
theorem dX8_repair_50 : decode cX8_repair 50 = .ok (.iadd, 1) := by decide +kernel
theorem dX8_repair_51 : decode cX8_repair 51 = .ok (.bipush 10, 2) := by decide +kernel
theorem dX8_repair_53 : decode cX8_repair 53 = .ok (.iadd, 1) := by decide +kernel
theorem dX8_repair_54 : decode cX8_repair 54 = .ok (.iload_n 2, 1) := by decide +kernel
theorem dX8_repair_55 : decode cX8_repair 55 = .ok (.iadd, 1) := by decide +kernel
theorem dX8_repair_56 : decode cX8_repair 56 = .ok (.istore 4, 2) := by decide +kernel
theorem dX8_repair_58 : decode cX8_repair 58 = .ok (.iload_n 3, 1) := by decide +kernel
theorem dX8_repair_59 : decode cX8_repair 59 = .ok (.istore 5, 2) := by decide +kernel
theorem dX8_repair_61 : decode cX8_repair 61 = .ok (.iconst 0, 1) := by decide +kernel
theorem dX8_repair_62 : decode cX8_repair 62 = .ok (.istore 6, 2) := by decide +kernel
theorem dX8_repair_64 : decode cX8_repair 64 = .ok (.iload 5, 2) := by decide +kernel
theorem dX8_repair_66 : decode cX8_repair 66 = .ok (.ifCond .le 42, 3) := by decide +kernel
theorem dX8_repair_69 : decode cX8_repair 69 = .ok (.iload 5, 2) := by decide +kernel
theorem dX8_repair_71 : decode cX8_repair 71 = .ok (.aload_n 0, 1) := by decide +kernel
theorem dX8_repair_72 : decode cX8_repair 72 = .ok (.getfield 7, 3) := by decide +kernel
theorem dX8_repair_75 : decode cX8_repair 75 = .ok (.iload 4, 2) := by decide +kernel
theorem dX8_repair_77 : decode cX8_repair 77 = .ok (.iaload, 1) := by decide +kernel
theorem dX8_repair_78 : decode cX8_repair 78 = .ok (.iload 6, 2) := by decide +kernel
theorem dX8_repair_80 : decode cX8_repair 80 = .ok (.ishr, 1) := by decide +kernel
theorem dX8_repair_81 : decode cX8_repair 81 = .ok (.iconst 1, 1) := by decide +kernel
theorem dX8_repair_82 : decode cX8_repair 82 = .ok (.iand, 1) := by decide +kernel
theorem dX8_repair_83 : decode cX8_repair 83 = .ok (.iconst 1, 1) := by decide +kernel
theorem dX8_repair_84 : decode cX8_repair 84 = .ok (.ixor, 1) := by decide +kernel
theorem dX8_repair_85 : decode cX8_repair 85 = .ok (.isub, 1) := by decide +kernel
theorem dX8_repair_86 : decode cX8_repair 86 = .ok (.istore 5, 2) := by decide +kernel
theorem dX8_repair_88 : decode cX8_repair 88 = .ok (.aload_n 0, 1) := by decide +kernel
theorem dX8_repair_89 : decode cX8_repair 89 = .ok (.getfield 7, 3) := by decide +kernel
theorem dX8_repair_92 : decode cX8_repair 92 = .ok (.iload 4, 2) := by decide +kernel
theorem dX8_repair_94 : decode cX8_repair 94 = .ok (.dup2, 1) := by decide +kernel
theorem dX8_repair_95 : decode cX8_repair 95 = .ok (.iaload, 1) := by decide +kernel
theorem dX8_repair_96 : decode cX8_repair 96 = .ok (.iconst 1, 1) := by decide +kernel
theorem dX8_repair_97 : decode cX8_repair 97 = .ok (.iload 6, 2) := by decide +kernel
theorem dX8_repair_99 : decode cX8_repair 99 = .ok (.ishl, 1) := by decide +kernel
theorem dX8_repair_100 : decode cX8_repair 100 = .ok (.ior, 1) := by decide +kernel
theorem dX8_repair_101 : decode cX8_repair 101 = .ok (.iastore, 1) := by decide +kernel
theorem dX8_repair_102 : decode cX8_repair 102 = .ok (.iinc 6 1, 3) := by decide +kernel
theorem dX8_repair_105 : decode cX8_repair 105 = .ok (.goto (-41), 3) := by decide +kernel
theorem dX8_repair_108 : decode cX8_repair 108 = .ok (.iload_n 3, 1) := by decide +kernel
theorem dX8_repair_109 : decode cX8_repair 109 = .ok (.ireturn, 1) := by decide +kernel
theorem dX8_partBits_0 : decode cX8_partBits 0 = .ok (.aload_n 0, 1) := by decide +kernel
theorem dX8_partBits_1 : decode cX8_partBits 1 = .ok (.getfield 7, 3) := by decide +kernel
theorem dX8_partBits_4 : decode cX8_partBits 4 = .ok (.bipush 47, 2) := by decide +kernel
theorem dX8_partBits_6 : decode cX8_partBits 6 = .ok (.iaload, 1) := by decide +kernel
theorem dX8_partBits_7 : decode cX8_partBits 7 = .ok (.ifCond .ne 8, 3) := by decide +kernel
theorem dX8_partBits_10 : decode cX8_partBits 10 = .ok (.bipush (-4), 2) := by decide +kernel
theorem dX8_partBits_12 : decode cX8_partBits 12 = .ok (.goto 25, 3) := by decide +kernel
theorem dX8_partBits_15 : decode cX8_partBits 15 = .ok (.aload_n 0, 1) := by decide +kernel
theorem dX8_partBits_16 : decode cX8_partBits 16 = .ok (.getfield 7, 3) := by decide +kernel
theorem dX8_partBits_19 : decode cX8_partBits 19 = .ok (.bipush 36, 2) := by decide +kernel
theorem dX8_partBits_21 : decode cX8_partBits 21 = .ok (.iload_n 1, 1) := by decide +kernel
theorem dX8_partBits_22 : decode cX8_partBits 22 = .ok (.iadd, 1) := by decide +kernel
theorem dX8_partBits_23 : decode cX8_partBits 23 = .ok (.iaload, 1) := by decide +kernel
theorem dX8_partBits_24 : decode cX8_partBits 24 = .ok (.i2f, 1) := by decide +kernel
theorem dX8_partBits_25 : decode cX8_partBits 25 = .ok (.aload_n 0, 1) := by decide +kernel
theorem dX8_partBits_26 : decode cX8_partBits 26 = .ok (.getfield 7, 3) := by decide +kernel
theorem dX8_partBits_29 : decode cX8_partBits 29 = .ok (.bipush 47, 2) := by decide +kernel
theorem dX8_partBits_31 : decode cX8_partBits 31 = .ok (.iaload, 1) := by decide +kernel
theorem dX8_partBits_32 : decode cX8_partBits 32 = .ok (.i2f, 1) := by decide +kernel
theorem dX8_partBits_33 : decode cX8_partBits 33 = .ok (.fdiv, 1) := by decide +kernel
theorem dX8_partBits_34 : decode cX8_partBits 34 = .ok (.invokestatic 118, 3) := by decide +kernel
theorem dX8_partBits_37 : decode cX8_partBits 37 = .ok (.ireturn, 1) := by decide +kernel
theorem dX8_file_0 : decode cX8_file 0 = .ok (.aload_n 0, 1) := by decide +kernel
theorem dX8_file_1 : decode cX8_file 1 = .ok (.iload_n 1, 1) := by decide +kernel
theorem dX8_file_2 : decode cX8_file 2 = .ok (.invokevirtual 101, 3) := by decide +kernel
theorem dX8_file_5 : decode cX8_file 5 = .ok (.ifCond .eq 13, 3) := by decide +kernel
theorem dX8_file_8 : decode cX8_file 8 = .ok (.iload_n 2, 1) := by decide +kernel
theorem dX8_file_9 : decode cX8_file 9 = .ok (.iconst 0, 1) := by decide +kernel
theorem dX8_file_10 : decode cX8_file 10 = .ok (.bipush 7, 2) := by decide +kernel
theorem dX8_file_12 : decode cX8_file 12 = .ok (.invokestatic 31, 3) := by decide +kernel
theorem dX8_file_15 : decode cX8_file 15 = .ok (.ifCond .ne 5, 3) := by decide +kernel
theorem dX8_file_18 : decode cX8_file 18 = .ok (.iconst (-1), 1) := by decide +kernel
theorem dX8_file_19 : decode cX8_file 19 = .ok (.ireturn, 1) := by decide +kernel
theorem dX8_file_20 : decode cX8_file 20 = .ok (.iload_n 2, 1) := by decide +kernel
theorem dX8_file_21 : decode cX8_file 21 = .ok (.bipush 7, 2) := by decide +kernel
theorem dX8_file_23 : decode cX8_file 23 = .ok (.if_icmp .ne 11, 3) := by decide +kernel
theorem dX8_file_26 : decode cX8_file 26 = .ok (.aload_n 0, 1) := by decide +kernel
theorem dX8_file_27 : decode cX8_file 27 = .ok (.iload_n 1, 1) := by decide +kernel
theorem dX8_file_28 : decode cX8_file 28 = .ok (.invokevirtual 124, 3) := by decide +kernel
theorem dX8_file_31 : decode cX8_file 31 = .ok (.goto 35, 3) := by decide +kernel
theorem dX8_file_34 : decode cX8_file 34 = .ok (.iload_n 2, 1) := by decide +kernel
theorem dX8_file_35 : decode cX8_file 35 = .ok (.iconst 5, 1) := by decide +kernel
theorem dX8_file_36 : decode cX8_file 36 = .ok (.if_icmp .ne 19, 3) := by decide +kernel
theorem dX8_file_39 : decode cX8_file 39 = .ok (.aload_n 0, 1) := by decide +kernel
theorem dX8_file_40 : decode cX8_file 40 = .ok (.getfield 7, 3) := by decide +kernel
theorem dX8_file_43 : decode cX8_file 43 = .ok (.bipush 30, 2) := by decide +kernel
theorem dX8_file_45 : decode cX8_file 45 = .ok (.iload_n 1, 1) := by decide +kernel
theorem dX8_file_46 : decode cX8_file 46 = .ok (.iadd, 1) := by decide +kernel
theorem dX8_file_47 : decode cX8_file 47 = .ok (.iaload, 1) := by decide +kernel
theorem dX8_file_48 : decode cX8_file 48 = .ok (.sipush 1000, 3) := by decide +kernel
theorem dX8_file_51 : decode cX8_file 51 = .ok (.iadd, 1) := by decide +kernel
theorem dX8_file_52 : decode cX8_file 52 = .ok (.goto 14, 3) := by decide +kernel
theorem dX8_file_55 : decode cX8_file 55 = .ok (.aload_n 0, 1) := by decide +kernel
theorem dX8_file_56 : decode cX8_file 56 = .ok (.getfield 7, 3) := by decide +kernel
theorem dX8_file_59 : decode cX8_file 59 = .ok (.bipush 6, 2) := by decide +kernel
theorem dX8_file_61 : decode cX8_file 61 = .ok (.iload_n 2, 1) := by decide +kernel
theorem dX8_file_62 : decode cX8_file 62 = .ok (.imul, 1) := by decide +kernel
theorem dX8_file_63 : decode cX8_file 63 = .ok (.iload_n 1, 1) := by decide +kernel
theorem dX8_file_64 : decode cX8_file 64 = .ok (.iadd, 1) := by decide +kernel
theorem dX8_file_65 : decode cX8_file 65 = .ok (.iaload, 1) := by decide +kernel
theorem dX8_file_66 : decode cX8_file 66 = .ok (.ireturn, 1) := by decide +kernel
theorem dX8_sent_0 : decode cX8_sent 0 = .ok (.iload_n 1, 1) := by decide +kernel
theorem dX8_sent_1 : decode cX8_sent 1 = .ok (.iconst 0, 1) := by decide +kernel
theorem dX8_sent_2 : decode cX8_sent 2 = .ok (.bipush 9, 2) := by decide +kernel
theorem dX8_sent_4 : decode cX8_sent 4 = .ok (.invokestatic 31, 3) := by decide +kernel
theorem dX8_sent_7 : decode cX8_sent 7 = .ok (.ifCond .eq 12, 3) := by decide +kernel
theorem dX8_sent_10 : decode cX8_sent 10 = .ok (.iload_n 2, 1) := by decide +kernel
theorem dX8_sent_11 : decode cX8_sent 11 = .ok (.iconst 0, 1) := by decide +kernel
theorem dX8_sent_12 : decode cX8_sent 12 = .ok (.iconst 3, 1) := by decide +kernel
theorem dX8_sent_13 : decode cX8_sent 13 = .ok (.invokestatic 31, 3) := by decide +kernel
theorem dX8_sent_16 : decode cX8_sent 16 = .ok (.ifCond .ne 5, 3) := by decide +kernel
theorem dX8_sent_19 : decode cX8_sent 19 = .ok (.iconst (-1), 1) := by decide +kernel
theorem dX8_sent_20 : decode cX8_sent 20 = .ok (.ireturn, 1) := by decide +kernel
theorem dX8_sent_21 : decode cX8_sent 21 = .ok (.iload_n 1, 1) := by decide +kernel
theorem dX8_sent_22 : decode cX8_sent 22 = .ok (.aload_n 0, 1) := by decide +kernel
theorem dX8_sent_23 : decode cX8_sent 23 = .ok (.getfield 7, 3) := by decide +kernel
theorem dX8_sent_26 : decode cX8_sent 26 = .ok (.bipush 45, 2) := by decide +kernel
theorem dX8_sent_28 : decode cX8_sent 28 = .ok (.iaload, 1) := by decide +kernel
theorem dX8_sent_29 : decode cX8_sent 29 = .ok (.if_icmp .lt 8, 3) := by decide +kernel
theorem dX8_sent_32 : decode cX8_sent 32 = .ok (.bipush (-4), 2) := by decide +kernel
theorem dX8_sent_34 : decode cX8_sent 34 = .ok (.goto 16, 3) := by decide +kernel
theorem dX8_sent_37 : decode cX8_sent 37 = .ok (.aload_n 0, 1) := by decide +kernel
theorem dX8_sent_38 : decode cX8_sent 38 = .ok (.getfield 7, 3) := by decide +kernel
theorem dX8_sent_41 : decode cX8_sent 41 = .ok (.bipush 49, 2) := by decide +kernel
theorem dX8_sent_43 : decode cX8_sent 43 = .ok (.iconst 4, 1) := by decide +kernel
theorem dX8_sent_44 : decode cX8_sent 44 = .ok (.iload_n 1, 1) := by decide +kernel
theorem dX8_sent_45 : decode cX8_sent 45 = .ok (.imul, 1) := by decide +kernel
theorem dX8_sent_46 : decode cX8_sent 46 = .ok (.iadd, 1) := by decide +kernel
theorem dX8_sent_47 : decode cX8_sent 47 = .ok (.iload_n 2, 1) := by decide +kernel
theorem dX8_sent_48 : decode cX8_sent 48 = .ok (.iadd, 1) := by decide +kernel
theorem dX8_sent_49 : decode cX8_sent 49 = .ok (.iaload, 1) := by decide +kernel
theorem dX8_sent_50 : decode cX8_sent 50 = .ok (.ireturn, 1) := by decide +kernel
theorem dX8_wholes_0 : decode cX8_wholes 0 = .ok (.iconst 0, 1) := by decide +kernel
theorem dX8_wholes_1 : decode cX8_wholes 1 = .ok (.istore_n 2, 1) := by decide +kernel
theorem dX8_wholes_2 : decode cX8_wholes 2 = .ok (.iconst 0, 1) := by decide +kernel
theorem dX8_wholes_3 : decode cX8_wholes 3 = .ok (.istore_n 3, 1) := by decide +kernel
theorem dX8_wholes_4 : decode cX8_wholes 4 = .ok (.iload_n 3, 1) := by decide +kernel
theorem dX8_wholes_5 : decode cX8_wholes 5 = .ok (.aload_n 0, 1) := by decide +kernel
theorem dX8_wholes_6 : decode cX8_wholes 6 = .ok (.getfield 7, 3) := by decide +kernel
theorem dX8_wholes_9 : decode cX8_wholes 9 = .ok (.bipush 42, 2) := by decide +kernel
theorem dX8_wholes_11 : decode cX8_wholes 11 = .ok (.iaload, 1) := by decide +kernel
theorem dX8_wholes_12 : decode cX8_wholes 12 = .ok (.if_icmp .ge 28, 3) := by decide +kernel
theorem dX8_wholes_15 : decode cX8_wholes 15 = .ok (.iload_n 2, 1) := by decide +kernel
theorem dX8_wholes_16 : decode cX8_wholes 16 = .ok (.aload_n 0, 1) := by decide +kernel
theorem dX8_wholes_17 : decode cX8_wholes 17 = .ok (.iload_n 1, 1) := by decide +kernel
theorem dX8_wholes_18 : decode cX8_wholes 18 = .ok (.iload_n 3, 1) := by decide +kernel
theorem dX8_wholes_19 : decode cX8_wholes 19 = .ok (.invokevirtual 111, 3) := by decide +kernel
theorem dX8_wholes_22 : decode cX8_wholes 22 = .ok (.ifCond .ne 9, 3) := by decide +kernel
theorem dX8_wholes_25 : decode cX8_wholes 25 = .ok (.iconst 1, 1) := by decide +kernel
theorem dX8_wholes_26 : decode cX8_wholes 26 = .ok (.iload_n 3, 1) := by decide +kernel
theorem dX8_wholes_27 : decode cX8_wholes 27 = .ok (.ishl, 1) := by decide +kernel
theorem dX8_wholes_28 : decode cX8_wholes 28 = .ok (.goto 4, 3) := by decide +kernel
theorem dX8_wholes_31 : decode cX8_wholes 31 = .ok (.iconst 0, 1) := by decide +kernel
theorem dX8_wholes_32 : decode cX8_wholes 32 = .ok (.ior, 1) := by decide +kernel
theorem dX8_wholes_33 : decode cX8_wholes 33 = .ok (.istore_n 2, 1) := by decide +kernel
theorem dX8_wholes_34 : decode cX8_wholes 34 = .ok (.iinc 3 1, 3) := by decide +kernel
theorem dX8_wholes_37 : decode cX8_wholes 37 = .ok (.goto (-33), 3) := by decide +kernel
theorem dX8_wholes_40 : decode cX8_wholes 40 = .ok (.iload_n 2, 1) := by decide +kernel
theorem dX8_wholes_41 : decode cX8_wholes 41 = .ok (.ireturn, 1) := by decide +kernel
theorem dX8_listener_0 : decode cX8_listener 0 = .ok (.aload_n 0, 1) := by decide +kernel
theorem dX8_listener_1 : decode cX8_listener 1 = .ok (.iload_n 1, 1) := by decide +kernel
theorem dX8_listener_2 : decode cX8_listener 2 = .ok (.invokevirtual 108, 3) := by decide +kernel
theorem dX8_listener_5 : decode cX8_listener 5 = .ok (.ifCond .eq 12, 3) := by decide +kernel
theorem dX8_listener_8 : decode cX8_listener 8 = .ok (.iload_n 2, 1) := by decide +kernel
theorem dX8_listener_9 : decode cX8_listener 9 = .ok (.iconst 0, 1) := by decide +kernel
theorem dX8_listener_10 : decode cX8_listener 10 = .ok (.iconst 5, 1) := by decide +kernel
theorem dX8_listener_11 : decode cX8_listener 11 = .ok (.invokestatic 31, 3) := by decide +kernel
theorem dX8_listener_14 : decode cX8_listener 14 = .ok (.ifCond .ne 5, 3) := by decide +kernel
theorem dX8_listener_17 : decode cX8_listener 17 = .ok (.iconst (-1), 1) := by decide +kernel
theorem dX8_listener_18 : decode cX8_listener 18 = .ok (.ireturn, 1) := by decide +kernel
theorem dX8_listener_19 : decode cX8_listener 19 = .ok (.bipush 89, 2) := by decide +kernel
theorem dX8_listener_21 : decode cX8_listener 21 = .ok (.bipush 16, 2) := by decide +kernel
theorem dX8_listener_23 : decode cX8_listener 23 = .ok (.iload_n 1, 1) := by decide +kernel
theorem dX8_listener_24 : decode cX8_listener 24 = .ok (.imul, 1) := by decide +kernel
theorem dX8_listener_25 : decode cX8_listener 25 = .ok (.iadd, 1) := by decide +kernel
theorem dX8_listener_26 : decode cX8_listener 26 = .ok (.istore_n 3, 1) := by decide +kernel
theorem dX8_listener_27 : decode cX8_listener 27 = .ok (.iload_n 2, 1) := by decide +kernel
theorem dX8_listener_28 : decode cX8_listener 28 = .ok (.tableswitch 83 0 4 #[36, 45, 54, 68, 77], 36) := by decide +kernel
theorem dX8_listener_64 : decode cX8_listener 64 = .ok (.aload_n 0, 1) := by decide +kernel
theorem dX8_listener_65 : decode cX8_listener 65 = .ok (.getfield 7, 3) := by decide +kernel
theorem dX8_listener_68 : decode cX8_listener 68 = .ok (.iload_n 3, 1) := by decide +kernel
theorem dX8_listener_69 : decode cX8_listener 69 = .ok (.iconst 0, 1) := by decide +kernel
theorem dX8_listener_70 : decode cX8_listener 70 = .ok (.iadd, 1) := by decide +kernel
theorem dX8_listener_71 : decode cX8_listener 71 = .ok (.iaload, 1) := by decide +kernel
theorem dX8_listener_72 : decode cX8_listener 72 = .ok (.ireturn, 1) := by decide +kernel
theorem dX8_listener_73 : decode cX8_listener 73 = .ok (.aload_n 0, 1) := by decide +kernel
theorem dX8_listener_74 : decode cX8_listener 74 = .ok (.getfield 7, 3) := by decide +kernel
theorem dX8_listener_77 : decode cX8_listener 77 = .ok (.iload_n 3, 1) := by decide +kernel
theorem dX8_listener_78 : decode cX8_listener 78 = .ok (.iconst 1, 1) := by decide +kernel
theorem dX8_listener_79 : decode cX8_listener 79 = .ok (.iadd, 1) := by decide +kernel
theorem dX8_listener_80 : decode cX8_listener 80 = .ok (.iaload, 1) := by decide +kernel
theorem dX8_listener_81 : decode cX8_listener 81 = .ok (.ireturn, 1) := by decide +kernel
theorem dX8_listener_82 : decode cX8_listener 82 = .ok (.aload_n 0, 1) := by decide +kernel
theorem dX8_listener_83 : decode cX8_listener 83 = .ok (.iload_n 1, 1) := by decide +kernel
theorem dX8_listener_84 : decode cX8_listener 84 = .ok (.invokevirtual 115, 3) := by decide +kernel
theorem dX8_listener_87 : decode cX8_listener 87 = .ok (.ifCond .eq 7, 3) := by decide +kernel
theorem dX8_listener_90 : decode cX8_listener 90 = .ok (.iconst 1, 1) := by decide +kernel
theorem dX8_listener_91 : decode cX8_listener 91 = .ok (.goto 4, 3) := by decide +kernel
theorem dX8_listener_94 : decode cX8_listener 94 = .ok (.iconst 0, 1) := by decide +kernel
theorem dX8_listener_95 : decode cX8_listener 95 = .ok (.ireturn, 1) := by decide +kernel
theorem dX8_listener_96 : decode cX8_listener 96 = .ok (.aload_n 0, 1) := by decide +kernel
theorem dX8_listener_97 : decode cX8_listener 97 = .ok (.getfield 7, 3) := by decide +kernel
theorem dX8_listener_100 : decode cX8_listener 100 = .ok (.iload_n 3, 1) := by decide +kernel
theorem dX8_listener_101 : decode cX8_listener 101 = .ok (.iconst 2, 1) := by decide +kernel
theorem dX8_listener_102 : decode cX8_listener 102 = .ok (.iadd, 1) := by decide +kernel
theorem dX8_listener_103 : decode cX8_listener 103 = .ok (.iaload, 1) := by decide +kernel
theorem dX8_listener_104 : decode cX8_listener 104 = .ok (.ireturn, 1) := by decide +kernel
theorem dX8_listener_105 : decode cX8_listener 105 = .ok (.aload_n 0, 1) := by decide +kernel
theorem dX8_listener_106 : decode cX8_listener 106 = .ok (.iload_n 1, 1) := by decide +kernel
theorem dX8_listener_107 : decode cX8_listener 107 = .ok (.invokevirtual 127, 3) := by decide +kernel
theorem dX8_listener_110 : decode cX8_listener 110 = .ok (.ireturn, 1) := by decide +kernel
theorem dX8_listener_111 : decode cX8_listener 111 = .ok (.aload_n 0, 1) := by decide +kernel
theorem dX8_listener_112 : decode cX8_listener 112 = .ok (.getfield 7, 3) := by decide +kernel
theorem dX8_listener_115 : decode cX8_listener 115 = .ok (.iload_n 3, 1) := by decide +kernel
theorem dX8_listener_116 : decode cX8_listener 116 = .ok (.iconst 3, 1) := by decide +kernel
theorem dX8_listener_117 : decode cX8_listener 117 = .ok (.iadd, 1) := by decide +kernel
theorem dX8_listener_118 : decode cX8_listener 118 = .ok (.iaload, 1) := by decide +kernel
theorem dX8_listener_119 : decode cX8_listener 119 = .ok (.ireturn, 1) := by decide +kernel
theorem dX8_holds_0 : decode cX8_holds 0 = .ok (.aload_n 0, 1) := by decide +kernel
theorem dX8_holds_1 : decode cX8_holds 1 = .ok (.iload_n 1, 1) := by decide +kernel
theorem dX8_holds_2 : decode cX8_holds 2 = .ok (.invokevirtual 108, 3) := by decide +kernel
theorem dX8_holds_5 : decode cX8_holds 5 = .ok (.ifCond .eq 20, 3) := by decide +kernel
theorem dX8_holds_8 : decode cX8_holds 8 = .ok (.aload_n 0, 1) := by decide +kernel
theorem dX8_holds_9 : decode cX8_holds 9 = .ok (.iload_n 2, 1) := by decide +kernel
theorem dX8_holds_10 : decode cX8_holds 10 = .ok (.invokevirtual 101, 3) := by decide +kernel
theorem dX8_holds_13 : decode cX8_holds 13 = .ok (.ifCond .eq 12, 3) := by decide +kernel
theorem dX8_holds_16 : decode cX8_holds 16 = .ok (.iload_n 3, 1) := by decide +kernel
theorem dX8_holds_17 : decode cX8_holds 17 = .ok (.iconst 0, 1) := by decide +kernel
theorem dX8_holds_18 : decode cX8_holds 18 = .ok (.iconst 2, 1) := by decide +kernel
theorem dX8_holds_19 : decode cX8_holds 19 = .ok (.invokestatic 31, 3) := by decide +kernel
theorem dX8_holds_22 : decode cX8_holds 22 = .ok (.ifCond .ne 5, 3) := by decide +kernel
theorem dX8_holds_25 : decode cX8_holds 25 = .ok (.iconst (-1), 1) := by decide +kernel
theorem dX8_holds_26 : decode cX8_holds 26 = .ok (.ireturn, 1) := by decide +kernel
theorem dX8_holds_27 : decode cX8_holds 27 = .ok (.bipush 89, 2) := by decide +kernel
theorem dX8_holds_29 : decode cX8_holds 29 = .ok (.bipush 16, 2) := by decide +kernel
theorem dX8_holds_31 : decode cX8_holds 31 = .ok (.iload_n 1, 1) := by decide +kernel
theorem dX8_holds_32 : decode cX8_holds 32 = .ok (.imul, 1) := by decide +kernel
theorem dX8_holds_33 : decode cX8_holds 33 = .ok (.iadd, 1) := by decide +kernel
theorem dX8_holds_34 : decode cX8_holds 34 = .ok (.istore 4, 2) := by decide +kernel
theorem dX8_holds_36 : decode cX8_holds 36 = .ok (.iload_n 3, 1) := by decide +kernel
theorem dX8_holds_37 : decode cX8_holds 37 = .ok (.ifCond .ne 18, 3) := by decide +kernel
theorem dX8_holds_40 : decode cX8_holds 40 = .ok (.aload_n 0, 1) := by decide +kernel
theorem dX8_holds_41 : decode cX8_holds 41 = .ok (.getfield 7, 3) := by decide +kernel
theorem dX8_holds_44 : decode cX8_holds 44 = .ok (.iload 4, 2) := by decide +kernel
theorem dX8_holds_46 : decode cX8_holds 46 = .ok (.bipush 10, 2) := by decide +kernel
theorem dX8_holds_48 : decode cX8_holds 48 = .ok (.iadd, 1) := by decide +kernel
theorem dX8_holds_49 : decode cX8_holds 49 = .ok (.iload_n 2, 1) := by decide +kernel
theorem dX8_holds_50 : decode cX8_holds 50 = .ok (.iadd, 1) := by decide +kernel
theorem dX8_holds_51 : decode cX8_holds 51 = .ok (.iaload, 1) := by decide +kernel
theorem dX8_holds_52 : decode cX8_holds 52 = .ok (.goto 47, 3) := by decide +kernel
theorem dX8_holds_55 : decode cX8_holds 55 = .ok (.iload_n 3, 1) := by decide +kernel
theorem dX8_holds_56 : decode cX8_holds 56 = .ok (.iconst 2, 1) := by decide +kernel
theorem dX8_holds_57 : decode cX8_holds 57 = .ok (.if_icmp .ne 12, 3) := by decide +kernel
theorem dX8_holds_60 : decode cX8_holds 60 = .ok (.aload_n 0, 1) := by decide +kernel
theorem dX8_holds_61 : decode cX8_holds 61 = .ok (.iload_n 1, 1) := by decide +kernel
theorem dX8_holds_62 : decode cX8_holds 62 = .ok (.iload_n 2, 1) := by decide +kernel
theorem dX8_holds_63 : decode cX8_holds 63 = .ok (.invokevirtual 111, 3) := by decide +kernel
theorem dX8_holds_66 : decode cX8_holds 66 = .ok (.goto 33, 3) := by decide +kernel
theorem dX8_holds_69 : decode cX8_holds 69 = .ok (.aload_n 0, 1) := by decide +kernel
theorem dX8_holds_70 : decode cX8_holds 70 = .ok (.getfield 7, 3) := by decide +kernel
theorem dX8_holds_73 : decode cX8_holds 73 = .ok (.iload 4, 2) := by decide +kernel
theorem dX8_holds_75 : decode cX8_holds 75 = .ok (.iconst 2, 1) := by decide +kernel
theorem dX8_holds_76 : decode cX8_holds 76 = .ok (.iadd, 1) := by decide +kernel
theorem dX8_holds_77 : decode cX8_holds 77 = .ok (.iaload, 1) := by decide +kernel
theorem dX8_holds_78 : decode cX8_holds 78 = .ok (.bipush (-4), 2) := by decide +kernel
theorem dX8_holds_80 : decode cX8_holds 80 = .ok (.if_icmp .ne 8, 3) := by decide +kernel
theorem dX8_holds_83 : decode cX8_holds 83 = .ok (.bipush (-4), 2) := by decide +kernel
theorem dX8_holds_85 : decode cX8_holds 85 = .ok (.goto 14, 3) := by decide +kernel
theorem dX8_holds_88 : decode cX8_holds 88 = .ok (.aload_n 0, 1) := by decide +kernel
theorem dX8_holds_89 : decode cX8_holds 89 = .ok (.getfield 7, 3) := by decide +kernel
theorem dX8_holds_92 : decode cX8_holds 92 = .ok (.iload 4, 2) := by decide +kernel
theorem dX8_holds_94 : decode cX8_holds 94 = .ok (.iconst 4, 1) := by decide +kernel
theorem dX8_holds_95 : decode cX8_holds 95 = .ok (.iadd, 1) := by decide +kernel
theorem dX8_holds_96 : decode cX8_holds 96 = .ok (.iload_n 2, 1) := by decide +kernel
theorem dX8_holds_97 : decode cX8_holds 97 = .ok (.iadd, 1) := by decide +kernel
theorem dX8_holds_98 : decode cX8_holds 98 = .ok (.iaload, 1) := by decide +kernel
theorem dX8_holds_99 : decode cX8_holds 99 = .ok (.ireturn, 1) := by decide +kernel
theorem dX8_waitsFrom_0 : decode cX8_waitsFrom 0 = .ok (.bipush (-4), 2) := by decide +kernel
theorem dX8_waitsFrom_2 : decode cX8_waitsFrom 2 = .ok (.istore_n 2, 1) := by decide +kernel
theorem dX8_waitsFrom_3 : decode cX8_waitsFrom 3 = .ok (.iconst 0, 1) := by decide +kernel
theorem dX8_waitsFrom_4 : decode cX8_waitsFrom 4 = .ok (.istore_n 3, 1) := by decide +kernel
theorem dX8_waitsFrom_5 : decode cX8_waitsFrom 5 = .ok (.iconst 1, 1) := by decide +kernel
theorem dX8_waitsFrom_6 : decode cX8_waitsFrom 6 = .ok (.istore 4, 2) := by decide +kernel
theorem dX8_waitsFrom_8 : decode cX8_waitsFrom 8 = .ok (.iload 4, 2) := by decide +kernel
theorem dX8_waitsFrom_10 : decode cX8_waitsFrom 10 = .ok (.sipush 400, 3) := by decide +kernel
theorem dX8_waitsFrom_13 : decode cX8_waitsFrom 13 = .ok (.if_icmp .gt 106, 3) := by decide +kernel
theorem dX8_waitsFrom_16 : decode cX8_waitsFrom 16 = .ok (.aload_n 0, 1) := by decide +kernel
theorem dX8_waitsFrom_17 : decode cX8_waitsFrom 17 = .ok (.getfield 7, 3) := by decide +kernel
theorem dX8_waitsFrom_20 : decode cX8_waitsFrom 20 = .ok (.sipush 198, 3) := by decide +kernel
theorem dX8_waitsFrom_23 : decode cX8_waitsFrom 23 = .ok (.iaload, 1) := by decide +kernel
theorem dX8_waitsFrom_24 : decode cX8_waitsFrom 24 = .ok (.istore 5, 2) := by decide +kernel
theorem dX8_waitsFrom_26 : decode cX8_waitsFrom 26 = .ok (.aload_n 0, 1) := by decide +kernel
theorem dX8_waitsFrom_27 : decode cX8_waitsFrom 27 = .ok (.getfield 7, 3) := by decide +kernel
theorem dX8_waitsFrom_30 : decode cX8_waitsFrom 30 = .ok (.sipush 177, 3) := by decide +kernel
theorem dX8_waitsFrom_33 : decode cX8_waitsFrom 33 = .ok (.iload_n 1, 1) := by decide +kernel
theorem dX8_waitsFrom_34 : decode cX8_waitsFrom 34 = .ok (.iadd, 1) := by decide +kernel
theorem dX8_waitsFrom_35 : decode cX8_waitsFrom 35 = .ok (.iaload, 1) := by decide +kernel
theorem dX8_waitsFrom_36 : decode cX8_waitsFrom 36 = .ok (.istore 6, 2) := by decide +kernel
theorem dX8_waitsFrom_38 : decode cX8_waitsFrom 38 = .ok (.aload_n 0, 1) := by decide +kernel
theorem dX8_waitsFrom_39 : decode cX8_waitsFrom 39 = .ok (.sipush 153, 3) := by decide +kernel
theorem dX8_waitsFrom_42 : decode cX8_waitsFrom 42 = .ok (.invokevirtual 98, 3) := by decide +kernel
theorem dX8_waitsFrom_45 : decode cX8_waitsFrom 45 = .ok (.istore 7, 2) := by decide +kernel
theorem dX8_waitsFrom_47 : decode cX8_waitsFrom 47 = .ok (.iload 7, 2) := by decide +kernel
theorem dX8_waitsFrom_49 : decode cX8_waitsFrom 49 = .ok (.bipush (-4), 2) := by decide +kernel
theorem dX8_waitsFrom_51 : decode cX8_waitsFrom 51 = .ok (.if_icmp .ne 19, 3) := by decide +kernel
theorem dX8_waitsFrom_54 : decode cX8_waitsFrom 54 = .ok (.iload 5, 2) := by decide +kernel
theorem dX8_waitsFrom_56 : decode cX8_waitsFrom 56 = .ok (.aload_n 0, 1) := by decide +kernel
theorem dX8_waitsFrom_57 : decode cX8_waitsFrom 57 = .ok (.getfield 7, 3) := by decide +kernel
theorem dX8_waitsFrom_60 : decode cX8_waitsFrom 60 = .ok (.sipush 197, 3) := by decide +kernel
theorem dX8_waitsFrom_63 : decode cX8_waitsFrom 63 = .ok (.iaload, 1) := by decide +kernel
theorem dX8_waitsFrom_64 : decode cX8_waitsFrom 64 = .ok (.iadd, 1) := by decide +kernel
theorem dX8_waitsFrom_65 : decode cX8_waitsFrom 65 = .ok (.iconst 1, 1) := by decide +kernel
theorem dX8_waitsFrom_66 : decode cX8_waitsFrom 66 = .ok (.isub, 1) := by decide +kernel
theorem dX8_waitsFrom_67 : decode cX8_waitsFrom 67 = .ok (.goto 4, 3) := by decide +kernel
theorem dX8_waitsFrom_70 : decode cX8_waitsFrom 70 = .ok (.iload_n 2, 1) := by decide +kernel
theorem dX8_waitsFrom_71 : decode cX8_waitsFrom 71 = .ok (.istore_n 2, 1) := by decide +kernel
theorem dX8_waitsFrom_72 : decode cX8_waitsFrom 72 = .ok (.iload_n 3, 1) := by decide +kernel
theorem dX8_waitsFrom_73 : decode cX8_waitsFrom 73 = .ok (.iload 7, 2) := by decide +kernel
theorem dX8_waitsFrom_75 : decode cX8_waitsFrom 75 = .ok (.iload_n 1, 1) := by decide +kernel
theorem dX8_waitsFrom_76 : decode cX8_waitsFrom 76 = .ok (.if_icmp .ne 16, 3) := by decide +kernel
theorem dX8_waitsFrom_79 : decode cX8_waitsFrom 79 = .ok (.iload_n 2, 1) := by decide +kernel
theorem dX8_waitsFrom_80 : decode cX8_waitsFrom 80 = .ok (.iload 5, 2) := by decide +kernel
theorem dX8_waitsFrom_82 : decode cX8_waitsFrom 82 = .ok (.if_icmp .lt 10, 3) := by decide +kernel
theorem dX8_waitsFrom_85 : decode cX8_waitsFrom 85 = .ok (.iconst 1, 1) := by decide +kernel
theorem dX8_waitsFrom_86 : decode cX8_waitsFrom 86 = .ok (.iload 6, 2) := by decide +kernel
theorem dX8_waitsFrom_88 : decode cX8_waitsFrom 88 = .ok (.ishl, 1) := by decide +kernel
theorem dX8_waitsFrom_89 : decode cX8_waitsFrom 89 = .ok (.goto 4, 3) := by decide +kernel
theorem dX8_waitsFrom_92 : decode cX8_waitsFrom 92 = .ok (.iconst 0, 1) := by decide +kernel
theorem dX8_waitsFrom_93 : decode cX8_waitsFrom 93 = .ok (.ior, 1) := by decide +kernel
theorem dX8_waitsFrom_94 : decode cX8_waitsFrom 94 = .ok (.istore_n 3, 1) := by decide +kernel
theorem dX8_waitsFrom_95 : decode cX8_waitsFrom 95 = .ok (.iload_n 3, 1) := by decide +kernel
theorem dX8_waitsFrom_96 : decode cX8_waitsFrom 96 = .ok (.invokestatic 105, 3) := by decide +kernel
theorem dX8_waitsFrom_99 : decode cX8_waitsFrom 99 = .ok (.aload_n 0, 1) := by decide +kernel
theorem dX8_waitsFrom_100 : decode cX8_waitsFrom 100 = .ok (.getfield 7, 3) := by decide +kernel
theorem dX8_waitsFrom_103 : decode cX8_waitsFrom 103 = .ok (.iconst 0, 1) := by decide +kernel
theorem dX8_waitsFrom_104 : decode cX8_waitsFrom 104 = .ok (.iload_n 1, 1) := by decide +kernel
theorem dX8_waitsFrom_105 : decode cX8_waitsFrom 105 = .ok (.iadd, 1) := by decide +kernel
theorem dX8_waitsFrom_106 : decode cX8_waitsFrom 106 = .ok (.iaload, 1) := by decide +kernel
theorem dX8_waitsFrom_107 : decode cX8_waitsFrom 107 = .ok (.if_icmp .lt 6, 3) := by decide +kernel
theorem dX8_waitsFrom_110 : decode cX8_waitsFrom 110 = .ok (.iload 4, 2) := by decide +kernel
theorem dX8_waitsFrom_112 : decode cX8_waitsFrom 112 = .ok (.ireturn, 1) := by decide +kernel
theorem dX8_waitsFrom_113 : decode cX8_waitsFrom 113 = .ok (.iinc 4 1, 3) := by decide +kernel
theorem dX8_waitsFrom_116 : decode cX8_waitsFrom 116 = .ok (.goto (-108), 3) := by decide +kernel
theorem dX8_waitsFrom_119 : decode cX8_waitsFrom 119 = .ok (.bipush (-4), 2) := by decide +kernel
theorem dX8_waitsFrom_121 : decode cX8_waitsFrom 121 = .ok (.ireturn, 1) := by decide +kernel
theorem dX8_waitIs_0 : decode cX8_waitIs 0 = .ok (.aload_n 0, 1) := by decide +kernel
theorem dX8_waitIs_1 : decode cX8_waitIs 1 = .ok (.iconst 0, 1) := by decide +kernel
theorem dX8_waitIs_2 : decode cX8_waitIs 2 = .ok (.sipush 153, 3) := by decide +kernel
theorem dX8_waitIs_5 : decode cX8_waitIs 5 = .ok (.invokevirtual 92, 3) := by decide +kernel
theorem dX8_waitIs_8 : decode cX8_waitIs 8 = .ok (.aload_n 0, 1) := by decide +kernel
theorem dX8_waitIs_9 : decode cX8_waitIs 9 = .ok (.getfield 7, 3) := by decide +kernel
theorem dX8_waitIs_12 : decode cX8_waitIs 12 = .ok (.sipush 201, 3) := by decide +kernel
theorem dX8_waitIs_15 : decode cX8_waitIs 15 = .ok (.iconst 0, 1) := by decide +kernel
theorem dX8_waitIs_16 : decode cX8_waitIs 16 = .ok (.iastore, 1) := by decide +kernel
theorem dX8_waitIs_17 : decode cX8_waitIs 17 = .ok (.iconst 0, 1) := by decide +kernel
theorem dX8_waitIs_18 : decode cX8_waitIs 18 = .ok (.istore_n 3, 1) := by decide +kernel
theorem dX8_waitIs_19 : decode cX8_waitIs 19 = .ok (.iload_n 3, 1) := by decide +kernel
theorem dX8_waitIs_20 : decode cX8_waitIs 20 = .ok (.iload_n 2, 1) := by decide +kernel
theorem dX8_waitIs_21 : decode cX8_waitIs 21 = .ok (.if_icmp .ge 17, 3) := by decide +kernel
theorem dX8_waitIs_24 : decode cX8_waitIs 24 = .ok (.aload_n 0, 1) := by decide +kernel
theorem dX8_waitIs_25 : decode cX8_waitIs 25 = .ok (.sipush 153, 3) := by decide +kernel
theorem dX8_waitIs_28 : decode cX8_waitIs 28 = .ok (.invokevirtual 98, 3) := by decide +kernel
theorem dX8_waitIs_31 : decode cX8_waitIs 31 = .ok (.pop, 1) := by decide +kernel
theorem dX8_waitIs_32 : decode cX8_waitIs 32 = .ok (.iinc 3 1, 3) := by decide +kernel
theorem dX8_waitIs_35 : decode cX8_waitIs 35 = .ok (.goto (-16), 3) := by decide +kernel
theorem dX8_waitIs_38 : decode cX8_waitIs 38 = .ok (.aload_n 0, 1) := by decide +kernel
theorem dX8_waitIs_39 : decode cX8_waitIs 39 = .ok (.iload_n 1, 1) := by decide +kernel
theorem dX8_waitIs_40 : decode cX8_waitIs 40 = .ok (.invokevirtual 130, 3) := by decide +kernel
theorem dX8_waitIs_43 : decode cX8_waitIs 43 = .ok (.ireturn, 1) := by decide +kernel
theorem dX8_waits_0 : decode cX8_waits 0 = .ok (.aload_n 0, 1) := by decide +kernel
theorem dX8_waits_1 : decode cX8_waits 1 = .ok (.iload_n 1, 1) := by decide +kernel
theorem dX8_waits_2 : decode cX8_waits 2 = .ok (.invokevirtual 101, 3) := by decide +kernel
theorem dX8_waits_5 : decode cX8_waits 5 = .ok (.ifCond .eq 22, 3) := by decide +kernel
theorem dX8_waits_8 : decode cX8_waits 8 = .ok (.iload_n 2, 1) := by decide +kernel
theorem dX8_waits_9 : decode cX8_waits 9 = .ok (.iconst 0, 1) := by decide +kernel
theorem dX8_waits_10 : decode cX8_waits 10 = .ok (.bipush 99, 2) := by decide +kernel
theorem dX8_waits_12 : decode cX8_waits 12 = .ok (.invokestatic 31, 3) := by decide +kernel
theorem dX8_waits_15 : decode cX8_waits 15 = .ok (.ifCond .eq 12, 3) := by decide +kernel
theorem dX8_waits_18 : decode cX8_waits 18 = .ok (.aload_n 0, 1) := by decide +kernel
theorem dX8_waits_19 : decode cX8_waits 19 = .ok (.iload_n 1, 1) := by decide +kernel
theorem dX8_waits_20 : decode cX8_waits 20 = .ok (.iload_n 2, 1) := by decide +kernel
theorem dX8_waits_21 : decode cX8_waits 21 = .ok (.invokevirtual 133, 3) := by decide +kernel
theorem dX8_waits_24 : decode cX8_waits 24 = .ok (.goto 4, 3) := by decide +kernel
theorem dX8_waits_27 : decode cX8_waits 27 = .ok (.iconst (-1), 1) := by decide +kernel
theorem dX8_waits_28 : decode cX8_waits 28 = .ok (.ireturn, 1) := by decide +kernel
theorem dX8_mean_0 : decode cX8_mean 0 = .ok (.aload_n 0, 1) := by decide +kernel
theorem dX8_mean_1 : decode cX8_mean 1 = .ok (.iload_n 1, 1) := by decide +kernel
theorem dX8_mean_2 : decode cX8_mean 2 = .ok (.invokevirtual 101, 3) := by decide +kernel
theorem dX8_mean_5 : decode cX8_mean 5 = .ok (.ifCond .eq 22, 3) := by decide +kernel
theorem dX8_mean_8 : decode cX8_mean 8 = .ok (.iload_n 2, 1) := by decide +kernel
theorem dX8_mean_9 : decode cX8_mean 9 = .ok (.iconst 1, 1) := by decide +kernel
theorem dX8_mean_10 : decode cX8_mean 10 = .ok (.bipush 40, 2) := by decide +kernel
theorem dX8_mean_12 : decode cX8_mean 12 = .ok (.invokestatic 31, 3) := by decide +kernel
theorem dX8_mean_15 : decode cX8_mean 15 = .ok (.ifCond .eq 12, 3) := by decide +kernel
theorem dX8_mean_18 : decode cX8_mean 18 = .ok (.iload_n 3, 1) := by decide +kernel
theorem dX8_mean_19 : decode cX8_mean 19 = .ok (.iconst 0, 1) := by decide +kernel
theorem dX8_mean_20 : decode cX8_mean 20 = .ok (.iconst 2, 1) := by decide +kernel
theorem dX8_mean_21 : decode cX8_mean 21 = .ok (.invokestatic 31, 3) := by decide +kernel
theorem dX8_mean_24 : decode cX8_mean 24 = .ok (.ifCond .ne 5, 3) := by decide +kernel
theorem dX8_mean_27 : decode cX8_mean 27 = .ok (.iconst (-1), 1) := by decide +kernel
theorem dX8_mean_28 : decode cX8_mean 28 = .ok (.ireturn, 1) := by decide +kernel
theorem dX8_mean_29 : decode cX8_mean 29 = .ok (.iconst 0, 1) := by decide +kernel
theorem dX8_mean_30 : decode cX8_mean 30 = .ok (.istore 4, 2) := by decide +kernel
theorem dX8_mean_32 : decode cX8_mean 32 = .ok (.iconst 0, 1) := by decide +kernel
theorem dX8_mean_33 : decode cX8_mean 33 = .ok (.istore 5, 2) := by decide +kernel
theorem dX8_mean_35 : decode cX8_mean 35 = .ok (.iconst 0, 1) := by decide +kernel
theorem dX8_mean_36 : decode cX8_mean 36 = .ok (.istore 6, 2) := by decide +kernel
theorem dX8_mean_38 : decode cX8_mean 38 = .ok (.iload 6, 2) := by decide +kernel
theorem dX8_mean_40 : decode cX8_mean 40 = .ok (.iload_n 2, 1) := by decide +kernel
theorem dX8_mean_41 : decode cX8_mean 41 = .ok (.if_icmp .ge 51, 3) := by decide +kernel
theorem dX8_mean_44 : decode cX8_mean 44 = .ok (.aload_n 0, 1) := by decide +kernel
theorem dX8_mean_45 : decode cX8_mean 45 = .ok (.iload_n 1, 1) := by decide +kernel
theorem dX8_mean_46 : decode cX8_mean 46 = .ok (.iload 6, 2) := by decide +kernel
theorem dX8_mean_48 : decode cX8_mean 48 = .ok (.invokevirtual 133, 3) := by decide +kernel
theorem dX8_mean_51 : decode cX8_mean 51 = .ok (.istore 7, 2) := by decide +kernel
theorem dX8_mean_53 : decode cX8_mean 53 = .ok (.iload 7, 2) := by decide +kernel
theorem dX8_mean_55 : decode cX8_mean 55 = .ok (.bipush (-4), 2) := by decide +kernel
theorem dX8_mean_57 : decode cX8_mean 57 = .ok (.if_icmp .ne 6, 3) := by decide +kernel
theorem dX8_mean_60 : decode cX8_mean 60 = .ok (.bipush (-4), 2) := by decide +kernel
theorem dX8_mean_62 : decode cX8_mean 62 = .ok (.ireturn, 1) := by decide +kernel
theorem dX8_mean_63 : decode cX8_mean 63 = .ok (.iload 4, 2) := by decide +kernel
theorem dX8_mean_65 : decode cX8_mean 65 = .ok (.iload 7, 2) := by decide +kernel
theorem dX8_mean_67 : decode cX8_mean 67 = .ok (.iadd, 1) := by decide +kernel
theorem dX8_mean_68 : decode cX8_mean 68 = .ok (.istore 4, 2) := by decide +kernel
theorem dX8_mean_70 : decode cX8_mean 70 = .ok (.iload 7, 2) := by decide +kernel
theorem dX8_mean_72 : decode cX8_mean 72 = .ok (.iload 5, 2) := by decide +kernel
theorem dX8_mean_74 : decode cX8_mean 74 = .ok (.if_icmp .le 8, 3) := by decide +kernel
theorem dX8_mean_77 : decode cX8_mean 77 = .ok (.iload 7, 2) := by decide +kernel
theorem dX8_mean_79 : decode cX8_mean 79 = .ok (.goto 5, 3) := by decide +kernel
theorem dX8_mean_82 : decode cX8_mean 82 = .ok (.iload 5, 2) := by decide +kernel
theorem dX8_mean_84 : decode cX8_mean 84 = .ok (.istore 5, 2) := by decide +kernel
theorem dX8_mean_86 : decode cX8_mean 86 = .ok (.iinc 6 1, 3) := by decide +kernel
theorem dX8_mean_89 : decode cX8_mean 89 = .ok (.goto (-51), 3) := by decide +kernel
theorem dX8_mean_92 : decode cX8_mean 92 = .ok (.iload 4, 2) := by decide +kernel
theorem dX8_mean_94 : decode cX8_mean 94 = .ok (.i2f, 1) := by decide +kernel
theorem dX8_mean_95 : decode cX8_mean 95 = .ok (.iload_n 2, 1) := by decide +kernel
theorem dX8_mean_96 : decode cX8_mean 96 = .ok (.i2f, 1) := by decide +kernel
theorem dX8_mean_97 : decode cX8_mean 97 = .ok (.fdiv, 1) := by decide +kernel
theorem dX8_mean_98 : decode cX8_mean 98 = .ok (.fstore 6, 2) := by decide +kernel
theorem dX8_mean_100 : decode cX8_mean 100 = .ok (.iload_n 3, 1) := by decide +kernel
theorem dX8_mean_101 : decode cX8_mean 101 = .ok (.ifCond .ne 11, 3) := by decide +kernel
theorem dX8_mean_104 : decode cX8_mean 104 = .ok (.fload 6, 2) := by decide +kernel
theorem dX8_mean_106 : decode cX8_mean 106 = .ok (.invokestatic 118, 3) := by decide +kernel
theorem dX8_mean_109 : decode cX8_mean 109 = .ok (.goto 16, 3) := by decide +kernel
theorem dX8_mean_112 : decode cX8_mean 112 = .ok (.iload_n 3, 1) := by decide +kernel
theorem dX8_mean_113 : decode cX8_mean 113 = .ok (.iconst 1, 1) := by decide +kernel
theorem dX8_mean_114 : decode cX8_mean 114 = .ok (.if_icmp .ne 9, 3) := by decide +kernel
theorem dX8_mean_117 : decode cX8_mean 117 = .ok (.fload 6, 2) := by decide +kernel
theorem dX8_mean_119 : decode cX8_mean 119 = .ok (.f2i, 1) := by decide +kernel
theorem dX8_mean_120 : decode cX8_mean 120 = .ok (.goto 5, 3) := by decide +kernel
theorem dX8_mean_123 : decode cX8_mean 123 = .ok (.iload 5, 2) := by decide +kernel
theorem dX8_mean_125 : decode cX8_mean 125 = .ok (.ireturn, 1) := by decide +kernel
theorem dX8_count_0 : decode cX8_count 0 = .ok (.iload_n 1, 1) := by decide +kernel
theorem dX8_count_1 : decode cX8_count 1 = .ok (.tableswitch 169 0 9 #[55, 63, 71, 79, 87, 95, 103, 111, 159, 164], 55) := by decide +kernel
theorem dX8_count_56 : decode cX8_count 56 = .ok (.aload_n 0, 1) := by decide +kernel
theorem dX8_count_57 : decode cX8_count 57 = .ok (.getfield 7, 3) := by decide +kernel
theorem dX8_count_60 : decode cX8_count 60 = .ok (.bipush 42, 2) := by decide +kernel
theorem dX8_count_62 : decode cX8_count 62 = .ok (.iaload, 1) := by decide +kernel
theorem dX8_count_63 : decode cX8_count 63 = .ok (.ireturn, 1) := by decide +kernel
theorem dX8_count_64 : decode cX8_count 64 = .ok (.aload_n 0, 1) := by decide +kernel
theorem dX8_count_65 : decode cX8_count 65 = .ok (.getfield 7, 3) := by decide +kernel
theorem dX8_count_68 : decode cX8_count 68 = .ok (.bipush 45, 2) := by decide +kernel
theorem dX8_count_70 : decode cX8_count 70 = .ok (.iaload, 1) := by decide +kernel
theorem dX8_count_71 : decode cX8_count 71 = .ok (.ireturn, 1) := by decide +kernel
theorem dX8_count_72 : decode cX8_count 72 = .ok (.aload_n 0, 1) := by decide +kernel
theorem dX8_count_73 : decode cX8_count 73 = .ok (.getfield 7, 3) := by decide +kernel
theorem dX8_count_76 : decode cX8_count 76 = .ok (.bipush 43, 2) := by decide +kernel
theorem dX8_count_78 : decode cX8_count 78 = .ok (.iaload, 1) := by decide +kernel
theorem dX8_count_79 : decode cX8_count 79 = .ok (.ireturn, 1) := by decide +kernel
theorem dX8_count_80 : decode cX8_count 80 = .ok (.aload_n 0, 1) := by decide +kernel
theorem dX8_count_81 : decode cX8_count 81 = .ok (.getfield 7, 3) := by decide +kernel
theorem dX8_count_84 : decode cX8_count 84 = .ok (.bipush 44, 2) := by decide +kernel
theorem dX8_count_86 : decode cX8_count 86 = .ok (.iaload, 1) := by decide +kernel
theorem dX8_count_87 : decode cX8_count 87 = .ok (.ireturn, 1) := by decide +kernel
theorem dX8_count_88 : decode cX8_count 88 = .ok (.aload_n 0, 1) := by decide +kernel
theorem dX8_count_89 : decode cX8_count 89 = .ok (.getfield 7, 3) := by decide +kernel
theorem dX8_count_92 : decode cX8_count 92 = .ok (.bipush 48, 2) := by decide +kernel
theorem dX8_count_94 : decode cX8_count 94 = .ok (.iaload, 1) := by decide +kernel
theorem dX8_count_95 : decode cX8_count 95 = .ok (.ireturn, 1) := by decide +kernel
theorem dX8_count_96 : decode cX8_count 96 = .ok (.aload_n 0, 1) := by decide +kernel
theorem dX8_count_97 : decode cX8_count 97 = .ok (.getfield 7, 3) := by decide +kernel
theorem dX8_count_100 : decode cX8_count 100 = .ok (.bipush 46, 2) := by decide +kernel
theorem dX8_count_102 : decode cX8_count 102 = .ok (.iaload, 1) := by decide +kernel
theorem dX8_count_103 : decode cX8_count 103 = .ok (.ireturn, 1) := by decide +kernel
theorem dX8_count_104 : decode cX8_count 104 = .ok (.aload_n 0, 1) := by decide +kernel
theorem dX8_count_105 : decode cX8_count 105 = .ok (.getfield 7, 3) := by decide +kernel
theorem dX8_count_108 : decode cX8_count 108 = .ok (.bipush 47, 2) := by decide +kernel
theorem dX8_count_110 : decode cX8_count 110 = .ok (.iaload, 1) := by decide +kernel
theorem dX8_count_111 : decode cX8_count 111 = .ok (.ireturn, 1) := by decide +kernel
theorem dX8_count_112 : decode cX8_count 112 = .ok (.aload_n 0, 1) := by decide +kernel
theorem dX8_count_113 : decode cX8_count 113 = .ok (.getfield 7, 3) := by decide +kernel
theorem dX8_count_116 : decode cX8_count 116 = .ok (.bipush 12, 2) := by decide +kernel
theorem dX8_count_118 : decode cX8_count 118 = .ok (.iaload, 1) := by decide +kernel
theorem dX8_count_119 : decode cX8_count 119 = .ok (.aload_n 0, 1) := by decide +kernel
theorem dX8_count_120 : decode cX8_count 120 = .ok (.getfield 7, 3) := by decide +kernel
theorem dX8_count_123 : decode cX8_count 123 = .ok (.bipush 13, 2) := by decide +kernel
theorem dX8_count_125 : decode cX8_count 125 = .ok (.iaload, 1) := by decide +kernel
theorem dX8_count_126 : decode cX8_count 126 = .ok (.iadd, 1) := by decide +kernel
theorem dX8_count_127 : decode cX8_count 127 = .ok (.aload_n 0, 1) := by decide +kernel
theorem dX8_count_128 : decode cX8_count 128 = .ok (.getfield 7, 3) := by decide +kernel
theorem dX8_count_131 : decode cX8_count 131 = .ok (.bipush 14, 2) := by decide +kernel
theorem dX8_count_133 : decode cX8_count 133 = .ok (.iaload, 1) := by decide +kernel
theorem dX8_count_134 : decode cX8_count 134 = .ok (.iadd, 1) := by decide +kernel
theorem dX8_count_135 : decode cX8_count 135 = .ok (.aload_n 0, 1) := by decide +kernel
theorem dX8_count_136 : decode cX8_count 136 = .ok (.getfield 7, 3) := by decide +kernel
theorem dX8_count_139 : decode cX8_count 139 = .ok (.bipush 15, 2) := by decide +kernel
theorem dX8_count_141 : decode cX8_count 141 = .ok (.iaload, 1) := by decide +kernel
theorem dX8_count_142 : decode cX8_count 142 = .ok (.iadd, 1) := by decide +kernel
theorem dX8_count_143 : decode cX8_count 143 = .ok (.aload_n 0, 1) := by decide +kernel
theorem dX8_count_144 : decode cX8_count 144 = .ok (.getfield 7, 3) := by decide +kernel
theorem dX8_count_147 : decode cX8_count 147 = .ok (.bipush 16, 2) := by decide +kernel
theorem dX8_count_149 : decode cX8_count 149 = .ok (.iaload, 1) := by decide +kernel
theorem dX8_count_150 : decode cX8_count 150 = .ok (.iadd, 1) := by decide +kernel
theorem dX8_count_151 : decode cX8_count 151 = .ok (.aload_n 0, 1) := by decide +kernel
theorem dX8_count_152 : decode cX8_count 152 = .ok (.getfield 7, 3) := by decide +kernel
theorem dX8_count_155 : decode cX8_count 155 = .ok (.bipush 17, 2) := by decide +kernel
theorem dX8_count_157 : decode cX8_count 157 = .ok (.iaload, 1) := by decide +kernel
theorem dX8_count_158 : decode cX8_count 158 = .ok (.iadd, 1) := by decide +kernel
theorem dX8_count_159 : decode cX8_count 159 = .ok (.ireturn, 1) := by decide +kernel
theorem dX8_count_160 : decode cX8_count 160 = .ok (.aload_n 0, 1) := by decide +kernel
theorem dX8_count_161 : decode cX8_count 161 = .ok (.getfield 27, 3) := by decide +kernel
theorem dX8_count_164 : decode cX8_count 164 = .ok (.ireturn, 1) := by decide +kernel
theorem dX8_count_165 : decode cX8_count 165 = .ok (.aload_n 0, 1) := by decide +kernel
theorem dX8_count_166 : decode cX8_count 166 = .ok (.getfield 35, 3) := by decide +kernel
theorem dX8_count_169 : decode cX8_count 169 = .ok (.ireturn, 1) := by decide +kernel
theorem dX8_count_170 : decode cX8_count 170 = .ok (.iconst (-1), 1) := by decide +kernel
theorem dX8_count_171 : decode cX8_count 171 = .ok (.ireturn, 1) := by decide +kernel
