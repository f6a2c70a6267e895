theorem dX7_init_0 : decode cX7_init 0 = .ok (.aload_n 0, 1) := by decide +kernel
theorem dX7_init_1 : decode cX7_init 1 = .ok (.invokespecial 3, 3) := by decide +kernel
theorem dX7_init_4 : decode cX7_init 4 = .ok (.aload_n 0, 1) := by decide +kernel
theorem dX7_init_5 : decode cX7_init 5 = .ok (.new 9, 3) := by decide +kernel
theorem dX7_init_8 : decode cX7_init 8 = .ok (.dup, 1) := by decide +kernel
theorem dX7_init_9 : decode cX7_init 9 = .ok (.invokespecial 11, 3) := by decide +kernel
theorem dX7_init_12 : decode cX7_init 12 = .ok (.putfield 12, 3) := by decide +kernel
theorem dX7_init_15 : decode cX7_init 15 = .ok (.aload_n 0, 1) := by decide +kernel
theorem dX7_init_16 : decode cX7_init 16 = .ok (.new 16, 3) := by decide +kernel
theorem dX7_init_19 : decode cX7_init 19 = .ok (.dup, 1) := by decide +kernel
theorem dX7_init_20 : decode cX7_init 20 = .ok (.invokespecial 18, 3) := by decide +kernel
theorem dX7_init_23 : decode cX7_init 23 = .ok (.putfield 19, 3) := by decide +kernel
theorem dX7_init_26 : decode cX7_init 26 = .ok (.aload_n 0, 1) := by decide +kernel
theorem dX7_init_27 : decode cX7_init 27 = .ok (.new 16, 3) := by decide +kernel
theorem dX7_init_30 : decode cX7_init 30 = .ok (.dup, 1) := by decide +kernel
theorem dX7_init_31 : decode cX7_init 31 = .ok (.invokespecial 18, 3) := by decide +kernel
theorem dX7_init_34 : decode cX7_init 34 = .ok (.putfield 23, 3) := by decide +kernel
theorem dX7_init_37 : decode cX7_init 37 = .ok (.aload_n 0, 1) := by decide +kernel
theorem dX7_init_38 : decode cX7_init 38 = .ok (.getfield 23, 3) := by decide +kernel
theorem dX7_init_41 : decode cX7_init 41 = .ok (.iconst 4, 1) := by decide +kernel
theorem dX7_init_42 : decode cX7_init 42 = .ok (.iconst 2, 1) := by decide +kernel
theorem dX7_init_43 : decode cX7_init 43 = .ok (.iconst 3, 1) := by decide +kernel
theorem dX7_init_44 : decode cX7_init 44 = .ok (.invokevirtual 26, 3) := by decide +kernel
theorem dX7_init_47 : decode cX7_init 47 = .ok (.pop, 1) := by decide +kernel
theorem dX7_init_48 : decode cX7_init 48 = .ok (.aload_n 0, 1) := by decide +kernel
theorem dX7_init_49 : decode cX7_init 49 = .ok (.getfield 23, 3) := by decide +kernel
theorem dX7_init_52 : decode cX7_init 52 = .ok (.bipush 6, 2) := by decide +kernel
theorem dX7_init_54 : decode cX7_init 54 = .ok (.iconst 0, 1) := by decide +kernel
theorem dX7_init_55 : decode cX7_init 55 = .ok (.iconst 1, 1) := by decide +kernel
theorem dX7_init_56 : decode cX7_init 56 = .ok (.invokevirtual 26, 3) := by decide +kernel
theorem dX7_init_59 : decode cX7_init 59 = .ok (.pop, 1) := by decide +kernel
theorem dX7_init_60 : decode cX7_init 60 = .ok (.aload_n 0, 1) := by decide +kernel
theorem dX7_init_61 : decode cX7_init 61 = .ok (.getfield 23, 3) := by decide +kernel
theorem dX7_init_64 : decode cX7_init 64 = .ok (.iconst 2, 1) := by decide +kernel
theorem dX7_init_65 : decode cX7_init 65 = .ok (.iconst 1, 1) := by decide +kernel
theorem dX7_init_66 : decode cX7_init 66 = .ok (.iconst 2, 1) := by decide +kernel
theorem dX7_init_67 : decode cX7_init 67 = .ok (.invokevirtual 26, 3) := by decide +kernel
theorem dX7_init_70 : decode cX7_init 70 = .ok (.pop, 1) := by decide +kernel
theorem dX7_init_71 : decode cX7_init 71 = .ok (.aload_n 0, 1) := by decide +kernel
theorem dX7_init_72 : decode cX7_init 72 = .ok (.getfield 23, 3) := by decide +kernel
theorem dX7_init_75 : decode cX7_init 75 = .ok (.iconst 5, 1) := by decide +kernel
theorem dX7_init_76 : decode cX7_init 76 = .ok (.bipush 12, 2) := by decide +kernel
theorem dX7_init_78 : decode cX7_init 78 = .ok (.invokevirtual 30, 3) := by decide +kernel
theorem dX7_init_81 : decode cX7_init 81 = .ok (.aload_n 0, 1) := by decide +kernel
theorem dX7_init_82 : decode cX7_init 82 = .ok (.new 34, 3) := by decide +kernel
theorem dX7_init_85 : decode cX7_init 85 = .ok (.dup, 1) := by decide +kernel
theorem dX7_init_86 : decode cX7_init 86 = .ok (.aload_n 0, 1) := by decide +kernel
theorem dX7_init_87 : decode cX7_init 87 = .ok (.getfield 23, 3) := by decide +kernel
theorem dX7_init_90 : decode cX7_init 90 = .ok (.invokespecial 36, 3) := by decide +kernel
theorem dX7_init_93 : decode cX7_init 93 = .ok (.putfield 39, 3) := by decide +kernel
theorem dX7_init_96 : decode cX7_init 96 = .ok (.aload_n 0, 1) := by decide +kernel
theorem dX7_init_97 : decode cX7_init 97 = .ok (.getfield 39, 3) := by decide +kernel
theorem dX7_init_100 : decode cX7_init 100 = .ok (.invokevirtual 43, 3) := by decide +kernel
theorem dX7_init_103 : decode cX7_init 103 = .ok (.aload_n 0, 1) := by decide +kernel
theorem dX7_init_104 : decode cX7_init 104 = .ok (.new 46, 3) := by decide +kernel
theorem dX7_init_107 : decode cX7_init 107 = .ok (.dup, 1) := by decide +kernel
theorem dX7_init_108 : decode cX7_init 108 = .ok (.aload_n 0, 1) := by decide +kernel
theorem dX7_init_109 : decode cX7_init 109 = .ok (.getfield 23, 3) := by decide +kernel
theorem dX7_init_112 : decode cX7_init 112 = .ok (.invokespecial 48, 3) := by decide +kernel
theorem dX7_init_115 : decode cX7_init 115 = .ok (.putfield 49, 3) := by decide +kernel
theorem dX7_init_118 : decode cX7_init 118 = .ok (.aload_n 0, 1) := by decide +kernel
theorem dX7_init_119 : decode cX7_init 119 = .ok (.new 53, 3) := by decide +kernel
theorem dX7_init_122 : decode cX7_init 122 = .ok (.dup, 1) := by decide +kernel
theorem dX7_init_123 : decode cX7_init 123 = .ok (.aload_n 0, 1) := by decide +kernel
theorem dX7_init_124 : decode cX7_init 124 = .ok (.getfield 23, 3) := by decide +kernel
theorem dX7_init_127 : decode cX7_init 127 = .ok (.invokespecial 55, 3) := by decide +kernel
theorem dX7_init_130 : decode cX7_init 130 = .ok (.putfield 56, 3) := by decide +kernel
theorem dX7_init_133 : decode cX7_init 133 = .ok (.return_, 1) := by decide +kernel
theorem dX7_write_0 : decode cX7_write 0 = .ok (.iload_n 1, 1) := by decide +kernel
theorem dX7_write_1 : decode cX7_write 1 = .ok (.bipush 32, 2) := by decide +kernel
theorem dX7_write_3 : decode cX7_write 3 = .ok (.if_icmp .lt 9, 3) := by decide +kernel
theorem dX7_write_6 : decode cX7_write 6 = .ok (.iload_n 1, 1) := by decide +kernel
theorem dX7_write_7 : decode cX7_write 7 = .ok (.bipush 126, 2) := by decide +kernel
theorem dX7_write_9 : decode cX7_write 9 = .ok (.if_icmp .le 5, 3) := by decide +kernel
theorem dX7_write_12 : decode cX7_write 12 = .ok (.iconst (-1), 1) := by decide +kernel
theorem dX7_write_13 : decode cX7_write 13 = .ok (.ireturn, 1) := by decide +kernel
theorem dX7_write_14 : decode cX7_write 14 = .ok (.aload_n 0, 1) := by decide +kernel
theorem dX7_write_15 : decode cX7_write 15 = .ok (.getfield 12, 3) := by decide +kernel
theorem dX7_write_18 : decode cX7_write 18 = .ok (.iload_n 1, 1) := by decide +kernel
theorem dX7_write_19 : decode cX7_write 19 = .ok (.invokevirtual 60, 3) := by decide +kernel
theorem dX7_write_22 : decode cX7_write 22 = .ok (.ifCond .eq 13, 3) := by decide +kernel
theorem dX7_write_25 : decode cX7_write 25 = .ok (.aload_n 0, 1) := by decide +kernel
theorem dX7_write_26 : decode cX7_write 26 = .ok (.getfield 12, 3) := by decide +kernel
theorem dX7_write_29 : decode cX7_write 29 = .ok (.getfield 64, 3) := by decide +kernel
theorem dX7_write_32 : decode cX7_write 32 = .ok (.goto 5, 3) := by decide +kernel
theorem dX7_write_35 : decode cX7_write 35 = .ok (.bipush (-3), 2) := by decide +kernel
theorem dX7_write_37 : decode cX7_write 37 = .ok (.ireturn, 1) := by decide +kernel
theorem dX7_wipe_0 : decode cX7_wipe 0 = .ok (.aload_n 0, 1) := by decide +kernel
theorem dX7_wipe_1 : decode cX7_wipe 1 = .ok (.getfield 12, 3) := by decide +kernel
theorem dX7_wipe_4 : decode cX7_wipe 4 = .ok (.getfield 64, 3) := by decide +kernel
theorem dX7_wipe_7 : decode cX7_wipe 7 = .ok (.istore_n 1, 1) := by decide +kernel
theorem dX7_wipe_8 : decode cX7_wipe 8 = .ok (.aload_n 0, 1) := by decide +kernel
theorem dX7_wipe_9 : decode cX7_wipe 9 = .ok (.getfield 12, 3) := by decide +kernel
theorem dX7_wipe_12 : decode cX7_wipe 12 = .ok (.iconst 0, 1) := by decide +kernel
theorem dX7_wipe_13 : decode cX7_wipe 13 = .ok (.putfield 64, 3) := by decide +kernel
theorem dX7_wipe_16 : decode cX7_wipe 16 = .ok (.iload_n 1, 1) := by decide +kernel
theorem dX7_wipe_17 : decode cX7_wipe 17 = .ok (.ireturn, 1) := by decide +kernel
theorem dX7_fault_0 : decode cX7_fault 0 = .ok (.aload_n 0, 1) := by decide +kernel
theorem dX7_fault_1 : decode cX7_fault 1 = .ok (.getfield 12, 3) := by decide +kernel
theorem dX7_fault_4 : decode cX7_fault 4 = .ok (.aload_n 0, 1) := by decide +kernel
theorem dX7_fault_5 : decode cX7_fault 5 = .ok (.getfield 19, 3) := by decide +kernel
theorem dX7_fault_8 : decode cX7_fault 8 = .ok (.invokevirtual 68, 3) := by decide +kernel
theorem dX7_fault_11 : decode cX7_fault 11 = .ok (.ireturn, 1) := by decide +kernel
theorem dX7_lay_0 : decode cX7_lay 0 = .ok (.aload_n 0, 1) := by decide +kernel
theorem dX7_lay_1 : decode cX7_lay 1 = .ok (.getfield 12, 3) := by decide +kernel
theorem dX7_lay_4 : decode cX7_lay 4 = .ok (.aload_n 0, 1) := by decide +kernel
theorem dX7_lay_5 : decode cX7_lay 5 = .ok (.getfield 19, 3) := by decide +kernel
theorem dX7_lay_8 : decode cX7_lay 8 = .ok (.invokevirtual 68, 3) := by decide +kernel
theorem dX7_lay_11 : decode cX7_lay 11 = .ok (.bipush (-4), 2) := by decide +kernel
theorem dX7_lay_13 : decode cX7_lay 13 = .ok (.if_icmp .ne 13, 3) := by decide +kernel
theorem dX7_lay_16 : decode cX7_lay 16 = .ok (.aload_n 0, 1) := by decide +kernel
theorem dX7_lay_17 : decode cX7_lay 17 = .ok (.getfield 19, 3) := by decide +kernel
theorem dX7_lay_20 : decode cX7_lay 20 = .ok (.getfield 72, 3) := by decide +kernel
theorem dX7_lay_23 : decode cX7_lay 23 = .ok (.ifCond .ne 6, 3) := by decide +kernel
theorem dX7_lay_26 : decode cX7_lay 26 = .ok (.bipush (-2), 2) := by decide +kernel
theorem dX7_lay_28 : decode cX7_lay 28 = .ok (.ireturn, 1) := by decide +kernel
theorem dX7_lay_29 : decode cX7_lay 29 = .ok (.aload_n 0, 1) := by decide +kernel
theorem dX7_lay_30 : decode cX7_lay 30 = .ok (.getfield 23, 3) := by decide +kernel
theorem dX7_lay_33 : decode cX7_lay 33 = .ok (.aload_n 0, 1) := by decide +kernel
theorem dX7_lay_34 : decode cX7_lay 34 = .ok (.getfield 19, 3) := by decide +kernel
theorem dX7_lay_37 : decode cX7_lay 37 = .ok (.invokevirtual 75, 3) := by decide +kernel
theorem dX7_lay_40 : decode cX7_lay 40 = .ok (.aload_n 0, 1) := by decide +kernel
theorem dX7_lay_41 : decode cX7_lay 41 = .ok (.getfield 39, 3) := by decide +kernel
theorem dX7_lay_44 : decode cX7_lay 44 = .ok (.invokevirtual 43, 3) := by decide +kernel
theorem dX7_lay_47 : decode cX7_lay 47 = .ok (.aload_n 0, 1) := by decide +kernel
theorem dX7_lay_48 : decode cX7_lay 48 = .ok (.getfield 49, 3) := by decide +kernel
theorem dX7_lay_51 : decode cX7_lay 51 = .ok (.invokevirtual 78, 3) := by decide +kernel
theorem dX7_lay_54 : decode cX7_lay 54 = .ok (.aload_n 0, 1) := by decide +kernel
theorem dX7_lay_55 : decode cX7_lay 55 = .ok (.getfield 23, 3) := by decide +kernel
theorem dX7_lay_58 : decode cX7_lay 58 = .ok (.getfield 72, 3) := by decide +kernel
theorem dX7_lay_61 : decode cX7_lay 61 = .ok (.ireturn, 1) := by decide +kernel
theorem dX7_tick_0 : decode cX7_tick 0 = .ok (.iload_n 1, 1) := by decide +kernel
theorem dX7_tick_1 : decode cX7_tick 1 = .ok (.iconst 1, 1) := by decide +kernel
theorem dX7_tick_2 : decode cX7_tick 2 = .ok (.if_icmp .lt 9, 3) := by decide +kernel
theorem dX7_tick_5 : decode cX7_tick 5 = .ok (.iload_n 1, 1) := by decide +kernel
theorem dX7_tick_6 : decode cX7_tick 6 = .ok (.bipush 99, 2) := by decide +kernel
theorem dX7_tick_8 : decode cX7_tick 8 = .ok (.if_icmp .le 5, 3) := by decide +kernel
theorem dX7_tick_11 : decode cX7_tick 11 = .ok (.iconst (-1), 1) := by decide +kernel
theorem dX7_tick_12 : decode cX7_tick 12 = .ok (.ireturn, 1) := by decide +kernel
theorem dX7_tick_13 : decode cX7_tick 13 = .ok (.aload_n 0, 1) := by decide +kernel
theorem dX7_tick_14 : decode cX7_tick 14 = .ok (.getfield 39, 3) := by decide +kernel
theorem dX7_tick_17 : decode cX7_tick 17 = .ok (.getfield 81, 3) := by decide +kernel
theorem dX7_tick_20 : decode cX7_tick 20 = .ok (.getfield 85, 3) := by decide +kernel
theorem dX7_tick_23 : decode cX7_tick 23 = .ok (.iload_n 1, 1) := by decide +kernel
theorem dX7_tick_24 : decode cX7_tick 24 = .ok (.iadd, 1) := by decide +kernel
theorem dX7_tick_25 : decode cX7_tick 25 = .ok (.sipush 9999, 3) := by decide +kernel
theorem dX7_tick_28 : decode cX7_tick 28 = .ok (.if_icmp .le 6, 3) := by decide +kernel
theorem dX7_tick_31 : decode cX7_tick 31 = .ok (.bipush (-2), 2) := by decide +kernel
theorem dX7_tick_33 : decode cX7_tick 33 = .ok (.ireturn, 1) := by decide +kernel
theorem dX7_tick_34 : decode cX7_tick 34 = .ok (.aload_n 0, 1) := by decide +kernel
theorem dX7_tick_35 : decode cX7_tick 35 = .ok (.getfield 49, 3) := by decide +kernel
theorem dX7_tick_38 : decode cX7_tick 38 = .ok (.aload_n 0, 1) := by decide +kernel
theorem dX7_tick_39 : decode cX7_tick 39 = .ok (.getfield 39, 3) := by decide +kernel
theorem dX7_tick_42 : decode cX7_tick 42 = .ok (.invokevirtual 90, 3) := by decide +kernel
theorem dX7_tick_45 : decode cX7_tick 45 = .ok (.aload_n 0, 1) := by decide +kernel
theorem dX7_tick_46 : decode cX7_tick 46 = .ok (.getfield 39, 3) := by decide +kernel
theorem dX7_tick_49 : decode cX7_tick 49 = .ok (.getfield 81, 3) := by decide +kernel
theorem dX7_tick_52 : decode cX7_tick 52 = .ok (.getfield 94, 3) := by decide +kernel
theorem dX7_tick_55 : decode cX7_tick 55 = .ok (.istore_n 2, 1) := by decide +kernel
theorem dX7_tick_56 : decode cX7_tick 56 = .ok (.iconst 0, 1) := by decide +kernel
theorem dX7_tick_57 : decode cX7_tick 57 = .ok (.istore_n 3, 1) := by decide +kernel
theorem dX7_tick_58 : decode cX7_tick 58 = .ok (.iload_n 3, 1) := by decide +kernel
theorem dX7_tick_59 : decode cX7_tick 59 = .ok (.iload_n 1, 1) := by decide +kernel
theorem dX7_tick_60 : decode cX7_tick 60 = .ok (.if_icmp .ge 16, 3) := by decide +kernel
theorem dX7_tick_63 : decode cX7_tick 63 = .ok (.aload_n 0, 1) := by decide +kernel
theorem dX7_tick_64 : decode cX7_tick 64 = .ok (.getfield 39, 3) := by decide +kernel
theorem dX7_tick_67 : decode cX7_tick 67 = .ok (.invokevirtual 97, 3) := by decide +kernel
theorem dX7_tick_70 : decode cX7_tick 70 = .ok (.iinc 3 1, 3) := by decide +kernel
theorem dX7_tick_73 : decode cX7_tick 73 = .ok (.goto (-15), 3) := by decide +kernel
theorem dX7_tick_76 : decode cX7_tick 76 = .ok (.aload_n 0, 1) := by decide +kernel
theorem dX7_tick_77 : decode cX7_tick 77 = .ok (.getfield 39, 3) := by decide +kernel
theorem dX7_tick_80 : decode cX7_tick 80 = .ok (.getfield 81, 3) := by decide +kernel
theorem dX7_tick_83 : decode cX7_tick 83 = .ok (.getfield 94, 3) := by decide +kernel
theorem dX7_tick_86 : decode cX7_tick 86 = .ok (.iload_n 2, 1) := by decide +kernel
theorem dX7_tick_87 : decode cX7_tick 87 = .ok (.isub, 1) := by decide +kernel
theorem dX7_tick_88 : decode cX7_tick 88 = .ok (.ireturn, 1) := by decide +kernel
theorem dX7_renew_0 : decode cX7_renew 0 = .ok (.aload_n 0, 1) := by decide +kernel
theorem dX7_renew_1 : decode cX7_renew 1 = .ok (.getfield 23, 3) := by decide +kernel
theorem dX7_renew_4 : decode cX7_renew 4 = .ok (.iload_n 1, 1) := by decide +kernel
theorem dX7_renew_5 : decode cX7_renew 5 = .ok (.invokevirtual 100, 3) := by decide +kernel
theorem dX7_renew_8 : decode cX7_renew 8 = .ok (.ifCond .ne 5, 3) := by decide +kernel
theorem dX7_renew_11 : decode cX7_renew 11 = .ok (.iconst (-1), 1) := by decide +kernel
theorem dX7_renew_12 : decode cX7_renew 12 = .ok (.ireturn, 1) := by decide +kernel
theorem dX7_renew_13 : decode cX7_renew 13 = .ok (.aload_n 0, 1) := by decide +kernel
theorem dX7_renew_14 : decode cX7_renew 14 = .ok (.getfield 49, 3) := by decide +kernel
theorem dX7_renew_17 : decode cX7_renew 17 = .ok (.aload_n 0, 1) := by decide +kernel
theorem dX7_renew_18 : decode cX7_renew 18 = .ok (.getfield 39, 3) := by decide +kernel
theorem dX7_renew_21 : decode cX7_renew 21 = .ok (.invokevirtual 90, 3) := by decide +kernel
theorem dX7_renew_24 : decode cX7_renew 24 = .ok (.aload_n 0, 1) := by decide +kernel
theorem dX7_renew_25 : decode cX7_renew 25 = .ok (.getfield 39, 3) := by decide +kernel
theorem dX7_renew_28 : decode cX7_renew 28 = .ok (.getfield 81, 3) := by decide +kernel
theorem dX7_renew_31 : decode cX7_renew 31 = .ok (.iload_n 1, 1) := by decide +kernel
theorem dX7_renew_32 : decode cX7_renew 32 = .ok (.invokevirtual 103, 3) := by decide +kernel
theorem dX7_renew_35 : decode cX7_renew 35 = .ok (.ireturn, 1) := by decide +kernel
theorem dX7_weigh_0 : decode cX7_weigh 0 = .ok (.aload_n 0, 1) := by decide +kernel
theorem dX7_weigh_1 : decode cX7_weigh 1 = .ok (.getfield 23, 3) := by decide +kernel
theorem dX7_weigh_4 : decode cX7_weigh 4 = .ok (.iload_n 1, 1) := by decide +kernel
theorem dX7_weigh_5 : decode cX7_weigh 5 = .ok (.invokevirtual 100, 3) := by decide +kernel
theorem dX7_weigh_8 : decode cX7_weigh 8 = .ok (.ifCond .eq 14, 3) := by decide +kernel
theorem dX7_weigh_11 : decode cX7_weigh 11 = .ok (.iload_n 2, 1) := by decide +kernel
theorem dX7_weigh_12 : decode cX7_weigh 12 = .ok (.iconst 1, 1) := by decide +kernel
theorem dX7_weigh_13 : decode cX7_weigh 13 = .ok (.if_icmp .lt 9, 3) := by decide +kernel
theorem dX7_weigh_16 : decode cX7_weigh 16 = .ok (.iload_n 2, 1) := by decide +kernel
theorem dX7_weigh_17 : decode cX7_weigh 17 = .ok (.bipush 9, 2) := by decide +kernel
theorem dX7_weigh_19 : decode cX7_weigh 19 = .ok (.if_icmp .le 5, 3) := by decide +kernel
theorem dX7_weigh_22 : decode cX7_weigh 22 = .ok (.iconst (-1), 1) := by decide +kernel
theorem dX7_weigh_23 : decode cX7_weigh 23 = .ok (.ireturn, 1) := by decide +kernel
theorem dX7_weigh_24 : decode cX7_weigh 24 = .ok (.aload_n 0, 1) := by decide +kernel
theorem dX7_weigh_25 : decode cX7_weigh 25 = .ok (.getfield 39, 3) := by decide +kernel
theorem dX7_weigh_28 : decode cX7_weigh 28 = .ok (.getfield 81, 3) := by decide +kernel
theorem dX7_weigh_31 : decode cX7_weigh 31 = .ok (.getfield 107, 3) := by decide +kernel
theorem dX7_weigh_34 : decode cX7_weigh 34 = .ok (.iload_n 1, 1) := by decide +kernel
theorem dX7_weigh_35 : decode cX7_weigh 35 = .ok (.iaload, 1) := by decide +kernel
theorem dX7_weigh_36 : decode cX7_weigh 36 = .ok (.istore_n 3, 1) := by decide +kernel
theorem dX7_weigh_37 : decode cX7_weigh 37 = .ok (.iload_n 3, 1) := by decide +kernel
theorem dX7_weigh_38 : decode cX7_weigh 38 = .ok (.iload_n 2, 1) := by decide +kernel
theorem dX7_weigh_39 : decode cX7_weigh 39 = .ok (.if_icmp .ne 6, 3) := by decide +kernel
theorem dX7_weigh_42 : decode cX7_weigh 42 = .ok (.bipush (-2), 2) := by decide +kernel
theorem dX7_weigh_44 : decode cX7_weigh 44 = .ok (.ireturn, 1) := by decide +kernel
theorem dX7_weigh_45 : decode cX7_weigh 45 = .ok (.aload_n 0, 1) := by decide +kernel
theorem dX7_weigh_46 : decode cX7_weigh 46 = .ok (.getfield 49, 3) := by decide +kernel
theorem dX7_weigh_49 : decode cX7_weigh 49 = .ok (.aload_n 0, 1) := by decide +kernel
theorem dX7_weigh_50 : decode cX7_weigh 50 = .ok (.getfield 39, 3) := by decide +kernel
theorem dX7_weigh_53 : decode cX7_weigh 53 = .ok (.invokevirtual 90, 3) := by decide +kernel
theorem dX7_weigh_56 : decode cX7_weigh 56 = .ok (.aload_n 0, 1) := by decide +kernel
theorem dX7_weigh_57 : decode cX7_weigh 57 = .ok (.getfield 39, 3) := by decide +kernel
theorem dX7_weigh_60 : decode cX7_weigh 60 = .ok (.getfield 81, 3) := by decide +kernel
theorem dX7_weigh_63 : decode cX7_weigh 63 = .ok (.getfield 107, 3) := by decide +kernel
theorem dX7_weigh_66 : decode cX7_weigh 66 = .ok (.iload_n 1, 1) := by decide +kernel
theorem dX7_weigh_67 : decode cX7_weigh 67 = .ok (.iload_n 2, 1) := by decide +kernel
theorem dX7_weigh_68 : decode cX7_weigh 68 = .ok (.iastore, 1) := by decide +kernel
theorem dX7_weigh_69 : decode cX7_weigh 69 = .ok (.iload_n 3, 1) := by decide +kernel
theorem dX7_weigh_70 : decode cX7_weigh 70 = .ok (.ireturn, 1) := by decide +kernel
theorem dX7_join_0 : decode cX7_join 0 = .ok (.iload_n 1, 1) := by decide +kernel
theorem dX7_join_1 : decode cX7_join 1 = .ok (.ifCond .lt 9, 3) := by decide +kernel
theorem dX7_join_4 : decode cX7_join 4 = .ok (.iload_n 1, 1) := by decide +kernel
theorem dX7_join_5 : decode cX7_join 5 = .ok (.bipush 99, 2) := by decide +kernel
theorem dX7_join_7 : decode cX7_join 7 = .ok (.if_icmp .le 5, 3) := by decide +kernel
theorem dX7_join_10 : decode cX7_join 10 = .ok (.iconst (-1), 1) := by decide +kernel
theorem dX7_join_11 : decode cX7_join 11 = .ok (.ireturn, 1) := by decide +kernel
theorem dX7_join_12 : decode cX7_join 12 = .ok (.aload_n 0, 1) := by decide +kernel
theorem dX7_join_13 : decode cX7_join 13 = .ok (.getfield 39, 3) := by decide +kernel
theorem dX7_join_16 : decode cX7_join 16 = .ok (.invokevirtual 111, 3) := by decide +kernel
theorem dX7_join_19 : decode cX7_join 19 = .ok (.ifCond .ne 6, 3) := by decide +kernel
theorem dX7_join_22 : decode cX7_join 22 = .ok (.bipush (-3), 2) := by decide +kernel
theorem dX7_join_24 : decode cX7_join 24 = .ok (.ireturn, 1) := by decide +kernel
theorem dX7_join_25 : decode cX7_join 25 = .ok (.aload_n 0, 1) := by decide +kernel
theorem dX7_join_26 : decode cX7_join 26 = .ok (.getfield 49, 3) := by decide +kernel
theorem dX7_join_29 : decode cX7_join 29 = .ok (.aload_n 0, 1) := by decide +kernel
theorem dX7_join_30 : decode cX7_join 30 = .ok (.getfield 39, 3) := by decide +kernel
theorem dX7_join_33 : decode cX7_join 33 = .ok (.invokevirtual 90, 3) := by decide +kernel
theorem dX7_join_36 : decode cX7_join 36 = .ok (.aload_n 0, 1) := by decide +kernel
theorem dX7_join_37 : decode cX7_join 37 = .ok (.getfield 39, 3) := by decide +kernel
theorem dX7_join_40 : decode cX7_join 40 = .ok (.iload_n 1, 1) := by decide +kernel
theorem dX7_join_41 : decode cX7_join 41 = .ok (.invokevirtual 115, 3) := by decide +kernel
theorem dX7_join_44 : decode cX7_join 44 = .ok (.ireturn, 1) := by decide +kernel
theorem dX7_repair_0 : decode cX7_repair 0 = .ok (.aload_n 0, 1) := by decide +kernel
theorem dX7_repair_1 : decode cX7_repair 1 = .ok (.getfield 39, 3) := by decide +kernel
theorem dX7_repair_4 : decode cX7_repair 4 = .ok (.iload_n 1, 1) := by decide +kernel
theorem dX7_repair_5 : decode cX7_repair 5 = .ok (.invokevirtual 118, 3) := by decide +kernel
theorem dX7_repair_8 : decode cX7_repair 8 = .ok (.ifCond .eq 14, 3) := by decide +kernel
theorem dX7_repair_11 : decode cX7_repair 11 = .ok (.aload_n 0, 1) := by decide +kernel
theorem dX7_repair_12 : decode cX7_repair 12 = .ok (.getfield 23, 3) := by decide +kernel
theorem dX7_repair_15 : decode cX7_repair 15 = .ok (.iload_n 2, 1) := by decide +kernel
theorem dX7_repair_16 : decode cX7_repair 16 = .ok (.invokevirtual 100, 3) := by decide +kernel
theorem dX7_repair_19 : decode cX7_repair 19 = .ok (.ifCond .ne 5, 3) := by decide +kernel
theorem dX7_repair_22 : decode cX7_repair 22 = .ok (.iconst (-1), 1) := by decide +kernel
theorem dX7_repair_23 : decode cX7_repair 23 = .ok (.ireturn, 1) := by decide +kernel
theorem dX7_repair_24 : decode cX7_repair 24 = .ok (.aload_n 0, 1) := by decide +kernel
theorem dX7_repair_25 : decode cX7_repair 25 = .ok (.getfield 39, 3) := by decide +kernel
theorem dX7_repair_28 : decode cX7_repair 28 = .ok (.getfield 121, 3) := by decide +kernel
theorem dX7_repair_31 : decode cX7_repair 31 = .ok (.iload_n 1, 1) := by decide +kernel
theorem dX7_repair_32 : decode cX7_repair 32 = .ok (.aaload, 1) := by decide +kernel
theorem dX7_repair_33 : decode cX7_repair 33 = .ok (.astore_n 3, 1) := by decide +kernel
theorem dX7_repair_34 : decode cX7_repair 34 = .ok (.aload_n 3, 1) := by decide +kernel
theorem dX7_repair_35 : decode cX7_repair 35 = .ok (.aload_n 0, 1) := by decide +kernel
theorem dX7_repair_36 : decode cX7_repair 36 = .ok (.getfield 39, 3) := by decide +kernel
theorem dX7_repair_39 : decode cX7_repair 39 = .ok (.getfield 81, 3) := by decide +kernel
theorem dX7_repair_42 : decode cX7_repair 42 = .ok (.getfield 85, 3) := by decide +kernel
theorem dX7_repair_45 : decode cX7_repair 45 = .ok (.invokevirtual 125, 3) := by decide +kernel
theorem dX7_repair_48 : decode cX7_repair 48 = .ok (.ifCond .eq 11, 3) := by decide +kernel
theorem dX7_repair_51 : decode cX7_repair 51 = .ok (.aload_n 3, 1) := by decide +kernel
theorem dX7_repair_52 : decode cX7_repair 52 = .ok (.iload_n 2, 1) := by decide +kernel
theorem dX7_repair_53 : decode cX7_repair 53 = .ok (.invokevirtual 130, 3) := by decide +kernel
theorem dX7_repair_56 : decode cX7_repair 56 = .ok (.ifCond .ne 6, 3) := by decide +kernel
theorem dX7_repair_59 : decode cX7_repair 59 = .ok (.bipush (-2), 2) := by decide +kernel
theorem dX7_repair_61 : decode cX7_repair 61 = .ok (.ireturn, 1) := by decide +kernel
theorem dX7_repair_62 : decode cX7_repair 62 = .ok (.aload_n 0, 1) := by decide +kernel
theorem dX7_repair_63 : decode cX7_repair 63 = .ok (.getfield 49, 3) := by decide +kernel
theorem dX7_repair_66 : decode cX7_repair 66 = .ok (.aload_n 0, 1) := by decide +kernel
theorem dX7_repair_67 : decode cX7_repair 67 = .ok (.getfield 39, 3) := by decide +kernel
theorem dX7_repair_70 : decode cX7_repair 70 = .ok (.invokevirtual 90, 3) := by decide +kernel
theorem dX7_repair_73 : decode cX7_repair 73 = .ok (.aload_n 3, 1) := by decide +kernel
theorem dX7_repair_74 : decode cX7_repair 74 = .ok (.iload_n 2, 1) := by decide +kernel
theorem dX7_repair_75 : decode cX7_repair 75 = .ok (.invokevirtual 133, 3) := by decide +kernel
theorem dX7_repair_78 : decode cX7_repair 78 = .ok (.ireturn, 1) := by decide +kernel
theorem dX7_undo_0 : decode cX7_undo 0 = .ok (.aload_n 0, 1) := by decide +kernel
theorem dX7_undo_1 : decode cX7_undo 1 = .ok (.getfield 49, 3) := by decide +kernel
theorem dX7_undo_4 : decode cX7_undo 4 = .ok (.aload_n 0, 1) := by decide +kernel
theorem dX7_undo_5 : decode cX7_undo 5 = .ok (.getfield 39, 3) := by decide +kernel
theorem dX7_undo_8 : decode cX7_undo 8 = .ok (.invokevirtual 136, 3) := by decide +kernel
theorem dX7_undo_11 : decode cX7_undo 11 = .ok (.ifCond .eq 13, 3) := by decide +kernel
theorem dX7_undo_14 : decode cX7_undo 14 = .ok (.aload_n 0, 1) := by decide +kernel
theorem dX7_undo_15 : decode cX7_undo 15 = .ok (.getfield 49, 3) := by decide +kernel
theorem dX7_undo_18 : decode cX7_undo 18 = .ok (.getfield 140, 3) := by decide +kernel
theorem dX7_undo_21 : decode cX7_undo 21 = .ok (.goto 5, 3) := by decide +kernel
theorem dX7_undo_24 : decode cX7_undo 24 = .ok (.bipush (-2), 2) := by decide +kernel
theorem dX7_undo_26 : decode cX7_undo 26 = .ok (.ireturn, 1) := by decide +kernel
theorem dX7_file_0 : decode cX7_file 0 = .ok (.aload_n 0, 1) := by decide +kernel
theorem dX7_file_1 : decode cX7_file 1 = .ok (.getfield 23, 3) := by decide +kernel
theorem dX7_file_4 : decode cX7_file 4 = .ok (.iload_n 1, 1) := by decide +kernel
theorem dX7_file_5 : decode cX7_file 5 = .ok (.invokevirtual 100, 3) := by decide +kernel
theorem dX7_file_8 : decode cX7_file 8 = .ok (.ifCond .ne 5, 3) := by decide +kernel
theorem dX7_file_11 : decode cX7_file 11 = .ok (.iconst (-1), 1) := by decide +kernel
theorem dX7_file_12 : decode cX7_file 12 = .ok (.ireturn, 1) := by decide +kernel
theorem dX7_file_13 : decode cX7_file 13 = .ok (.aload_n 0, 1) := by decide +kernel
theorem dX7_file_14 : decode cX7_file 14 = .ok (.getfield 39, 3) := by decide +kernel
theorem dX7_file_17 : decode cX7_file 17 = .ok (.getfield 81, 3) := by decide +kernel
theorem dX7_file_20 : decode cX7_file 20 = .ok (.astore_n 3, 1) := by decide +kernel
theorem dX7_file_21 : decode cX7_file 21 = .ok (.iload_n 2, 1) := by decide +kernel
theorem dX7_file_22 : decode cX7_file 22 = .ok (.tableswitch 119 0 7 #[46, 56, 66, 73, 80, 87, 98, 105], 46) := by decide +kernel
theorem dX7_file_68 : decode cX7_file 68 = .ok (.aload_n 0, 1) := by decide +kernel
theorem dX7_file_69 : decode cX7_file 69 = .ok (.getfield 23, 3) := by decide +kernel
theorem dX7_file_72 : decode cX7_file 72 = .ok (.getfield 143, 3) := by decide +kernel
theorem dX7_file_75 : decode cX7_file 75 = .ok (.iload_n 1, 1) := by decide +kernel
theorem dX7_file_76 : decode cX7_file 76 = .ok (.iaload, 1) := by decide +kernel
theorem dX7_file_77 : decode cX7_file 77 = .ok (.ireturn, 1) := by decide +kernel
theorem dX7_file_78 : decode cX7_file 78 = .ok (.aload_n 0, 1) := by decide +kernel
theorem dX7_file_79 : decode cX7_file 79 = .ok (.getfield 23, 3) := by decide +kernel
theorem dX7_file_82 : decode cX7_file 82 = .ok (.getfield 146, 3) := by decide +kernel
theorem dX7_file_85 : decode cX7_file 85 = .ok (.iload_n 1, 1) := by decide +kernel
theorem dX7_file_86 : decode cX7_file 86 = .ok (.iaload, 1) := by decide +kernel
theorem dX7_file_87 : decode cX7_file 87 = .ok (.ireturn, 1) := by decide +kernel
theorem dX7_file_88 : decode cX7_file 88 = .ok (.aload_n 3, 1) := by decide +kernel
theorem dX7_file_89 : decode cX7_file 89 = .ok (.getfield 107, 3) := by decide +kernel
theorem dX7_file_92 : decode cX7_file 92 = .ok (.iload_n 1, 1) := by decide +kernel
theorem dX7_file_93 : decode cX7_file 93 = .ok (.iaload, 1) := by decide +kernel
theorem dX7_file_94 : decode cX7_file 94 = .ok (.ireturn, 1) := by decide +kernel
theorem dX7_file_95 : decode cX7_file 95 = .ok (.aload_n 3, 1) := by decide +kernel
theorem dX7_file_96 : decode cX7_file 96 = .ok (.getfield 149, 3) := by decide +kernel
theorem dX7_file_99 : decode cX7_file 99 = .ok (.iload_n 1, 1) := by decide +kernel
theorem dX7_file_100 : decode cX7_file 100 = .ok (.iaload, 1) := by decide +kernel
theorem dX7_file_101 : decode cX7_file 101 = .ok (.ireturn, 1) := by decide +kernel
theorem dX7_file_102 : decode cX7_file 102 = .ok (.aload_n 3, 1) := by decide +kernel
theorem dX7_file_103 : decode cX7_file 103 = .ok (.getfield 152, 3) := by decide +kernel
theorem dX7_file_106 : decode cX7_file 106 = .ok (.iload_n 1, 1) := by decide +kernel
theorem dX7_file_107 : decode cX7_file 107 = .ok (.iaload, 1) := by decide +kernel
theorem dX7_file_108 : decode cX7_file 108 = .ok (.ireturn, 1) := by decide +kernel
theorem dX7_file_109 : decode cX7_file 109 = .ok (.aload_n 3, 1) := by decide +kernel
theorem dX7_file_110 : decode cX7_file 110 = .ok (.getfield 155, 3) := by decide +kernel
theorem dX7_file_113 : decode cX7_file 113 = .ok (.iload_n 1, 1) := by decide +kernel
theorem dX7_file_114 : decode cX7_file 114 = .ok (.iaload, 1) := by decide +kernel
theorem dX7_file_115 : decode cX7_file 115 = .ok (.sipush 1000, 3) := by decide +kernel
theorem dX7_file_118 : decode cX7_file 118 = .ok (.iadd, 1) := by decide +kernel
theorem dX7_file_119 : decode cX7_file 119 = .ok (.ireturn, 1) := by decide +kernel
theorem dX7_file_120 : decode cX7_file 120 = .ok (.aload_n 3, 1) := by decide +kernel
theorem dX7_file_121 : decode cX7_file 121 = .ok (.getfield 158, 3) := by decide +kernel
theorem dX7_file_124 : decode cX7_file 124 = .ok (.iload_n 1, 1) := by decide +kernel
theorem dX7_file_125 : decode cX7_file 125 = .ok (.iaload, 1) := by decide +kernel
theorem dX7_file_126 : decode cX7_file 126 = .ok (.ireturn, 1) := by decide +kernel
theorem dX7_file_127 : decode cX7_file 127 = .ok (.aload_n 3, 1) := by decide +kernel
theorem dX7_file_128 : decode cX7_file 128 = .ok (.getfield 158, 3) := by decide +kernel
theorem dX7_file_131 : decode cX7_file 131 = .ok (.iload_n 1, 1) := by decide +kernel
theorem dX7_file_132 : decode cX7_file 132 = .ok (.iaload, 1) := by decide +kernel
theorem dX7_file_133 : decode cX7_file 133 = .ok (.aload_n 3, 1) := by decide +kernel
theorem dX7_file_134 : decode cX7_file 134 = .ok (.getfield 94, 3) := by decide +kernel
theorem dX7_file_137 : decode cX7_file 137 = .ok (.invokestatic 161, 3) := by decide +kernel
theorem dX7_file_140 : decode cX7_file 140 = .ok (.ireturn, 1) := by decide +kernel
theorem dX7_file_141 : decode cX7_file 141 = .ok (.iconst (-1), 1) := by decide +kernel
theorem dX7_file_142 : decode cX7_file 142 = .ok (.ireturn, 1) := by decide +kernel
theorem dX7_sent_0 : decode cX7_sent 0 = .ok (.iload_n 1, 1) := by decide +kernel
theorem dX7_sent_1 : decode cX7_sent 1 = .ok (.ifCond .lt 18, 3) := by decide +kernel
theorem dX7_sent_4 : decode cX7_sent 4 = .ok (.iload_n 1, 1) := by decide +kernel
theorem dX7_sent_5 : decode cX7_sent 5 = .ok (.bipush 10, 2) := by decide +kernel
theorem dX7_sent_7 : decode cX7_sent 7 = .ok (.if_icmp .ge 12, 3) := by decide +kernel
theorem dX7_sent_10 : decode cX7_sent 10 = .ok (.iload_n 2, 1) := by decide +kernel
theorem dX7_sent_11 : decode cX7_sent 11 = .ok (.ifCond .lt 8, 3) := by decide +kernel
theorem dX7_sent_14 : decode cX7_sent 14 = .ok (.iload_n 2, 1) := by decide +kernel
theorem dX7_sent_15 : decode cX7_sent 15 = .ok (.iconst 3, 1) := by decide +kernel
theorem dX7_sent_16 : decode cX7_sent 16 = .ok (.if_icmp .le 5, 3) := by decide +kernel
theorem dX7_sent_19 : decode cX7_sent 19 = .ok (.iconst (-1), 1) := by decide +kernel
theorem dX7_sent_20 : decode cX7_sent 20 = .ok (.ireturn, 1) := by decide +kernel
theorem dX7_sent_21 : decode cX7_sent 21 = .ok (.aload_n 0, 1) := by decide +kernel
theorem dX7_sent_22 : decode cX7_sent 22 = .ok (.getfield 39, 3) := by decide +kernel
theorem dX7_sent_25 : decode cX7_sent 25 = .ok (.getfield 81, 3) := by decide +kernel
theorem dX7_sent_28 : decode cX7_sent 28 = .ok (.getfield 85, 3) := by decide +kernel
theorem dX7_sent_31 : decode cX7_sent 31 = .ok (.iconst 1, 1) := by decide +kernel
theorem dX7_sent_32 : decode cX7_sent 32 = .ok (.isub, 1) := by decide +kernel
theorem dX7_sent_33 : decode cX7_sent 33 = .ok (.iload_n 1, 1) := by decide +kernel
theorem dX7_sent_34 : decode cX7_sent 34 = .ok (.isub, 1) := by decide +kernel
theorem dX7_sent_35 : decode cX7_sent 35 = .ok (.istore_n 3, 1) := by decide +kernel
theorem dX7_sent_36 : decode cX7_sent 36 = .ok (.iload_n 3, 1) := by decide +kernel
theorem dX7_sent_37 : decode cX7_sent 37 = .ok (.ifCond .ge 6, 3) := by decide +kernel
theorem dX7_sent_40 : decode cX7_sent 40 = .ok (.bipush (-4), 2) := by decide +kernel
theorem dX7_sent_42 : decode cX7_sent 42 = .ok (.ireturn, 1) := by decide +kernel
theorem dX7_sent_43 : decode cX7_sent 43 = .ok (.iload_n 2, 1) := by decide +kernel
theorem dX7_sent_44 : decode cX7_sent 44 = .ok (.tableswitch 64 0 2 #[28, 40, 52], 28) := by decide +kernel
theorem dX7_sent_72 : decode cX7_sent 72 = .ok (.aload_n 0, 1) := by decide +kernel
theorem dX7_sent_73 : decode cX7_sent 73 = .ok (.getfield 39, 3) := by decide +kernel
theorem dX7_sent_76 : decode cX7_sent 76 = .ok (.getfield 81, 3) := by decide +kernel
theorem dX7_sent_79 : decode cX7_sent 79 = .ok (.iload_n 3, 1) := by decide +kernel
theorem dX7_sent_80 : decode cX7_sent 80 = .ok (.invokevirtual 165, 3) := by decide +kernel
theorem dX7_sent_83 : decode cX7_sent 83 = .ok (.ireturn, 1) := by decide +kernel
theorem dX7_sent_84 : decode cX7_sent 84 = .ok (.aload_n 0, 1) := by decide +kernel
theorem dX7_sent_85 : decode cX7_sent 85 = .ok (.getfield 39, 3) := by decide +kernel
theorem dX7_sent_88 : decode cX7_sent 88 = .ok (.getfield 81, 3) := by decide +kernel
theorem dX7_sent_91 : decode cX7_sent 91 = .ok (.iload_n 3, 1) := by decide +kernel
theorem dX7_sent_92 : decode cX7_sent 92 = .ok (.invokevirtual 168, 3) := by decide +kernel
theorem dX7_sent_95 : decode cX7_sent 95 = .ok (.ireturn, 1) := by decide +kernel
theorem dX7_sent_96 : decode cX7_sent 96 = .ok (.aload_n 0, 1) := by decide +kernel
theorem dX7_sent_97 : decode cX7_sent 97 = .ok (.getfield 39, 3) := by decide +kernel
theorem dX7_sent_100 : decode cX7_sent 100 = .ok (.getfield 81, 3) := by decide +kernel
theorem dX7_sent_103 : decode cX7_sent 103 = .ok (.iload_n 3, 1) := by decide +kernel
theorem dX7_sent_104 : decode cX7_sent 104 = .ok (.invokevirtual 171, 3) := by decide +kernel
theorem dX7_sent_107 : decode cX7_sent 107 = .ok (.ireturn, 1) := by decide +kernel
theorem dX7_sent_108 : decode cX7_sent 108 = .ok (.iload_n 3, 1) := by decide +kernel
theorem dX7_sent_109 : decode cX7_sent 109 = .ok (.ireturn, 1) := by decide +kernel
theorem dX7_listener_0 : decode cX7_listener 0 = .ok (.aload_n 0, 1) := by decide +kernel
theorem dX7_listener_1 : decode cX7_listener 1 = .ok (.getfield 39, 3) := by decide +kernel
theorem dX7_listener_4 : decode cX7_listener 4 = .ok (.iload_n 1, 1) := by decide +kernel
theorem dX7_listener_5 : decode cX7_listener 5 = .ok (.invokevirtual 118, 3) := by decide +kernel
theorem dX7_listener_8 : decode cX7_listener 8 = .ok (.ifCond .ne 5, 3) := by decide +kernel
theorem dX7_listener_11 : decode cX7_listener 11 = .ok (.iconst (-1), 1) := by decide +kernel
theorem dX7_listener_12 : decode cX7_listener 12 = .ok (.ireturn, 1) := by decide +kernel
theorem dX7_listener_13 : decode cX7_listener 13 = .ok (.aload_n 0, 1) := by decide +kernel
theorem dX7_listener_14 : decode cX7_listener 14 = .ok (.getfield 39, 3) := by decide +kernel
theorem dX7_listener_17 : decode cX7_listener 17 = .ok (.getfield 121, 3) := by decide +kernel
theorem dX7_listener_20 : decode cX7_listener 20 = .ok (.iload_n 1, 1) := by decide +kernel
theorem dX7_listener_21 : decode cX7_listener 21 = .ok (.aaload, 1) := by decide +kernel
theorem dX7_listener_22 : decode cX7_listener 22 = .ok (.astore_n 3, 1) := by decide +kernel
theorem dX7_listener_23 : decode cX7_listener 23 = .ok (.iload_n 2, 1) := by decide +kernel
theorem dX7_listener_24 : decode cX7_listener 24 = .ok (.tableswitch 88 0 5 #[40, 45, 50, 73, 78, 83], 40) := by decide +kernel
theorem dX7_listener_64 : decode cX7_listener 64 = .ok (.aload_n 3, 1) := by decide +kernel
theorem dX7_listener_65 : decode cX7_listener 65 = .ok (.getfield 174, 3) := by decide +kernel
theorem dX7_listener_68 : decode cX7_listener 68 = .ok (.ireturn, 1) := by decide +kernel
theorem dX7_listener_69 : decode cX7_listener 69 = .ok (.aload_n 3, 1) := by decide +kernel
theorem dX7_listener_70 : decode cX7_listener 70 = .ok (.getfield 177, 3) := by decide +kernel
theorem dX7_listener_73 : decode cX7_listener 73 = .ok (.ireturn, 1) := by decide +kernel
theorem dX7_listener_74 : decode cX7_listener 74 = .ok (.aload_n 3, 1) := by decide +kernel
theorem dX7_listener_75 : decode cX7_listener 75 = .ok (.aload_n 0, 1) := by decide +kernel
theorem dX7_listener_76 : decode cX7_listener 76 = .ok (.getfield 39, 3) := by decide +kernel
theorem dX7_listener_79 : decode cX7_listener 79 = .ok (.getfield 81, 3) := by decide +kernel
theorem dX7_listener_82 : decode cX7_listener 82 = .ok (.getfield 85, 3) := by decide +kernel
theorem dX7_listener_85 : decode cX7_listener 85 = .ok (.invokevirtual 125, 3) := by decide +kernel
theorem dX7_listener_88 : decode cX7_listener 88 = .ok (.ifCond .eq 7, 3) := by decide +kernel
theorem dX7_listener_91 : decode cX7_listener 91 = .ok (.iconst 1, 1) := by decide +kernel
theorem dX7_listener_92 : decode cX7_listener 92 = .ok (.goto 4, 3) := by decide +kernel
theorem dX7_listener_95 : decode cX7_listener 95 = .ok (.iconst 0, 1) := by decide +kernel
theorem dX7_listener_96 : decode cX7_listener 96 = .ok (.ireturn, 1) := by decide +kernel
theorem dX7_listener_97 : decode cX7_listener 97 = .ok (.aload_n 3, 1) := by decide +kernel
theorem dX7_listener_98 : decode cX7_listener 98 = .ok (.getfield 180, 3) := by decide +kernel
theorem dX7_listener_101 : decode cX7_listener 101 = .ok (.ireturn, 1) := by decide +kernel
theorem dX7_listener_102 : decode cX7_listener 102 = .ok (.aload_n 3, 1) := by decide +kernel
theorem dX7_listener_103 : decode cX7_listener 103 = .ok (.invokevirtual 183, 3) := by decide +kernel
theorem dX7_listener_106 : decode cX7_listener 106 = .ok (.ireturn, 1) := by decide +kernel
theorem dX7_listener_107 : decode cX7_listener 107 = .ok (.aload_n 3, 1) := by decide +kernel
theorem dX7_listener_108 : decode cX7_listener 108 = .ok (.getfield 187, 3) := by decide +kernel
theorem dX7_listener_111 : decode cX7_listener 111 = .ok (.ireturn, 1) := by decide +kernel
theorem dX7_listener_112 : decode cX7_listener 112 = .ok (.iconst (-1), 1) := by decide +kernel
theorem dX7_listener_113 : decode cX7_listener 113 = .ok (.ireturn, 1) := by decide +kernel
theorem dX7_holds_0 : decode cX7_holds 0 = .ok (.aload_n 0, 1) := by decide +kernel
theorem dX7_holds_1 : decode cX7_holds 1 = .ok (.getfield 39, 3) := by decide +kernel
theorem dX7_holds_4 : decode cX7_holds 4 = .ok (.iload_n 1, 1) := by decide +kernel
theorem dX7_holds_5 : decode cX7_holds 5 = .ok (.invokevirtual 118, 3) := by decide +kernel
theorem dX7_holds_8 : decode cX7_holds 8 = .ok (.ifCond .eq 14, 3) := by decide +kernel
theorem dX7_holds_11 : decode cX7_holds 11 = .ok (.aload_n 0, 1) := by decide +kernel
theorem dX7_holds_12 : decode cX7_holds 12 = .ok (.getfield 23, 3) := by decide +kernel
theorem dX7_holds_15 : decode cX7_holds 15 = .ok (.iload_n 2, 1) := by decide +kernel
theorem dX7_holds_16 : decode cX7_holds 16 = .ok (.invokevirtual 100, 3) := by decide +kernel
theorem dX7_holds_19 : decode cX7_holds 19 = .ok (.ifCond .ne 5, 3) := by decide +kernel
theorem dX7_holds_22 : decode cX7_holds 22 = .ok (.iconst (-1), 1) := by decide +kernel
theorem dX7_holds_23 : decode cX7_holds 23 = .ok (.ireturn, 1) := by decide +kernel
theorem dX7_holds_24 : decode cX7_holds 24 = .ok (.aload_n 0, 1) := by decide +kernel
theorem dX7_holds_25 : decode cX7_holds 25 = .ok (.getfield 39, 3) := by decide +kernel
theorem dX7_holds_28 : decode cX7_holds 28 = .ok (.getfield 121, 3) := by decide +kernel
theorem dX7_holds_31 : decode cX7_holds 31 = .ok (.iload_n 1, 1) := by decide +kernel
theorem dX7_holds_32 : decode cX7_holds 32 = .ok (.aaload, 1) := by decide +kernel
theorem dX7_holds_33 : decode cX7_holds 33 = .ok (.astore 4, 2) := by decide +kernel
theorem dX7_holds_35 : decode cX7_holds 35 = .ok (.iload_n 3, 1) := by decide +kernel
theorem dX7_holds_36 : decode cX7_holds 36 = .ok (.tableswitch 51 0 2 #[28, 36, 44], 28) := by decide +kernel
theorem dX7_holds_64 : decode cX7_holds 64 = .ok (.aload 4, 2) := by decide +kernel
theorem dX7_holds_66 : decode cX7_holds 66 = .ok (.getfield 190, 3) := by decide +kernel
theorem dX7_holds_69 : decode cX7_holds 69 = .ok (.iload_n 2, 1) := by decide +kernel
theorem dX7_holds_70 : decode cX7_holds 70 = .ok (.iaload, 1) := by decide +kernel
theorem dX7_holds_71 : decode cX7_holds 71 = .ok (.ireturn, 1) := by decide +kernel
theorem dX7_holds_72 : decode cX7_holds 72 = .ok (.aload 4, 2) := by decide +kernel
theorem dX7_holds_74 : decode cX7_holds 74 = .ok (.getfield 193, 3) := by decide +kernel
theorem dX7_holds_77 : decode cX7_holds 77 = .ok (.iload_n 2, 1) := by decide +kernel
theorem dX7_holds_78 : decode cX7_holds 78 = .ok (.iaload, 1) := by decide +kernel
theorem dX7_holds_79 : decode cX7_holds 79 = .ok (.ireturn, 1) := by decide +kernel
theorem dX7_holds_80 : decode cX7_holds 80 = .ok (.aload 4, 2) := by decide +kernel
theorem dX7_holds_82 : decode cX7_holds 82 = .ok (.iload_n 2, 1) := by decide +kernel
theorem dX7_holds_83 : decode cX7_holds 83 = .ok (.invokevirtual 130, 3) := by decide +kernel
theorem dX7_holds_86 : decode cX7_holds 86 = .ok (.ireturn, 1) := by decide +kernel
theorem dX7_holds_87 : decode cX7_holds 87 = .ok (.iconst (-1), 1) := by decide +kernel
theorem dX7_holds_88 : decode cX7_holds 88 = .ok (.ireturn, 1) := by decide +kernel
theorem dX7_waits_0 : decode cX7_waits 0 = .ok (.aload_n 0, 1) := by decide +kernel
theorem dX7_waits_1 : decode cX7_waits 1 = .ok (.getfield 23, 3) := by decide +kernel
theorem dX7_waits_4 : decode cX7_waits 4 = .ok (.iload_n 1, 1) := by decide +kernel
theorem dX7_waits_5 : decode cX7_waits 5 = .ok (.invokevirtual 100, 3) := by decide +kernel
theorem dX7_waits_8 : decode cX7_waits 8 = .ok (.ifCond .eq 13, 3) := by decide +kernel
theorem dX7_waits_11 : decode cX7_waits 11 = .ok (.iload_n 2, 1) := by decide +kernel
theorem dX7_waits_12 : decode cX7_waits 12 = .ok (.ifCond .lt 9, 3) := by decide +kernel
theorem dX7_waits_15 : decode cX7_waits 15 = .ok (.iload_n 2, 1) := by decide +kernel
theorem dX7_waits_16 : decode cX7_waits 16 = .ok (.bipush 99, 2) := by decide +kernel
theorem dX7_waits_18 : decode cX7_waits 18 = .ok (.if_icmp .le 5, 3) := by decide +kernel
theorem dX7_waits_21 : decode cX7_waits 21 = .ok (.iconst (-1), 1) := by decide +kernel
theorem dX7_waits_22 : decode cX7_waits 22 = .ok (.ireturn, 1) := by decide +kernel
theorem dX7_waits_23 : decode cX7_waits 23 = .ok (.aload_n 0, 1) := by decide +kernel
theorem dX7_waits_24 : decode cX7_waits 24 = .ok (.getfield 56, 3) := by decide +kernel
theorem dX7_waits_27 : decode cX7_waits 27 = .ok (.aload_n 0, 1) := by decide +kernel
theorem dX7_waits_28 : decode cX7_waits 28 = .ok (.getfield 39, 3) := by decide +kernel
theorem dX7_waits_31 : decode cX7_waits 31 = .ok (.getfield 81, 3) := by decide +kernel
theorem dX7_waits_34 : decode cX7_waits 34 = .ok (.iload_n 1, 1) := by decide +kernel
theorem dX7_waits_35 : decode cX7_waits 35 = .ok (.iload_n 2, 1) := by decide +kernel
theorem dX7_waits_36 : decode cX7_waits 36 = .ok (.sipush 400, 3) := by decide +kernel
theorem dX7_waits_39 : decode cX7_waits 39 = .ok (.iadd, 1) := by decide +kernel
theorem dX7_waits_40 : decode cX7_waits 40 = .ok (.invokevirtual 196, 3) := by decide +kernel
theorem dX7_waits_43 : decode cX7_waits 43 = .ok (.aload_n 0, 1) := by decide +kernel
theorem dX7_waits_44 : decode cX7_waits 44 = .ok (.getfield 56, 3) := by decide +kernel
theorem dX7_waits_47 : decode cX7_waits 47 = .ok (.iload_n 2, 1) := by decide +kernel
theorem dX7_waits_48 : decode cX7_waits 48 = .ok (.invokevirtual 200, 3) := by decide +kernel
theorem dX7_waits_51 : decode cX7_waits 51 = .ok (.ireturn, 1) := by decide +kernel
theorem dX7_mean_0 : decode cX7_mean 0 = .ok (.aload_n 0, 1) := by decide +kernel
theorem dX7_mean_1 : decode cX7_mean 1 = .ok (.getfield 23, 3) := by decide +kernel
theorem dX7_mean_4 : decode cX7_mean 4 = .ok (.iload_n 1, 1) := by decide +kernel
theorem dX7_mean_5 : decode cX7_mean 5 = .ok (.invokevirtual 100, 3) := by decide +kernel
theorem dX7_mean_8 : decode cX7_mean 8 = .ok (.ifCond .eq 23, 3) := by decide +kernel
theorem dX7_mean_11 : decode cX7_mean 11 = .ok (.iload_n 2, 1) := by decide +kernel
theorem dX7_mean_12 : decode cX7_mean 12 = .ok (.iconst 1, 1) := by decide +kernel
theorem dX7_mean_13 : decode cX7_mean 13 = .ok (.if_icmp .lt 18, 3) := by decide +kernel
theorem dX7_mean_16 : decode cX7_mean 16 = .ok (.iload_n 2, 1) := by decide +kernel
theorem dX7_mean_17 : decode cX7_mean 17 = .ok (.bipush 40, 2) := by decide +kernel
theorem dX7_mean_19 : decode cX7_mean 19 = .ok (.if_icmp .gt 12, 3) := by decide +kernel
theorem dX7_mean_22 : decode cX7_mean 22 = .ok (.iload_n 3, 1) := by decide +kernel
theorem dX7_mean_23 : decode cX7_mean 23 = .ok (.ifCond .lt 8, 3) := by decide +kernel
theorem dX7_mean_26 : decode cX7_mean 26 = .ok (.iload_n 3, 1) := by decide +kernel
theorem dX7_mean_27 : decode cX7_mean 27 = .ok (.iconst 2, 1) := by decide +kernel
theorem dX7_mean_28 : decode cX7_mean 28 = .ok (.if_icmp .le 5, 3) := by decide +kernel
theorem dX7_mean_31 : decode cX7_mean 31 = .ok (.iconst (-1), 1) := by decide +kernel
theorem dX7_mean_32 : decode cX7_mean 32 = .ok (.ireturn, 1) := by decide +kernel
theorem dX7_mean_33 : decode cX7_mean 33 = .ok (.aload_n 0, 1) := by decide +kernel
theorem dX7_mean_34 : decode cX7_mean 34 = .ok (.getfield 56, 3) := by decide +kernel
theorem dX7_mean_37 : decode cX7_mean 37 = .ok (.aload_n 0, 1) := by decide +kernel
theorem dX7_mean_38 : decode cX7_mean 38 = .ok (.getfield 39, 3) := by decide +kernel
theorem dX7_mean_41 : decode cX7_mean 41 = .ok (.getfield 81, 3) := by decide +kernel
theorem dX7_mean_44 : decode cX7_mean 44 = .ok (.iload_n 1, 1) := by decide +kernel
theorem dX7_mean_45 : decode cX7_mean 45 = .ok (.iload_n 2, 1) := by decide +kernel
theorem dX7_mean_46 : decode cX7_mean 46 = .ok (.iconst 1, 1) := by decide +kernel
theorem dX7_mean_47 : decode cX7_mean 47 = .ok (.isub, 1) := by decide +kernel
theorem dX7_mean_48 : decode cX7_mean 48 = .ok (.sipush 400, 3) := by decide +kernel
theorem dX7_mean_51 : decode cX7_mean 51 = .ok (.iadd, 1) := by decide +kernel
theorem dX7_mean_52 : decode cX7_mean 52 = .ok (.invokevirtual 196, 3) := by decide +kernel
theorem dX7_mean_55 : decode cX7_mean 55 = .ok (.iconst 0, 1) := by decide +kernel
theorem dX7_mean_56 : decode cX7_mean 56 = .ok (.istore 4, 2) := by decide +kernel
theorem dX7_mean_58 : decode cX7_mean 58 = .ok (.iconst 0, 1) := by decide +kernel
theorem dX7_mean_59 : decode cX7_mean 59 = .ok (.istore 5, 2) := by decide +kernel
theorem dX7_mean_61 : decode cX7_mean 61 = .ok (.iconst 0, 1) := by decide +kernel
theorem dX7_mean_62 : decode cX7_mean 62 = .ok (.istore 6, 2) := by decide +kernel
theorem dX7_mean_64 : decode cX7_mean 64 = .ok (.iload 6, 2) := by decide +kernel
theorem dX7_mean_66 : decode cX7_mean 66 = .ok (.iload_n 2, 1) := by decide +kernel
theorem dX7_mean_67 : decode cX7_mean 67 = .ok (.if_icmp .ge 46, 3) := by decide +kernel
theorem dX7_mean_70 : decode cX7_mean 70 = .ok (.aload_n 0, 1) := by decide +kernel
theorem dX7_mean_71 : decode cX7_mean 71 = .ok (.getfield 56, 3) := by decide +kernel
theorem dX7_mean_74 : decode cX7_mean 74 = .ok (.iload 6, 2) := by decide +kernel
theorem dX7_mean_76 : decode cX7_mean 76 = .ok (.invokevirtual 200, 3) := by decide +kernel
theorem dX7_mean_79 : decode cX7_mean 79 = .ok (.istore 7, 2) := by decide +kernel
theorem dX7_mean_81 : decode cX7_mean 81 = .ok (.iload 7, 2) := by decide +kernel
theorem dX7_mean_83 : decode cX7_mean 83 = .ok (.bipush (-4), 2) := by decide +kernel
theorem dX7_mean_85 : decode cX7_mean 85 = .ok (.if_icmp .ne 6, 3) := by decide +kernel
theorem dX7_mean_88 : decode cX7_mean 88 = .ok (.bipush (-4), 2) := by decide +kernel
theorem dX7_mean_90 : decode cX7_mean 90 = .ok (.ireturn, 1) := by decide +kernel
theorem dX7_mean_91 : decode cX7_mean 91 = .ok (.iload 4, 2) := by decide +kernel
theorem dX7_mean_93 : decode cX7_mean 93 = .ok (.iload 7, 2) := by decide +kernel
theorem dX7_mean_95 : decode cX7_mean 95 = .ok (.iadd, 1) := by decide +kernel
theorem dX7_mean_96 : decode cX7_mean 96 = .ok (.istore 4, 2) := by decide +kernel
theorem dX7_mean_98 : decode cX7_mean 98 = .ok (.iload 5, 2) := by decide +kernel
theorem dX7_mean_100 : decode cX7_mean 100 = .ok (.iload 7, 2) := by decide +kernel
theorem dX7_mean_102 : decode cX7_mean 102 = .ok (.invokestatic 203, 3) := by decide +kernel
theorem dX7_mean_105 : decode cX7_mean 105 = .ok (.istore 5, 2) := by decide +kernel
theorem dX7_mean_107 : decode cX7_mean 107 = .ok (.iinc 6 1, 3) := by decide +kernel
theorem dX7_mean_110 : decode cX7_mean 110 = .ok (.goto (-46), 3) := by decide +kernel
theorem dX7_mean_113 : decode cX7_mean 113 = .ok (.iload 4, 2) := by decide +kernel
theorem dX7_mean_115 : decode cX7_mean 115 = .ok (.i2f, 1) := by decide +kernel
theorem dX7_mean_116 : decode cX7_mean 116 = .ok (.iload_n 2, 1) := by decide +kernel
theorem dX7_mean_117 : decode cX7_mean 117 = .ok (.i2f, 1) := by decide +kernel
theorem dX7_mean_118 : decode cX7_mean 118 = .ok (.fdiv, 1) := by decide +kernel
theorem dX7_mean_119 : decode cX7_mean 119 = .ok (.fstore 6, 2) := by decide +kernel
theorem dX7_mean_121 : decode cX7_mean 121 = .ok (.iload_n 3, 1) := by decide +kernel
theorem dX7_mean_122 : decode cX7_mean 122 = .ok (.lookupswitch 36 #[(0, 26), (1, 32)], 26) := by decide +kernel
theorem dX7_mean_148 : decode cX7_mean 148 = .ok (.fload 6, 2) := by decide +kernel
theorem dX7_mean_150 : decode cX7_mean 150 = .ok (.invokestatic 208, 3) := by decide +kernel
theorem dX7_mean_153 : decode cX7_mean 153 = .ok (.ireturn, 1) := by decide +kernel
theorem dX7_mean_154 : decode cX7_mean 154 = .ok (.fload 6, 2) := by decide +kernel
theorem dX7_mean_156 : decode cX7_mean 156 = .ok (.f2i, 1) := by decide +kernel
theorem dX7_mean_157 : decode cX7_mean 157 = .ok (.ireturn, 1) := by decide +kernel
theorem dX7_mean_158 : decode cX7_mean 158 = .ok (.iload 5, 2) := by decide +kernel
theorem dX7_mean_160 : decode cX7_mean 160 = .ok (.ireturn, 1) := by decide +kernel
theorem dX7_count_0 : decode cX7_count 0 = .ok (.iload_n 1, 1) := by decide +kernel
theorem dX7_count_1 : decode cX7_count 1 = .ok (.tableswitch 147 0 9 #[55, 63, 74, 82, 90, 98, 109, 120, 131, 139], 55) := by decide +kernel
theorem dX7_count_56 : decode cX7_count 56 = .ok (.aload_n 0, 1) := by decide +kernel
theorem dX7_count_57 : decode cX7_count 57 = .ok (.getfield 23, 3) := by decide +kernel
theorem dX7_count_60 : decode cX7_count 60 = .ok (.getfield 72, 3) := by decide +kernel
theorem dX7_count_63 : decode cX7_count 63 = .ok (.ireturn, 1) := by decide +kernel
theorem dX7_count_64 : decode cX7_count 64 = .ok (.aload_n 0, 1) := by decide +kernel
theorem dX7_count_65 : decode cX7_count 65 = .ok (.getfield 39, 3) := by decide +kernel
theorem dX7_count_68 : decode cX7_count 68 = .ok (.getfield 81, 3) := by decide +kernel
theorem dX7_count_71 : decode cX7_count 71 = .ok (.getfield 85, 3) := by decide +kernel
theorem dX7_count_74 : decode cX7_count 74 = .ok (.ireturn, 1) := by decide +kernel
theorem dX7_count_75 : decode cX7_count 75 = .ok (.aload_n 0, 1) := by decide +kernel
theorem dX7_count_76 : decode cX7_count 76 = .ok (.getfield 23, 3) := by decide +kernel
theorem dX7_count_79 : decode cX7_count 79 = .ok (.getfield 212, 3) := by decide +kernel
theorem dX7_count_82 : decode cX7_count 82 = .ok (.ireturn, 1) := by decide +kernel
theorem dX7_count_83 : decode cX7_count 83 = .ok (.aload_n 0, 1) := by decide +kernel
theorem dX7_count_84 : decode cX7_count 84 = .ok (.getfield 23, 3) := by decide +kernel
theorem dX7_count_87 : decode cX7_count 87 = .ok (.getfield 215, 3) := by decide +kernel
theorem dX7_count_90 : decode cX7_count 90 = .ok (.ireturn, 1) := by decide +kernel
theorem dX7_count_91 : decode cX7_count 91 = .ok (.aload_n 0, 1) := by decide +kernel
theorem dX7_count_92 : decode cX7_count 92 = .ok (.getfield 39, 3) := by decide +kernel
theorem dX7_count_95 : decode cX7_count 95 = .ok (.getfield 218, 3) := by decide +kernel
theorem dX7_count_98 : decode cX7_count 98 = .ok (.ireturn, 1) := by decide +kernel
theorem dX7_count_99 : decode cX7_count 99 = .ok (.aload_n 0, 1) := by decide +kernel
theorem dX7_count_100 : decode cX7_count 100 = .ok (.getfield 39, 3) := by decide +kernel
theorem dX7_count_103 : decode cX7_count 103 = .ok (.getfield 81, 3) := by decide +kernel
theorem dX7_count_106 : decode cX7_count 106 = .ok (.getfield 221, 3) := by decide +kernel
theorem dX7_count_109 : decode cX7_count 109 = .ok (.ireturn, 1) := by decide +kernel
theorem dX7_count_110 : decode cX7_count 110 = .ok (.aload_n 0, 1) := by decide +kernel
theorem dX7_count_111 : decode cX7_count 111 = .ok (.getfield 39, 3) := by decide +kernel
theorem dX7_count_114 : decode cX7_count 114 = .ok (.getfield 81, 3) := by decide +kernel
theorem dX7_count_117 : decode cX7_count 117 = .ok (.getfield 94, 3) := by decide +kernel
theorem dX7_count_120 : decode cX7_count 120 = .ok (.ireturn, 1) := by decide +kernel
theorem dX7_count_121 : decode cX7_count 121 = .ok (.aload_n 0, 1) := by decide +kernel
theorem dX7_count_122 : decode cX7_count 122 = .ok (.getfield 39, 3) := by decide +kernel
theorem dX7_count_125 : decode cX7_count 125 = .ok (.getfield 81, 3) := by decide +kernel
theorem dX7_count_128 : decode cX7_count 128 = .ok (.invokevirtual 224, 3) := by decide +kernel
theorem dX7_count_131 : decode cX7_count 131 = .ok (.ireturn, 1) := by decide +kernel
theorem dX7_count_132 : decode cX7_count 132 = .ok (.aload_n 0, 1) := by decide +kernel
theorem dX7_count_133 : decode cX7_count 133 = .ok (.getfield 49, 3) := by decide +kernel
theorem dX7_count_136 : decode cX7_count 136 = .ok (.getfield 140, 3) := by decide +kernel
theorem dX7_count_139 : decode cX7_count 139 = .ok (.ireturn, 1) := by decide +kernel
theorem dX7_count_140 : decode cX7_count 140 = .ok (.aload_n 0, 1) := by decide +kernel
theorem dX7_count_141 : decode cX7_count 141 = .ok (.getfield 12, 3) := by decide +kernel
theorem dX7_count_144 : decode cX7_count 144 = .ok (.getfield 64, 3) := by decide +kernel
theorem dX7_count_147 : decode cX7_count 147 = .ok (.ireturn, 1) := by decide +kernel
theorem dX7_count_148 : decode cX7_count 148 = .ok (.iconst (-1), 1) := by decide +kernel
theorem dX7_count_149 : decode cX7_count 149 = .ok (.ireturn, 1) := by decide +kernel
theorem dX7_partBits_0 : decode cX7_partBits 0 = .ok (.iload_n 1, 1) := by decide +kernel
theorem dX7_partBits_1 : decode cX7_partBits 1 = .ok (.iconst 1, 1) := by decide +kernel
theorem dX7_partBits_2 : decode cX7_partBits 2 = .ok (.if_icmp .ge 6, 3) := by decide +kernel
theorem dX7_partBits_5 : decode cX7_partBits 5 = .ok (.bipush (-4), 2) := by decide +kernel
theorem dX7_partBits_7 : decode cX7_partBits 7 = .ok (.ireturn, 1) := by decide +kernel
theorem dX7_partBits_8 : decode cX7_partBits 8 = .ok (.iload_n 0, 1) := by decide +kernel
theorem dX7_partBits_9 : decode cX7_partBits 9 = .ok (.i2f, 1) := by decide +kernel
theorem dX7_partBits_10 : decode cX7_partBits 10 = .ok (.iload_n 1, 1) := by decide +kernel
theorem dX7_partBits_11 : decode cX7_partBits 11 = .ok (.i2f, 1) := by decide +kernel
theorem dX7_partBits_12 : decode cX7_partBits 12 = .ok (.fdiv, 1) := by decide +kernel
theorem dX7_partBits_13 : decode cX7_partBits 13 = .ok (.invokestatic 208, 3) := by decide +kernel
theorem dX7_partBits_16 : decode cX7_partBits 16 = .ok (.ireturn, 1) := by decide +kernel
theorem dX7_bitsOf_0 : decode cX7_bitsOf 0 = .ok (.fload_n 0, 1) := by decide +kernel
theorem dX7_bitsOf_1 : decode cX7_bitsOf 1 = .ok (.fconst 0, 1) := by decide +kernel
theorem dX7_bitsOf_2 : decode cX7_bitsOf 2 = .ok (.fcmp .l, 1) := by decide +kernel
theorem dX7_bitsOf_3 : decode cX7_bitsOf 3 = .ok (.ifCond .gt 5, 3) := by decide +kernel
theorem dX7_bitsOf_6 : decode cX7_bitsOf 6 = .ok (.iconst 0, 1) := by decide +kernel
theorem dX7_bitsOf_7 : decode cX7_bitsOf 7 = .ok (.ireturn, 1) := by decide +kernel
theorem dX7_bitsOf_8 : decode cX7_bitsOf 8 = .ok (.fload_n 0, 1) := by decide +kernel
theorem dX7_bitsOf_9 : decode cX7_bitsOf 9 = .ok (.fstore_n 1, 1) := by decide +kernel
theorem dX7_bitsOf_10 : decode cX7_bitsOf 10 = .ok (.bipush 127, 2) := by decide +kernel
theorem dX7_bitsOf_12 : decode cX7_bitsOf 12 = .ok (.istore_n 2, 1) := by decide +kernel
theorem dX7_bitsOf_13 : decode cX7_bitsOf 13 = .ok (.iconst 0, 1) := by decide +kernel
theorem dX7_bitsOf_14 : decode cX7_bitsOf 14 = .ok (.istore_n 3, 1) := by decide +kernel
theorem dX7_bitsOf_15 : decode cX7_bitsOf 15 = .ok (.iload_n 3, 1) := by decide +kernel
theorem dX7_bitsOf_16 : decode cX7_bitsOf 16 = .ok (.sipush 128, 3) := by decide +kernel
theorem dX7_bitsOf_19 : decode cX7_bitsOf 19 = .ok (.if_icmp .ge 22, 3) := by decide +kernel
theorem dX7_bitsOf_22 : decode cX7_bitsOf 22 = .ok (.fload_n 1, 1) := by decide +kernel
theorem dX7_bitsOf_23 : decode cX7_bitsOf 23 = .ok (.fconst 2, 1) := by decide +kernel
theorem dX7_bitsOf_24 : decode cX7_bitsOf 24 = .ok (.fcmp .l, 1) := by decide +kernel
theorem dX7_bitsOf_25 : decode cX7_bitsOf 25 = .ok (.ifCond .lt 16, 3) := by decide +kernel
theorem dX7_bitsOf_28 : decode cX7_bitsOf 28 = .ok (.fload_n 1, 1) := by decide +kernel
theorem dX7_bitsOf_29 : decode cX7_bitsOf 29 = .ok (.fconst 2, 1) := by decide +kernel
theorem dX7_bitsOf_30 : decode cX7_bitsOf 30 = .ok (.fdiv, 1) := by decide +kernel
theorem dX7_bitsOf_31 : decode cX7_bitsOf 31 = .ok (.fstore_n 1, 1) := by decide +kernel
theorem dX7_bitsOf_32 : decode cX7_bitsOf 32 = .ok (.iinc 2 1, 3) := by decide +kernel
theorem dX7_bitsOf_35 : decode cX7_bitsOf 35 = .ok (.iinc 3 1, 3) := by decide +kernel
theorem dX7_bitsOf_38 : decode cX7_bitsOf 38 = .ok (.goto (-23), 3) := by decide +kernel
theorem dX7_bitsOf_41 : decode cX7_bitsOf 41 = .ok (.iconst 0, 1) := by decide +kernel
theorem dX7_bitsOf_42 : decode cX7_bitsOf 42 = .ok (.istore_n 3, 1) := by decide +kernel
theorem dX7_bitsOf_43 : decode cX7_bitsOf 43 = .ok (.iload_n 3, 1) := by decide +kernel
theorem dX7_bitsOf_44 : decode cX7_bitsOf 44 = .ok (.sipush 128, 3) := by decide +kernel
theorem dX7_bitsOf_47 : decode cX7_bitsOf 47 = .ok (.if_icmp .ge 22, 3) := by decide +kernel
theorem dX7_bitsOf_50 : decode cX7_bitsOf 50 = .ok (.fload_n 1, 1) := by decide +kernel
theorem dX7_bitsOf_51 : decode cX7_bitsOf 51 = .ok (.fconst 1, 1) := by decide +kernel
theorem dX7_bitsOf_52 : decode cX7_bitsOf 52 = .ok (.fcmp .g, 1) := by decide +kernel
theorem dX7_bitsOf_53 : decode cX7_bitsOf 53 = .ok (.ifCond .ge 16, 3) := by decide +kernel
theorem dX7_bitsOf_56 : decode cX7_bitsOf 56 = .ok (.fload_n 1, 1) := by decide +kernel
theorem dX7_bitsOf_57 : decode cX7_bitsOf 57 = .ok (.fconst 2, 1) := by decide +kernel
theorem dX7_bitsOf_58 : decode cX7_bitsOf 58 = .ok (.fmul, 1) := by decide +kernel
theorem dX7_bitsOf_59 : decode cX7_bitsOf 59 = .ok (.fstore_n 1, 1) := by decide +kernel
theorem dX7_bitsOf_60 : decode cX7_bitsOf 60 = .ok (.iinc 2 (-1), 3) := by decide +kernel
theorem dX7_bitsOf_63 : decode cX7_bitsOf 63 = .ok (.iinc 3 1, 3) := by decide +kernel
theorem dX7_bitsOf_66 : decode cX7_bitsOf 66 = .ok (.goto (-23), 3) := by decide +kernel
theorem dX7_bitsOf_69 : decode cX7_bitsOf 69 = .ok (.iload_n 2, 1) := by decide +kernel
theorem dX7_bitsOf_70 : decode cX7_bitsOf 70 = .ok (.bipush 23, 2) := by decide +kernel
theorem dX7_bitsOf_72 : decode cX7_bitsOf 72 = .ok (.ishl, 1) := by decide +kernel
theorem dX7_bitsOf_73 : decode cX7_bitsOf 73 = .ok (.fload_n 1, 1) := by decide +kernel
theorem dX7_bitsOf_74 : decode cX7_bitsOf 74 = .ok (.fconst 1, 1) := by decide +kernel
theorem dX7_bitsOf_75 : decode cX7_bitsOf 75 = .ok (.fsub, 1) := by decide +kernel
theorem dX7_bitsOf_76 : decode cX7_bitsOf 76 = .ok (.ldc 227, 2) := by decide +kernel
theorem dX7_bitsOf_78 : decode cX7_bitsOf 78 = .ok (.fmul, 1) := by decide +kernel
theorem dX7_bitsOf_79 : decode cX7_bitsOf 79 = .ok (.f2i, 1) := by decide +kernel
theorem dX7_bitsOf_80 : decode cX7_bitsOf 80 = .ok (.iadd, 1) := by decide +kernel
theorem dX7_bitsOf_81 : decode cX7_bitsOf 81 = .ok (.ireturn, 1) := by decide +kernel
