theorem dX0_init_0 : decode cX0_init 0 = .ok (.aload_n 0, 1) := by decide +kernel
theorem dX0_init_1 : decode cX0_init 1 = .ok (.invokespecial 3, 3) := by decide +kernel
theorem dX0_init_4 : decode cX0_init 4 = .ok (.aload_n 0, 1) := by decide +kernel
theorem dX0_init_5 : decode cX0_init 5 = .ok (.sipush 499, 3) := by decide +kernel
theorem dX0_init_8 : decode cX0_init 8 = .ok (.newarray .int, 2) := by decide +kernel
theorem dX0_init_10 : decode cX0_init 10 = .ok (.putfield 9, 3) := by decide +kernel
theorem dX0_init_13 : decode cX0_init 13 = .ok (.aload_n 0, 1) := by decide +kernel
theorem dX0_init_14 : decode cX0_init 14 = .ok (.aload_n 1, 1) := by decide +kernel
theorem dX0_init_15 : decode cX0_init 15 = .ok (.putfield 15, 3) := by decide +kernel
theorem dX0_init_18 : decode cX0_init 18 = .ok (.aload_n 0, 1) := by decide +kernel
theorem dX0_init_19 : decode cX0_init 19 = .ok (.new 19, 3) := by decide +kernel
theorem dX0_init_22 : decode cX0_init 22 = .ok (.dup, 1) := by decide +kernel
theorem dX0_init_23 : decode cX0_init 23 = .ok (.aload_n 1, 1) := by decide +kernel
theorem dX0_init_24 : decode cX0_init 24 = .ok (.invokespecial 21, 3) := by decide +kernel
theorem dX0_init_27 : decode cX0_init 27 = .ok (.putfield 24, 3) := by decide +kernel
theorem dX0_init_30 : decode cX0_init 30 = .ok (.return_, 1) := by decide +kernel
theorem dX0_look_0 : decode cX0_look 0 = .ok (.aload_n 0, 1) := by decide +kernel
theorem dX0_look_1 : decode cX0_look 1 = .ok (.getfield 24, 3) := by decide +kernel
theorem dX0_look_4 : decode cX0_look 4 = .ok (.aload_n 1, 1) := by decide +kernel
theorem dX0_look_5 : decode cX0_look 5 = .ok (.invokevirtual 28, 3) := by decide +kernel
theorem dX0_look_8 : decode cX0_look 8 = .ok (.aload_n 0, 1) := by decide +kernel
theorem dX0_look_9 : decode cX0_look 9 = .ok (.aload_n 0, 1) := by decide +kernel
theorem dX0_look_10 : decode cX0_look 10 = .ok (.getfield 15, 3) := by decide +kernel
theorem dX0_look_13 : decode cX0_look 13 = .ok (.getfield 32, 3) := by decide +kernel
theorem dX0_look_16 : decode cX0_look 16 = .ok (.iload_n 2, 1) := by decide +kernel
theorem dX0_look_17 : decode cX0_look 17 = .ok (.iaload, 1) := by decide +kernel
theorem dX0_look_18 : decode cX0_look 18 = .ok (.putfield 37, 3) := by decide +kernel
theorem dX0_look_21 : decode cX0_look 21 = .ok (.aload_n 0, 1) := by decide +kernel
theorem dX0_look_22 : decode cX0_look 22 = .ok (.iconst 0, 1) := by decide +kernel
theorem dX0_look_23 : decode cX0_look 23 = .ok (.iload_n 3, 1) := by decide +kernel
theorem dX0_look_24 : decode cX0_look 24 = .ok (.aload_n 0, 1) := by decide +kernel
theorem dX0_look_25 : decode cX0_look 25 = .ok (.getfield 9, 3) := by decide +kernel
theorem dX0_look_28 : decode cX0_look 28 = .ok (.arraylength, 1) := by decide +kernel
theorem dX0_look_29 : decode cX0_look 29 = .ok (.invokestatic 40, 3) := by decide +kernel
theorem dX0_look_32 : decode cX0_look 32 = .ok (.invokestatic 46, 3) := by decide +kernel
theorem dX0_look_35 : decode cX0_look 35 = .ok (.putfield 49, 3) := by decide +kernel
theorem dX0_look_38 : decode cX0_look 38 = .ok (.iconst 0, 1) := by decide +kernel
theorem dX0_look_39 : decode cX0_look 39 = .ok (.istore 4, 2) := by decide +kernel
theorem dX0_look_41 : decode cX0_look 41 = .ok (.iload 4, 2) := by decide +kernel
theorem dX0_look_43 : decode cX0_look 43 = .ok (.aload_n 0, 1) := by decide +kernel
theorem dX0_look_44 : decode cX0_look 44 = .ok (.getfield 49, 3) := by decide +kernel
theorem dX0_look_47 : decode cX0_look 47 = .ok (.if_icmp .ge 39, 3) := by decide +kernel
theorem dX0_look_50 : decode cX0_look 50 = .ok (.aload_n 0, 1) := by decide +kernel
theorem dX0_look_51 : decode cX0_look 51 = .ok (.getfield 24, 3) := by decide +kernel
theorem dX0_look_54 : decode cX0_look 54 = .ok (.getfield 52, 3) := by decide +kernel
theorem dX0_look_57 : decode cX0_look 57 = .ok (.istore 5, 2) := by decide +kernel
theorem dX0_look_59 : decode cX0_look 59 = .ok (.aload_n 0, 1) := by decide +kernel
theorem dX0_look_60 : decode cX0_look 60 = .ok (.getfield 24, 3) := by decide +kernel
theorem dX0_look_63 : decode cX0_look 63 = .ok (.invokevirtual 55, 3) := by decide +kernel
theorem dX0_look_66 : decode cX0_look 66 = .ok (.aload_n 0, 1) := by decide +kernel
theorem dX0_look_67 : decode cX0_look 67 = .ok (.getfield 9, 3) := by decide +kernel
theorem dX0_look_70 : decode cX0_look 70 = .ok (.iload 4, 2) := by decide +kernel
theorem dX0_look_72 : decode cX0_look 72 = .ok (.aload_n 0, 1) := by decide +kernel
theorem dX0_look_73 : decode cX0_look 73 = .ok (.iload_n 2, 1) := by decide +kernel
theorem dX0_look_74 : decode cX0_look 74 = .ok (.iload 5, 2) := by decide +kernel
theorem dX0_look_76 : decode cX0_look 76 = .ok (.invokevirtual 58, 3) := by decide +kernel
theorem dX0_look_79 : decode cX0_look 79 = .ok (.iastore, 1) := by decide +kernel
theorem dX0_look_80 : decode cX0_look 80 = .ok (.iinc 4 1, 3) := by decide +kernel
theorem dX0_look_83 : decode cX0_look 83 = .ok (.goto (-42), 3) := by decide +kernel
theorem dX0_look_86 : decode cX0_look 86 = .ok (.return_, 1) := by decide +kernel
theorem dX0_seenAs_0 : decode cX0_seenAs 0 = .ok (.aload_n 0, 1) := by decide +kernel
theorem dX0_seenAs_1 : decode cX0_seenAs 1 = .ok (.getfield 24, 3) := by decide +kernel
theorem dX0_seenAs_4 : decode cX0_seenAs 4 = .ok (.iload_n 2, 1) := by decide +kernel
theorem dX0_seenAs_5 : decode cX0_seenAs 5 = .ok (.invokevirtual 61, 3) := by decide +kernel
theorem dX0_seenAs_8 : decode cX0_seenAs 8 = .ok (.istore_n 3, 1) := by decide +kernel
theorem dX0_seenAs_9 : decode cX0_seenAs 9 = .ok (.iload_n 3, 1) := by decide +kernel
theorem dX0_seenAs_10 : decode cX0_seenAs 10 = .ok (.bipush (-4), 2) := by decide +kernel
theorem dX0_seenAs_12 : decode cX0_seenAs 12 = .ok (.if_icmp .ne 6, 3) := by decide +kernel
theorem dX0_seenAs_15 : decode cX0_seenAs 15 = .ok (.bipush (-4), 2) := by decide +kernel
theorem dX0_seenAs_17 : decode cX0_seenAs 17 = .ok (.ireturn, 1) := by decide +kernel
theorem dX0_seenAs_18 : decode cX0_seenAs 18 = .ok (.iload_n 3, 1) := by decide +kernel
theorem dX0_seenAs_19 : decode cX0_seenAs 19 = .ok (.iload_n 1, 1) := by decide +kernel
theorem dX0_seenAs_20 : decode cX0_seenAs 20 = .ok (.if_icmp .ne 14, 3) := by decide +kernel
theorem dX0_seenAs_23 : decode cX0_seenAs 23 = .ok (.aload_n 0, 1) := by decide +kernel
theorem dX0_seenAs_24 : decode cX0_seenAs 24 = .ok (.getfield 24, 3) := by decide +kernel
theorem dX0_seenAs_27 : decode cX0_seenAs 27 = .ok (.iload_n 2, 1) := by decide +kernel
theorem dX0_seenAs_28 : decode cX0_seenAs 28 = .ok (.invokevirtual 65, 3) := by decide +kernel
theorem dX0_seenAs_31 : decode cX0_seenAs 31 = .ok (.goto 4, 3) := by decide +kernel
theorem dX0_seenAs_34 : decode cX0_seenAs 34 = .ok (.iconst (-1), 1) := by decide +kernel
theorem dX0_seenAs_35 : decode cX0_seenAs 35 = .ok (.ireturn, 1) := by decide +kernel
theorem dX0_waitBehind_0 : decode cX0_waitBehind 0 = .ok (.iconst 0, 1) := by decide +kernel
theorem dX0_waitBehind_1 : decode cX0_waitBehind 1 = .ok (.istore_n 2, 1) := by decide +kernel
theorem dX0_waitBehind_2 : decode cX0_waitBehind 2 = .ok (.bipush (-4), 2) := by decide +kernel
theorem dX0_waitBehind_4 : decode cX0_waitBehind 4 = .ok (.istore_n 3, 1) := by decide +kernel
theorem dX0_waitBehind_5 : decode cX0_waitBehind 5 = .ok (.iconst 0, 1) := by decide +kernel
theorem dX0_waitBehind_6 : decode cX0_waitBehind 6 = .ok (.iload_n 1, 1) := by decide +kernel
theorem dX0_waitBehind_7 : decode cX0_waitBehind 7 = .ok (.invokestatic 46, 3) := by decide +kernel
theorem dX0_waitBehind_10 : decode cX0_waitBehind 10 = .ok (.istore 4, 2) := by decide +kernel
theorem dX0_waitBehind_12 : decode cX0_waitBehind 12 = .ok (.iload 4, 2) := by decide +kernel
theorem dX0_waitBehind_14 : decode cX0_waitBehind 14 = .ok (.aload_n 0, 1) := by decide +kernel
theorem dX0_waitBehind_15 : decode cX0_waitBehind 15 = .ok (.getfield 49, 3) := by decide +kernel
theorem dX0_waitBehind_18 : decode cX0_waitBehind 18 = .ok (.if_icmp .ge 87, 3) := by decide +kernel
theorem dX0_waitBehind_21 : decode cX0_waitBehind 21 = .ok (.iload 4, 2) := by decide +kernel
theorem dX0_waitBehind_23 : decode cX0_waitBehind 23 = .ok (.iload_n 1, 1) := by decide +kernel
theorem dX0_waitBehind_24 : decode cX0_waitBehind 24 = .ok (.isub, 1) := by decide +kernel
theorem dX0_waitBehind_25 : decode cX0_waitBehind 25 = .ok (.sipush 400, 3) := by decide +kernel
theorem dX0_waitBehind_28 : decode cX0_waitBehind 28 = .ok (.if_icmp .ge 77, 3) := by decide +kernel
theorem dX0_waitBehind_31 : decode cX0_waitBehind 31 = .ok (.aload_n 0, 1) := by decide +kernel
theorem dX0_waitBehind_32 : decode cX0_waitBehind 32 = .ok (.getfield 9, 3) := by decide +kernel
theorem dX0_waitBehind_35 : decode cX0_waitBehind 35 = .ok (.iload 4, 2) := by decide +kernel
theorem dX0_waitBehind_37 : decode cX0_waitBehind 37 = .ok (.iaload, 1) := by decide +kernel
theorem dX0_waitBehind_38 : decode cX0_waitBehind 38 = .ok (.istore 5, 2) := by decide +kernel
theorem dX0_waitBehind_40 : decode cX0_waitBehind 40 = .ok (.iload 5, 2) := by decide +kernel
theorem dX0_waitBehind_42 : decode cX0_waitBehind 42 = .ok (.bipush (-4), 2) := by decide +kernel
theorem dX0_waitBehind_44 : decode cX0_waitBehind 44 = .ok (.if_icmp .ne 19, 3) := by decide +kernel
theorem dX0_waitBehind_47 : decode cX0_waitBehind 47 = .ok (.iload 4, 2) := by decide +kernel
theorem dX0_waitBehind_49 : decode cX0_waitBehind 49 = .ok (.aload_n 0, 1) := by decide +kernel
theorem dX0_waitBehind_50 : decode cX0_waitBehind 50 = .ok (.getfield 15, 3) := by decide +kernel
theorem dX0_waitBehind_53 : decode cX0_waitBehind 53 = .ok (.getfield 68, 3) := by decide +kernel
theorem dX0_waitBehind_56 : decode cX0_waitBehind 56 = .ok (.iadd, 1) := by decide +kernel
theorem dX0_waitBehind_57 : decode cX0_waitBehind 57 = .ok (.iconst 1, 1) := by decide +kernel
theorem dX0_waitBehind_58 : decode cX0_waitBehind 58 = .ok (.isub, 1) := by decide +kernel
theorem dX0_waitBehind_59 : decode cX0_waitBehind 59 = .ok (.istore_n 3, 1) := by decide +kernel
theorem dX0_waitBehind_60 : decode cX0_waitBehind 60 = .ok (.goto 21, 3) := by decide +kernel
theorem dX0_waitBehind_63 : decode cX0_waitBehind 63 = .ok (.iload 5, 2) := by decide +kernel
theorem dX0_waitBehind_65 : decode cX0_waitBehind 65 = .ok (.ifCond .lt 16, 3) := by decide +kernel
theorem dX0_waitBehind_68 : decode cX0_waitBehind 68 = .ok (.iload 4, 2) := by decide +kernel
theorem dX0_waitBehind_70 : decode cX0_waitBehind 70 = .ok (.iload_n 3, 1) := by decide +kernel
theorem dX0_waitBehind_71 : decode cX0_waitBehind 71 = .ok (.if_icmp .gt 10, 3) := by decide +kernel
theorem dX0_waitBehind_74 : decode cX0_waitBehind 74 = .ok (.iload_n 2, 1) := by decide +kernel
theorem dX0_waitBehind_75 : decode cX0_waitBehind 75 = .ok (.iconst 1, 1) := by decide +kernel
theorem dX0_waitBehind_76 : decode cX0_waitBehind 76 = .ok (.iload 5, 2) := by decide +kernel
theorem dX0_waitBehind_78 : decode cX0_waitBehind 78 = .ok (.ishl, 1) := by decide +kernel
theorem dX0_waitBehind_79 : decode cX0_waitBehind 79 = .ok (.ior, 1) := by decide +kernel
theorem dX0_waitBehind_80 : decode cX0_waitBehind 80 = .ok (.istore_n 2, 1) := by decide +kernel
theorem dX0_waitBehind_81 : decode cX0_waitBehind 81 = .ok (.iload_n 2, 1) := by decide +kernel
theorem dX0_waitBehind_82 : decode cX0_waitBehind 82 = .ok (.invokestatic 71, 3) := by decide +kernel
theorem dX0_waitBehind_85 : decode cX0_waitBehind 85 = .ok (.aload_n 0, 1) := by decide +kernel
theorem dX0_waitBehind_86 : decode cX0_waitBehind 86 = .ok (.getfield 37, 3) := by decide +kernel
theorem dX0_waitBehind_89 : decode cX0_waitBehind 89 = .ok (.if_icmp .lt 10, 3) := by decide +kernel
theorem dX0_waitBehind_92 : decode cX0_waitBehind 92 = .ok (.iload 4, 2) := by decide +kernel
theorem dX0_waitBehind_94 : decode cX0_waitBehind 94 = .ok (.iload_n 1, 1) := by decide +kernel
theorem dX0_waitBehind_95 : decode cX0_waitBehind 95 = .ok (.isub, 1) := by decide +kernel
theorem dX0_waitBehind_96 : decode cX0_waitBehind 96 = .ok (.iconst 1, 1) := by decide +kernel
theorem dX0_waitBehind_97 : decode cX0_waitBehind 97 = .ok (.iadd, 1) := by decide +kernel
theorem dX0_waitBehind_98 : decode cX0_waitBehind 98 = .ok (.ireturn, 1) := by decide +kernel
theorem dX0_waitBehind_99 : decode cX0_waitBehind 99 = .ok (.iinc 4 1, 3) := by decide +kernel
theorem dX0_waitBehind_102 : decode cX0_waitBehind 102 = .ok (.goto (-90), 3) := by decide +kernel
theorem dX0_waitBehind_105 : decode cX0_waitBehind 105 = .ok (.bipush (-4), 2) := by decide +kernel
theorem dX0_waitBehind_107 : decode cX0_waitBehind 107 = .ok (.ireturn, 1) := by decide +kernel
theorem dX1_init_0 : decode cX1_init 0 = .ok (.aload_n 0, 1) := by decide +kernel
theorem dX1_init_1 : decode cX1_init 1 = .ok (.invokespecial 3, 3) := by decide +kernel
theorem dX1_init_4 : decode cX1_init 4 = .ok (.aload_n 0, 1) := by decide +kernel
theorem dX1_init_5 : decode cX1_init 5 = .ok (.bipush 6, 2) := by decide +kernel
theorem dX1_init_7 : decode cX1_init 7 = .ok (.newarray .int, 2) := by decide +kernel
theorem dX1_init_9 : decode cX1_init 9 = .ok (.putfield 9, 3) := by decide +kernel
theorem dX1_init_12 : decode cX1_init 12 = .ok (.aload_n 0, 1) := by decide +kernel
theorem dX1_init_13 : decode cX1_init 13 = .ok (.bipush 6, 2) := by decide +kernel
theorem dX1_init_15 : decode cX1_init 15 = .ok (.newarray .int, 2) := by decide +kernel
theorem dX1_init_17 : decode cX1_init 17 = .ok (.putfield 15, 3) := by decide +kernel
theorem dX1_init_20 : decode cX1_init 20 = .ok (.aload_n 0, 1) := by decide +kernel
theorem dX1_init_21 : decode cX1_init 21 = .ok (.aload_n 1, 1) := by decide +kernel
theorem dX1_init_22 : decode cX1_init 22 = .ok (.putfield 18, 3) := by decide +kernel
theorem dX1_init_25 : decode cX1_init 25 = .ok (.aload_n 0, 1) := by decide +kernel
theorem dX1_init_26 : decode cX1_init 26 = .ok (.iload_n 2, 1) := by decide +kernel
theorem dX1_init_27 : decode cX1_init 27 = .ok (.putfield 22, 3) := by decide +kernel
theorem dX1_init_30 : decode cX1_init 30 = .ok (.return_, 1) := by decide +kernel
theorem dX1_enter_0 : decode cX1_enter 0 = .ok (.aload_n 0, 1) := by decide +kernel
theorem dX1_enter_1 : decode cX1_enter 1 = .ok (.iload_n 1, 1) := by decide +kernel
theorem dX1_enter_2 : decode cX1_enter 2 = .ok (.putfield 26, 3) := by decide +kernel
theorem dX1_enter_5 : decode cX1_enter 5 = .ok (.aload_n 0, 1) := by decide +kernel
theorem dX1_enter_6 : decode cX1_enter 6 = .ok (.iload_n 2, 1) := by decide +kernel
theorem dX1_enter_7 : decode cX1_enter 7 = .ok (.putfield 29, 3) := by decide +kernel
theorem dX1_enter_10 : decode cX1_enter 10 = .ok (.aload_n 0, 1) := by decide +kernel
theorem dX1_enter_11 : decode cX1_enter 11 = .ok (.bipush (-4), 2) := by decide +kernel
theorem dX1_enter_13 : decode cX1_enter 13 = .ok (.putfield 32, 3) := by decide +kernel
theorem dX1_enter_16 : decode cX1_enter 16 = .ok (.aload_n 0, 1) := by decide +kernel
theorem dX1_enter_17 : decode cX1_enter 17 = .ok (.iconst 0, 1) := by decide +kernel
theorem dX1_enter_18 : decode cX1_enter 18 = .ok (.putfield 35, 3) := by decide +kernel
theorem dX1_enter_21 : decode cX1_enter 21 = .ok (.iconst 0, 1) := by decide +kernel
theorem dX1_enter_22 : decode cX1_enter 22 = .ok (.istore_n 3, 1) := by decide +kernel
theorem dX1_enter_23 : decode cX1_enter 23 = .ok (.iload_n 3, 1) := by decide +kernel
theorem dX1_enter_24 : decode cX1_enter 24 = .ok (.bipush 6, 2) := by decide +kernel
theorem dX1_enter_26 : decode cX1_enter 26 = .ok (.if_icmp .ge 24, 3) := by decide +kernel
theorem dX1_enter_29 : decode cX1_enter 29 = .ok (.aload_n 0, 1) := by decide +kernel
theorem dX1_enter_30 : decode cX1_enter 30 = .ok (.getfield 9, 3) := by decide +kernel
theorem dX1_enter_33 : decode cX1_enter 33 = .ok (.iload_n 3, 1) := by decide +kernel
theorem dX1_enter_34 : decode cX1_enter 34 = .ok (.iconst 0, 1) := by decide +kernel
theorem dX1_enter_35 : decode cX1_enter 35 = .ok (.iastore, 1) := by decide +kernel
theorem dX1_enter_36 : decode cX1_enter 36 = .ok (.aload_n 0, 1) := by decide +kernel
theorem dX1_enter_37 : decode cX1_enter 37 = .ok (.getfield 15, 3) := by decide +kernel
theorem dX1_enter_40 : decode cX1_enter 40 = .ok (.iload_n 3, 1) := by decide +kernel
theorem dX1_enter_41 : decode cX1_enter 41 = .ok (.bipush (-4), 2) := by decide +kernel
theorem dX1_enter_43 : decode cX1_enter 43 = .ok (.iastore, 1) := by decide +kernel
theorem dX1_enter_44 : decode cX1_enter 44 = .ok (.iinc 3 1, 3) := by decide +kernel
theorem dX1_enter_47 : decode cX1_enter 47 = .ok (.goto (-24), 3) := by decide +kernel
theorem dX1_enter_50 : decode cX1_enter 50 = .ok (.return_, 1) := by decide +kernel
theorem dX1_become_0 : decode cX1_become 0 = .ok (.aload_n 1, 1) := by decide +kernel
theorem dX1_become_1 : decode cX1_become 1 = .ok (.getfield 9, 3) := by decide +kernel
theorem dX1_become_4 : decode cX1_become 4 = .ok (.iconst 0, 1) := by decide +kernel
theorem dX1_become_5 : decode cX1_become 5 = .ok (.aload_n 0, 1) := by decide +kernel
theorem dX1_become_6 : decode cX1_become 6 = .ok (.getfield 9, 3) := by decide +kernel
theorem dX1_become_9 : decode cX1_become 9 = .ok (.iconst 0, 1) := by decide +kernel
theorem dX1_become_10 : decode cX1_become 10 = .ok (.bipush 6, 2) := by decide +kernel
theorem dX1_become_12 : decode cX1_become 12 = .ok (.invokestatic 38, 3) := by decide +kernel
theorem dX1_become_15 : decode cX1_become 15 = .ok (.aload_n 1, 1) := by decide +kernel
theorem dX1_become_16 : decode cX1_become 16 = .ok (.getfield 15, 3) := by decide +kernel
theorem dX1_become_19 : decode cX1_become 19 = .ok (.iconst 0, 1) := by decide +kernel
theorem dX1_become_20 : decode cX1_become 20 = .ok (.aload_n 0, 1) := by decide +kernel
theorem dX1_become_21 : decode cX1_become 21 = .ok (.getfield 15, 3) := by decide +kernel
theorem dX1_become_24 : decode cX1_become 24 = .ok (.iconst 0, 1) := by decide +kernel
theorem dX1_become_25 : decode cX1_become 25 = .ok (.bipush 6, 2) := by decide +kernel
theorem dX1_become_27 : decode cX1_become 27 = .ok (.invokestatic 38, 3) := by decide +kernel
theorem dX1_become_30 : decode cX1_become 30 = .ok (.aload_n 0, 1) := by decide +kernel
theorem dX1_become_31 : decode cX1_become 31 = .ok (.aload_n 1, 1) := by decide +kernel
theorem dX1_become_32 : decode cX1_become 32 = .ok (.getfield 26, 3) := by decide +kernel
theorem dX1_become_35 : decode cX1_become 35 = .ok (.putfield 26, 3) := by decide +kernel
theorem dX1_become_38 : decode cX1_become 38 = .ok (.aload_n 0, 1) := by decide +kernel
theorem dX1_become_39 : decode cX1_become 39 = .ok (.aload_n 1, 1) := by decide +kernel
theorem dX1_become_40 : decode cX1_become 40 = .ok (.getfield 29, 3) := by decide +kernel
theorem dX1_become_43 : decode cX1_become 43 = .ok (.putfield 29, 3) := by decide +kernel
theorem dX1_become_46 : decode cX1_become 46 = .ok (.aload_n 0, 1) := by decide +kernel
theorem dX1_become_47 : decode cX1_become 47 = .ok (.aload_n 1, 1) := by decide +kernel
theorem dX1_become_48 : decode cX1_become 48 = .ok (.getfield 32, 3) := by decide +kernel
theorem dX1_become_51 : decode cX1_become 51 = .ok (.putfield 32, 3) := by decide +kernel
theorem dX1_become_54 : decode cX1_become 54 = .ok (.aload_n 0, 1) := by decide +kernel
theorem dX1_become_55 : decode cX1_become 55 = .ok (.aload_n 1, 1) := by decide +kernel
theorem dX1_become_56 : decode cX1_become 56 = .ok (.getfield 35, 3) := by decide +kernel
theorem dX1_become_59 : decode cX1_become 59 = .ok (.putfield 35, 3) := by decide +kernel
theorem dX1_become_62 : decode cX1_become 62 = .ok (.return_, 1) := by decide +kernel
theorem dX1_hear_0 : decode cX1_hear 0 = .ok (.aload_n 0, 1) := by decide +kernel
theorem dX1_hear_1 : decode cX1_hear 1 = .ok (.iload_n 2, 1) := by decide +kernel
theorem dX1_hear_2 : decode cX1_hear 2 = .ok (.invokevirtual 44, 3) := by decide +kernel
theorem dX1_hear_5 : decode cX1_hear 5 = .ok (.ifCond .eq 14, 3) := by decide +kernel
theorem dX1_hear_8 : decode cX1_hear 8 = .ok (.aload_n 0, 1) := by decide +kernel
theorem dX1_hear_9 : decode cX1_hear 9 = .ok (.dup, 1) := by decide +kernel
theorem dX1_hear_10 : decode cX1_hear 10 = .ok (.getfield 35, 3) := by decide +kernel
theorem dX1_hear_13 : decode cX1_hear 13 = .ok (.iconst 1, 1) := by decide +kernel
theorem dX1_hear_14 : decode cX1_hear 14 = .ok (.iadd, 1) := by decide +kernel
theorem dX1_hear_15 : decode cX1_hear 15 = .ok (.putfield 35, 3) := by decide +kernel
theorem dX1_hear_18 : decode cX1_hear 18 = .ok (.return_, 1) := by decide +kernel
theorem dX1_hear_19 : decode cX1_hear 19 = .ok (.aload_n 1, 1) := by decide +kernel
theorem dX1_hear_20 : decode cX1_hear 20 = .ok (.iload_n 2, 1) := by decide +kernel
theorem dX1_hear_21 : decode cX1_hear 21 = .ok (.invokevirtual 48, 3) := by decide +kernel
theorem dX1_hear_24 : decode cX1_hear 24 = .ok (.istore_n 3, 1) := by decide +kernel
theorem dX1_hear_25 : decode cX1_hear 25 = .ok (.iload_n 3, 1) := by decide +kernel
theorem dX1_hear_26 : decode cX1_hear 26 = .ok (.bipush (-4), 2) := by decide +kernel
theorem dX1_hear_28 : decode cX1_hear 28 = .ok (.if_icmp .ne 15, 3) := by decide +kernel
theorem dX1_hear_31 : decode cX1_hear 31 = .ok (.aload_n 0, 1) := by decide +kernel
theorem dX1_hear_32 : decode cX1_hear 32 = .ok (.aload_n 1, 1) := by decide +kernel
theorem dX1_hear_33 : decode cX1_hear 33 = .ok (.getfield 54, 3) := by decide +kernel
theorem dX1_hear_36 : decode cX1_hear 36 = .ok (.iload_n 2, 1) := by decide +kernel
theorem dX1_hear_37 : decode cX1_hear 37 = .ok (.invokevirtual 57, 3) := by decide +kernel
theorem dX1_hear_40 : decode cX1_hear 40 = .ok (.goto 30, 3) := by decide +kernel
theorem dX1_hear_43 : decode cX1_hear 43 = .ok (.aload_n 0, 1) := by decide +kernel
theorem dX1_hear_44 : decode cX1_hear 44 = .ok (.getfield 18, 3) := by decide +kernel
theorem dX1_hear_47 : decode cX1_hear 47 = .ok (.iload_n 3, 1) := by decide +kernel
theorem dX1_hear_48 : decode cX1_hear 48 = .ok (.invokevirtual 61, 3) := by decide +kernel
theorem dX1_hear_51 : decode cX1_hear 51 = .ok (.ifCond .eq 19, 3) := by decide +kernel
theorem dX1_hear_54 : decode cX1_hear 54 = .ok (.aload_n 0, 1) := by decide +kernel
theorem dX1_hear_55 : decode cX1_hear 55 = .ok (.iload_n 3, 1) := by decide +kernel
theorem dX1_hear_56 : decode cX1_hear 56 = .ok (.aload_n 1, 1) := by decide +kernel
theorem dX1_hear_57 : decode cX1_hear 57 = .ok (.iload_n 2, 1) := by decide +kernel
theorem dX1_hear_58 : decode cX1_hear 58 = .ok (.invokevirtual 66, 3) := by decide +kernel
theorem dX1_hear_61 : decode cX1_hear 61 = .ok (.aload_n 1, 1) := by decide +kernel
theorem dX1_hear_62 : decode cX1_hear 62 = .ok (.iload_n 2, 1) := by decide +kernel
theorem dX1_hear_63 : decode cX1_hear 63 = .ok (.invokevirtual 69, 3) := by decide +kernel
theorem dX1_hear_66 : decode cX1_hear 66 = .ok (.iload_n 2, 1) := by decide +kernel
theorem dX1_hear_67 : decode cX1_hear 67 = .ok (.invokevirtual 72, 3) := by decide +kernel
theorem dX1_hear_70 : decode cX1_hear 70 = .ok (.return_, 1) := by decide +kernel
theorem dX1_loses_0 : decode cX1_loses 0 = .ok (.ldc2_w 76, 3) := by decide +kernel
theorem dX1_loses_3 : decode cX1_loses 3 = .ok (.aload_n 0, 1) := by decide +kernel
theorem dX1_loses_4 : decode cX1_loses 4 = .ok (.getfield 22, 3) := by decide +kernel
theorem dX1_loses_7 : decode cX1_loses 7 = .ok (.i2l, 1) := by decide +kernel
theorem dX1_loses_8 : decode cX1_loses 8 = .ok (.lmul, 1) := by decide +kernel
theorem dX1_loses_9 : decode cX1_loses 9 = .ok (.ldc2_w 78, 3) := by decide +kernel
theorem dX1_loses_12 : decode cX1_loses 12 = .ok (.iload_n 1, 1) := by decide +kernel
theorem dX1_loses_13 : decode cX1_loses 13 = .ok (.i2l, 1) := by decide +kernel
theorem dX1_loses_14 : decode cX1_loses 14 = .ok (.lmul, 1) := by decide +kernel
theorem dX1_loses_15 : decode cX1_loses 15 = .ok (.ladd, 1) := by decide +kernel
theorem dX1_loses_16 : decode cX1_loses 16 = .ok (.lconst 1, 1) := by decide +kernel
theorem dX1_loses_17 : decode cX1_loses 17 = .ok (.ladd, 1) := by decide +kernel
theorem dX1_loses_18 : decode cX1_loses 18 = .ok (.lstore_n 2, 1) := by decide +kernel
theorem dX1_loses_19 : decode cX1_loses 19 = .ok (.lload_n 2, 1) := by decide +kernel
theorem dX1_loses_20 : decode cX1_loses 20 = .ok (.lload_n 2, 1) := by decide +kernel
theorem dX1_loses_21 : decode cX1_loses 21 = .ok (.lmul, 1) := by decide +kernel
theorem dX1_loses_22 : decode cX1_loses 22 = .ok (.ldc2_w 80, 3) := by decide +kernel
theorem dX1_loses_25 : decode cX1_loses 25 = .ok (.lrem, 1) := by decide +kernel
theorem dX1_loses_26 : decode cX1_loses 26 = .ok (.ldc2_w 82, 3) := by decide +kernel
theorem dX1_loses_29 : decode cX1_loses 29 = .ok (.lrem, 1) := by decide +kernel
theorem dX1_loses_30 : decode cX1_loses 30 = .ok (.aload_n 0, 1) := by decide +kernel
theorem dX1_loses_31 : decode cX1_loses 31 = .ok (.getfield 26, 3) := by decide +kernel
theorem dX1_loses_34 : decode cX1_loses 34 = .ok (.i2l, 1) := by decide +kernel
theorem dX1_loses_35 : decode cX1_loses 35 = .ok (.lcmp, 1) := by decide +kernel
theorem dX1_loses_36 : decode cX1_loses 36 = .ok (.ifCond .ge 7, 3) := by decide +kernel
theorem dX1_loses_39 : decode cX1_loses 39 = .ok (.iconst 1, 1) := by decide +kernel
theorem dX1_loses_40 : decode cX1_loses 40 = .ok (.goto 4, 3) := by decide +kernel
theorem dX1_loses_43 : decode cX1_loses 43 = .ok (.iconst 0, 1) := by decide +kernel
theorem dX1_loses_44 : decode cX1_loses 44 = .ok (.ireturn, 1) := by decide +kernel
theorem dX1_takeTable_0 : decode cX1_takeTable 0 = .ok (.iconst 0, 1) := by decide +kernel
theorem dX1_takeTable_1 : decode cX1_takeTable 1 = .ok (.istore_n 3, 1) := by decide +kernel
theorem dX1_takeTable_2 : decode cX1_takeTable 2 = .ok (.iload_n 3, 1) := by decide +kernel
theorem dX1_takeTable_3 : decode cX1_takeTable 3 = .ok (.aload_n 0, 1) := by decide +kernel
theorem dX1_takeTable_4 : decode cX1_takeTable 4 = .ok (.getfield 18, 3) := by decide +kernel
theorem dX1_takeTable_7 : decode cX1_takeTable 7 = .ok (.getfield 84, 3) := by decide +kernel
theorem dX1_takeTable_10 : decode cX1_takeTable 10 = .ok (.if_icmp .ge 37, 3) := by decide +kernel
theorem dX1_takeTable_13 : decode cX1_takeTable 13 = .ok (.aload_n 0, 1) := by decide +kernel
theorem dX1_takeTable_14 : decode cX1_takeTable 14 = .ok (.getfield 15, 3) := by decide +kernel
theorem dX1_takeTable_17 : decode cX1_takeTable 17 = .ok (.iload_n 3, 1) := by decide +kernel
theorem dX1_takeTable_18 : decode cX1_takeTable 18 = .ok (.iaload, 1) := by decide +kernel
theorem dX1_takeTable_19 : decode cX1_takeTable 19 = .ok (.aload_n 1, 1) := by decide +kernel
theorem dX1_takeTable_20 : decode cX1_takeTable 20 = .ok (.iload_n 3, 1) := by decide +kernel
theorem dX1_takeTable_21 : decode cX1_takeTable 21 = .ok (.iaload, 1) := by decide +kernel
theorem dX1_takeTable_22 : decode cX1_takeTable 22 = .ok (.if_icmp .eq 19, 3) := by decide +kernel
theorem dX1_takeTable_25 : decode cX1_takeTable 25 = .ok (.aload_n 0, 1) := by decide +kernel
theorem dX1_takeTable_26 : decode cX1_takeTable 26 = .ok (.getfield 9, 3) := by decide +kernel
theorem dX1_takeTable_29 : decode cX1_takeTable 29 = .ok (.iload_n 3, 1) := by decide +kernel
theorem dX1_takeTable_30 : decode cX1_takeTable 30 = .ok (.iconst 0, 1) := by decide +kernel
theorem dX1_takeTable_31 : decode cX1_takeTable 31 = .ok (.iastore, 1) := by decide +kernel
theorem dX1_takeTable_32 : decode cX1_takeTable 32 = .ok (.aload_n 0, 1) := by decide +kernel
theorem dX1_takeTable_33 : decode cX1_takeTable 33 = .ok (.getfield 15, 3) := by decide +kernel
theorem dX1_takeTable_36 : decode cX1_takeTable 36 = .ok (.iload_n 3, 1) := by decide +kernel
theorem dX1_takeTable_37 : decode cX1_takeTable 37 = .ok (.aload_n 1, 1) := by decide +kernel
theorem dX1_takeTable_38 : decode cX1_takeTable 38 = .ok (.iload_n 3, 1) := by decide +kernel
theorem dX1_takeTable_39 : decode cX1_takeTable 39 = .ok (.iaload, 1) := by decide +kernel
theorem dX1_takeTable_40 : decode cX1_takeTable 40 = .ok (.iastore, 1) := by decide +kernel
theorem dX1_takeTable_41 : decode cX1_takeTable 41 = .ok (.iinc 3 1, 3) := by decide +kernel
theorem dX1_takeTable_44 : decode cX1_takeTable 44 = .ok (.goto (-42), 3) := by decide +kernel
theorem dX1_takeTable_47 : decode cX1_takeTable 47 = .ok (.aload_n 0, 1) := by decide +kernel
theorem dX1_takeTable_48 : decode cX1_takeTable 48 = .ok (.iload_n 2, 1) := by decide +kernel
theorem dX1_takeTable_49 : decode cX1_takeTable 49 = .ok (.aload_n 0, 1) := by decide +kernel
theorem dX1_takeTable_50 : decode cX1_takeTable 50 = .ok (.getfield 18, 3) := by decide +kernel
theorem dX1_takeTable_53 : decode cX1_takeTable 53 = .ok (.getfield 87, 3) := by decide +kernel
theorem dX1_takeTable_56 : decode cX1_takeTable 56 = .ok (.iadd, 1) := by decide +kernel
theorem dX1_takeTable_57 : decode cX1_takeTable 57 = .ok (.iconst 1, 1) := by decide +kernel
theorem dX1_takeTable_58 : decode cX1_takeTable 58 = .ok (.isub, 1) := by decide +kernel
theorem dX1_takeTable_59 : decode cX1_takeTable 59 = .ok (.putfield 32, 3) := by decide +kernel
theorem dX1_takeTable_62 : decode cX1_takeTable 62 = .ok (.return_, 1) := by decide +kernel
theorem dX1_takeSymbol_0 : decode cX1_takeSymbol 0 = .ok (.aload_n 0, 1) := by decide +kernel
theorem dX1_takeSymbol_1 : decode cX1_takeSymbol 1 = .ok (.iload 4, 2) := by decide +kernel
theorem dX1_takeSymbol_3 : decode cX1_takeSymbol 3 = .ok (.invokevirtual 90, 3) := by decide +kernel
theorem dX1_takeSymbol_6 : decode cX1_takeSymbol 6 = .ok (.ifCond .eq 25, 3) := by decide +kernel
theorem dX1_takeSymbol_9 : decode cX1_takeSymbol 9 = .ok (.aload_n 0, 1) := by decide +kernel
theorem dX1_takeSymbol_10 : decode cX1_takeSymbol 10 = .ok (.getfield 15, 3) := by decide +kernel
theorem dX1_takeSymbol_13 : decode cX1_takeSymbol 13 = .ok (.iload_n 1, 1) := by decide +kernel
theorem dX1_takeSymbol_14 : decode cX1_takeSymbol 14 = .ok (.iaload, 1) := by decide +kernel
theorem dX1_takeSymbol_15 : decode cX1_takeSymbol 15 = .ok (.iload_n 3, 1) := by decide +kernel
theorem dX1_takeSymbol_16 : decode cX1_takeSymbol 16 = .ok (.if_icmp .ne 15, 3) := by decide +kernel
theorem dX1_takeSymbol_19 : decode cX1_takeSymbol 19 = .ok (.aload_n 0, 1) := by decide +kernel
theorem dX1_takeSymbol_20 : decode cX1_takeSymbol 20 = .ok (.getfield 9, 3) := by decide +kernel
theorem dX1_takeSymbol_23 : decode cX1_takeSymbol 23 = .ok (.iload_n 1, 1) := by decide +kernel
theorem dX1_takeSymbol_24 : decode cX1_takeSymbol 24 = .ok (.dup2, 1) := by decide +kernel
theorem dX1_takeSymbol_25 : decode cX1_takeSymbol 25 = .ok (.iaload, 1) := by decide +kernel
theorem dX1_takeSymbol_26 : decode cX1_takeSymbol 26 = .ok (.iconst 1, 1) := by decide +kernel
theorem dX1_takeSymbol_27 : decode cX1_takeSymbol 27 = .ok (.iload_n 2, 1) := by decide +kernel
theorem dX1_takeSymbol_28 : decode cX1_takeSymbol 28 = .ok (.ishl, 1) := by decide +kernel
theorem dX1_takeSymbol_29 : decode cX1_takeSymbol 29 = .ok (.ior, 1) := by decide +kernel
theorem dX1_takeSymbol_30 : decode cX1_takeSymbol 30 = .ok (.iastore, 1) := by decide +kernel
theorem dX1_takeSymbol_31 : decode cX1_takeSymbol 31 = .ok (.return_, 1) := by decide +kernel
theorem dX1_knowsIn_0 : decode cX1_knowsIn 0 = .ok (.iload_n 1, 1) := by decide +kernel
theorem dX1_knowsIn_1 : decode cX1_knowsIn 1 = .ok (.aload_n 0, 1) := by decide +kernel
theorem dX1_knowsIn_2 : decode cX1_knowsIn 2 = .ok (.getfield 32, 3) := by decide +kernel
theorem dX1_knowsIn_5 : decode cX1_knowsIn 5 = .ok (.if_icmp .gt 7, 3) := by decide +kernel
theorem dX1_knowsIn_8 : decode cX1_knowsIn 8 = .ok (.iconst 1, 1) := by decide +kernel
theorem dX1_knowsIn_9 : decode cX1_knowsIn 9 = .ok (.goto 4, 3) := by decide +kernel
theorem dX1_knowsIn_12 : decode cX1_knowsIn 12 = .ok (.iconst 0, 1) := by decide +kernel
theorem dX1_knowsIn_13 : decode cX1_knowsIn 13 = .ok (.ireturn, 1) := by decide +kernel
theorem dX1_lacks_0 : decode cX1_lacks 0 = .ok (.iconst 0, 1) := by decide +kernel
theorem dX1_lacks_1 : decode cX1_lacks 1 = .ok (.aload_n 0, 1) := by decide +kernel
theorem dX1_lacks_2 : decode cX1_lacks 2 = .ok (.getfield 18, 3) := by decide +kernel
theorem dX1_lacks_5 : decode cX1_lacks 5 = .ok (.getfield 93, 3) := by decide +kernel
theorem dX1_lacks_8 : decode cX1_lacks 8 = .ok (.iload_n 1, 1) := by decide +kernel
theorem dX1_lacks_9 : decode cX1_lacks 9 = .ok (.iaload, 1) := by decide +kernel
theorem dX1_lacks_10 : decode cX1_lacks 10 = .ok (.aload_n 0, 1) := by decide +kernel
theorem dX1_lacks_11 : decode cX1_lacks 11 = .ok (.getfield 9, 3) := by decide +kernel
theorem dX1_lacks_14 : decode cX1_lacks 14 = .ok (.iload_n 1, 1) := by decide +kernel
theorem dX1_lacks_15 : decode cX1_lacks 15 = .ok (.iaload, 1) := by decide +kernel
theorem dX1_lacks_16 : decode cX1_lacks 16 = .ok (.invokestatic 96, 3) := by decide +kernel
theorem dX1_lacks_19 : decode cX1_lacks 19 = .ok (.isub, 1) := by decide +kernel
theorem dX1_lacks_20 : decode cX1_lacks 20 = .ok (.invokestatic 101, 3) := by decide +kernel
theorem dX1_lacks_23 : decode cX1_lacks 23 = .ok (.ireturn, 1) := by decide +kernel
theorem dX1_wholeBits_0 : decode cX1_wholeBits 0 = .ok (.iconst 0, 1) := by decide +kernel
theorem dX1_wholeBits_1 : decode cX1_wholeBits 1 = .ok (.istore_n 1, 1) := by decide +kernel
theorem dX1_wholeBits_2 : decode cX1_wholeBits 2 = .ok (.iconst 0, 1) := by decide +kernel
theorem dX1_wholeBits_3 : decode cX1_wholeBits 3 = .ok (.istore_n 2, 1) := by decide +kernel
theorem dX1_wholeBits_4 : decode cX1_wholeBits 4 = .ok (.iload_n 2, 1) := by decide +kernel
theorem dX1_wholeBits_5 : decode cX1_wholeBits 5 = .ok (.aload_n 0, 1) := by decide +kernel
theorem dX1_wholeBits_6 : decode cX1_wholeBits 6 = .ok (.getfield 18, 3) := by decide +kernel
theorem dX1_wholeBits_9 : decode cX1_wholeBits 9 = .ok (.getfield 84, 3) := by decide +kernel
theorem dX1_wholeBits_12 : decode cX1_wholeBits 12 = .ok (.if_icmp .ge 23, 3) := by decide +kernel
theorem dX1_wholeBits_15 : decode cX1_wholeBits 15 = .ok (.aload_n 0, 1) := by decide +kernel
theorem dX1_wholeBits_16 : decode cX1_wholeBits 16 = .ok (.iload_n 2, 1) := by decide +kernel
theorem dX1_wholeBits_17 : decode cX1_wholeBits 17 = .ok (.invokevirtual 107, 3) := by decide +kernel
theorem dX1_wholeBits_20 : decode cX1_wholeBits 20 = .ok (.ifCond .ne 9, 3) := by decide +kernel
theorem dX1_wholeBits_23 : decode cX1_wholeBits 23 = .ok (.iload_n 1, 1) := by decide +kernel
theorem dX1_wholeBits_24 : decode cX1_wholeBits 24 = .ok (.iconst 1, 1) := by decide +kernel
theorem dX1_wholeBits_25 : decode cX1_wholeBits 25 = .ok (.iload_n 2, 1) := by decide +kernel
theorem dX1_wholeBits_26 : decode cX1_wholeBits 26 = .ok (.ishl, 1) := by decide +kernel
theorem dX1_wholeBits_27 : decode cX1_wholeBits 27 = .ok (.ior, 1) := by decide +kernel
theorem dX1_wholeBits_28 : decode cX1_wholeBits 28 = .ok (.istore_n 1, 1) := by decide +kernel
theorem dX1_wholeBits_29 : decode cX1_wholeBits 29 = .ok (.iinc 2 1, 3) := by decide +kernel
theorem dX1_wholeBits_32 : decode cX1_wholeBits 32 = .ok (.goto (-28), 3) := by decide +kernel
theorem dX1_wholeBits_35 : decode cX1_wholeBits 35 = .ok (.iload_n 1, 1) := by decide +kernel
theorem dX1_wholeBits_36 : decode cX1_wholeBits 36 = .ok (.ireturn, 1) := by decide +kernel
theorem dX1_fillUp_0 : decode cX1_fillUp 0 = .ok (.aload_n 0, 1) := by decide +kernel
theorem dX1_fillUp_1 : decode cX1_fillUp 1 = .ok (.iload_n 1, 1) := by decide +kernel
theorem dX1_fillUp_2 : decode cX1_fillUp 2 = .ok (.invokevirtual 107, 3) := by decide +kernel
theorem dX1_fillUp_5 : decode cX1_fillUp 5 = .ok (.istore_n 2, 1) := by decide +kernel
theorem dX1_fillUp_6 : decode cX1_fillUp 6 = .ok (.iload_n 2, 1) := by decide +kernel
theorem dX1_fillUp_7 : decode cX1_fillUp 7 = .ok (.istore_n 3, 1) := by decide +kernel
theorem dX1_fillUp_8 : decode cX1_fillUp 8 = .ok (.iconst 0, 1) := by decide +kernel
theorem dX1_fillUp_9 : decode cX1_fillUp 9 = .ok (.istore 4, 2) := by decide +kernel
theorem dX1_fillUp_11 : decode cX1_fillUp 11 = .ok (.iload 4, 2) := by decide +kernel
theorem dX1_fillUp_13 : decode cX1_fillUp 13 = .ok (.aload_n 0, 1) := by decide +kernel
theorem dX1_fillUp_14 : decode cX1_fillUp 14 = .ok (.getfield 18, 3) := by decide +kernel
theorem dX1_fillUp_17 : decode cX1_fillUp 17 = .ok (.iload_n 1, 1) := by decide +kernel
theorem dX1_fillUp_18 : decode cX1_fillUp 18 = .ok (.invokevirtual 110, 3) := by decide +kernel
theorem dX1_fillUp_21 : decode cX1_fillUp 21 = .ok (.if_icmp .ge 45, 3) := by decide +kernel
theorem dX1_fillUp_24 : decode cX1_fillUp 24 = .ok (.iload_n 3, 1) := by decide +kernel
theorem dX1_fillUp_25 : decode cX1_fillUp 25 = .ok (.ifCond .le 41, 3) := by decide +kernel
theorem dX1_fillUp_28 : decode cX1_fillUp 28 = .ok (.iconst 1, 1) := by decide +kernel
theorem dX1_fillUp_29 : decode cX1_fillUp 29 = .ok (.iload 4, 2) := by decide +kernel
theorem dX1_fillUp_31 : decode cX1_fillUp 31 = .ok (.ishl, 1) := by decide +kernel
theorem dX1_fillUp_32 : decode cX1_fillUp 32 = .ok (.istore 5, 2) := by decide +kernel
theorem dX1_fillUp_34 : decode cX1_fillUp 34 = .ok (.aload_n 0, 1) := by decide +kernel
theorem dX1_fillUp_35 : decode cX1_fillUp 35 = .ok (.getfield 9, 3) := by decide +kernel
theorem dX1_fillUp_38 : decode cX1_fillUp 38 = .ok (.iload_n 1, 1) := by decide +kernel
theorem dX1_fillUp_39 : decode cX1_fillUp 39 = .ok (.iaload, 1) := by decide +kernel
theorem dX1_fillUp_40 : decode cX1_fillUp 40 = .ok (.iload 5, 2) := by decide +kernel
theorem dX1_fillUp_42 : decode cX1_fillUp 42 = .ok (.iand, 1) := by decide +kernel
theorem dX1_fillUp_43 : decode cX1_fillUp 43 = .ok (.ifCond .ne 17, 3) := by decide +kernel
theorem dX1_fillUp_46 : decode cX1_fillUp 46 = .ok (.aload_n 0, 1) := by decide +kernel
theorem dX1_fillUp_47 : decode cX1_fillUp 47 = .ok (.getfield 9, 3) := by decide +kernel
theorem dX1_fillUp_50 : decode cX1_fillUp 50 = .ok (.iload_n 1, 1) := by decide +kernel
theorem dX1_fillUp_51 : decode cX1_fillUp 51 = .ok (.dup2, 1) := by decide +kernel
theorem dX1_fillUp_52 : decode cX1_fillUp 52 = .ok (.iaload, 1) := by decide +kernel
theorem dX1_fillUp_53 : decode cX1_fillUp 53 = .ok (.iload 5, 2) := by decide +kernel
theorem dX1_fillUp_55 : decode cX1_fillUp 55 = .ok (.ior, 1) := by decide +kernel
theorem dX1_fillUp_56 : decode cX1_fillUp 56 = .ok (.iastore, 1) := by decide +kernel
theorem dX1_fillUp_57 : decode cX1_fillUp 57 = .ok (.iinc 3 (-1), 3) := by decide +kernel
theorem dX1_fillUp_60 : decode cX1_fillUp 60 = .ok (.iinc 4 1, 3) := by decide +kernel
theorem dX1_fillUp_63 : decode cX1_fillUp 63 = .ok (.goto (-52), 3) := by decide +kernel
theorem dX1_fillUp_66 : decode cX1_fillUp 66 = .ok (.iload_n 2, 1) := by decide +kernel
theorem dX1_fillUp_67 : decode cX1_fillUp 67 = .ok (.ireturn, 1) := by decide +kernel
theorem dX2_init_0 : decode cX2_init 0 = .ok (.aload_n 0, 1) := by decide +kernel
theorem dX2_init_1 : decode cX2_init 1 = .ok (.invokespecial 3, 3) := by decide +kernel
theorem dX2_init_4 : decode cX2_init 4 = .ok (.aload_n 0, 1) := by decide +kernel
theorem dX2_init_5 : decode cX2_init 5 = .ok (.iconst 4, 1) := by decide +kernel
theorem dX2_init_6 : decode cX2_init 6 = .ok (.anewarray 9, 3) := by decide +kernel
theorem dX2_init_9 : decode cX2_init 9 = .ok (.putfield 11, 3) := by decide +kernel
theorem dX2_init_12 : decode cX2_init 12 = .ok (.iconst 0, 1) := by decide +kernel
theorem dX2_init_13 : decode cX2_init 13 = .ok (.istore_n 2, 1) := by decide +kernel
theorem dX2_init_14 : decode cX2_init 14 = .ok (.iload_n 2, 1) := by decide +kernel
theorem dX2_init_15 : decode cX2_init 15 = .ok (.iconst 4, 1) := by decide +kernel
theorem dX2_init_16 : decode cX2_init 16 = .ok (.if_icmp .ge 23, 3) := by decide +kernel
theorem dX2_init_19 : decode cX2_init 19 = .ok (.aload_n 0, 1) := by decide +kernel
theorem dX2_init_20 : decode cX2_init 20 = .ok (.getfield 11, 3) := by decide +kernel
theorem dX2_init_23 : decode cX2_init 23 = .ok (.iload_n 2, 1) := by decide +kernel
theorem dX2_init_24 : decode cX2_init 24 = .ok (.new 9, 3) := by decide +kernel
theorem dX2_init_27 : decode cX2_init 27 = .ok (.dup, 1) := by decide +kernel
theorem dX2_init_28 : decode cX2_init 28 = .ok (.aload_n 1, 1) := by decide +kernel
theorem dX2_init_29 : decode cX2_init 29 = .ok (.invokespecial 17, 3) := by decide +kernel
theorem dX2_init_32 : decode cX2_init 32 = .ok (.aastore, 1) := by decide +kernel
theorem dX2_init_33 : decode cX2_init 33 = .ok (.iinc 2 1, 3) := by decide +kernel
theorem dX2_init_36 : decode cX2_init 36 = .ok (.goto (-22), 3) := by decide +kernel
theorem dX2_init_39 : decode cX2_init 39 = .ok (.return_, 1) := by decide +kernel
theorem dX2_keep_0 : decode cX2_keep 0 = .ok (.aload_n 0, 1) := by decide +kernel
theorem dX2_keep_1 : decode cX2_keep 1 = .ok (.getfield 11, 3) := by decide +kernel
theorem dX2_keep_4 : decode cX2_keep 4 = .ok (.aload_n 0, 1) := by decide +kernel
theorem dX2_keep_5 : decode cX2_keep 5 = .ok (.getfield 20, 3) := by decide +kernel
theorem dX2_keep_8 : decode cX2_keep 8 = .ok (.iconst 3, 1) := by decide +kernel
theorem dX2_keep_9 : decode cX2_keep 9 = .ok (.iand, 1) := by decide +kernel
theorem dX2_keep_10 : decode cX2_keep 10 = .ok (.aaload, 1) := by decide +kernel
theorem dX2_keep_11 : decode cX2_keep 11 = .ok (.aload_n 1, 1) := by decide +kernel
theorem dX2_keep_12 : decode cX2_keep 12 = .ok (.invokevirtual 24, 3) := by decide +kernel
theorem dX2_keep_15 : decode cX2_keep 15 = .ok (.aload_n 0, 1) := by decide +kernel
theorem dX2_keep_16 : decode cX2_keep 16 = .ok (.dup, 1) := by decide +kernel
theorem dX2_keep_17 : decode cX2_keep 17 = .ok (.getfield 20, 3) := by decide +kernel
theorem dX2_keep_20 : decode cX2_keep 20 = .ok (.iconst 1, 1) := by decide +kernel
theorem dX2_keep_21 : decode cX2_keep 21 = .ok (.iadd, 1) := by decide +kernel
theorem dX2_keep_22 : decode cX2_keep 22 = .ok (.putfield 20, 3) := by decide +kernel
theorem dX2_keep_25 : decode cX2_keep 25 = .ok (.aload_n 0, 1) := by decide +kernel
theorem dX2_keep_26 : decode cX2_keep 26 = .ok (.aload_n 0, 1) := by decide +kernel
theorem dX2_keep_27 : decode cX2_keep 27 = .ok (.getfield 28, 3) := by decide +kernel
theorem dX2_keep_30 : decode cX2_keep 30 = .ok (.iconst 1, 1) := by decide +kernel
theorem dX2_keep_31 : decode cX2_keep 31 = .ok (.iadd, 1) := by decide +kernel
theorem dX2_keep_32 : decode cX2_keep 32 = .ok (.iconst 4, 1) := by decide +kernel
theorem dX2_keep_33 : decode cX2_keep 33 = .ok (.invokestatic 31, 3) := by decide +kernel
theorem dX2_keep_36 : decode cX2_keep 36 = .ok (.putfield 28, 3) := by decide +kernel
theorem dX2_keep_39 : decode cX2_keep 39 = .ok (.return_, 1) := by decide +kernel
theorem dX2_giveBack_0 : decode cX2_giveBack 0 = .ok (.aload_n 0, 1) := by decide +kernel
theorem dX2_giveBack_1 : decode cX2_giveBack 1 = .ok (.getfield 28, 3) := by decide +kernel
theorem dX2_giveBack_4 : decode cX2_giveBack 4 = .ok (.iconst 1, 1) := by decide +kernel
theorem dX2_giveBack_5 : decode cX2_giveBack 5 = .ok (.if_icmp .ge 5, 3) := by decide +kernel
theorem dX2_giveBack_8 : decode cX2_giveBack 8 = .ok (.iconst 0, 1) := by decide +kernel
theorem dX2_giveBack_9 : decode cX2_giveBack 9 = .ok (.ireturn, 1) := by decide +kernel
theorem dX2_giveBack_10 : decode cX2_giveBack 10 = .ok (.aload_n 0, 1) := by decide +kernel
theorem dX2_giveBack_11 : decode cX2_giveBack 11 = .ok (.dup, 1) := by decide +kernel
theorem dX2_giveBack_12 : decode cX2_giveBack 12 = .ok (.getfield 28, 3) := by decide +kernel
theorem dX2_giveBack_15 : decode cX2_giveBack 15 = .ok (.iconst 1, 1) := by decide +kernel
theorem dX2_giveBack_16 : decode cX2_giveBack 16 = .ok (.isub, 1) := by decide +kernel
theorem dX2_giveBack_17 : decode cX2_giveBack 17 = .ok (.putfield 28, 3) := by decide +kernel
theorem dX2_giveBack_20 : decode cX2_giveBack 20 = .ok (.aload_n 0, 1) := by decide +kernel
theorem dX2_giveBack_21 : decode cX2_giveBack 21 = .ok (.dup, 1) := by decide +kernel
theorem dX2_giveBack_22 : decode cX2_giveBack 22 = .ok (.getfield 20, 3) := by decide +kernel
theorem dX2_giveBack_25 : decode cX2_giveBack 25 = .ok (.iconst 1, 1) := by decide +kernel
theorem dX2_giveBack_26 : decode cX2_giveBack 26 = .ok (.isub, 1) := by decide +kernel
theorem dX2_giveBack_27 : decode cX2_giveBack 27 = .ok (.putfield 20, 3) := by decide +kernel
theorem dX2_giveBack_30 : decode cX2_giveBack 30 = .ok (.aload_n 1, 1) := by decide +kernel
theorem dX2_giveBack_31 : decode cX2_giveBack 31 = .ok (.aload_n 0, 1) := by decide +kernel
theorem dX2_giveBack_32 : decode cX2_giveBack 32 = .ok (.getfield 11, 3) := by decide +kernel
theorem dX2_giveBack_35 : decode cX2_giveBack 35 = .ok (.aload_n 0, 1) := by decide +kernel
theorem dX2_giveBack_36 : decode cX2_giveBack 36 = .ok (.getfield 20, 3) := by decide +kernel
theorem dX2_giveBack_39 : decode cX2_giveBack 39 = .ok (.iconst 3, 1) := by decide +kernel
theorem dX2_giveBack_40 : decode cX2_giveBack 40 = .ok (.iand, 1) := by decide +kernel
theorem dX2_giveBack_41 : decode cX2_giveBack 41 = .ok (.aaload, 1) := by decide +kernel
theorem dX2_giveBack_42 : decode cX2_giveBack 42 = .ok (.invokevirtual 24, 3) := by decide +kernel
theorem dX2_giveBack_45 : decode cX2_giveBack 45 = .ok (.iconst 1, 1) := by decide +kernel
theorem dX2_giveBack_46 : decode cX2_giveBack 46 = .ok (.ireturn, 1) := by decide +kernel
theorem dX2_forget_0 : decode cX2_forget 0 = .ok (.aload_n 0, 1) := by decide +kernel
theorem dX2_forget_1 : decode cX2_forget 1 = .ok (.iconst 0, 1) := by decide +kernel
theorem dX2_forget_2 : decode cX2_forget 2 = .ok (.putfield 28, 3) := by decide +kernel
theorem dX2_forget_5 : decode cX2_forget 5 = .ok (.return_, 1) := by decide +kernel
theorem dX3_init_0 : decode cX3_init 0 = .ok (.aload_n 0, 1) := by decide +kernel
theorem dX3_init_1 : decode cX3_init 1 = .ok (.invokespecial 3, 3) := by decide +kernel
theorem dX3_init_4 : decode cX3_init 4 = .ok (.aload_n 0, 1) := by decide +kernel
theorem dX3_init_5 : decode cX3_init 5 = .ok (.bipush 6, 2) := by decide +kernel
theorem dX3_init_7 : decode cX3_init 7 = .ok (.newarray .int, 2) := by decide +kernel
theorem dX3_init_9 : decode cX3_init 9 = .ok (.putfield 9, 3) := by decide +kernel
theorem dX3_init_12 : decode cX3_init 12 = .ok (.aload_n 0, 1) := by decide +kernel
theorem dX3_init_13 : decode cX3_init 13 = .ok (.bipush 6, 2) := by decide +kernel
theorem dX3_init_15 : decode cX3_init 15 = .ok (.newarray .int, 2) := by decide +kernel
theorem dX3_init_17 : decode cX3_init 17 = .ok (.putfield 15, 3) := by decide +kernel
theorem dX3_init_20 : decode cX3_init 20 = .ok (.aload_n 0, 1) := by decide +kernel
theorem dX3_init_21 : decode cX3_init 21 = .ok (.bipush 6, 2) := by decide +kernel
theorem dX3_init_23 : decode cX3_init 23 = .ok (.newarray .int, 2) := by decide +kernel
theorem dX3_init_25 : decode cX3_init 25 = .ok (.putfield 18, 3) := by decide +kernel
theorem dX3_init_28 : decode cX3_init 28 = .ok (.return_, 1) := by decide +kernel
theorem dX3_clear_0 : decode cX3_clear 0 = .ok (.aload_n 0, 1) := by decide +kernel
theorem dX3_clear_1 : decode cX3_clear 1 = .ok (.iconst 0, 1) := by decide +kernel
theorem dX3_clear_2 : decode cX3_clear 2 = .ok (.putfield 21, 3) := by decide +kernel
theorem dX3_clear_5 : decode cX3_clear 5 = .ok (.aload_n 0, 1) := by decide +kernel
theorem dX3_clear_6 : decode cX3_clear 6 = .ok (.bipush 6, 2) := by decide +kernel
theorem dX3_clear_8 : decode cX3_clear 8 = .ok (.bipush 20, 2) := by decide +kernel
theorem dX3_clear_10 : decode cX3_clear 10 = .ok (.invokevirtual 25, 3) := by decide +kernel
theorem dX3_clear_13 : decode cX3_clear 13 = .ok (.return_, 1) := by decide +kernel
theorem dX3_addFile_0 : decode cX3_addFile 0 = .ok (.aload_n 0, 1) := by decide +kernel
theorem dX3_addFile_1 : decode cX3_addFile 1 = .ok (.getfield 21, 3) := by decide +kernel
theorem dX3_addFile_4 : decode cX3_addFile 4 = .ok (.ifCond .lt 12, 3) := by decide +kernel
theorem dX3_addFile_7 : decode cX3_addFile 7 = .ok (.aload_n 0, 1) := by decide +kernel
theorem dX3_addFile_8 : decode cX3_addFile 8 = .ok (.getfield 21, 3) := by decide +kernel
theorem dX3_addFile_11 : decode cX3_addFile 11 = .ok (.bipush 6, 2) := by decide +kernel
theorem dX3_addFile_13 : decode cX3_addFile 13 = .ok (.if_icmp .lt 5, 3) := by decide +kernel
theorem dX3_addFile_16 : decode cX3_addFile 16 = .ok (.iconst 0, 1) := by decide +kernel
theorem dX3_addFile_17 : decode cX3_addFile 17 = .ok (.ireturn, 1) := by decide +kernel
theorem dX3_addFile_18 : decode cX3_addFile 18 = .ok (.aload_n 0, 1) := by decide +kernel
theorem dX3_addFile_19 : decode cX3_addFile 19 = .ok (.getfield 9, 3) := by decide +kernel
theorem dX3_addFile_22 : decode cX3_addFile 22 = .ok (.aload_n 0, 1) := by decide +kernel
theorem dX3_addFile_23 : decode cX3_addFile 23 = .ok (.getfield 21, 3) := by decide +kernel
theorem dX3_addFile_26 : decode cX3_addFile 26 = .ok (.iload_n 1, 1) := by decide +kernel
theorem dX3_addFile_27 : decode cX3_addFile 27 = .ok (.iastore, 1) := by decide +kernel
theorem dX3_addFile_28 : decode cX3_addFile 28 = .ok (.aload_n 0, 1) := by decide +kernel
theorem dX3_addFile_29 : decode cX3_addFile 29 = .ok (.getfield 15, 3) := by decide +kernel
theorem dX3_addFile_32 : decode cX3_addFile 32 = .ok (.aload_n 0, 1) := by decide +kernel
theorem dX3_addFile_33 : decode cX3_addFile 33 = .ok (.getfield 21, 3) := by decide +kernel
theorem dX3_addFile_36 : decode cX3_addFile 36 = .ok (.iload_n 2, 1) := by decide +kernel
theorem dX3_addFile_37 : decode cX3_addFile 37 = .ok (.iastore, 1) := by decide +kernel
theorem dX3_addFile_38 : decode cX3_addFile 38 = .ok (.aload_n 0, 1) := by decide +kernel
theorem dX3_addFile_39 : decode cX3_addFile 39 = .ok (.getfield 18, 3) := by decide +kernel
theorem dX3_addFile_42 : decode cX3_addFile 42 = .ok (.aload_n 0, 1) := by decide +kernel
theorem dX3_addFile_43 : decode cX3_addFile 43 = .ok (.getfield 21, 3) := by decide +kernel
theorem dX3_addFile_46 : decode cX3_addFile 46 = .ok (.iload_n 3, 1) := by decide +kernel
theorem dX3_addFile_47 : decode cX3_addFile 47 = .ok (.iastore, 1) := by decide +kernel
theorem dX3_addFile_48 : decode cX3_addFile 48 = .ok (.aload_n 0, 1) := by decide +kernel
theorem dX3_addFile_49 : decode cX3_addFile 49 = .ok (.dup, 1) := by decide +kernel
theorem dX3_addFile_50 : decode cX3_addFile 50 = .ok (.getfield 21, 3) := by decide +kernel
theorem dX3_addFile_53 : decode cX3_addFile 53 = .ok (.iconst 1, 1) := by decide +kernel
theorem dX3_addFile_54 : decode cX3_addFile 54 = .ok (.iadd, 1) := by decide +kernel
theorem dX3_addFile_55 : decode cX3_addFile 55 = .ok (.putfield 21, 3) := by decide +kernel
theorem dX3_addFile_58 : decode cX3_addFile 58 = .ok (.iconst 1, 1) := by decide +kernel
theorem dX3_addFile_59 : decode cX3_addFile 59 = .ok (.ireturn, 1) := by decide +kernel
theorem dX3_setTable_0 : decode cX3_setTable 0 = .ok (.aload_n 0, 1) := by decide +kernel
theorem dX3_setTable_1 : decode cX3_setTable 1 = .ok (.iload_n 1, 1) := by decide +kernel
theorem dX3_setTable_2 : decode cX3_setTable 2 = .ok (.putfield 29, 3) := by decide +kernel
theorem dX3_setTable_5 : decode cX3_setTable 5 = .ok (.aload_n 0, 1) := by decide +kernel
theorem dX3_setTable_6 : decode cX3_setTable 6 = .ok (.iload_n 2, 1) := by decide +kernel
theorem dX3_setTable_7 : decode cX3_setTable 7 = .ok (.putfield 32, 3) := by decide +kernel
theorem dX3_setTable_10 : decode cX3_setTable 10 = .ok (.return_, 1) := by decide +kernel
theorem dX3_hasFile_0 : decode cX3_hasFile 0 = .ok (.iload_n 1, 1) := by decide +kernel
theorem dX3_hasFile_1 : decode cX3_hasFile 1 = .ok (.ifCond .lt 15, 3) := by decide +kernel
theorem dX3_hasFile_4 : decode cX3_hasFile 4 = .ok (.iload_n 1, 1) := by decide +kernel
theorem dX3_hasFile_5 : decode cX3_hasFile 5 = .ok (.aload_n 0, 1) := by decide +kernel
theorem dX3_hasFile_6 : decode cX3_hasFile 6 = .ok (.getfield 21, 3) := by decide +kernel
theorem dX3_hasFile_9 : decode cX3_hasFile 9 = .ok (.if_icmp .ge 7, 3) := by decide +kernel
theorem dX3_hasFile_12 : decode cX3_hasFile 12 = .ok (.iconst 1, 1) := by decide +kernel
theorem dX3_hasFile_13 : decode cX3_hasFile 13 = .ok (.goto 4, 3) := by decide +kernel
theorem dX3_hasFile_16 : decode cX3_hasFile 16 = .ok (.iconst 0, 1) := by decide +kernel
theorem dX3_hasFile_17 : decode cX3_hasFile 17 = .ok (.ireturn, 1) := by decide +kernel
theorem dX3_symbolsOf_0 : decode cX3_symbolsOf 0 = .ok (.aload_n 0, 1) := by decide +kernel
theorem dX3_symbolsOf_1 : decode cX3_symbolsOf 1 = .ok (.getfield 9, 3) := by decide +kernel
theorem dX3_symbolsOf_4 : decode cX3_symbolsOf 4 = .ok (.iload_n 1, 1) := by decide +kernel
theorem dX3_symbolsOf_5 : decode cX3_symbolsOf 5 = .ok (.iaload, 1) := by decide +kernel
theorem dX3_symbolsOf_6 : decode cX3_symbolsOf 6 = .ok (.aload_n 0, 1) := by decide +kernel
theorem dX3_symbolsOf_7 : decode cX3_symbolsOf 7 = .ok (.getfield 15, 3) := by decide +kernel
theorem dX3_symbolsOf_10 : decode cX3_symbolsOf 10 = .ok (.iload_n 1, 1) := by decide +kernel
theorem dX3_symbolsOf_11 : decode cX3_symbolsOf 11 = .ok (.iaload, 1) := by decide +kernel
theorem dX3_symbolsOf_12 : decode cX3_symbolsOf 12 = .ok (.iadd, 1) := by decide +kernel
theorem dX3_symbolsOf_13 : decode cX3_symbolsOf 13 = .ok (.ireturn, 1) := by decide +kernel
theorem dX3_isTableTurn_0 : decode cX3_isTableTurn 0 = .ok (.aload_n 0, 1) := by decide +kernel
theorem dX3_isTableTurn_1 : decode cX3_isTableTurn 1 = .ok (.getfield 29, 3) := by decide +kernel
theorem dX3_isTableTurn_4 : decode cX3_isTableTurn 4 = .ok (.ifCond .le 16, 3) := by decide +kernel
theorem dX3_isTableTurn_7 : decode cX3_isTableTurn 7 = .ok (.iload_n 1, 1) := by decide +kernel
theorem dX3_isTableTurn_8 : decode cX3_isTableTurn 8 = .ok (.aload_n 0, 1) := by decide +kernel
theorem dX3_isTableTurn_9 : decode cX3_isTableTurn 9 = .ok (.getfield 29, 3) := by decide +kernel
theorem dX3_isTableTurn_12 : decode cX3_isTableTurn 12 = .ok (.irem, 1) := by decide +kernel
theorem dX3_isTableTurn_13 : decode cX3_isTableTurn 13 = .ok (.ifCond .ne 7, 3) := by decide +kernel
theorem dX3_isTableTurn_16 : decode cX3_isTableTurn 16 = .ok (.iconst 1, 1) := by decide +kernel
theorem dX3_isTableTurn_17 : decode cX3_isTableTurn 17 = .ok (.goto 4, 3) := by decide +kernel
theorem dX3_isTableTurn_20 : decode cX3_isTableTurn 20 = .ok (.iconst 0, 1) := by decide +kernel
theorem dX3_isTableTurn_21 : decode cX3_isTableTurn 21 = .ok (.ireturn, 1) := by decide +kernel
theorem dX3_become_0 : decode cX3_become 0 = .ok (.aload_n 1, 1) := by decide +kernel
theorem dX3_become_1 : decode cX3_become 1 = .ok (.getfield 9, 3) := by decide +kernel
theorem dX3_become_4 : decode cX3_become 4 = .ok (.iconst 0, 1) := by decide +kernel
theorem dX3_become_5 : decode cX3_become 5 = .ok (.aload_n 0, 1) := by decide +kernel
theorem dX3_become_6 : decode cX3_become 6 = .ok (.getfield 9, 3) := by decide +kernel
theorem dX3_become_9 : decode cX3_become 9 = .ok (.iconst 0, 1) := by decide +kernel
theorem dX3_become_10 : decode cX3_become 10 = .ok (.bipush 6, 2) := by decide +kernel
theorem dX3_become_12 : decode cX3_become 12 = .ok (.invokestatic 35, 3) := by decide +kernel
theorem dX3_become_15 : decode cX3_become 15 = .ok (.aload_n 1, 1) := by decide +kernel
theorem dX3_become_16 : decode cX3_become 16 = .ok (.getfield 15, 3) := by decide +kernel
theorem dX3_become_19 : decode cX3_become 19 = .ok (.iconst 0, 1) := by decide +kernel
theorem dX3_become_20 : decode cX3_become 20 = .ok (.aload_n 0, 1) := by decide +kernel
theorem dX3_become_21 : decode cX3_become 21 = .ok (.getfield 15, 3) := by decide +kernel
theorem dX3_become_24 : decode cX3_become 24 = .ok (.iconst 0, 1) := by decide +kernel
theorem dX3_become_25 : decode cX3_become 25 = .ok (.bipush 6, 2) := by decide +kernel
theorem dX3_become_27 : decode cX3_become 27 = .ok (.invokestatic 35, 3) := by decide +kernel
theorem dX3_become_30 : decode cX3_become 30 = .ok (.aload_n 1, 1) := by decide +kernel
theorem dX3_become_31 : decode cX3_become 31 = .ok (.getfield 18, 3) := by decide +kernel
theorem dX3_become_34 : decode cX3_become 34 = .ok (.iconst 0, 1) := by decide +kernel
theorem dX3_become_35 : decode cX3_become 35 = .ok (.aload_n 0, 1) := by decide +kernel
theorem dX3_become_36 : decode cX3_become 36 = .ok (.getfield 18, 3) := by decide +kernel
theorem dX3_become_39 : decode cX3_become 39 = .ok (.iconst 0, 1) := by decide +kernel
theorem dX3_become_40 : decode cX3_become 40 = .ok (.bipush 6, 2) := by decide +kernel
theorem dX3_become_42 : decode cX3_become 42 = .ok (.invokestatic 35, 3) := by decide +kernel
theorem dX3_become_45 : decode cX3_become 45 = .ok (.aload_n 0, 1) := by decide +kernel
theorem dX3_become_46 : decode cX3_become 46 = .ok (.aload_n 1, 1) := by decide +kernel
theorem dX3_become_47 : decode cX3_become 47 = .ok (.getfield 21, 3) := by decide +kernel
theorem dX3_become_50 : decode cX3_become 50 = .ok (.putfield 21, 3) := by decide +kernel
theorem dX3_become_53 : decode cX3_become 53 = .ok (.aload_n 0, 1) := by decide +kernel
theorem dX3_become_54 : decode cX3_become 54 = .ok (.aload_n 1, 1) := by decide +kernel
theorem dX3_become_55 : decode cX3_become 55 = .ok (.getfield 29, 3) := by decide +kernel
theorem dX3_become_58 : decode cX3_become 58 = .ok (.putfield 29, 3) := by decide +kernel
theorem dX3_become_61 : decode cX3_become 61 = .ok (.aload_n 0, 1) := by decide +kernel
theorem dX3_become_62 : decode cX3_become 62 = .ok (.aload_n 1, 1) := by decide +kernel
theorem dX3_become_63 : decode cX3_become 63 = .ok (.getfield 32, 3) := by decide +kernel
theorem dX3_become_66 : decode cX3_become 66 = .ok (.putfield 32, 3) := by decide +kernel
theorem dX3_become_69 : decode cX3_become 69 = .ok (.return_, 1) := by decide +kernel
theorem dX4_init_0 : decode cX4_init 0 = .ok (.aload_n 0, 1) := by decide +kernel
theorem dX4_init_1 : decode cX4_init 1 = .ok (.invokespecial 3, 3) := by decide +kernel
theorem dX4_init_4 : decode cX4_init 4 = .ok (.aload_n 0, 1) := by decide +kernel
theorem dX4_init_5 : decode cX4_init 5 = .ok (.iconst 4, 1) := by decide +kernel
theorem dX4_init_6 : decode cX4_init 6 = .ok (.anewarray 9, 3) := by decide +kernel
theorem dX4_init_9 : decode cX4_init 9 = .ok (.putfield 11, 3) := by decide +kernel
theorem dX4_init_12 : decode cX4_init 12 = .ok (.aload_n 0, 1) := by decide +kernel
theorem dX4_init_13 : decode cX4_init 13 = .ok (.new 17, 3) := by decide +kernel
theorem dX4_init_16 : decode cX4_init 16 = .ok (.dup, 1) := by decide +kernel
theorem dX4_init_17 : decode cX4_init 17 = .ok (.aload_n 1, 1) := by decide +kernel
theorem dX4_init_18 : decode cX4_init 18 = .ok (.invokespecial 19, 3) := by decide +kernel
theorem dX4_init_21 : decode cX4_init 21 = .ok (.putfield 22, 3) := by decide +kernel
theorem dX4_init_24 : decode cX4_init 24 = .ok (.iconst 0, 1) := by decide +kernel
theorem dX4_init_25 : decode cX4_init 25 = .ok (.istore_n 2, 1) := by decide +kernel
theorem dX4_init_26 : decode cX4_init 26 = .ok (.iload_n 2, 1) := by decide +kernel
theorem dX4_init_27 : decode cX4_init 27 = .ok (.iconst 4, 1) := by decide +kernel
theorem dX4_init_28 : decode cX4_init 28 = .ok (.if_icmp .ge 24, 3) := by decide +kernel
theorem dX4_init_31 : decode cX4_init 31 = .ok (.aload_n 0, 1) := by decide +kernel
theorem dX4_init_32 : decode cX4_init 32 = .ok (.getfield 11, 3) := by decide +kernel
theorem dX4_init_35 : decode cX4_init 35 = .ok (.iload_n 2, 1) := by decide +kernel
theorem dX4_init_36 : decode cX4_init 36 = .ok (.new 9, 3) := by decide +kernel
theorem dX4_init_39 : decode cX4_init 39 = .ok (.dup, 1) := by decide +kernel
theorem dX4_init_40 : decode cX4_init 40 = .ok (.aload_n 1, 1) := by decide +kernel
theorem dX4_init_41 : decode cX4_init 41 = .ok (.iload_n 2, 1) := by decide +kernel
theorem dX4_init_42 : decode cX4_init 42 = .ok (.invokespecial 26, 3) := by decide +kernel
theorem dX4_init_45 : decode cX4_init 45 = .ok (.aastore, 1) := by decide +kernel
theorem dX4_init_46 : decode cX4_init 46 = .ok (.iinc 2 1, 3) := by decide +kernel
theorem dX4_init_49 : decode cX4_init 49 = .ok (.goto (-23), 3) := by decide +kernel
theorem dX4_init_52 : decode cX4_init 52 = .ok (.return_, 1) := by decide +kernel
theorem dX4_begin_0 : decode cX4_begin 0 = .ok (.aload_n 0, 1) := by decide +kernel
theorem dX4_begin_1 : decode cX4_begin 1 = .ok (.getfield 22, 3) := by decide +kernel
theorem dX4_begin_4 : decode cX4_begin 4 = .ok (.invokevirtual 29, 3) := by decide +kernel
theorem dX4_begin_7 : decode cX4_begin 7 = .ok (.aload_n 0, 1) := by decide +kernel
theorem dX4_begin_8 : decode cX4_begin 8 = .ok (.iconst 0, 1) := by decide +kernel
theorem dX4_begin_9 : decode cX4_begin 9 = .ok (.putfield 32, 3) := by decide +kernel
theorem dX4_begin_12 : decode cX4_begin 12 = .ok (.return_, 1) := by decide +kernel
theorem dX4_become_0 : decode cX4_become 0 = .ok (.aload_n 0, 1) := by decide +kernel
theorem dX4_become_1 : decode cX4_become 1 = .ok (.getfield 22, 3) := by decide +kernel
theorem dX4_become_4 : decode cX4_become 4 = .ok (.aload_n 1, 1) := by decide +kernel
theorem dX4_become_5 : decode cX4_become 5 = .ok (.getfield 22, 3) := by decide +kernel
theorem dX4_become_8 : decode cX4_become 8 = .ok (.invokevirtual 36, 3) := by decide +kernel
theorem dX4_become_11 : decode cX4_become 11 = .ok (.aload_n 0, 1) := by decide +kernel
theorem dX4_become_12 : decode cX4_become 12 = .ok (.aload_n 1, 1) := by decide +kernel
theorem dX4_become_13 : decode cX4_become 13 = .ok (.getfield 32, 3) := by decide +kernel
theorem dX4_become_16 : decode cX4_become 16 = .ok (.putfield 32, 3) := by decide +kernel
theorem dX4_become_19 : decode cX4_become 19 = .ok (.iconst 0, 1) := by decide +kernel
theorem dX4_become_20 : decode cX4_become 20 = .ok (.istore_n 2, 1) := by decide +kernel
theorem dX4_become_21 : decode cX4_become 21 = .ok (.iload_n 2, 1) := by decide +kernel
theorem dX4_become_22 : decode cX4_become 22 = .ok (.aload_n 0, 1) := by decide +kernel
theorem dX4_become_23 : decode cX4_become 23 = .ok (.getfield 32, 3) := by decide +kernel
theorem dX4_become_26 : decode cX4_become 26 = .ok (.if_icmp .ge 24, 3) := by decide +kernel
theorem dX4_become_29 : decode cX4_become 29 = .ok (.aload_n 0, 1) := by decide +kernel
theorem dX4_become_30 : decode cX4_become 30 = .ok (.getfield 11, 3) := by decide +kernel
theorem dX4_become_33 : decode cX4_become 33 = .ok (.iload_n 2, 1) := by decide +kernel
theorem dX4_become_34 : decode cX4_become 34 = .ok (.aaload, 1) := by decide +kernel
theorem dX4_become_35 : decode cX4_become 35 = .ok (.aload_n 1, 1) := by decide +kernel
theorem dX4_become_36 : decode cX4_become 36 = .ok (.getfield 11, 3) := by decide +kernel
theorem dX4_become_39 : decode cX4_become 39 = .ok (.iload_n 2, 1) := by decide +kernel
theorem dX4_become_40 : decode cX4_become 40 = .ok (.aaload, 1) := by decide +kernel
theorem dX4_become_41 : decode cX4_become 41 = .ok (.invokevirtual 40, 3) := by decide +kernel
theorem dX4_become_44 : decode cX4_become 44 = .ok (.iinc 2 1, 3) := by decide +kernel
theorem dX4_become_47 : decode cX4_become 47 = .ok (.goto (-26), 3) := by decide +kernel
theorem dX4_become_50 : decode cX4_become 50 = .ok (.return_, 1) := by decide +kernel
theorem dX4_hasListener_0 : decode cX4_hasListener 0 = .ok (.iload_n 1, 1) := by decide +kernel
theorem dX4_hasListener_1 : decode cX4_hasListener 1 = .ok (.ifCond .lt 15, 3) := by decide +kernel
theorem dX4_hasListener_4 : decode cX4_hasListener 4 = .ok (.iload_n 1, 1) := by decide +kernel
theorem dX4_hasListener_5 : decode cX4_hasListener 5 = .ok (.aload_n 0, 1) := by decide +kernel
theorem dX4_hasListener_6 : decode cX4_hasListener 6 = .ok (.getfield 32, 3) := by decide +kernel
theorem dX4_hasListener_9 : decode cX4_hasListener 9 = .ok (.if_icmp .ge 7, 3) := by decide +kernel
theorem dX4_hasListener_12 : decode cX4_hasListener 12 = .ok (.iconst 1, 1) := by decide +kernel
theorem dX4_hasListener_13 : decode cX4_hasListener 13 = .ok (.goto 4, 3) := by decide +kernel
theorem dX4_hasListener_16 : decode cX4_hasListener 16 = .ok (.iconst 0, 1) := by decide +kernel
theorem dX4_hasListener_17 : decode cX4_hasListener 17 = .ok (.ireturn, 1) := by decide +kernel
theorem dX4_hasRoom_0 : decode cX4_hasRoom 0 = .ok (.aload_n 0, 1) := by decide +kernel
theorem dX4_hasRoom_1 : decode cX4_hasRoom 1 = .ok (.getfield 32, 3) := by decide +kernel
theorem dX4_hasRoom_4 : decode cX4_hasRoom 4 = .ok (.ifCond .lt 15, 3) := by decide +kernel
theorem dX4_hasRoom_7 : decode cX4_hasRoom 7 = .ok (.aload_n 0, 1) := by decide +kernel
theorem dX4_hasRoom_8 : decode cX4_hasRoom 8 = .ok (.getfield 32, 3) := by decide +kernel
theorem dX4_hasRoom_11 : decode cX4_hasRoom 11 = .ok (.iconst 4, 1) := by decide +kernel
theorem dX4_hasRoom_12 : decode cX4_hasRoom 12 = .ok (.if_icmp .ge 7, 3) := by decide +kernel
theorem dX4_hasRoom_15 : decode cX4_hasRoom 15 = .ok (.iconst 1, 1) := by decide +kernel
theorem dX4_hasRoom_16 : decode cX4_hasRoom 16 = .ok (.goto 4, 3) := by decide +kernel
theorem dX4_hasRoom_19 : decode cX4_hasRoom 19 = .ok (.iconst 0, 1) := by decide +kernel
theorem dX4_hasRoom_20 : decode cX4_hasRoom 20 = .ok (.ireturn, 1) := by decide +kernel
theorem dX4_addListener_0 : decode cX4_addListener 0 = .ok (.aload_n 0, 1) := by decide +kernel
theorem dX4_addListener_1 : decode cX4_addListener 1 = .ok (.getfield 32, 3) := by decide +kernel
theorem dX4_addListener_4 : decode cX4_addListener 4 = .ok (.istore_n 2, 1) := by decide +kernel
theorem dX4_addListener_5 : decode cX4_addListener 5 = .ok (.aload_n 0, 1) := by decide +kernel
theorem dX4_addListener_6 : decode cX4_addListener 6 = .ok (.getfield 11, 3) := by decide +kernel
theorem dX4_addListener_9 : decode cX4_addListener 9 = .ok (.iload_n 2, 1) := by decide +kernel
theorem dX4_addListener_10 : decode cX4_addListener 10 = .ok (.aaload, 1) := by decide +kernel
theorem dX4_addListener_11 : decode cX4_addListener 11 = .ok (.iload_n 1, 1) := by decide +kernel
theorem dX4_addListener_12 : decode cX4_addListener 12 = .ok (.aload_n 0, 1) := by decide +kernel
theorem dX4_addListener_13 : decode cX4_addListener 13 = .ok (.getfield 22, 3) := by decide +kernel
theorem dX4_addListener_16 : decode cX4_addListener 16 = .ok (.getfield 43, 3) := by decide +kernel
theorem dX4_addListener_19 : decode cX4_addListener 19 = .ok (.invokevirtual 46, 3) := by decide +kernel
theorem dX4_addListener_22 : decode cX4_addListener 22 = .ok (.aload_n 0, 1) := by decide +kernel
theorem dX4_addListener_23 : decode cX4_addListener 23 = .ok (.iload_n 2, 1) := by decide +kernel
theorem dX4_addListener_24 : decode cX4_addListener 24 = .ok (.iconst 1, 1) := by decide +kernel
theorem dX4_addListener_25 : decode cX4_addListener 25 = .ok (.iadd, 1) := by decide +kernel
theorem dX4_addListener_26 : decode cX4_addListener 26 = .ok (.putfield 32, 3) := by decide +kernel
theorem dX4_addListener_29 : decode cX4_addListener 29 = .ok (.iload_n 2, 1) := by decide +kernel
theorem dX4_addListener_30 : decode cX4_addListener 30 = .ok (.ireturn, 1) := by decide +kernel
theorem dX4_advance_0 : decode cX4_advance 0 = .ok (.aload_n 0, 1) := by decide +kernel
theorem dX4_advance_1 : decode cX4_advance 1 = .ok (.getfield 22, 3) := by decide +kernel
theorem dX4_advance_4 : decode cX4_advance 4 = .ok (.getfield 43, 3) := by decide +kernel
theorem dX4_advance_7 : decode cX4_advance 7 = .ok (.istore_n 1, 1) := by decide +kernel
theorem dX4_advance_8 : decode cX4_advance 8 = .ok (.aload_n 0, 1) := by decide +kernel
theorem dX4_advance_9 : decode cX4_advance 9 = .ok (.getfield 22, 3) := by decide +kernel
theorem dX4_advance_12 : decode cX4_advance 12 = .ok (.invokevirtual 50, 3) := by decide +kernel
theorem dX4_advance_15 : decode cX4_advance 15 = .ok (.iconst 0, 1) := by decide +kernel
theorem dX4_advance_16 : decode cX4_advance 16 = .ok (.istore_n 2, 1) := by decide +kernel
theorem dX4_advance_17 : decode cX4_advance 17 = .ok (.iload_n 2, 1) := by decide +kernel
theorem dX4_advance_18 : decode cX4_advance 18 = .ok (.aload_n 0, 1) := by decide +kernel
theorem dX4_advance_19 : decode cX4_advance 19 = .ok (.getfield 32, 3) := by decide +kernel
theorem dX4_advance_22 : decode cX4_advance 22 = .ok (.if_icmp .ge 23, 3) := by decide +kernel
theorem dX4_advance_25 : decode cX4_advance 25 = .ok (.aload_n 0, 1) := by decide +kernel
theorem dX4_advance_26 : decode cX4_advance 26 = .ok (.getfield 11, 3) := by decide +kernel
theorem dX4_advance_29 : decode cX4_advance 29 = .ok (.iload_n 2, 1) := by decide +kernel
theorem dX4_advance_30 : decode cX4_advance 30 = .ok (.aaload, 1) := by decide +kernel
theorem dX4_advance_31 : decode cX4_advance 31 = .ok (.aload_n 0, 1) := by decide +kernel
theorem dX4_advance_32 : decode cX4_advance 32 = .ok (.getfield 22, 3) := by decide +kernel
theorem dX4_advance_35 : decode cX4_advance 35 = .ok (.iload_n 1, 1) := by decide +kernel
theorem dX4_advance_36 : decode cX4_advance 36 = .ok (.invokevirtual 53, 3) := by decide +kernel
theorem dX4_advance_39 : decode cX4_advance 39 = .ok (.iinc 2 1, 3) := by decide +kernel
theorem dX4_advance_42 : decode cX4_advance 42 = .ok (.goto (-25), 3) := by decide +kernel
theorem dX4_advance_45 : decode cX4_advance 45 = .ok (.return_, 1) := by decide +kernel
theorem dX5_init_0 : decode cX5_init 0 = .ok (.aload_n 0, 1) := by decide +kernel
theorem dX5_init_1 : decode cX5_init 1 = .ok (.invokespecial 3, 3) := by decide +kernel
theorem dX5_init_4 : decode cX5_init 4 = .ok (.aload_n 0, 1) := by decide +kernel
theorem dX5_init_5 : decode cX5_init 5 = .ok (.sipush 200, 3) := by decide +kernel
theorem dX5_init_8 : decode cX5_init 8 = .ok (.newarray .int, 2) := by decide +kernel
theorem dX5_init_10 : decode cX5_init 10 = .ok (.putfield 9, 3) := by decide +kernel
theorem dX5_init_13 : decode cX5_init 13 = .ok (.return_, 1) := by decide +kernel
theorem dX5_append_0 : decode cX5_append 0 = .ok (.aload_n 0, 1) := by decide +kernel
theorem dX5_append_1 : decode cX5_append 1 = .ok (.getfield 15, 3) := by decide +kernel
theorem dX5_append_4 : decode cX5_append 4 = .ok (.ifCond .lt 13, 3) := by decide +kernel
theorem dX5_append_7 : decode cX5_append 7 = .ok (.aload_n 0, 1) := by decide +kernel
theorem dX5_append_8 : decode cX5_append 8 = .ok (.getfield 15, 3) := by decide +kernel
theorem dX5_append_11 : decode cX5_append 11 = .ok (.sipush 200, 3) := by decide +kernel
theorem dX5_append_14 : decode cX5_append 14 = .ok (.if_icmp .lt 5, 3) := by decide +kernel
theorem dX5_append_17 : decode cX5_append 17 = .ok (.iconst 0, 1) := by decide +kernel
theorem dX5_append_18 : decode cX5_append 18 = .ok (.ireturn, 1) := by decide +kernel
theorem dX5_append_19 : decode cX5_append 19 = .ok (.aload_n 0, 1) := by decide +kernel
theorem dX5_append_20 : decode cX5_append 20 = .ok (.getfield 9, 3) := by decide +kernel
theorem dX5_append_23 : decode cX5_append 23 = .ok (.aload_n 0, 1) := by decide +kernel
theorem dX5_append_24 : decode cX5_append 24 = .ok (.getfield 15, 3) := by decide +kernel
theorem dX5_append_27 : decode cX5_append 27 = .ok (.iload_n 1, 1) := by decide +kernel
theorem dX5_append_28 : decode cX5_append 28 = .ok (.iastore, 1) := by decide +kernel
theorem dX5_append_29 : decode cX5_append 29 = .ok (.aload_n 0, 1) := by decide +kernel
theorem dX5_append_30 : decode cX5_append 30 = .ok (.dup, 1) := by decide +kernel
theorem dX5_append_31 : decode cX5_append 31 = .ok (.getfield 15, 3) := by decide +kernel
theorem dX5_append_34 : decode cX5_append 34 = .ok (.iconst 1, 1) := by decide +kernel
theorem dX5_append_35 : decode cX5_append 35 = .ok (.iadd, 1) := by decide +kernel
theorem dX5_append_36 : decode cX5_append 36 = .ok (.putfield 15, 3) := by decide +kernel
theorem dX5_append_39 : decode cX5_append 39 = .ok (.iconst 1, 1) := by decide +kernel
theorem dX5_append_40 : decode cX5_append 40 = .ok (.ireturn, 1) := by decide +kernel
theorem dX5_firstFault_0 : decode cX5_firstFault 0 = .ok (.aload_n 1, 1) := by decide +kernel
theorem dX5_firstFault_1 : decode cX5_firstFault 1 = .ok (.invokevirtual 19, 3) := by decide +kernel
theorem dX5_firstFault_4 : decode cX5_firstFault 4 = .ok (.aload_n 0, 1) := by decide +kernel
theorem dX5_firstFault_5 : decode cX5_firstFault 5 = .ok (.iconst 0, 1) := by decide +kernel
theorem dX5_firstFault_6 : decode cX5_firstFault 6 = .ok (.putfield 24, 3) := by decide +kernel
theorem dX5_firstFault_9 : decode cX5_firstFault 9 = .ok (.iconst 0, 1) := by decide +kernel
theorem dX5_firstFault_10 : decode cX5_firstFault 10 = .ok (.istore_n 2, 1) := by decide +kernel
theorem dX5_firstFault_11 : decode cX5_firstFault 11 = .ok (.iload_n 2, 1) := by decide +kernel
theorem dX5_firstFault_12 : decode cX5_firstFault 12 = .ok (.sipush 200, 3) := by decide +kernel
theorem dX5_firstFault_15 : decode cX5_firstFault 15 = .ok (.if_icmp .ge 35, 3) := by decide +kernel
theorem dX5_firstFault_18 : decode cX5_firstFault 18 = .ok (.aload_n 0, 1) := by decide +kernel
theorem dX5_firstFault_19 : decode cX5_firstFault 19 = .ok (.getfield 24, 3) := by decide +kernel
theorem dX5_firstFault_22 : decode cX5_firstFault 22 = .ok (.aload_n 0, 1) := by decide +kernel
theorem dX5_firstFault_23 : decode cX5_firstFault 23 = .ok (.getfield 15, 3) := by decide +kernel
theorem dX5_firstFault_26 : decode cX5_firstFault 26 = .ok (.if_icmp .ge 24, 3) := by decide +kernel
theorem dX5_firstFault_29 : decode cX5_firstFault 29 = .ok (.aload_n 0, 1) := by decide +kernel
theorem dX5_firstFault_30 : decode cX5_firstFault 30 = .ok (.getfield 24, 3) := by decide +kernel
theorem dX5_firstFault_33 : decode cX5_firstFault 33 = .ok (.istore_n 3, 1) := by decide +kernel
theorem dX5_firstFault_34 : decode cX5_firstFault 34 = .ok (.aload_n 0, 1) := by decide +kernel
theorem dX5_firstFault_35 : decode cX5_firstFault 35 = .ok (.aload_n 1, 1) := by decide +kernel
theorem dX5_firstFault_36 : decode cX5_firstFault 36 = .ok (.invokevirtual 27, 3) := by decide +kernel
theorem dX5_firstFault_39 : decode cX5_firstFault 39 = .ok (.ifCond .ne 5, 3) := by decide +kernel
theorem dX5_firstFault_42 : decode cX5_firstFault 42 = .ok (.iload_n 3, 1) := by decide +kernel
theorem dX5_firstFault_43 : decode cX5_firstFault 43 = .ok (.ireturn, 1) := by decide +kernel
theorem dX5_firstFault_44 : decode cX5_firstFault 44 = .ok (.iinc 2 1, 3) := by decide +kernel
theorem dX5_firstFault_47 : decode cX5_firstFault 47 = .ok (.goto (-36), 3) := by decide +kernel
theorem dX5_firstFault_50 : decode cX5_firstFault 50 = .ok (.bipush (-4), 2) := by decide +kernel
theorem dX5_firstFault_52 : decode cX5_firstFault 52 = .ok (.ireturn, 1) := by decide +kernel
theorem dX5_readItem_0 : decode cX5_readItem 0 = .ok (.aload_n 0, 1) := by decide +kernel
theorem dX5_readItem_1 : decode cX5_readItem 1 = .ok (.bipush 102, 2) := by decide +kernel
theorem dX5_readItem_3 : decode cX5_readItem 3 = .ok (.invokevirtual 31, 3) := by decide +kernel
theorem dX5_readItem_6 : decode cX5_readItem 6 = .ok (.ifCond .eq 9, 3) := by decide +kernel
theorem dX5_readItem_9 : decode cX5_readItem 9 = .ok (.aload_n 0, 1) := by decide +kernel
theorem dX5_readItem_10 : decode cX5_readItem 10 = .ok (.aload_n 1, 1) := by decide +kernel
theorem dX5_readItem_11 : decode cX5_readItem 11 = .ok (.invokevirtual 35, 3) := by decide +kernel
theorem dX5_readItem_14 : decode cX5_readItem 14 = .ok (.ireturn, 1) := by decide +kernel
theorem dX5_readItem_15 : decode cX5_readItem 15 = .ok (.aload_n 0, 1) := by decide +kernel
theorem dX5_readItem_16 : decode cX5_readItem 16 = .ok (.bipush 116, 2) := by decide +kernel
theorem dX5_readItem_18 : decode cX5_readItem 18 = .ok (.invokevirtual 31, 3) := by decide +kernel
theorem dX5_readItem_21 : decode cX5_readItem 21 = .ok (.ifCond .eq 15, 3) := by decide +kernel
theorem dX5_readItem_24 : decode cX5_readItem 24 = .ok (.aload_n 0, 1) := by decide +kernel
theorem dX5_readItem_25 : decode cX5_readItem 25 = .ok (.aload_n 1, 1) := by decide +kernel
theorem dX5_readItem_26 : decode cX5_readItem 26 = .ok (.invokevirtual 38, 3) := by decide +kernel
theorem dX5_readItem_29 : decode cX5_readItem 29 = .ok (.ifCond .eq 7, 3) := by decide +kernel
theorem dX5_readItem_32 : decode cX5_readItem 32 = .ok (.iconst 1, 1) := by decide +kernel
theorem dX5_readItem_33 : decode cX5_readItem 33 = .ok (.goto 4, 3) := by decide +kernel
theorem dX5_readItem_36 : decode cX5_readItem 36 = .ok (.iconst 0, 1) := by decide +kernel
theorem dX5_readItem_37 : decode cX5_readItem 37 = .ok (.ireturn, 1) := by decide +kernel
theorem dX5_readFile_0 : decode cX5_readFile 0 = .ok (.aload_n 0, 1) := by decide +kernel
theorem dX5_readFile_1 : decode cX5_readFile 1 = .ok (.bipush 44, 2) := by decide +kernel
theorem dX5_readFile_3 : decode cX5_readFile 3 = .ok (.invokevirtual 41, 3) := by decide +kernel
theorem dX5_readFile_6 : decode cX5_readFile 6 = .ok (.istore_n 2, 1) := by decide +kernel
theorem dX5_readFile_7 : decode cX5_readFile 7 = .ok (.aload_n 0, 1) := by decide +kernel
theorem dX5_readFile_8 : decode cX5_readFile 8 = .ok (.bipush 44, 2) := by decide +kernel
theorem dX5_readFile_10 : decode cX5_readFile 10 = .ok (.invokevirtual 41, 3) := by decide +kernel
theorem dX5_readFile_13 : decode cX5_readFile 13 = .ok (.istore_n 3, 1) := by decide +kernel
theorem dX5_readFile_14 : decode cX5_readFile 14 = .ok (.aload_n 0, 1) := by decide +kernel
theorem dX5_readFile_15 : decode cX5_readFile 15 = .ok (.bipush 59, 2) := by decide +kernel
theorem dX5_readFile_17 : decode cX5_readFile 17 = .ok (.invokevirtual 41, 3) := by decide +kernel
theorem dX5_readFile_20 : decode cX5_readFile 20 = .ok (.istore 4, 2) := by decide +kernel
theorem dX5_readFile_22 : decode cX5_readFile 22 = .ok (.iload_n 2, 1) := by decide +kernel
theorem dX5_readFile_23 : decode cX5_readFile 23 = .ok (.iconst 1, 1) := by decide +kernel
theorem dX5_readFile_24 : decode cX5_readFile 24 = .ok (.if_icmp .lt 19, 3) := by decide +kernel
theorem dX5_readFile_27 : decode cX5_readFile 27 = .ok (.iload_n 2, 1) := by decide +kernel
theorem dX5_readFile_28 : decode cX5_readFile 28 = .ok (.bipush 12, 2) := by decide +kernel
theorem dX5_readFile_30 : decode cX5_readFile 30 = .ok (.if_icmp .gt 13, 3) := by decide +kernel
theorem dX5_readFile_33 : decode cX5_readFile 33 = .ok (.iload_n 3, 1) := by decide +kernel
theorem dX5_readFile_34 : decode cX5_readFile 34 = .ok (.ifCond .lt 9, 3) := by decide +kernel
theorem dX5_readFile_37 : decode cX5_readFile 37 = .ok (.iload_n 3, 1) := by decide +kernel
theorem dX5_readFile_38 : decode cX5_readFile 38 = .ok (.bipush 6, 2) := by decide +kernel
theorem dX5_readFile_40 : decode cX5_readFile 40 = .ok (.if_icmp .le 5, 3) := by decide +kernel
theorem dX5_readFile_43 : decode cX5_readFile 43 = .ok (.iconst 0, 1) := by decide +kernel
theorem dX5_readFile_44 : decode cX5_readFile 44 = .ok (.ireturn, 1) := by decide +kernel
theorem dX5_readFile_45 : decode cX5_readFile 45 = .ok (.iload 4, 2) := by decide +kernel
theorem dX5_readFile_47 : decode cX5_readFile 47 = .ok (.iconst 1, 1) := by decide +kernel
theorem dX5_readFile_48 : decode cX5_readFile 48 = .ok (.if_icmp .lt 25, 3) := by decide +kernel
theorem dX5_readFile_51 : decode cX5_readFile 51 = .ok (.iload 4, 2) := by decide +kernel
theorem dX5_readFile_53 : decode cX5_readFile 53 = .ok (.bipush 9, 2) := by decide +kernel
theorem dX5_readFile_55 : decode cX5_readFile 55 = .ok (.if_icmp .gt 18, 3) := by decide +kernel
theorem dX5_readFile_58 : decode cX5_readFile 58 = .ok (.aload_n 1, 1) := by decide +kernel
theorem dX5_readFile_59 : decode cX5_readFile 59 = .ok (.iload_n 2, 1) := by decide +kernel
theorem dX5_readFile_60 : decode cX5_readFile 60 = .ok (.iload_n 3, 1) := by decide +kernel
theorem dX5_readFile_61 : decode cX5_readFile 61 = .ok (.iload 4, 2) := by decide +kernel
theorem dX5_readFile_63 : decode cX5_readFile 63 = .ok (.invokevirtual 45, 3) := by decide +kernel
theorem dX5_readFile_66 : decode cX5_readFile 66 = .ok (.ifCond .eq 7, 3) := by decide +kernel
theorem dX5_readFile_69 : decode cX5_readFile 69 = .ok (.iconst 1, 1) := by decide +kernel
theorem dX5_readFile_70 : decode cX5_readFile 70 = .ok (.goto 4, 3) := by decide +kernel
theorem dX5_readFile_73 : decode cX5_readFile 73 = .ok (.iconst 0, 1) := by decide +kernel
theorem dX5_readFile_74 : decode cX5_readFile 74 = .ok (.ireturn, 1) := by decide +kernel
theorem dX5_readTable_0 : decode cX5_readTable 0 = .ok (.aload_n 0, 1) := by decide +kernel
theorem dX5_readTable_1 : decode cX5_readTable 1 = .ok (.bipush 44, 2) := by decide +kernel
theorem dX5_readTable_3 : decode cX5_readTable 3 = .ok (.invokevirtual 41, 3) := by decide +kernel
theorem dX5_readTable_6 : decode cX5_readTable 6 = .ok (.istore_n 2, 1) := by decide +kernel
theorem dX5_readTable_7 : decode cX5_readTable 7 = .ok (.aload_n 0, 1) := by decide +kernel
theorem dX5_readTable_8 : decode cX5_readTable 8 = .ok (.bipush 59, 2) := by decide +kernel
theorem dX5_readTable_10 : decode cX5_readTable 10 = .ok (.invokevirtual 41, 3) := by decide +kernel
theorem dX5_readTable_13 : decode cX5_readTable 13 = .ok (.istore_n 3, 1) := by decide +kernel
theorem dX5_readTable_14 : decode cX5_readTable 14 = .ok (.iload_n 2, 1) := by decide +kernel
theorem dX5_readTable_15 : decode cX5_readTable 15 = .ok (.iconst 3, 1) := by decide +kernel
theorem dX5_readTable_16 : decode cX5_readTable 16 = .ok (.if_icmp .lt 14, 3) := by decide +kernel
theorem dX5_readTable_19 : decode cX5_readTable 19 = .ok (.iload_n 2, 1) := by decide +kernel
theorem dX5_readTable_20 : decode cX5_readTable 20 = .ok (.bipush 20, 2) := by decide +kernel
theorem dX5_readTable_22 : decode cX5_readTable 22 = .ok (.if_icmp .gt 8, 3) := by decide +kernel
theorem dX5_readTable_25 : decode cX5_readTable 25 = .ok (.iload_n 3, 1) := by decide +kernel
theorem dX5_readTable_26 : decode cX5_readTable 26 = .ok (.iconst 1, 1) := by decide +kernel
theorem dX5_readTable_27 : decode cX5_readTable 27 = .ok (.if_icmp .ge 5, 3) := by decide +kernel
theorem dX5_readTable_30 : decode cX5_readTable 30 = .ok (.iconst 0, 1) := by decide +kernel
theorem dX5_readTable_31 : decode cX5_readTable 31 = .ok (.ireturn, 1) := by decide +kernel
theorem dX5_readTable_32 : decode cX5_readTable 32 = .ok (.aload_n 1, 1) := by decide +kernel
theorem dX5_readTable_33 : decode cX5_readTable 33 = .ok (.iload_n 2, 1) := by decide +kernel
theorem dX5_readTable_34 : decode cX5_readTable 34 = .ok (.iload_n 3, 1) := by decide +kernel
theorem dX5_readTable_35 : decode cX5_readTable 35 = .ok (.invokevirtual 49, 3) := by decide +kernel
theorem dX5_readTable_38 : decode cX5_readTable 38 = .ok (.iconst 1, 1) := by decide +kernel
theorem dX5_readTable_39 : decode cX5_readTable 39 = .ok (.ireturn, 1) := by decide +kernel
theorem dX5_readNumber_0 : decode cX5_readNumber 0 = .ok (.aload_n 0, 1) := by decide +kernel
theorem dX5_readNumber_1 : decode cX5_readNumber 1 = .ok (.invokevirtual 53, 3) := by decide +kernel
theorem dX5_readNumber_4 : decode cX5_readNumber 4 = .ok (.istore_n 2, 1) := by decide +kernel
theorem dX5_readNumber_5 : decode cX5_readNumber 5 = .ok (.iload_n 2, 1) := by decide +kernel
theorem dX5_readNumber_6 : decode cX5_readNumber 6 = .ok (.iconst (-1), 1) := by decide +kernel
theorem dX5_readNumber_7 : decode cX5_readNumber 7 = .ok (.if_icmp .ne 5, 3) := by decide +kernel
theorem dX5_readNumber_10 : decode cX5_readNumber 10 = .ok (.iconst (-1), 1) := by decide +kernel
theorem dX5_readNumber_11 : decode cX5_readNumber 11 = .ok (.ireturn, 1) := by decide +kernel
theorem dX5_readNumber_12 : decode cX5_readNumber 12 = .ok (.aload_n 0, 1) := by decide +kernel
theorem dX5_readNumber_13 : decode cX5_readNumber 13 = .ok (.invokevirtual 53, 3) := by decide +kernel
theorem dX5_readNumber_16 : decode cX5_readNumber 16 = .ok (.istore_n 3, 1) := by decide +kernel
theorem dX5_readNumber_17 : decode cX5_readNumber 17 = .ok (.iload_n 3, 1) := by decide +kernel
theorem dX5_readNumber_18 : decode cX5_readNumber 18 = .ok (.iconst (-1), 1) := by decide +kernel
theorem dX5_readNumber_19 : decode cX5_readNumber 19 = .ok (.if_icmp .eq 10, 3) := by decide +kernel
theorem dX5_readNumber_22 : decode cX5_readNumber 22 = .ok (.iload_n 2, 1) := by decide +kernel
theorem dX5_readNumber_23 : decode cX5_readNumber 23 = .ok (.bipush 10, 2) := by decide +kernel
theorem dX5_readNumber_25 : decode cX5_readNumber 25 = .ok (.imul, 1) := by decide +kernel
theorem dX5_readNumber_26 : decode cX5_readNumber 26 = .ok (.iload_n 3, 1) := by decide +kernel
theorem dX5_readNumber_27 : decode cX5_readNumber 27 = .ok (.iadd, 1) := by decide +kernel
theorem dX5_readNumber_28 : decode cX5_readNumber 28 = .ok (.istore_n 2, 1) := by decide +kernel
theorem dX5_readNumber_29 : decode cX5_readNumber 29 = .ok (.aload_n 0, 1) := by decide +kernel
theorem dX5_readNumber_30 : decode cX5_readNumber 30 = .ok (.iload_n 1, 1) := by decide +kernel
theorem dX5_readNumber_31 : decode cX5_readNumber 31 = .ok (.invokevirtual 31, 3) := by decide +kernel
theorem dX5_readNumber_34 : decode cX5_readNumber 34 = .ok (.ifCond .eq 7, 3) := by decide +kernel
theorem dX5_readNumber_37 : decode cX5_readNumber 37 = .ok (.iload_n 2, 1) := by decide +kernel
theorem dX5_readNumber_38 : decode cX5_readNumber 38 = .ok (.goto 4, 3) := by decide +kernel
theorem dX5_readNumber_41 : decode cX5_readNumber 41 = .ok (.iconst (-1), 1) := by decide +kernel
theorem dX5_readNumber_42 : decode cX5_readNumber 42 = .ok (.ireturn, 1) := by decide +kernel
theorem dX5_readFigure_0 : decode cX5_readFigure 0 = .ok (.aload_n 0, 1) := by decide +kernel
theorem dX5_readFigure_1 : decode cX5_readFigure 1 = .ok (.getfield 24, 3) := by decide +kernel
theorem dX5_readFigure_4 : decode cX5_readFigure 4 = .ok (.ifCond .lt 42, 3) := by decide +kernel
theorem dX5_readFigure_7 : decode cX5_readFigure 7 = .ok (.aload_n 0, 1) := by decide +kernel
theorem dX5_readFigure_8 : decode cX5_readFigure 8 = .ok (.getfield 24, 3) := by decide +kernel
theorem dX5_readFigure_11 : decode cX5_readFigure 11 = .ok (.aload_n 0, 1) := by decide +kernel
theorem dX5_readFigure_12 : decode cX5_readFigure 12 = .ok (.getfield 15, 3) := by decide +kernel
theorem dX5_readFigure_15 : decode cX5_readFigure 15 = .ok (.if_icmp .ge 31, 3) := by decide +kernel
theorem dX5_readFigure_18 : decode cX5_readFigure 18 = .ok (.aload_n 0, 1) := by decide +kernel
theorem dX5_readFigure_19 : decode cX5_readFigure 19 = .ok (.getfield 9, 3) := by decide +kernel
theorem dX5_readFigure_22 : decode cX5_readFigure 22 = .ok (.aload_n 0, 1) := by decide +kernel
theorem dX5_readFigure_23 : decode cX5_readFigure 23 = .ok (.getfield 24, 3) := by decide +kernel
theorem dX5_readFigure_26 : decode cX5_readFigure 26 = .ok (.iaload, 1) := by decide +kernel
theorem dX5_readFigure_27 : decode cX5_readFigure 27 = .ok (.bipush 48, 2) := by decide +kernel
theorem dX5_readFigure_29 : decode cX5_readFigure 29 = .ok (.if_icmp .lt 17, 3) := by decide +kernel
theorem dX5_readFigure_32 : decode cX5_readFigure 32 = .ok (.aload_n 0, 1) := by decide +kernel
theorem dX5_readFigure_33 : decode cX5_readFigure 33 = .ok (.getfield 9, 3) := by decide +kernel
theorem dX5_readFigure_36 : decode cX5_readFigure 36 = .ok (.aload_n 0, 1) := by decide +kernel
theorem dX5_readFigure_37 : decode cX5_readFigure 37 = .ok (.getfield 24, 3) := by decide +kernel
theorem dX5_readFigure_40 : decode cX5_readFigure 40 = .ok (.iaload, 1) := by decide +kernel
theorem dX5_readFigure_41 : decode cX5_readFigure 41 = .ok (.bipush 57, 2) := by decide +kernel
theorem dX5_readFigure_43 : decode cX5_readFigure 43 = .ok (.if_icmp .le 5, 3) := by decide +kernel
theorem dX5_readFigure_46 : decode cX5_readFigure 46 = .ok (.iconst (-1), 1) := by decide +kernel
theorem dX5_readFigure_47 : decode cX5_readFigure 47 = .ok (.ireturn, 1) := by decide +kernel
theorem dX5_readFigure_48 : decode cX5_readFigure 48 = .ok (.aload_n 0, 1) := by decide +kernel
theorem dX5_readFigure_49 : decode cX5_readFigure 49 = .ok (.getfield 9, 3) := by decide +kernel
theorem dX5_readFigure_52 : decode cX5_readFigure 52 = .ok (.aload_n 0, 1) := by decide +kernel
theorem dX5_readFigure_53 : decode cX5_readFigure 53 = .ok (.getfield 24, 3) := by decide +kernel
theorem dX5_readFigure_56 : decode cX5_readFigure 56 = .ok (.iaload, 1) := by decide +kernel
theorem dX5_readFigure_57 : decode cX5_readFigure 57 = .ok (.bipush 48, 2) := by decide +kernel
theorem dX5_readFigure_59 : decode cX5_readFigure 59 = .ok (.isub, 1) := by decide +kernel
theorem dX5_readFigure_60 : decode cX5_readFigure 60 = .ok (.istore_n 1, 1) := by decide +kernel
theorem dX5_readFigure_61 : decode cX5_readFigure 61 = .ok (.aload_n 0, 1) := by decide +kernel
theorem dX5_readFigure_62 : decode cX5_readFigure 62 = .ok (.dup, 1) := by decide +kernel
theorem dX5_readFigure_63 : decode cX5_readFigure 63 = .ok (.getfield 24, 3) := by decide +kernel
theorem dX5_readFigure_66 : decode cX5_readFigure 66 = .ok (.iconst 1, 1) := by decide +kernel
theorem dX5_readFigure_67 : decode cX5_readFigure 67 = .ok (.iadd, 1) := by decide +kernel
theorem dX5_readFigure_68 : decode cX5_readFigure 68 = .ok (.putfield 24, 3) := by decide +kernel
theorem dX5_readFigure_71 : decode cX5_readFigure 71 = .ok (.iload_n 1, 1) := by decide +kernel
theorem dX5_readFigure_72 : decode cX5_readFigure 72 = .ok (.ireturn, 1) := by decide +kernel
theorem dX5_takes_0 : decode cX5_takes 0 = .ok (.aload_n 0, 1) := by decide +kernel
theorem dX5_takes_1 : decode cX5_takes 1 = .ok (.getfield 24, 3) := by decide +kernel
theorem dX5_takes_4 : decode cX5_takes 4 = .ok (.ifCond .lt 27, 3) := by decide +kernel
theorem dX5_takes_7 : decode cX5_takes 7 = .ok (.aload_n 0, 1) := by decide +kernel
theorem dX5_takes_8 : decode cX5_takes 8 = .ok (.getfield 24, 3) := by decide +kernel
theorem dX5_takes_11 : decode cX5_takes 11 = .ok (.aload_n 0, 1) := by decide +kernel
theorem dX5_takes_12 : decode cX5_takes 12 = .ok (.getfield 15, 3) := by decide +kernel
theorem dX5_takes_15 : decode cX5_takes 15 = .ok (.if_icmp .ge 16, 3) := by decide +kernel
theorem dX5_takes_18 : decode cX5_takes 18 = .ok (.aload_n 0, 1) := by decide +kernel
theorem dX5_takes_19 : decode cX5_takes 19 = .ok (.getfield 9, 3) := by decide +kernel
theorem dX5_takes_22 : decode cX5_takes 22 = .ok (.aload_n 0, 1) := by decide +kernel
theorem dX5_takes_23 : decode cX5_takes 23 = .ok (.getfield 24, 3) := by decide +kernel
theorem dX5_takes_26 : decode cX5_takes 26 = .ok (.iaload, 1) := by decide +kernel
theorem dX5_takes_27 : decode cX5_takes 27 = .ok (.iload_n 1, 1) := by decide +kernel
theorem dX5_takes_28 : decode cX5_takes 28 = .ok (.if_icmp .eq 5, 3) := by decide +kernel
theorem dX5_takes_31 : decode cX5_takes 31 = .ok (.iconst 0, 1) := by decide +kernel
theorem dX5_takes_32 : decode cX5_takes 32 = .ok (.ireturn, 1) := by decide +kernel
theorem dX5_takes_33 : decode cX5_takes 33 = .ok (.aload_n 0, 1) := by decide +kernel
theorem dX5_takes_34 : decode cX5_takes 34 = .ok (.dup, 1) := by decide +kernel
theorem dX5_takes_35 : decode cX5_takes 35 = .ok (.getfield 24, 3) := by decide +kernel
theorem dX5_takes_38 : decode cX5_takes 38 = .ok (.iconst 1, 1) := by decide +kernel
theorem dX5_takes_39 : decode cX5_takes 39 = .ok (.iadd, 1) := by decide +kernel
theorem dX5_takes_40 : decode cX5_takes 40 = .ok (.putfield 24, 3) := by decide +kernel
theorem dX5_takes_43 : decode cX5_takes 43 = .ok (.iconst 1, 1) := by decide +kernel
theorem dX5_takes_44 : decode cX5_takes 44 = .ok (.ireturn, 1) := by decide +kernel
theorem dX6_init_0 : decode cX6_init 0 = .ok (.aload_n 0, 1) := by decide +kernel
theorem dX6_init_1 : decode cX6_init 1 = .ok (.invokespecial 3, 3) := by decide +kernel
theorem dX6_init_4 : decode cX6_init 4 = .ok (.aload_n 0, 1) := by decide +kernel
theorem dX6_init_5 : decode cX6_init 5 = .ok (.bipush 6, 2) := by decide +kernel
theorem dX6_init_7 : decode cX6_init 7 = .ok (.newarray .int, 2) := by decide +kernel
theorem dX6_init_9 : decode cX6_init 9 = .ok (.putfield 9, 3) := by decide +kernel
theorem dX6_init_12 : decode cX6_init 12 = .ok (.aload_n 0, 1) := by decide +kernel
theorem dX6_init_13 : decode cX6_init 13 = .ok (.bipush 6, 2) := by decide +kernel
theorem dX6_init_15 : decode cX6_init 15 = .ok (.newarray .int, 2) := by decide +kernel
theorem dX6_init_17 : decode cX6_init 17 = .ok (.putfield 15, 3) := by decide +kernel
theorem dX6_init_20 : decode cX6_init 20 = .ok (.aload_n 0, 1) := by decide +kernel
theorem dX6_init_21 : decode cX6_init 21 = .ok (.bipush 6, 2) := by decide +kernel
theorem dX6_init_23 : decode cX6_init 23 = .ok (.newarray .int, 2) := by decide +kernel
theorem dX6_init_25 : decode cX6_init 25 = .ok (.putfield 18, 3) := by decide +kernel
theorem dX6_init_28 : decode cX6_init 28 = .ok (.aload_n 0, 1) := by decide +kernel
theorem dX6_init_29 : decode cX6_init 29 = .ok (.bipush 6, 2) := by decide +kernel
theorem dX6_init_31 : decode cX6_init 31 = .ok (.newarray .int, 2) := by decide +kernel
theorem dX6_init_33 : decode cX6_init 33 = .ok (.putfield 21, 3) := by decide +kernel
theorem dX6_init_36 : decode cX6_init 36 = .ok (.aload_n 0, 1) := by decide +kernel
theorem dX6_init_37 : decode cX6_init 37 = .ok (.bipush 6, 2) := by decide +kernel
theorem dX6_init_39 : decode cX6_init 39 = .ok (.newarray .int, 2) := by decide +kernel
theorem dX6_init_41 : decode cX6_init 41 = .ok (.putfield 24, 3) := by decide +kernel
theorem dX6_init_44 : decode cX6_init 44 = .ok (.aload_n 0, 1) := by decide +kernel
theorem dX6_init_45 : decode cX6_init 45 = .ok (.bipush 10, 2) := by decide +kernel
theorem dX6_init_47 : decode cX6_init 47 = .ok (.newarray .int, 2) := by decide +kernel
theorem dX6_init_49 : decode cX6_init 49 = .ok (.putfield 27, 3) := by decide +kernel
theorem dX6_init_52 : decode cX6_init 52 = .ok (.aload_n 0, 1) := by decide +kernel
theorem dX6_init_53 : decode cX6_init 53 = .ok (.bipush 10, 2) := by decide +kernel
theorem dX6_init_55 : decode cX6_init 55 = .ok (.newarray .int, 2) := by decide +kernel
theorem dX6_init_57 : decode cX6_init 57 = .ok (.putfield 30, 3) := by decide +kernel
theorem dX6_init_60 : decode cX6_init 60 = .ok (.aload_n 0, 1) := by decide +kernel
theorem dX6_init_61 : decode cX6_init 61 = .ok (.bipush 10, 2) := by decide +kernel
theorem dX6_init_63 : decode cX6_init 63 = .ok (.newarray .int, 2) := by decide +kernel
theorem dX6_init_65 : decode cX6_init 65 = .ok (.putfield 33, 3) := by decide +kernel
theorem dX6_init_68 : decode cX6_init 68 = .ok (.aload_n 0, 1) := by decide +kernel
theorem dX6_init_69 : decode cX6_init 69 = .ok (.aload_n 1, 1) := by decide +kernel
theorem dX6_init_70 : decode cX6_init 70 = .ok (.putfield 36, 3) := by decide +kernel
theorem dX6_init_73 : decode cX6_init 73 = .ok (.return_, 1) := by decide +kernel
theorem dX6_begin_0 : decode cX6_begin 0 = .ok (.aload_n 0, 1) := by decide +kernel
theorem dX6_begin_1 : decode cX6_begin 1 = .ok (.getfield 36, 3) := by decide +kernel
theorem dX6_begin_4 : decode cX6_begin 4 = .ok (.getfield 40, 3) := by decide +kernel
theorem dX6_begin_7 : decode cX6_begin 7 = .ok (.iconst 0, 1) := by decide +kernel
theorem dX6_begin_8 : decode cX6_begin 8 = .ok (.aload_n 0, 1) := by decide +kernel
theorem dX6_begin_9 : decode cX6_begin 9 = .ok (.getfield 9, 3) := by decide +kernel
theorem dX6_begin_12 : decode cX6_begin 12 = .ok (.iconst 0, 1) := by decide +kernel
theorem dX6_begin_13 : decode cX6_begin 13 = .ok (.bipush 6, 2) := by decide +kernel
theorem dX6_begin_15 : decode cX6_begin 15 = .ok (.invokestatic 45, 3) := by decide +kernel
theorem dX6_begin_18 : decode cX6_begin 18 = .ok (.iconst 0, 1) := by decide +kernel
theorem dX6_begin_19 : decode cX6_begin 19 = .ok (.istore_n 1, 1) := by decide +kernel
theorem dX6_begin_20 : decode cX6_begin 20 = .ok (.iload_n 1, 1) := by decide +kernel
theorem dX6_begin_21 : decode cX6_begin 21 = .ok (.bipush 6, 2) := by decide +kernel
theorem dX6_begin_23 : decode cX6_begin 23 = .ok (.if_icmp .ge 37, 3) := by decide +kernel
theorem dX6_begin_26 : decode cX6_begin 26 = .ok (.aload_n 0, 1) := by decide +kernel
theorem dX6_begin_27 : decode cX6_begin 27 = .ok (.getfield 15, 3) := by decide +kernel
theorem dX6_begin_30 : decode cX6_begin 30 = .ok (.iload_n 1, 1) := by decide +kernel
theorem dX6_begin_31 : decode cX6_begin 31 = .ok (.iconst 0, 1) := by decide +kernel
theorem dX6_begin_32 : decode cX6_begin 32 = .ok (.iastore, 1) := by decide +kernel
theorem dX6_begin_33 : decode cX6_begin 33 = .ok (.aload_n 0, 1) := by decide +kernel
theorem dX6_begin_34 : decode cX6_begin 34 = .ok (.getfield 18, 3) := by decide +kernel
theorem dX6_begin_37 : decode cX6_begin 37 = .ok (.iload_n 1, 1) := by decide +kernel
theorem dX6_begin_38 : decode cX6_begin 38 = .ok (.iconst 0, 1) := by decide +kernel
theorem dX6_begin_39 : decode cX6_begin 39 = .ok (.iastore, 1) := by decide +kernel
theorem dX6_begin_40 : decode cX6_begin 40 = .ok (.aload_n 0, 1) := by decide +kernel
theorem dX6_begin_41 : decode cX6_begin 41 = .ok (.getfield 21, 3) := by decide +kernel
theorem dX6_begin_44 : decode cX6_begin 44 = .ok (.iload_n 1, 1) := by decide +kernel
theorem dX6_begin_45 : decode cX6_begin 45 = .ok (.iconst 0, 1) := by decide +kernel
theorem dX6_begin_46 : decode cX6_begin 46 = .ok (.iastore, 1) := by decide +kernel
theorem dX6_begin_47 : decode cX6_begin 47 = .ok (.aload_n 0, 1) := by decide +kernel
theorem dX6_begin_48 : decode cX6_begin 48 = .ok (.getfield 24, 3) := by decide +kernel
theorem dX6_begin_51 : decode cX6_begin 51 = .ok (.iload_n 1, 1) := by decide +kernel
theorem dX6_begin_52 : decode cX6_begin 52 = .ok (.iconst 0, 1) := by decide +kernel
theorem dX6_begin_53 : decode cX6_begin 53 = .ok (.iastore, 1) := by decide +kernel
theorem dX6_begin_54 : decode cX6_begin 54 = .ok (.iinc 1 1, 3) := by decide +kernel
theorem dX6_begin_57 : decode cX6_begin 57 = .ok (.goto (-37), 3) := by decide +kernel
theorem dX6_begin_60 : decode cX6_begin 60 = .ok (.aload_n 0, 1) := by decide +kernel
theorem dX6_begin_61 : decode cX6_begin 61 = .ok (.iconst 0, 1) := by decide +kernel
theorem dX6_begin_62 : decode cX6_begin 62 = .ok (.putfield 51, 3) := by decide +kernel
theorem dX6_begin_65 : decode cX6_begin 65 = .ok (.aload_n 0, 1) := by decide +kernel
theorem dX6_begin_66 : decode cX6_begin 66 = .ok (.iconst 0, 1) := by decide +kernel
theorem dX6_begin_67 : decode cX6_begin 67 = .ok (.putfield 55, 3) := by decide +kernel
theorem dX6_begin_70 : decode cX6_begin 70 = .ok (.aload_n 0, 1) := by decide +kernel
theorem dX6_begin_71 : decode cX6_begin 71 = .ok (.iconst 0, 1) := by decide +kernel
theorem dX6_begin_72 : decode cX6_begin 72 = .ok (.putfield 58, 3) := by decide +kernel
theorem dX6_begin_75 : decode cX6_begin 75 = .ok (.return_, 1) := by decide +kernel
theorem dX6_become_0 : decode cX6_become 0 = .ok (.aload_n 1, 1) := by decide +kernel
theorem dX6_become_1 : decode cX6_become 1 = .ok (.getfield 9, 3) := by decide +kernel
theorem dX6_become_4 : decode cX6_become 4 = .ok (.iconst 0, 1) := by decide +kernel
theorem dX6_become_5 : decode cX6_become 5 = .ok (.aload_n 0, 1) := by decide +kernel
theorem dX6_become_6 : decode cX6_become 6 = .ok (.getfield 9, 3) := by decide +kernel
theorem dX6_become_9 : decode cX6_become 9 = .ok (.iconst 0, 1) := by decide +kernel
theorem dX6_become_10 : decode cX6_become 10 = .ok (.bipush 6, 2) := by decide +kernel
theorem dX6_become_12 : decode cX6_become 12 = .ok (.invokestatic 45, 3) := by decide +kernel
theorem dX6_become_15 : decode cX6_become 15 = .ok (.aload_n 1, 1) := by decide +kernel
theorem dX6_become_16 : decode cX6_become 16 = .ok (.getfield 15, 3) := by decide +kernel
theorem dX6_become_19 : decode cX6_become 19 = .ok (.iconst 0, 1) := by decide +kernel
theorem dX6_become_20 : decode cX6_become 20 = .ok (.aload_n 0, 1) := by decide +kernel
theorem dX6_become_21 : decode cX6_become 21 = .ok (.getfield 15, 3) := by decide +kernel
theorem dX6_become_24 : decode cX6_become 24 = .ok (.iconst 0, 1) := by decide +kernel
theorem dX6_become_25 : decode cX6_become 25 = .ok (.bipush 6, 2) := by decide +kernel
theorem dX6_become_27 : decode cX6_become 27 = .ok (.invokestatic 45, 3) := by decide +kernel
theorem dX6_become_30 : decode cX6_become 30 = .ok (.aload_n 1, 1) := by decide +kernel
theorem dX6_become_31 : decode cX6_become 31 = .ok (.getfield 18, 3) := by decide +kernel
theorem dX6_become_34 : decode cX6_become 34 = .ok (.iconst 0, 1) := by decide +kernel
theorem dX6_become_35 : decode cX6_become 35 = .ok (.aload_n 0, 1) := by decide +kernel
theorem dX6_become_36 : decode cX6_become 36 = .ok (.getfield 18, 3) := by decide +kernel
theorem dX6_become_39 : decode cX6_become 39 = .ok (.iconst 0, 1) := by decide +kernel
theorem dX6_become_40 : decode cX6_become 40 = .ok (.bipush 6, 2) := by decide +kernel
theorem dX6_become_42 : decode cX6_become 42 = .ok (.invokestatic 45, 3) := by decide +kernel
theorem dX6_become_45 : decode cX6_become 45 = .ok (.aload_n 1, 1) := by decide +kernel
theorem dX6_become_46 : decode cX6_become 46 = .ok (.getfield 21, 3) := by decide +kernel
theorem dX6_become_49 : decode cX6_become 49 = .ok (.iconst 0, 1) := by decide +kernel
theorem dX6_become_50 : decode cX6_become 50 = .ok (.aload_n 0, 1) := by decide +kernel
theorem dX6_become_51 : decode cX6_become 51 = .ok (.getfield 21, 3) := by decide +kernel
theorem dX6_become_54 : decode cX6_become 54 = .ok (.iconst 0, 1) := by decide +kernel
theorem dX6_become_55 : decode cX6_become 55 = .ok (.bipush 6, 2) := by decide +kernel
theorem dX6_become_57 : decode cX6_become 57 = .ok (.invokestatic 45, 3) := by decide +kernel
theorem dX6_become_60 : decode cX6_become 60 = .ok (.aload_n 1, 1) := by decide +kernel
theorem dX6_become_61 : decode cX6_become 61 = .ok (.getfield 24, 3) := by decide +kernel
theorem dX6_become_64 : decode cX6_become 64 = .ok (.iconst 0, 1) := by decide +kernel
theorem dX6_become_65 : decode cX6_become 65 = .ok (.aload_n 0, 1) := by decide +kernel
theorem dX6_become_66 : decode cX6_become 66 = .ok (.getfield 24, 3) := by decide +kernel
theorem dX6_become_69 : decode cX6_become 69 = .ok (.iconst 0, 1) := by decide +kernel
theorem dX6_become_70 : decode cX6_become 70 = .ok (.bipush 6, 2) := by decide +kernel
theorem dX6_become_72 : decode cX6_become 72 = .ok (.invokestatic 45, 3) := by decide +kernel
theorem dX6_become_75 : decode cX6_become 75 = .ok (.aload_n 1, 1) := by decide +kernel
theorem dX6_become_76 : decode cX6_become 76 = .ok (.getfield 27, 3) := by decide +kernel
theorem dX6_become_79 : decode cX6_become 79 = .ok (.iconst 0, 1) := by decide +kernel
theorem dX6_become_80 : decode cX6_become 80 = .ok (.aload_n 0, 1) := by decide +kernel
theorem dX6_become_81 : decode cX6_become 81 = .ok (.getfield 27, 3) := by decide +kernel
theorem dX6_become_84 : decode cX6_become 84 = .ok (.iconst 0, 1) := by decide +kernel
theorem dX6_become_85 : decode cX6_become 85 = .ok (.bipush 10, 2) := by decide +kernel
theorem dX6_become_87 : decode cX6_become 87 = .ok (.invokestatic 45, 3) := by decide +kernel
theorem dX6_become_90 : decode cX6_become 90 = .ok (.aload_n 1, 1) := by decide +kernel
theorem dX6_become_91 : decode cX6_become 91 = .ok (.getfield 30, 3) := by decide +kernel
theorem dX6_become_94 : decode cX6_become 94 = .ok (.iconst 0, 1) := by decide +kernel
theorem dX6_become_95 : decode cX6_become 95 = .ok (.aload_n 0, 1) := by decide +kernel
theorem dX6_become_96 : decode cX6_become 96 = .ok (.getfield 30, 3) := by decide +kernel
theorem dX6_become_99 : decode cX6_become 99 = .ok (.iconst 0, 1) := by decide +kernel
theorem dX6_become_100 : decode cX6_become 100 = .ok (.bipush 10, 2) := by decide +kernel
theorem dX6_become_102 : decode cX6_become 102 = .ok (.invokestatic 45, 3) := by decide +kernel
theorem dX6_become_105 : decode cX6_become 105 = .ok (.aload_n 1, 1) := by decide +kernel
theorem dX6_become_106 : decode cX6_become 106 = .ok (.getfield 33, 3) := by decide +kernel
theorem dX6_become_109 : decode cX6_become 109 = .ok (.iconst 0, 1) := by decide +kernel
theorem dX6_become_110 : decode cX6_become 110 = .ok (.aload_n 0, 1) := by decide +kernel
theorem dX6_become_111 : decode cX6_become 111 = .ok (.getfield 33, 3) := by decide +kernel
theorem dX6_become_114 : decode cX6_become 114 = .ok (.iconst 0, 1) := by decide +kernel
theorem dX6_become_115 : decode cX6_become 115 = .ok (.bipush 10, 2) := by decide +kernel
theorem dX6_become_117 : decode cX6_become 117 = .ok (.invokestatic 45, 3) := by decide +kernel
theorem dX6_become_120 : decode cX6_become 120 = .ok (.aload_n 0, 1) := by decide +kernel
theorem dX6_become_121 : decode cX6_become 121 = .ok (.aload_n 1, 1) := by decide +kernel
theorem dX6_become_122 : decode cX6_become 122 = .ok (.getfield 51, 3) := by decide +kernel
theorem dX6_become_125 : decode cX6_become 125 = .ok (.putfield 51, 3) := by decide +kernel
theorem dX6_become_128 : decode cX6_become 128 = .ok (.aload_n 0, 1) := by decide +kernel
theorem dX6_become_129 : decode cX6_become 129 = .ok (.aload_n 1, 1) := by decide +kernel
theorem dX6_become_130 : decode cX6_become 130 = .ok (.getfield 55, 3) := by decide +kernel
theorem dX6_become_133 : decode cX6_become 133 = .ok (.putfield 55, 3) := by decide +kernel
theorem dX6_become_136 : decode cX6_become 136 = .ok (.aload_n 0, 1) := by decide +kernel
theorem dX6_become_137 : decode cX6_become 137 = .ok (.aload_n 1, 1) := by decide +kernel
theorem dX6_become_138 : decode cX6_become 138 = .ok (.getfield 58, 3) := by decide +kernel
theorem dX6_become_141 : decode cX6_become 141 = .ok (.putfield 58, 3) := by decide +kernel
theorem dX6_become_144 : decode cX6_become 144 = .ok (.return_, 1) := by decide +kernel
theorem dX6_step_0 : decode cX6_step 0 = .ok (.aload_n 0, 1) := by decide +kernel
theorem dX6_step_1 : decode cX6_step 1 = .ok (.getfield 36, 3) := by decide +kernel
theorem dX6_step_4 : decode cX6_step 4 = .ok (.aload_n 0, 1) := by decide +kernel
theorem dX6_step_5 : decode cX6_step 5 = .ok (.getfield 51, 3) := by decide +kernel
theorem dX6_step_8 : decode cX6_step 8 = .ok (.invokevirtual 61, 3) := by decide +kernel
theorem dX6_step_11 : decode cX6_step 11 = .ok (.ifCond .eq 26, 3) := by decide +kernel
theorem dX6_step_14 : decode cX6_step 14 = .ok (.aload_n 0, 1) := by decide +kernel
theorem dX6_step_15 : decode cX6_step 15 = .ok (.bipush (-4), 2) := by decide +kernel
theorem dX6_step_17 : decode cX6_step 17 = .ok (.bipush (-4), 2) := by decide +kernel
theorem dX6_step_19 : decode cX6_step 19 = .ok (.bipush (-4), 2) := by decide +kernel
theorem dX6_step_21 : decode cX6_step 21 = .ok (.invokevirtual 65, 3) := by decide +kernel
theorem dX6_step_24 : decode cX6_step 24 = .ok (.aload_n 0, 1) := by decide +kernel
theorem dX6_step_25 : decode cX6_step 25 = .ok (.dup, 1) := by decide +kernel
theorem dX6_step_26 : decode cX6_step 26 = .ok (.getfield 55, 3) := by decide +kernel
theorem dX6_step_29 : decode cX6_step 29 = .ok (.iconst 1, 1) := by decide +kernel
theorem dX6_step_30 : decode cX6_step 30 = .ok (.iadd, 1) := by decide +kernel
theorem dX6_step_31 : decode cX6_step 31 = .ok (.putfield 55, 3) := by decide +kernel
theorem dX6_step_34 : decode cX6_step 34 = .ok (.goto 11, 3) := by decide +kernel
theorem dX6_step_37 : decode cX6_step 37 = .ok (.aload_n 0, 1) := by decide +kernel
theorem dX6_step_38 : decode cX6_step 38 = .ok (.aload_n 0, 1) := by decide +kernel
theorem dX6_step_39 : decode cX6_step 39 = .ok (.invokevirtual 69, 3) := by decide +kernel
theorem dX6_step_42 : decode cX6_step 42 = .ok (.invokevirtual 73, 3) := by decide +kernel
theorem dX6_step_45 : decode cX6_step 45 = .ok (.aload_n 0, 1) := by decide +kernel
theorem dX6_step_46 : decode cX6_step 46 = .ok (.dup, 1) := by decide +kernel
theorem dX6_step_47 : decode cX6_step 47 = .ok (.getfield 51, 3) := by decide +kernel
theorem dX6_step_50 : decode cX6_step 50 = .ok (.iconst 1, 1) := by decide +kernel
theorem dX6_step_51 : decode cX6_step 51 = .ok (.iadd, 1) := by decide +kernel
theorem dX6_step_52 : decode cX6_step 52 = .ok (.putfield 51, 3) := by decide +kernel
theorem dX6_step_55 : decode cX6_step 55 = .ok (.return_, 1) := by decide +kernel
theorem dX6_chooseFile_0 : decode cX6_chooseFile 0 = .ok (.aload_n 0, 1) := by decide +kernel
theorem dX6_chooseFile_1 : decode cX6_chooseFile 1 = .ok (.invokevirtual 77, 3) := by decide +kernel
theorem dX6_chooseFile_4 : decode cX6_chooseFile 4 = .ok (.istore_n 1, 1) := by decide +kernel
theorem dX6_chooseFile_5 : decode cX6_chooseFile 5 = .ok (.iconst 0, 1) := by decide +kernel
theorem dX6_chooseFile_6 : decode cX6_chooseFile 6 = .ok (.istore_n 2, 1) := by decide +kernel
theorem dX6_chooseFile_7 : decode cX6_chooseFile 7 = .ok (.iconst 0, 1) := by decide +kernel
theorem dX6_chooseFile_8 : decode cX6_chooseFile 8 = .ok (.istore_n 3, 1) := by decide +kernel
theorem dX6_chooseFile_9 : decode cX6_chooseFile 9 = .ok (.iload_n 3, 1) := by decide +kernel
theorem dX6_chooseFile_10 : decode cX6_chooseFile 10 = .ok (.aload_n 0, 1) := by decide +kernel
theorem dX6_chooseFile_11 : decode cX6_chooseFile 11 = .ok (.getfield 36, 3) := by decide +kernel
theorem dX6_chooseFile_14 : decode cX6_chooseFile 14 = .ok (.getfield 80, 3) := by decide +kernel
theorem dX6_chooseFile_17 : decode cX6_chooseFile 17 = .ok (.if_icmp .ge 41, 3) := by decide +kernel
theorem dX6_chooseFile_20 : decode cX6_chooseFile 20 = .ok (.aload_n 0, 1) := by decide +kernel
theorem dX6_chooseFile_21 : decode cX6_chooseFile 21 = .ok (.getfield 21, 3) := by decide +kernel
theorem dX6_chooseFile_24 : decode cX6_chooseFile 24 = .ok (.iload_n 3, 1) := by decide +kernel
theorem dX6_chooseFile_25 : decode cX6_chooseFile 25 = .ok (.dup2, 1) := by decide +kernel
theorem dX6_chooseFile_26 : decode cX6_chooseFile 26 = .ok (.iaload, 1) := by decide +kernel
theorem dX6_chooseFile_27 : decode cX6_chooseFile 27 = .ok (.aload_n 0, 1) := by decide +kernel
theorem dX6_chooseFile_28 : decode cX6_chooseFile 28 = .ok (.getfield 9, 3) := by decide +kernel
theorem dX6_chooseFile_31 : decode cX6_chooseFile 31 = .ok (.iload_n 3, 1) := by decide +kernel
theorem dX6_chooseFile_32 : decode cX6_chooseFile 32 = .ok (.iaload, 1) := by decide +kernel
theorem dX6_chooseFile_33 : decode cX6_chooseFile 33 = .ok (.iadd, 1) := by decide +kernel
theorem dX6_chooseFile_34 : decode cX6_chooseFile 34 = .ok (.iastore, 1) := by decide +kernel
theorem dX6_chooseFile_35 : decode cX6_chooseFile 35 = .ok (.aload_n 0, 1) := by decide +kernel
theorem dX6_chooseFile_36 : decode cX6_chooseFile 36 = .ok (.getfield 21, 3) := by decide +kernel
theorem dX6_chooseFile_39 : decode cX6_chooseFile 39 = .ok (.iload_n 3, 1) := by decide +kernel
theorem dX6_chooseFile_40 : decode cX6_chooseFile 40 = .ok (.iaload, 1) := by decide +kernel
theorem dX6_chooseFile_41 : decode cX6_chooseFile 41 = .ok (.aload_n 0, 1) := by decide +kernel
theorem dX6_chooseFile_42 : decode cX6_chooseFile 42 = .ok (.getfield 21, 3) := by decide +kernel
theorem dX6_chooseFile_45 : decode cX6_chooseFile 45 = .ok (.iload_n 2, 1) := by decide +kernel
theorem dX6_chooseFile_46 : decode cX6_chooseFile 46 = .ok (.iaload, 1) := by decide +kernel
theorem dX6_chooseFile_47 : decode cX6_chooseFile 47 = .ok (.if_icmp .le 5, 3) := by decide +kernel
theorem dX6_chooseFile_50 : decode cX6_chooseFile 50 = .ok (.iload_n 3, 1) := by decide +kernel
theorem dX6_chooseFile_51 : decode cX6_chooseFile 51 = .ok (.istore_n 2, 1) := by decide +kernel
theorem dX6_chooseFile_52 : decode cX6_chooseFile 52 = .ok (.iinc 3 1, 3) := by decide +kernel
theorem dX6_chooseFile_55 : decode cX6_chooseFile 55 = .ok (.goto (-46), 3) := by decide +kernel
theorem dX6_chooseFile_58 : decode cX6_chooseFile 58 = .ok (.aload_n 0, 1) := by decide +kernel
theorem dX6_chooseFile_59 : decode cX6_chooseFile 59 = .ok (.getfield 21, 3) := by decide +kernel
theorem dX6_chooseFile_62 : decode cX6_chooseFile 62 = .ok (.iload_n 2, 1) := by decide +kernel
theorem dX6_chooseFile_63 : decode cX6_chooseFile 63 = .ok (.dup2, 1) := by decide +kernel
theorem dX6_chooseFile_64 : decode cX6_chooseFile 64 = .ok (.iaload, 1) := by decide +kernel
theorem dX6_chooseFile_65 : decode cX6_chooseFile 65 = .ok (.iload_n 1, 1) := by decide +kernel
theorem dX6_chooseFile_66 : decode cX6_chooseFile 66 = .ok (.isub, 1) := by decide +kernel
theorem dX6_chooseFile_67 : decode cX6_chooseFile 67 = .ok (.iastore, 1) := by decide +kernel
theorem dX6_chooseFile_68 : decode cX6_chooseFile 68 = .ok (.iload_n 2, 1) := by decide +kernel
theorem dX6_chooseFile_69 : decode cX6_chooseFile 69 = .ok (.ireturn, 1) := by decide +kernel
theorem dX6_sendSymbol_0 : decode cX6_sendSymbol 0 = .ok (.aload_n 0, 1) := by decide +kernel
theorem dX6_sendSymbol_1 : decode cX6_sendSymbol 1 = .ok (.getfield 18, 3) := by decide +kernel
theorem dX6_sendSymbol_4 : decode cX6_sendSymbol 4 = .ok (.iload_n 1, 1) := by decide +kernel
theorem dX6_sendSymbol_5 : decode cX6_sendSymbol 5 = .ok (.iaload, 1) := by decide +kernel
theorem dX6_sendSymbol_6 : decode cX6_sendSymbol 6 = .ok (.istore_n 2, 1) := by decide +kernel
theorem dX6_sendSymbol_7 : decode cX6_sendSymbol 7 = .ok (.aload_n 0, 1) := by decide +kernel
theorem dX6_sendSymbol_8 : decode cX6_sendSymbol 8 = .ok (.iload_n 1, 1) := by decide +kernel
theorem dX6_sendSymbol_9 : decode cX6_sendSymbol 9 = .ok (.iload_n 2, 1) := by decide +kernel
theorem dX6_sendSymbol_10 : decode cX6_sendSymbol 10 = .ok (.aload_n 0, 1) := by decide +kernel
theorem dX6_sendSymbol_11 : decode cX6_sendSymbol 11 = .ok (.getfield 15, 3) := by decide +kernel
theorem dX6_sendSymbol_14 : decode cX6_sendSymbol 14 = .ok (.iload_n 1, 1) := by decide +kernel
theorem dX6_sendSymbol_15 : decode cX6_sendSymbol 15 = .ok (.iaload, 1) := by decide +kernel
theorem dX6_sendSymbol_16 : decode cX6_sendSymbol 16 = .ok (.invokevirtual 65, 3) := by decide +kernel
theorem dX6_sendSymbol_19 : decode cX6_sendSymbol 19 = .ok (.aload_n 0, 1) := by decide +kernel
theorem dX6_sendSymbol_20 : decode cX6_sendSymbol 20 = .ok (.getfield 18, 3) := by decide +kernel
theorem dX6_sendSymbol_23 : decode cX6_sendSymbol 23 = .ok (.iload_n 1, 1) := by decide +kernel
theorem dX6_sendSymbol_24 : decode cX6_sendSymbol 24 = .ok (.iload_n 2, 1) := by decide +kernel
theorem dX6_sendSymbol_25 : decode cX6_sendSymbol 25 = .ok (.iconst 1, 1) := by decide +kernel
theorem dX6_sendSymbol_26 : decode cX6_sendSymbol 26 = .ok (.iadd, 1) := by decide +kernel
theorem dX6_sendSymbol_27 : decode cX6_sendSymbol 27 = .ok (.aload_n 0, 1) := by decide +kernel
theorem dX6_sendSymbol_28 : decode cX6_sendSymbol 28 = .ok (.getfield 36, 3) := by decide +kernel
theorem dX6_sendSymbol_31 : decode cX6_sendSymbol 31 = .ok (.iload_n 1, 1) := by decide +kernel
theorem dX6_sendSymbol_32 : decode cX6_sendSymbol 32 = .ok (.invokevirtual 83, 3) := by decide +kernel
theorem dX6_sendSymbol_35 : decode cX6_sendSymbol 35 = .ok (.if_icmp .ge 9, 3) := by decide +kernel
theorem dX6_sendSymbol_38 : decode cX6_sendSymbol 38 = .ok (.iload_n 2, 1) := by decide +kernel
theorem dX6_sendSymbol_39 : decode cX6_sendSymbol 39 = .ok (.iconst 1, 1) := by decide +kernel
theorem dX6_sendSymbol_40 : decode cX6_sendSymbol 40 = .ok (.iadd, 1) := by decide +kernel
theorem dX6_sendSymbol_41 : decode cX6_sendSymbol 41 = .ok (.goto 4, 3) := by decide +kernel
theorem dX6_sendSymbol_44 : decode cX6_sendSymbol 44 = .ok (.iconst 0, 1) := by decide +kernel
theorem dX6_sendSymbol_45 : decode cX6_sendSymbol 45 = .ok (.iastore, 1) := by decide +kernel
theorem dX6_sendSymbol_46 : decode cX6_sendSymbol 46 = .ok (.aload_n 0, 1) := by decide +kernel
theorem dX6_sendSymbol_47 : decode cX6_sendSymbol 47 = .ok (.getfield 24, 3) := by decide +kernel
theorem dX6_sendSymbol_50 : decode cX6_sendSymbol 50 = .ok (.iload_n 1, 1) := by decide +kernel
theorem dX6_sendSymbol_51 : decode cX6_sendSymbol 51 = .ok (.dup2, 1) := by decide +kernel
theorem dX6_sendSymbol_52 : decode cX6_sendSymbol 52 = .ok (.iaload, 1) := by decide +kernel
theorem dX6_sendSymbol_53 : decode cX6_sendSymbol 53 = .ok (.iconst 1, 1) := by decide +kernel
theorem dX6_sendSymbol_54 : decode cX6_sendSymbol 54 = .ok (.iadd, 1) := by decide +kernel
theorem dX6_sendSymbol_55 : decode cX6_sendSymbol 55 = .ok (.iastore, 1) := by decide +kernel
theorem dX6_sendSymbol_56 : decode cX6_sendSymbol 56 = .ok (.aload_n 0, 1) := by decide +kernel
theorem dX6_sendSymbol_57 : decode cX6_sendSymbol 57 = .ok (.dup, 1) := by decide +kernel
theorem dX6_sendSymbol_58 : decode cX6_sendSymbol 58 = .ok (.getfield 58, 3) := by decide +kernel
theorem dX6_sendSymbol_61 : decode cX6_sendSymbol 61 = .ok (.iconst 1, 1) := by decide +kernel
theorem dX6_sendSymbol_62 : decode cX6_sendSymbol 62 = .ok (.iadd, 1) := by decide +kernel
theorem dX6_sendSymbol_63 : decode cX6_sendSymbol 63 = .ok (.putfield 58, 3) := by decide +kernel
theorem dX6_sendSymbol_66 : decode cX6_sendSymbol 66 = .ok (.return_, 1) := by decide +kernel
theorem dX6_note_0 : decode cX6_note 0 = .ok (.aload_n 0, 1) := by decide +kernel
theorem dX6_note_1 : decode cX6_note 1 = .ok (.getfield 51, 3) := by decide +kernel
theorem dX6_note_4 : decode cX6_note 4 = .ok (.invokestatic 87, 3) := by decide +kernel
theorem dX6_note_7 : decode cX6_note 7 = .ok (.istore 4, 2) := by decide +kernel
theorem dX6_note_9 : decode cX6_note 9 = .ok (.aload_n 0, 1) := by decide +kernel
theorem dX6_note_10 : decode cX6_note 10 = .ok (.getfield 27, 3) := by decide +kernel
theorem dX6_note_13 : decode cX6_note 13 = .ok (.iload 4, 2) := by decide +kernel
theorem dX6_note_15 : decode cX6_note 15 = .ok (.iload_n 1, 1) := by decide +kernel
theorem dX6_note_16 : decode cX6_note 16 = .ok (.iastore, 1) := by decide +kernel
theorem dX6_note_17 : decode cX6_note 17 = .ok (.aload_n 0, 1) := by decide +kernel
theorem dX6_note_18 : decode cX6_note 18 = .ok (.getfield 30, 3) := by decide +kernel
theorem dX6_note_21 : decode cX6_note 21 = .ok (.iload 4, 2) := by decide +kernel
theorem dX6_note_23 : decode cX6_note 23 = .ok (.iload_n 2, 1) := by decide +kernel
theorem dX6_note_24 : decode cX6_note 24 = .ok (.iastore, 1) := by decide +kernel
theorem dX6_note_25 : decode cX6_note 25 = .ok (.aload_n 0, 1) := by decide +kernel
theorem dX6_note_26 : decode cX6_note 26 = .ok (.getfield 33, 3) := by decide +kernel
theorem dX6_note_29 : decode cX6_note 29 = .ok (.iload 4, 2) := by decide +kernel
theorem dX6_note_31 : decode cX6_note 31 = .ok (.iload_n 3, 1) := by decide +kernel
theorem dX6_note_32 : decode cX6_note 32 = .ok (.iastore, 1) := by decide +kernel
theorem dX6_note_33 : decode cX6_note 33 = .ok (.return_, 1) := by decide +kernel
theorem dX6_placeOf_0 : decode cX6_placeOf 0 = .ok (.iload_n 0, 1) := by decide +kernel
theorem dX6_placeOf_1 : decode cX6_placeOf 1 = .ok (.bipush 10, 2) := by decide +kernel
theorem dX6_placeOf_3 : decode cX6_placeOf 3 = .ok (.invokestatic 90, 3) := by decide +kernel
theorem dX6_placeOf_6 : decode cX6_placeOf 6 = .ok (.ireturn, 1) := by decide +kernel
theorem dX6_fileIn_0 : decode cX6_fileIn 0 = .ok (.aload_n 0, 1) := by decide +kernel
theorem dX6_fileIn_1 : decode cX6_fileIn 1 = .ok (.getfield 27, 3) := by decide +kernel
theorem dX6_fileIn_4 : decode cX6_fileIn 4 = .ok (.iload_n 1, 1) := by decide +kernel
theorem dX6_fileIn_5 : decode cX6_fileIn 5 = .ok (.invokestatic 87, 3) := by decide +kernel
theorem dX6_fileIn_8 : decode cX6_fileIn 8 = .ok (.iaload, 1) := by decide +kernel
theorem dX6_fileIn_9 : decode cX6_fileIn 9 = .ok (.ireturn, 1) := by decide +kernel
theorem dX6_symbolIn_0 : decode cX6_symbolIn 0 = .ok (.aload_n 0, 1) := by decide +kernel
theorem dX6_symbolIn_1 : decode cX6_symbolIn 1 = .ok (.getfield 30, 3) := by decide +kernel
theorem dX6_symbolIn_4 : decode cX6_symbolIn 4 = .ok (.iload_n 1, 1) := by decide +kernel
theorem dX6_symbolIn_5 : decode cX6_symbolIn 5 = .ok (.invokestatic 87, 3) := by decide +kernel
theorem dX6_symbolIn_8 : decode cX6_symbolIn 8 = .ok (.iaload, 1) := by decide +kernel
theorem dX6_symbolIn_9 : decode cX6_symbolIn 9 = .ok (.ireturn, 1) := by decide +kernel
theorem dX6_versionIn_0 : decode cX6_versionIn 0 = .ok (.aload_n 0, 1) := by decide +kernel
theorem dX6_versionIn_1 : decode cX6_versionIn 1 = .ok (.getfield 33, 3) := by decide +kernel
theorem dX6_versionIn_4 : decode cX6_versionIn 4 = .ok (.iload_n 1, 1) := by decide +kernel
theorem dX6_versionIn_5 : decode cX6_versionIn 5 = .ok (.invokestatic 87, 3) := by decide +kernel
theorem dX6_versionIn_8 : decode cX6_versionIn 8 = .ok (.iaload, 1) := by decide +kernel
theorem dX6_versionIn_9 : decode cX6_versionIn 9 = .ok (.ireturn, 1) := by decide +kernel
theorem dX6_startNewVersion_0 : decode cX6_startNewVersion 0 = .ok (.aload_n 0, 1) := by decide +kernel
theorem dX6_startNewVersion_1 : decode cX6_startNewVersion 1 = .ok (.getfield 15, 3) := by decide +kernel
theorem dX6_startNewVersion_4 : decode cX6_startNewVersion 4 = .ok (.iload_n 1, 1) := by decide +kernel
theorem dX6_startNewVersion_5 : decode cX6_startNewVersion 5 = .ok (.aload_n 0, 1) := by decide +kernel
theorem dX6_startNewVersion_6 : decode cX6_startNewVersion 6 = .ok (.getfield 15, 3) := by decide +kernel
theorem dX6_startNewVersion_9 : decode cX6_startNewVersion 9 = .ok (.iload_n 1, 1) := by decide +kernel
theorem dX6_startNewVersion_10 : decode cX6_startNewVersion 10 = .ok (.iaload, 1) := by decide +kernel
theorem dX6_startNewVersion_11 : decode cX6_startNewVersion 11 = .ok (.bipush 99, 2) := by decide +kernel
theorem dX6_startNewVersion_13 : decode cX6_startNewVersion 13 = .ok (.if_icmp .ge 14, 3) := by decide +kernel
theorem dX6_startNewVersion_16 : decode cX6_startNewVersion 16 = .ok (.aload_n 0, 1) := by decide +kernel
theorem dX6_startNewVersion_17 : decode cX6_startNewVersion 17 = .ok (.getfield 15, 3) := by decide +kernel
theorem dX6_startNewVersion_20 : decode cX6_startNewVersion 20 = .ok (.iload_n 1, 1) := by decide +kernel
theorem dX6_startNewVersion_21 : decode cX6_startNewVersion 21 = .ok (.iaload, 1) := by decide +kernel
theorem dX6_startNewVersion_22 : decode cX6_startNewVersion 22 = .ok (.iconst 1, 1) := by decide +kernel
theorem dX6_startNewVersion_23 : decode cX6_startNewVersion 23 = .ok (.iadd, 1) := by decide +kernel
theorem dX6_startNewVersion_24 : decode cX6_startNewVersion 24 = .ok (.goto 4, 3) := by decide +kernel
theorem dX6_startNewVersion_27 : decode cX6_startNewVersion 27 = .ok (.iconst 0, 1) := by decide +kernel
theorem dX6_startNewVersion_28 : decode cX6_startNewVersion 28 = .ok (.iastore, 1) := by decide +kernel
theorem dX6_startNewVersion_29 : decode cX6_startNewVersion 29 = .ok (.aload_n 0, 1) := by decide +kernel
theorem dX6_startNewVersion_30 : decode cX6_startNewVersion 30 = .ok (.getfield 18, 3) := by decide +kernel
theorem dX6_startNewVersion_33 : decode cX6_startNewVersion 33 = .ok (.iload_n 1, 1) := by decide +kernel
theorem dX6_startNewVersion_34 : decode cX6_startNewVersion 34 = .ok (.iconst 0, 1) := by decide +kernel
theorem dX6_startNewVersion_35 : decode cX6_startNewVersion 35 = .ok (.iastore, 1) := by decide +kernel
theorem dX6_startNewVersion_36 : decode cX6_startNewVersion 36 = .ok (.aload_n 0, 1) := by decide +kernel
theorem dX6_startNewVersion_37 : decode cX6_startNewVersion 37 = .ok (.getfield 15, 3) := by decide +kernel
theorem dX6_startNewVersion_40 : decode cX6_startNewVersion 40 = .ok (.iload_n 1, 1) := by decide +kernel
theorem dX6_startNewVersion_41 : decode cX6_startNewVersion 41 = .ok (.iaload, 1) := by decide +kernel
theorem dX6_startNewVersion_42 : decode cX6_startNewVersion 42 = .ok (.ireturn, 1) := by decide +kernel
theorem dX6_allWeights_0 : decode cX6_allWeights 0 = .ok (.iconst 0, 1) := by decide +kernel
theorem dX6_allWeights_1 : decode cX6_allWeights 1 = .ok (.istore_n 1, 1) := by decide +kernel
theorem dX6_allWeights_2 : decode cX6_allWeights 2 = .ok (.iconst 0, 1) := by decide +kernel
theorem dX6_allWeights_3 : decode cX6_allWeights 3 = .ok (.istore_n 2, 1) := by decide +kernel
theorem dX6_allWeights_4 : decode cX6_allWeights 4 = .ok (.iload_n 2, 1) := by decide +kernel
theorem dX6_allWeights_5 : decode cX6_allWeights 5 = .ok (.aload_n 0, 1) := by decide +kernel
theorem dX6_allWeights_6 : decode cX6_allWeights 6 = .ok (.getfield 36, 3) := by decide +kernel
theorem dX6_allWeights_9 : decode cX6_allWeights 9 = .ok (.getfield 80, 3) := by decide +kernel
theorem dX6_allWeights_12 : decode cX6_allWeights 12 = .ok (.if_icmp .ge 18, 3) := by decide +kernel
theorem dX6_allWeights_15 : decode cX6_allWeights 15 = .ok (.iload_n 1, 1) := by decide +kernel
theorem dX6_allWeights_16 : decode cX6_allWeights 16 = .ok (.aload_n 0, 1) := by decide +kernel
theorem dX6_allWeights_17 : decode cX6_allWeights 17 = .ok (.getfield 9, 3) := by decide +kernel
theorem dX6_allWeights_20 : decode cX6_allWeights 20 = .ok (.iload_n 2, 1) := by decide +kernel
theorem dX6_allWeights_21 : decode cX6_allWeights 21 = .ok (.iaload, 1) := by decide +kernel
theorem dX6_allWeights_22 : decode cX6_allWeights 22 = .ok (.iadd, 1) := by decide +kernel
theorem dX6_allWeights_23 : decode cX6_allWeights 23 = .ok (.istore_n 1, 1) := by decide +kernel
theorem dX6_allWeights_24 : decode cX6_allWeights 24 = .ok (.iinc 2 1, 3) := by decide +kernel
theorem dX6_allWeights_27 : decode cX6_allWeights 27 = .ok (.goto (-23), 3) := by decide +kernel
theorem dX6_allWeights_30 : decode cX6_allWeights 30 = .ok (.iload_n 1, 1) := by decide +kernel
theorem dX6_allWeights_31 : decode cX6_allWeights 31 = .ok (.ireturn, 1) := by decide +kernel
theorem dJxf58ca_isNaN_12338_0 : decode cJxf58ca_isNaN_12338 0 = .ok (.fload_n 0, 1) := by decide +kernel
theorem dJxf58ca_isNaN_12338_1 : decode cJxf58ca_isNaN_12338 1 = .ok (.fload_n 0, 1) := by decide +kernel
theorem dJxf58ca_isNaN_12338_2 : decode cJxf58ca_isNaN_12338 2 = .ok (.fcmp .l, 1) := by decide +kernel
theorem dJxf58ca_isNaN_12338_3 : decode cJxf58ca_isNaN_12338 3 = .ok (.ifCond .eq 7, 3) := by decide +kernel
theorem dJxf58ca_isNaN_12338_6 : decode cJxf58ca_isNaN_12338 6 = .ok (.iconst 1, 1) := by decide +kernel
theorem dJxf58ca_isNaN_12338_7 : decode cJxf58ca_isNaN_12338 7 = .ok (.goto 4, 3) := by decide +kernel
theorem dJxf58ca_isNaN_12338_10 : decode cJxf58ca_isNaN_12338 10 = .ok (.iconst 0, 1) := by decide +kernel
theorem dJxf58ca_isNaN_12338_11 : decode cJxf58ca_isNaN_12338 11 = .ok (.ireturn, 1) := by decide +kernel
theorem dJxf58ca_floatToIntBits_5c35a_0 : decode cJxf58ca_floatToIntBits_5c35a 0 = .ok (.fload_n 0, 1) := by decide +kernel
theorem dJxf58ca_floatToIntBits_5c35a_1 : decode cJxf58ca_floatToIntBits_5c35a 1 = .ok (.invokestatic 59, 3) := by decide +kernel
theorem dJxf58ca_floatToIntBits_5c35a_4 : decode cJxf58ca_floatToIntBits_5c35a 4 = .ok (.ifCond .ne 8, 3) := by decide +kernel
theorem dJxf58ca_floatToIntBits_5c35a_7 : decode cJxf58ca_floatToIntBits_5c35a 7 = .ok (.fload_n 0, 1) := by decide +kernel
theorem dJxf58ca_floatToIntBits_5c35a_8 : decode cJxf58ca_floatToIntBits_5c35a 8 = .ok (.invokestatic 74, 3) := by decide +kernel
theorem dJxf58ca_floatToIntBits_5c35a_11 : decode cJxf58ca_floatToIntBits_5c35a 11 = .ok (.ireturn, 1) := by decide +kernel
theorem dJxf58ca_floatToIntBits_5c35a_12 : decode cJxf58ca_floatToIntBits_5c35a 12 = .ok (.ldc 77, 2) := by decide +kernel
theorem dJxf58ca_floatToIntBits_5c35a_14 : decode cJxf58ca_floatToIntBits_5c35a 14 = .ok (.ireturn, 1) := by decide +kernel
theorem dJ6_bitCount_0f7a4_0 : decode cJ6_bitCount_0f7a4 0 = .ok (.iload_n 0, 1) := by decide +kernel
theorem dJ6_bitCount_0f7a4_1 : decode cJ6_bitCount_0f7a4 1 = .ok (.iload_n 0, 1) := by decide +kernel
theorem dJ6_bitCount_0f7a4_2 : decode cJ6_bitCount_0f7a4 2 = .ok (.iconst 1, 1) := by decide +kernel
theorem dJ6_bitCount_0f7a4_3 : decode cJ6_bitCount_0f7a4 3 = .ok (.iushr, 1) := by decide +kernel
theorem dJ6_bitCount_0f7a4_4 : decode cJ6_bitCount_0f7a4 4 = .ok (.ldc_w 265, 3) := by decide +kernel
theorem dJ6_bitCount_0f7a4_7 : decode cJ6_bitCount_0f7a4 7 = .ok (.iand, 1) := by decide +kernel
theorem dJ6_bitCount_0f7a4_8 : decode cJ6_bitCount_0f7a4 8 = .ok (.isub, 1) := by decide +kernel
theorem dJ6_bitCount_0f7a4_9 : decode cJ6_bitCount_0f7a4 9 = .ok (.istore_n 0, 1) := by decide +kernel
theorem dJ6_bitCount_0f7a4_10 : decode cJ6_bitCount_0f7a4 10 = .ok (.iload_n 0, 1) := by decide +kernel
theorem dJ6_bitCount_0f7a4_11 : decode cJ6_bitCount_0f7a4 11 = .ok (.ldc_w 266, 3) := by decide +kernel
theorem dJ6_bitCount_0f7a4_14 : decode cJ6_bitCount_0f7a4 14 = .ok (.iand, 1) := by decide +kernel
theorem dJ6_bitCount_0f7a4_15 : decode cJ6_bitCount_0f7a4 15 = .ok (.iload_n 0, 1) := by decide +kernel
theorem dJ6_bitCount_0f7a4_16 : decode cJ6_bitCount_0f7a4 16 = .ok (.iconst 2, 1) := by decide +kernel
theorem dJ6_bitCount_0f7a4_17 : decode cJ6_bitCount_0f7a4 17 = .ok (.iushr, 1) := by decide +kernel
theorem dJ6_bitCount_0f7a4_18 : decode cJ6_bitCount_0f7a4 18 = .ok (.ldc_w 266, 3) := by decide +kernel
theorem dJ6_bitCount_0f7a4_21 : decode cJ6_bitCount_0f7a4 21 = .ok (.iand, 1) := by decide +kernel
theorem dJ6_bitCount_0f7a4_22 : decode cJ6_bitCount_0f7a4 22 = .ok (.iadd, 1) := by decide +kernel
theorem dJ6_bitCount_0f7a4_23 : decode cJ6_bitCount_0f7a4 23 = .ok (.istore_n 0, 1) := by decide +kernel
theorem dJ6_bitCount_0f7a4_24 : decode cJ6_bitCount_0f7a4 24 = .ok (.iload_n 0, 1) := by decide +kernel
theorem dJ6_bitCount_0f7a4_25 : decode cJ6_bitCount_0f7a4 25 = .ok (.iload_n 0, 1) := by decide +kernel
theorem dJ6_bitCount_0f7a4_26 : decode cJ6_bitCount_0f7a4 26 = .ok (.iconst 4, 1) := by decide +kernel
theorem dJ6_bitCount_0f7a4_27 : decode cJ6_bitCount_0f7a4 27 = .ok (.iushr, 1) := by decide +kernel
theorem dJ6_bitCount_0f7a4_28 : decode cJ6_bitCount_0f7a4 28 = .ok (.iadd, 1) := by decide +kernel
theorem dJ6_bitCount_0f7a4_29 : decode cJ6_bitCount_0f7a4 29 = .ok (.ldc_w 267, 3) := by decide +kernel
theorem dJ6_bitCount_0f7a4_32 : decode cJ6_bitCount_0f7a4 32 = .ok (.iand, 1) := by decide +kernel
theorem dJ6_bitCount_0f7a4_33 : decode cJ6_bitCount_0f7a4 33 = .ok (.istore_n 0, 1) := by decide +kernel
theorem dJ6_bitCount_0f7a4_34 : decode cJ6_bitCount_0f7a4 34 = .ok (.iload_n 0, 1) := by decide +kernel
theorem dJ6_bitCount_0f7a4_35 : decode cJ6_bitCount_0f7a4 35 = .ok (.iload_n 0, 1) := by decide +kernel
theorem dJ6_bitCount_0f7a4_36 : decode cJ6_bitCount_0f7a4 36 = .ok (.bipush 8, 2) := by decide +kernel
theorem dJ6_bitCount_0f7a4_38 : decode cJ6_bitCount_0f7a4 38 = .ok (.iushr, 1) := by decide +kernel
theorem dJ6_bitCount_0f7a4_39 : decode cJ6_bitCount_0f7a4 39 = .ok (.iadd, 1) := by decide +kernel
theorem dJ6_bitCount_0f7a4_40 : decode cJ6_bitCount_0f7a4 40 = .ok (.istore_n 0, 1) := by decide +kernel
theorem dJ6_bitCount_0f7a4_41 : decode cJ6_bitCount_0f7a4 41 = .ok (.iload_n 0, 1) := by decide +kernel
theorem dJ6_bitCount_0f7a4_42 : decode cJ6_bitCount_0f7a4 42 = .ok (.iload_n 0, 1) := by decide +kernel
theorem dJ6_bitCount_0f7a4_43 : decode cJ6_bitCount_0f7a4 43 = .ok (.bipush 16, 2) := by decide +kernel
theorem dJ6_bitCount_0f7a4_45 : decode cJ6_bitCount_0f7a4 45 = .ok (.iushr, 1) := by decide +kernel
theorem dJ6_bitCount_0f7a4_46 : decode cJ6_bitCount_0f7a4 46 = .ok (.iadd, 1) := by decide +kernel
theorem dJ6_bitCount_0f7a4_47 : decode cJ6_bitCount_0f7a4 47 = .ok (.istore_n 0, 1) := by decide +kernel
theorem dJ6_bitCount_0f7a4_48 : decode cJ6_bitCount_0f7a4 48 = .ok (.iload_n 0, 1) := by decide +kernel
theorem dJ6_bitCount_0f7a4_49 : decode cJ6_bitCount_0f7a4 49 = .ok (.bipush 63, 2) := by decide +kernel
theorem dJ6_bitCount_0f7a4_51 : decode cJ6_bitCount_0f7a4 51 = .ok (.iand, 1) := by decide +kernel
theorem dJ6_bitCount_0f7a4_52 : decode cJ6_bitCount_0f7a4 52 = .ok (.ireturn, 1) := by decide +kernel
theorem dJ9_floorMod_7cf53_0 : decode cJ9_floorMod_7cf53 0 = .ok (.iload_n 0, 1) := by decide +kernel
theorem dJ9_floorMod_7cf53_1 : decode cJ9_floorMod_7cf53 1 = .ok (.iload_n 1, 1) := by decide +kernel
theorem dJ9_floorMod_7cf53_2 : decode cJ9_floorMod_7cf53 2 = .ok (.irem, 1) := by decide +kernel
theorem dJ9_floorMod_7cf53_3 : decode cJ9_floorMod_7cf53 3 = .ok (.istore_n 2, 1) := by decide +kernel
theorem dJ9_floorMod_7cf53_4 : decode cJ9_floorMod_7cf53 4 = .ok (.iload_n 0, 1) := by decide +kernel
theorem dJ9_floorMod_7cf53_5 : decode cJ9_floorMod_7cf53 5 = .ok (.iload_n 1, 1) := by decide +kernel
theorem dJ9_floorMod_7cf53_6 : decode cJ9_floorMod_7cf53 6 = .ok (.ixor, 1) := by decide +kernel
theorem dJ9_floorMod_7cf53_7 : decode cJ9_floorMod_7cf53 7 = .ok (.ifCond .ge 11, 3) := by decide +kernel
theorem dJ9_floorMod_7cf53_10 : decode cJ9_floorMod_7cf53 10 = .ok (.iload_n 2, 1) := by decide +kernel
theorem dJ9_floorMod_7cf53_11 : decode cJ9_floorMod_7cf53 11 = .ok (.ifCond .eq 7, 3) := by decide +kernel
theorem dJ9_floorMod_7cf53_14 : decode cJ9_floorMod_7cf53 14 = .ok (.iload_n 2, 1) := by decide +kernel
theorem dJ9_floorMod_7cf53_15 : decode cJ9_floorMod_7cf53 15 = .ok (.iload_n 1, 1) := by decide +kernel
theorem dJ9_floorMod_7cf53_16 : decode cJ9_floorMod_7cf53 16 = .ok (.iadd, 1) := by decide +kernel
theorem dJ9_floorMod_7cf53_17 : decode cJ9_floorMod_7cf53 17 = .ok (.ireturn, 1) := by decide +kernel
theorem dJ9_floorMod_7cf53_18 : decode cJ9_floorMod_7cf53 18 = .ok (.iload_n 2, 1) := by decide +kernel
theorem dJ9_floorMod_7cf53_19 : decode cJ9_floorMod_7cf53 19 = .ok (.ireturn, 1) := by decide +kernel
theorem dJ9_max_7cf53_0 : decode cJ9_max_7cf53 0 = .ok (.iload_n 0, 1) := by decide +kernel
theorem dJ9_max_7cf53_1 : decode cJ9_max_7cf53 1 = .ok (.iload_n 1, 1) := by decide +kernel
theorem dJ9_max_7cf53_2 : decode cJ9_max_7cf53 2 = .ok (.if_icmp .lt 7, 3) := by decide +kernel
theorem dJ9_max_7cf53_5 : decode cJ9_max_7cf53 5 = .ok (.iload_n 0, 1) := by decide +kernel
theorem dJ9_max_7cf53_6 : decode cJ9_max_7cf53 6 = .ok (.goto 4, 3) := by decide +kernel
theorem dJ9_max_7cf53_9 : decode cJ9_max_7cf53 9 = .ok (.iload_n 1, 1) := by decide +kernel
theorem dJ9_max_7cf53_10 : decode cJ9_max_7cf53 10 = .ok (.ireturn, 1) := by decide +kernel
theorem dJ9_min_7cf53_0 : decode cJ9_min_7cf53 0 = .ok (.iload_n 0, 1) := by decide +kernel
theorem dJ9_min_7cf53_1 : decode cJ9_min_7cf53 1 = .ok (.iload_n 1, 1) := by decide +kernel
theorem dJ9_min_7cf53_2 : decode cJ9_min_7cf53 2 = .ok (.if_icmp .gt 7, 3) := by decide +kernel
theorem dJ9_min_7cf53_5 : decode cJ9_min_7cf53 5 = .ok (.iload_n 0, 1) := by decide +kernel
theorem dJ9_min_7cf53_6 : decode cJ9_min_7cf53 6 = .ok (.goto 4, 3) := by decide +kernel
theorem dJ9_min_7cf53_9 : decode cJ9_min_7cf53 9 = .ok (.iload_n 1, 1) := by decide +kernel
theorem dJ9_min_7cf53_10 : decode cJ9_min_7cf53 10 = .ok (.ireturn, 1) := by decide +kernel
