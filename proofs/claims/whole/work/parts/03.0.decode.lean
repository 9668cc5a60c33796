theorem dX0_init_0 : decode cX0_init 0 = .ok (.aload_n 0, 1) := by decide +kernel
theorem dX0_init_1 : decode cX0_init 1 = .ok (.invokespecial 3, 3) := by decide +kernel
theorem dX0_init_4 : decode cX0_init 4 = .ok (.aload_n 0, 1) := by decide +kernel
theorem dX0_init_5 : decode cX0_init 5 = .ok (.aload_n 1, 1) := by decide +kernel
theorem dX0_init_6 : decode cX0_init 6 = .ok (.putfield 9, 3) := by decide +kernel
theorem dX0_init_9 : decode cX0_init 9 = .ok (.aload_n 0, 1) := by decide +kernel
theorem dX0_init_10 : decode cX0_init 10 = .ok (.aload_n 2, 1) := by decide +kernel
theorem dX0_init_11 : decode cX0_init 11 = .ok (.putfield 15, 3) := by decide +kernel
theorem dX0_init_14 : decode cX0_init 14 = .ok (.aload_n 0, 1) := by decide +kernel
theorem dX0_init_15 : decode cX0_init 15 = .ok (.new 18, 3) := by decide +kernel
theorem dX0_init_18 : decode cX0_init 18 = .ok (.dup, 1) := by decide +kernel
theorem dX0_init_19 : decode cX0_init 19 = .ok (.invokespecial 20, 3) := by decide +kernel
theorem dX0_init_22 : decode cX0_init 22 = .ok (.putfield 21, 3) := by decide +kernel
theorem dX0_init_25 : decode cX0_init 25 = .ok (.aload_n 0, 1) := by decide +kernel
theorem dX0_init_26 : decode cX0_init 26 = .ok (.iconst 5, 1) := by decide +kernel
theorem dX0_init_27 : decode cX0_init 27 = .ok (.newarray .int, 2) := by decide +kernel
theorem dX0_init_29 : decode cX0_init 29 = .ok (.putfield 25, 3) := by decide +kernel
theorem dX0_init_32 : decode cX0_init 32 = .ok (.aload_n 0, 1) := by decide +kernel
theorem dX0_init_33 : decode cX0_init 33 = .ok (.bipush 120, 2) := by decide +kernel
theorem dX0_init_35 : decode cX0_init 35 = .ok (.newarray .int, 2) := by decide +kernel
theorem dX0_init_37 : decode cX0_init 37 = .ok (.putfield 29, 3) := by decide +kernel
theorem dX0_init_40 : decode cX0_init 40 = .ok (.aload_n 0, 1) := by decide +kernel
theorem dX0_init_41 : decode cX0_init 41 = .ok (.bipush 120, 2) := by decide +kernel
theorem dX0_init_43 : decode cX0_init 43 = .ok (.newarray .int, 2) := by decide +kernel
theorem dX0_init_45 : decode cX0_init 45 = .ok (.putfield 32, 3) := by decide +kernel
theorem dX0_init_48 : decode cX0_init 48 = .ok (.aload_n 0, 1) := by decide +kernel
theorem dX0_init_49 : decode cX0_init 49 = .ok (.bipush 120, 2) := by decide +kernel
theorem dX0_init_51 : decode cX0_init 51 = .ok (.newarray .int, 2) := by decide +kernel
theorem dX0_init_53 : decode cX0_init 53 = .ok (.putfield 35, 3) := by decide +kernel
theorem dX0_init_56 : decode cX0_init 56 = .ok (.aload_n 0, 1) := by decide +kernel
theorem dX0_init_57 : decode cX0_init 57 = .ok (.bipush 16, 2) := by decide +kernel
theorem dX0_init_59 : decode cX0_init 59 = .ok (.newarray .int, 2) := by decide +kernel
theorem dX0_init_61 : decode cX0_init 61 = .ok (.putfield 38, 3) := by decide +kernel
theorem dX0_init_64 : decode cX0_init 64 = .ok (.return_, 1) := by decide +kernel
theorem dX0_follow_0 : decode cX0_follow 0 = .ok (.aload_n 0, 1) := by decide +kernel
theorem dX0_follow_1 : decode cX0_follow 1 = .ok (.getfield 21, 3) := by decide +kernel
theorem dX0_follow_4 : decode cX0_follow 4 = .ok (.iload_n 1, 1) := by decide +kernel
theorem dX0_follow_5 : decode cX0_follow 5 = .ok (.iload_n 2, 1) := by decide +kernel
theorem dX0_follow_6 : decode cX0_follow 6 = .ok (.invokevirtual 41, 3) := by decide +kernel
theorem dX0_follow_9 : decode cX0_follow 9 = .ok (.iconst 1, 1) := by decide +kernel
theorem dX0_follow_10 : decode cX0_follow 10 = .ok (.istore 4, 2) := by decide +kernel
theorem dX0_follow_12 : decode cX0_follow 12 = .ok (.iload 4, 2) := by decide +kernel
theorem dX0_follow_14 : decode cX0_follow 14 = .ok (.iload_n 3, 1) := by decide +kernel
theorem dX0_follow_15 : decode cX0_follow 15 = .ok (.if_icmp .gt 32, 3) := by decide +kernel
theorem dX0_follow_18 : decode cX0_follow 18 = .ok (.aload_n 0, 1) := by decide +kernel
theorem dX0_follow_19 : decode cX0_follow 19 = .ok (.getfield 21, 3) := by decide +kernel
theorem dX0_follow_22 : decode cX0_follow 22 = .ok (.invokevirtual 45, 3) := by decide +kernel
theorem dX0_follow_25 : decode cX0_follow 25 = .ok (.ifCond .ne 22, 3) := by decide +kernel
theorem dX0_follow_28 : decode cX0_follow 28 = .ok (.aload_n 0, 1) := by decide +kernel
theorem dX0_follow_29 : decode cX0_follow 29 = .ok (.getfield 21, 3) := by decide +kernel
theorem dX0_follow_32 : decode cX0_follow 32 = .ok (.aload_n 0, 1) := by decide +kernel
theorem dX0_follow_33 : decode cX0_follow 33 = .ok (.getfield 9, 3) := by decide +kernel
theorem dX0_follow_36 : decode cX0_follow 36 = .ok (.iload 4, 2) := by decide +kernel
theorem dX0_follow_38 : decode cX0_follow 38 = .ok (.invokevirtual 49, 3) := by decide +kernel
theorem dX0_follow_41 : decode cX0_follow 41 = .ok (.iinc 4 1, 3) := by decide +kernel
theorem dX0_follow_44 : decode cX0_follow 44 = .ok (.goto (-32), 3) := by decide +kernel
theorem dX0_follow_47 : decode cX0_follow 47 = .ok (.aload_n 0, 1) := by decide +kernel
theorem dX0_follow_48 : decode cX0_follow 48 = .ok (.getfield 21, 3) := by decide +kernel
theorem dX0_follow_51 : decode cX0_follow 51 = .ok (.areturn, 1) := by decide +kernel
theorem dX0_lossIn_0 : decode cX0_lossIn 0 = .ok (.aload_n 0, 1) := by decide +kernel
theorem dX0_lossIn_1 : decode cX0_lossIn 1 = .ok (.getfield 15, 3) := by decide +kernel
theorem dX0_lossIn_4 : decode cX0_lossIn 4 = .ok (.aload_n 0, 1) := by decide +kernel
theorem dX0_lossIn_5 : decode cX0_lossIn 5 = .ok (.getfield 9, 3) := by decide +kernel
theorem dX0_lossIn_8 : decode cX0_lossIn 8 = .ok (.invokevirtual 53, 3) := by decide +kernel
theorem dX0_lossIn_11 : decode cX0_lossIn 11 = .ok (.aload_n 0, 1) := by decide +kernel
theorem dX0_lossIn_12 : decode cX0_lossIn 12 = .ok (.getfield 15, 3) := by decide +kernel
theorem dX0_lossIn_15 : decode cX0_lossIn 15 = .ok (.iload_n 1, 1) := by decide +kernel
theorem dX0_lossIn_16 : decode cX0_lossIn 16 = .ok (.invokevirtual 59, 3) := by decide +kernel
theorem dX0_lossIn_19 : decode cX0_lossIn 19 = .ok (.ireturn, 1) := by decide +kernel
theorem dX0_bestMove_0 : decode cX0_bestMove 0 = .ok (.iconst 0, 1) := by decide +kernel
theorem dX0_bestMove_1 : decode cX0_bestMove 1 = .ok (.istore_n 3, 1) := by decide +kernel
theorem dX0_bestMove_2 : decode cX0_bestMove 2 = .ok (.iconst 0, 1) := by decide +kernel
theorem dX0_bestMove_3 : decode cX0_bestMove 3 = .ok (.istore 4, 2) := by decide +kernel
theorem dX0_bestMove_5 : decode cX0_bestMove 5 = .ok (.iconst 0, 1) := by decide +kernel
theorem dX0_bestMove_6 : decode cX0_bestMove 6 = .ok (.istore 5, 2) := by decide +kernel
theorem dX0_bestMove_8 : decode cX0_bestMove 8 = .ok (.iload 5, 2) := by decide +kernel
theorem dX0_bestMove_10 : decode cX0_bestMove 10 = .ok (.aload_n 0, 1) := by decide +kernel
theorem dX0_bestMove_11 : decode cX0_bestMove 11 = .ok (.getfield 9, 3) := by decide +kernel
theorem dX0_bestMove_14 : decode cX0_bestMove 14 = .ok (.getfield 63, 3) := by decide +kernel
theorem dX0_bestMove_17 : decode cX0_bestMove 17 = .ok (.if_icmp .ge 59, 3) := by decide +kernel
theorem dX0_bestMove_20 : decode cX0_bestMove 20 = .ok (.aload_n 0, 1) := by decide +kernel
theorem dX0_bestMove_21 : decode cX0_bestMove 21 = .ok (.getfield 15, 3) := by decide +kernel
theorem dX0_bestMove_24 : decode cX0_bestMove 24 = .ok (.aload_n 0, 1) := by decide +kernel
theorem dX0_bestMove_25 : decode cX0_bestMove 25 = .ok (.getfield 9, 3) := by decide +kernel
theorem dX0_bestMove_28 : decode cX0_bestMove 28 = .ok (.invokevirtual 53, 3) := by decide +kernel
theorem dX0_bestMove_31 : decode cX0_bestMove 31 = .ok (.aload_n 0, 1) := by decide +kernel
theorem dX0_bestMove_32 : decode cX0_bestMove 32 = .ok (.getfield 15, 3) := by decide +kernel
theorem dX0_bestMove_35 : decode cX0_bestMove 35 = .ok (.iload_n 1, 1) := by decide +kernel
theorem dX0_bestMove_36 : decode cX0_bestMove 36 = .ok (.iload 5, 2) := by decide +kernel
theorem dX0_bestMove_38 : decode cX0_bestMove 38 = .ok (.invokevirtual 67, 3) := by decide +kernel
theorem dX0_bestMove_41 : decode cX0_bestMove 41 = .ok (.aload_n 0, 1) := by decide +kernel
theorem dX0_bestMove_42 : decode cX0_bestMove 42 = .ok (.getfield 15, 3) := by decide +kernel
theorem dX0_bestMove_45 : decode cX0_bestMove 45 = .ok (.iload_n 2, 1) := by decide +kernel
theorem dX0_bestMove_46 : decode cX0_bestMove 46 = .ok (.invokevirtual 59, 3) := by decide +kernel
theorem dX0_bestMove_49 : decode cX0_bestMove 49 = .ok (.istore 6, 2) := by decide +kernel
theorem dX0_bestMove_51 : decode cX0_bestMove 51 = .ok (.iload 5, 2) := by decide +kernel
theorem dX0_bestMove_53 : decode cX0_bestMove 53 = .ok (.ifCond .eq 10, 3) := by decide +kernel
theorem dX0_bestMove_56 : decode cX0_bestMove 56 = .ok (.iload 6, 2) := by decide +kernel
theorem dX0_bestMove_58 : decode cX0_bestMove 58 = .ok (.iload 4, 2) := by decide +kernel
theorem dX0_bestMove_60 : decode cX0_bestMove 60 = .ok (.if_icmp .ge 10, 3) := by decide +kernel
theorem dX0_bestMove_63 : decode cX0_bestMove 63 = .ok (.iload 6, 2) := by decide +kernel
theorem dX0_bestMove_65 : decode cX0_bestMove 65 = .ok (.istore 4, 2) := by decide +kernel
theorem dX0_bestMove_67 : decode cX0_bestMove 67 = .ok (.iload 5, 2) := by decide +kernel
theorem dX0_bestMove_69 : decode cX0_bestMove 69 = .ok (.istore_n 3, 1) := by decide +kernel
theorem dX0_bestMove_70 : decode cX0_bestMove 70 = .ok (.iinc 5 1, 3) := by decide +kernel
theorem dX0_bestMove_73 : decode cX0_bestMove 73 = .ok (.goto (-65), 3) := by decide +kernel
theorem dX0_bestMove_76 : decode cX0_bestMove 76 = .ok (.iload_n 3, 1) := by decide +kernel
theorem dX0_bestMove_77 : decode cX0_bestMove 77 = .ok (.ireturn, 1) := by decide +kernel
theorem dX0_fewestPushes_0 : decode cX0_fewestPushes 0 = .ok (.aload_n 0, 1) := by decide +kernel
theorem dX0_fewestPushes_1 : decode cX0_fewestPushes 1 = .ok (.getfield 29, 3) := by decide +kernel
theorem dX0_fewestPushes_4 : decode cX0_fewestPushes 4 = .ok (.iconst 0, 1) := by decide +kernel
theorem dX0_fewestPushes_5 : decode cX0_fewestPushes 5 = .ok (.invokestatic 70, 3) := by decide +kernel
theorem dX0_fewestPushes_8 : decode cX0_fewestPushes 8 = .ok (.iload_n 1, 1) := by decide +kernel
theorem dX0_fewestPushes_9 : decode cX0_fewestPushes 9 = .ok (.istore_n 2, 1) := by decide +kernel
theorem dX0_fewestPushes_10 : decode cX0_fewestPushes 10 = .ok (.iload_n 2, 1) := by decide +kernel
theorem dX0_fewestPushes_11 : decode cX0_fewestPushes 11 = .ok (.iconst 1, 1) := by decide +kernel
theorem dX0_fewestPushes_12 : decode cX0_fewestPushes 12 = .ok (.if_icmp .lt 18, 3) := by decide +kernel
theorem dX0_fewestPushes_15 : decode cX0_fewestPushes 15 = .ok (.aload_n 0, 1) := by decide +kernel
theorem dX0_fewestPushes_16 : decode cX0_fewestPushes 16 = .ok (.iload_n 2, 1) := by decide +kernel
theorem dX0_fewestPushes_17 : decode cX0_fewestPushes 17 = .ok (.invokevirtual 76, 3) := by decide +kernel
theorem dX0_fewestPushes_20 : decode cX0_fewestPushes 20 = .ok (.aload_n 0, 1) := by decide +kernel
theorem dX0_fewestPushes_21 : decode cX0_fewestPushes 21 = .ok (.invokevirtual 80, 3) := by decide +kernel
theorem dX0_fewestPushes_24 : decode cX0_fewestPushes 24 = .ok (.iinc 2 (-1), 3) := by decide +kernel
theorem dX0_fewestPushes_27 : decode cX0_fewestPushes 27 = .ok (.goto (-17), 3) := by decide +kernel
theorem dX0_fewestPushes_30 : decode cX0_fewestPushes 30 = .ok (.iconst 0, 1) := by decide +kernel
theorem dX0_fewestPushes_31 : decode cX0_fewestPushes 31 = .ok (.istore_n 2, 1) := by decide +kernel
theorem dX0_fewestPushes_32 : decode cX0_fewestPushes 32 = .ok (.iconst 0, 1) := by decide +kernel
theorem dX0_fewestPushes_33 : decode cX0_fewestPushes 33 = .ok (.istore_n 3, 1) := by decide +kernel
theorem dX0_fewestPushes_34 : decode cX0_fewestPushes 34 = .ok (.iload_n 3, 1) := by decide +kernel
theorem dX0_fewestPushes_35 : decode cX0_fewestPushes 35 = .ok (.iconst 5, 1) := by decide +kernel
theorem dX0_fewestPushes_36 : decode cX0_fewestPushes 36 = .ok (.if_icmp .ge 78, 3) := by decide +kernel
theorem dX0_fewestPushes_39 : decode cX0_fewestPushes 39 = .ok (.iconst 0, 1) := by decide +kernel
theorem dX0_fewestPushes_40 : decode cX0_fewestPushes 40 = .ok (.istore 4, 2) := by decide +kernel
theorem dX0_fewestPushes_42 : decode cX0_fewestPushes 42 = .ok (.iload 4, 2) := by decide +kernel
theorem dX0_fewestPushes_44 : decode cX0_fewestPushes 44 = .ok (.aload_n 0, 1) := by decide +kernel
theorem dX0_fewestPushes_45 : decode cX0_fewestPushes 45 = .ok (.getfield 9, 3) := by decide +kernel
theorem dX0_fewestPushes_48 : decode cX0_fewestPushes 48 = .ok (.getfield 63, 3) := by decide +kernel
theorem dX0_fewestPushes_51 : decode cX0_fewestPushes 51 = .ok (.if_icmp .ge 57, 3) := by decide +kernel
theorem dX0_fewestPushes_54 : decode cX0_fewestPushes 54 = .ok (.aload_n 0, 1) := by decide +kernel
theorem dX0_fewestPushes_55 : decode cX0_fewestPushes 55 = .ok (.getfield 9, 3) := by decide +kernel
theorem dX0_fewestPushes_58 : decode cX0_fewestPushes 58 = .ok (.iload_n 3, 1) := by decide +kernel
theorem dX0_fewestPushes_59 : decode cX0_fewestPushes 59 = .ok (.iload 4, 2) := by decide +kernel
theorem dX0_fewestPushes_61 : decode cX0_fewestPushes 61 = .ok (.invokevirtual 83, 3) := by decide +kernel
theorem dX0_fewestPushes_64 : decode cX0_fewestPushes 64 = .ok (.istore 5, 2) := by decide +kernel
theorem dX0_fewestPushes_66 : decode cX0_fewestPushes 66 = .ok (.aload_n 0, 1) := by decide +kernel
theorem dX0_fewestPushes_67 : decode cX0_fewestPushes 67 = .ok (.getfield 29, 3) := by decide +kernel
theorem dX0_fewestPushes_70 : decode cX0_fewestPushes 70 = .ok (.iload_n 3, 1) := by decide +kernel
theorem dX0_fewestPushes_71 : decode cX0_fewestPushes 71 = .ok (.iload 4, 2) := by decide +kernel
theorem dX0_fewestPushes_73 : decode cX0_fewestPushes 73 = .ok (.invokestatic 87, 3) := by decide +kernel
theorem dX0_fewestPushes_76 : decode cX0_fewestPushes 76 = .ok (.iaload, 1) := by decide +kernel
theorem dX0_fewestPushes_77 : decode cX0_fewestPushes 77 = .ok (.istore 6, 2) := by decide +kernel
theorem dX0_fewestPushes_79 : decode cX0_fewestPushes 79 = .ok (.iload 5, 2) := by decide +kernel
theorem dX0_fewestPushes_81 : decode cX0_fewestPushes 81 = .ok (.ifCond .le 13, 3) := by decide +kernel
theorem dX0_fewestPushes_84 : decode cX0_fewestPushes 84 = .ok (.iload 6, 2) := by decide +kernel
theorem dX0_fewestPushes_86 : decode cX0_fewestPushes 86 = .ok (.sipush 1000, 3) := by decide +kernel
theorem dX0_fewestPushes_89 : decode cX0_fewestPushes 89 = .ok (.if_icmp .lt 5, 3) := by decide +kernel
theorem dX0_fewestPushes_92 : decode cX0_fewestPushes 92 = .ok (.iconst (-1), 1) := by decide +kernel
theorem dX0_fewestPushes_93 : decode cX0_fewestPushes 93 = .ok (.ireturn, 1) := by decide +kernel
theorem dX0_fewestPushes_94 : decode cX0_fewestPushes 94 = .ok (.iload_n 2, 1) := by decide +kernel
theorem dX0_fewestPushes_95 : decode cX0_fewestPushes 95 = .ok (.iload 5, 2) := by decide +kernel
theorem dX0_fewestPushes_97 : decode cX0_fewestPushes 97 = .ok (.iload 6, 2) := by decide +kernel
theorem dX0_fewestPushes_99 : decode cX0_fewestPushes 99 = .ok (.imul, 1) := by decide +kernel
theorem dX0_fewestPushes_100 : decode cX0_fewestPushes 100 = .ok (.iadd, 1) := by decide +kernel
theorem dX0_fewestPushes_101 : decode cX0_fewestPushes 101 = .ok (.istore_n 2, 1) := by decide +kernel
theorem dX0_fewestPushes_102 : decode cX0_fewestPushes 102 = .ok (.iinc 4 1, 3) := by decide +kernel
theorem dX0_fewestPushes_105 : decode cX0_fewestPushes 105 = .ok (.goto (-63), 3) := by decide +kernel
theorem dX0_fewestPushes_108 : decode cX0_fewestPushes 108 = .ok (.iinc 3 1, 3) := by decide +kernel
theorem dX0_fewestPushes_111 : decode cX0_fewestPushes 111 = .ok (.goto (-77), 3) := by decide +kernel
theorem dX0_fewestPushes_114 : decode cX0_fewestPushes 114 = .ok (.iload_n 2, 1) := by decide +kernel
theorem dX0_fewestPushes_115 : decode cX0_fewestPushes 115 = .ok (.ireturn, 1) := by decide +kernel
theorem dX0_leaveInRound_0 : decode cX0_leaveInRound 0 = .ok (.iconst 0, 1) := by decide +kernel
theorem dX0_leaveInRound_1 : decode cX0_leaveInRound 1 = .ok (.istore_n 2, 1) := by decide +kernel
theorem dX0_leaveInRound_2 : decode cX0_leaveInRound 2 = .ok (.iload_n 2, 1) := by decide +kernel
theorem dX0_leaveInRound_3 : decode cX0_leaveInRound 3 = .ok (.iconst 5, 1) := by decide +kernel
theorem dX0_leaveInRound_4 : decode cX0_leaveInRound 4 = .ok (.if_icmp .ge 97, 3) := by decide +kernel
theorem dX0_leaveInRound_7 : decode cX0_leaveInRound 7 = .ok (.iconst 0, 1) := by decide +kernel
theorem dX0_leaveInRound_8 : decode cX0_leaveInRound 8 = .ok (.istore_n 3, 1) := by decide +kernel
theorem dX0_leaveInRound_9 : decode cX0_leaveInRound 9 = .ok (.iload_n 3, 1) := by decide +kernel
theorem dX0_leaveInRound_10 : decode cX0_leaveInRound 10 = .ok (.aload_n 0, 1) := by decide +kernel
theorem dX0_leaveInRound_11 : decode cX0_leaveInRound 11 = .ok (.getfield 9, 3) := by decide +kernel
theorem dX0_leaveInRound_14 : decode cX0_leaveInRound 14 = .ok (.getfield 63, 3) := by decide +kernel
theorem dX0_leaveInRound_17 : decode cX0_leaveInRound 17 = .ok (.if_icmp .ge 78, 3) := by decide +kernel
theorem dX0_leaveInRound_20 : decode cX0_leaveInRound 20 = .ok (.aload_n 0, 1) := by decide +kernel
theorem dX0_leaveInRound_21 : decode cX0_leaveInRound 21 = .ok (.getfield 21, 3) := by decide +kernel
theorem dX0_leaveInRound_24 : decode cX0_leaveInRound 24 = .ok (.iload_n 2, 1) := by decide +kernel
theorem dX0_leaveInRound_25 : decode cX0_leaveInRound 25 = .ok (.iload_n 3, 1) := by decide +kernel
theorem dX0_leaveInRound_26 : decode cX0_leaveInRound 26 = .ok (.invokevirtual 41, 3) := by decide +kernel
theorem dX0_leaveInRound_29 : decode cX0_leaveInRound 29 = .ok (.aload_n 0, 1) := by decide +kernel
theorem dX0_leaveInRound_30 : decode cX0_leaveInRound 30 = .ok (.getfield 21, 3) := by decide +kernel
theorem dX0_leaveInRound_33 : decode cX0_leaveInRound 33 = .ok (.aload_n 0, 1) := by decide +kernel
theorem dX0_leaveInRound_34 : decode cX0_leaveInRound 34 = .ok (.getfield 9, 3) := by decide +kernel
theorem dX0_leaveInRound_37 : decode cX0_leaveInRound 37 = .ok (.iload_n 1, 1) := by decide +kernel
theorem dX0_leaveInRound_38 : decode cX0_leaveInRound 38 = .ok (.invokevirtual 49, 3) := by decide +kernel
theorem dX0_leaveInRound_41 : decode cX0_leaveInRound 41 = .ok (.aload_n 0, 1) := by decide +kernel
theorem dX0_leaveInRound_42 : decode cX0_leaveInRound 42 = .ok (.getfield 32, 3) := by decide +kernel
theorem dX0_leaveInRound_45 : decode cX0_leaveInRound 45 = .ok (.iload_n 2, 1) := by decide +kernel
theorem dX0_leaveInRound_46 : decode cX0_leaveInRound 46 = .ok (.iload_n 3, 1) := by decide +kernel
theorem dX0_leaveInRound_47 : decode cX0_leaveInRound 47 = .ok (.invokestatic 87, 3) := by decide +kernel
theorem dX0_leaveInRound_50 : decode cX0_leaveInRound 50 = .ok (.aload_n 0, 1) := by decide +kernel
theorem dX0_leaveInRound_51 : decode cX0_leaveInRound 51 = .ok (.getfield 21, 3) := by decide +kernel
theorem dX0_leaveInRound_54 : decode cX0_leaveInRound 54 = .ok (.invokevirtual 45, 3) := by decide +kernel
theorem dX0_leaveInRound_57 : decode cX0_leaveInRound 57 = .ok (.ifCond .eq 9, 3) := by decide +kernel
theorem dX0_leaveInRound_60 : decode cX0_leaveInRound 60 = .ok (.sipush 1000, 3) := by decide +kernel
theorem dX0_leaveInRound_63 : decode cX0_leaveInRound 63 = .ok (.goto 25, 3) := by decide +kernel
theorem dX0_leaveInRound_66 : decode cX0_leaveInRound 66 = .ok (.aload_n 0, 1) := by decide +kernel
theorem dX0_leaveInRound_67 : decode cX0_leaveInRound 67 = .ok (.getfield 29, 3) := by decide +kernel
theorem dX0_leaveInRound_70 : decode cX0_leaveInRound 70 = .ok (.aload_n 0, 1) := by decide +kernel
theorem dX0_leaveInRound_71 : decode cX0_leaveInRound 71 = .ok (.getfield 21, 3) := by decide +kernel
theorem dX0_leaveInRound_74 : decode cX0_leaveInRound 74 = .ok (.getfield 90, 3) := by decide +kernel
theorem dX0_leaveInRound_77 : decode cX0_leaveInRound 77 = .ok (.aload_n 0, 1) := by decide +kernel
theorem dX0_leaveInRound_78 : decode cX0_leaveInRound 78 = .ok (.getfield 21, 3) := by decide +kernel
theorem dX0_leaveInRound_81 : decode cX0_leaveInRound 81 = .ok (.getfield 93, 3) := by decide +kernel
theorem dX0_leaveInRound_84 : decode cX0_leaveInRound 84 = .ok (.invokestatic 87, 3) := by decide +kernel
theorem dX0_leaveInRound_87 : decode cX0_leaveInRound 87 = .ok (.iaload, 1) := by decide +kernel
theorem dX0_leaveInRound_88 : decode cX0_leaveInRound 88 = .ok (.iastore, 1) := by decide +kernel
theorem dX0_leaveInRound_89 : decode cX0_leaveInRound 89 = .ok (.iinc 3 1, 3) := by decide +kernel
theorem dX0_leaveInRound_92 : decode cX0_leaveInRound 92 = .ok (.goto (-83), 3) := by decide +kernel
theorem dX0_leaveInRound_95 : decode cX0_leaveInRound 95 = .ok (.iinc 2 1, 3) := by decide +kernel
theorem dX0_leaveInRound_98 : decode cX0_leaveInRound 98 = .ok (.goto (-96), 3) := by decide +kernel
theorem dX0_leaveInRound_101 : decode cX0_leaveInRound 101 = .ok (.return_, 1) := by decide +kernel
theorem dX0_pushAheadOfRound_0 : decode cX0_pushAheadOfRound 0 = .ok (.iconst 0, 1) := by decide +kernel
theorem dX0_pushAheadOfRound_1 : decode cX0_pushAheadOfRound 1 = .ok (.istore_n 1, 1) := by decide +kernel
theorem dX0_pushAheadOfRound_2 : decode cX0_pushAheadOfRound 2 = .ok (.iload_n 1, 1) := by decide +kernel
theorem dX0_pushAheadOfRound_3 : decode cX0_pushAheadOfRound 3 = .ok (.iconst 5, 1) := by decide +kernel
theorem dX0_pushAheadOfRound_4 : decode cX0_pushAheadOfRound 4 = .ok (.if_icmp .ge 70, 3) := by decide +kernel
theorem dX0_pushAheadOfRound_7 : decode cX0_pushAheadOfRound 7 = .ok (.iconst 0, 1) := by decide +kernel
theorem dX0_pushAheadOfRound_8 : decode cX0_pushAheadOfRound 8 = .ok (.istore_n 2, 1) := by decide +kernel
theorem dX0_pushAheadOfRound_9 : decode cX0_pushAheadOfRound 9 = .ok (.iload_n 2, 1) := by decide +kernel
theorem dX0_pushAheadOfRound_10 : decode cX0_pushAheadOfRound 10 = .ok (.aload_n 0, 1) := by decide +kernel
theorem dX0_pushAheadOfRound_11 : decode cX0_pushAheadOfRound 11 = .ok (.getfield 9, 3) := by decide +kernel
theorem dX0_pushAheadOfRound_14 : decode cX0_pushAheadOfRound 14 = .ok (.getfield 63, 3) := by decide +kernel
theorem dX0_pushAheadOfRound_17 : decode cX0_pushAheadOfRound 17 = .ok (.if_icmp .ge 51, 3) := by decide +kernel
theorem dX0_pushAheadOfRound_20 : decode cX0_pushAheadOfRound 20 = .ok (.iconst 1, 1) := by decide +kernel
theorem dX0_pushAheadOfRound_21 : decode cX0_pushAheadOfRound 21 = .ok (.aload_n 0, 1) := by decide +kernel
theorem dX0_pushAheadOfRound_22 : decode cX0_pushAheadOfRound 22 = .ok (.iload_n 1, 1) := by decide +kernel
theorem dX0_pushAheadOfRound_23 : decode cX0_pushAheadOfRound 23 = .ok (.iconst 1, 1) := by decide +kernel
theorem dX0_pushAheadOfRound_24 : decode cX0_pushAheadOfRound 24 = .ok (.isub, 1) := by decide +kernel
theorem dX0_pushAheadOfRound_25 : decode cX0_pushAheadOfRound 25 = .ok (.iload_n 2, 1) := by decide +kernel
theorem dX0_pushAheadOfRound_26 : decode cX0_pushAheadOfRound 26 = .ok (.invokevirtual 96, 3) := by decide +kernel
theorem dX0_pushAheadOfRound_29 : decode cX0_pushAheadOfRound 29 = .ok (.aload_n 0, 1) := by decide +kernel
theorem dX0_pushAheadOfRound_30 : decode cX0_pushAheadOfRound 30 = .ok (.iload_n 1, 1) := by decide +kernel
theorem dX0_pushAheadOfRound_31 : decode cX0_pushAheadOfRound 31 = .ok (.iconst 1, 1) := by decide +kernel
theorem dX0_pushAheadOfRound_32 : decode cX0_pushAheadOfRound 32 = .ok (.iadd, 1) := by decide +kernel
theorem dX0_pushAheadOfRound_33 : decode cX0_pushAheadOfRound 33 = .ok (.iload_n 2, 1) := by decide +kernel
theorem dX0_pushAheadOfRound_34 : decode cX0_pushAheadOfRound 34 = .ok (.invokevirtual 96, 3) := by decide +kernel
theorem dX0_pushAheadOfRound_37 : decode cX0_pushAheadOfRound 37 = .ok (.invokestatic 99, 3) := by decide +kernel
theorem dX0_pushAheadOfRound_40 : decode cX0_pushAheadOfRound 40 = .ok (.iadd, 1) := by decide +kernel
theorem dX0_pushAheadOfRound_41 : decode cX0_pushAheadOfRound 41 = .ok (.istore_n 3, 1) := by decide +kernel
theorem dX0_pushAheadOfRound_42 : decode cX0_pushAheadOfRound 42 = .ok (.aload_n 0, 1) := by decide +kernel
theorem dX0_pushAheadOfRound_43 : decode cX0_pushAheadOfRound 43 = .ok (.getfield 29, 3) := by decide +kernel
theorem dX0_pushAheadOfRound_46 : decode cX0_pushAheadOfRound 46 = .ok (.iload_n 1, 1) := by decide +kernel
theorem dX0_pushAheadOfRound_47 : decode cX0_pushAheadOfRound 47 = .ok (.iload_n 2, 1) := by decide +kernel
theorem dX0_pushAheadOfRound_48 : decode cX0_pushAheadOfRound 48 = .ok (.invokestatic 87, 3) := by decide +kernel
theorem dX0_pushAheadOfRound_51 : decode cX0_pushAheadOfRound 51 = .ok (.aload_n 0, 1) := by decide +kernel
theorem dX0_pushAheadOfRound_52 : decode cX0_pushAheadOfRound 52 = .ok (.iload_n 1, 1) := by decide +kernel
theorem dX0_pushAheadOfRound_53 : decode cX0_pushAheadOfRound 53 = .ok (.iload_n 2, 1) := by decide +kernel
theorem dX0_pushAheadOfRound_54 : decode cX0_pushAheadOfRound 54 = .ok (.invokevirtual 96, 3) := by decide +kernel
theorem dX0_pushAheadOfRound_57 : decode cX0_pushAheadOfRound 57 = .ok (.iload_n 3, 1) := by decide +kernel
theorem dX0_pushAheadOfRound_58 : decode cX0_pushAheadOfRound 58 = .ok (.invokestatic 99, 3) := by decide +kernel
theorem dX0_pushAheadOfRound_61 : decode cX0_pushAheadOfRound 61 = .ok (.iastore, 1) := by decide +kernel
theorem dX0_pushAheadOfRound_62 : decode cX0_pushAheadOfRound 62 = .ok (.iinc 2 1, 3) := by decide +kernel
theorem dX0_pushAheadOfRound_65 : decode cX0_pushAheadOfRound 65 = .ok (.goto (-56), 3) := by decide +kernel
theorem dX0_pushAheadOfRound_68 : decode cX0_pushAheadOfRound 68 = .ok (.iinc 1 1, 3) := by decide +kernel
theorem dX0_pushAheadOfRound_71 : decode cX0_pushAheadOfRound 71 = .ok (.goto (-69), 3) := by decide +kernel
theorem dX0_pushAheadOfRound_74 : decode cX0_pushAheadOfRound 74 = .ok (.return_, 1) := by decide +kernel
theorem dX0_costIfLeft_0 : decode cX0_costIfLeft 0 = .ok (.iload_n 1, 1) := by decide +kernel
theorem dX0_costIfLeft_1 : decode cX0_costIfLeft 1 = .ok (.invokestatic 104, 3) := by decide +kernel
theorem dX0_costIfLeft_4 : decode cX0_costIfLeft 4 = .ok (.ifCond .eq 16, 3) := by decide +kernel
theorem dX0_costIfLeft_7 : decode cX0_costIfLeft 7 = .ok (.aload_n 0, 1) := by decide +kernel
theorem dX0_costIfLeft_8 : decode cX0_costIfLeft 8 = .ok (.getfield 32, 3) := by decide +kernel
theorem dX0_costIfLeft_11 : decode cX0_costIfLeft 11 = .ok (.iload_n 1, 1) := by decide +kernel
theorem dX0_costIfLeft_12 : decode cX0_costIfLeft 12 = .ok (.iload_n 2, 1) := by decide +kernel
theorem dX0_costIfLeft_13 : decode cX0_costIfLeft 13 = .ok (.invokestatic 87, 3) := by decide +kernel
theorem dX0_costIfLeft_16 : decode cX0_costIfLeft 16 = .ok (.iaload, 1) := by decide +kernel
theorem dX0_costIfLeft_17 : decode cX0_costIfLeft 17 = .ok (.goto 6, 3) := by decide +kernel
theorem dX0_costIfLeft_20 : decode cX0_costIfLeft 20 = .ok (.sipush 1000, 3) := by decide +kernel
theorem dX0_costIfLeft_23 : decode cX0_costIfLeft 23 = .ok (.ireturn, 1) := by decide +kernel
theorem dX0_cell_0 : decode cX0_cell 0 = .ok (.iload_n 0, 1) := by decide +kernel
theorem dX0_cell_1 : decode cX0_cell 1 = .ok (.bipush 24, 2) := by decide +kernel
theorem dX0_cell_3 : decode cX0_cell 3 = .ok (.imul, 1) := by decide +kernel
theorem dX0_cell_4 : decode cX0_cell 4 = .ok (.iload_n 1, 1) := by decide +kernel
theorem dX0_cell_5 : decode cX0_cell 5 = .ok (.iadd, 1) := by decide +kernel
theorem dX0_cell_6 : decode cX0_cell 6 = .ok (.ireturn, 1) := by decide +kernel
theorem dX0_roadOpens_0 : decode cX0_roadOpens 0 = .ok (.aload_n 0, 1) := by decide +kernel
theorem dX0_roadOpens_1 : decode cX0_roadOpens 1 = .ok (.getfield 15, 3) := by decide +kernel
theorem dX0_roadOpens_4 : decode cX0_roadOpens 4 = .ok (.aload_n 0, 1) := by decide +kernel
theorem dX0_roadOpens_5 : decode cX0_roadOpens 5 = .ok (.getfield 9, 3) := by decide +kernel
theorem dX0_roadOpens_8 : decode cX0_roadOpens 8 = .ok (.invokevirtual 53, 3) := by decide +kernel
theorem dX0_roadOpens_11 : decode cX0_roadOpens 11 = .ok (.iconst 0, 1) := by decide +kernel
theorem dX0_roadOpens_12 : decode cX0_roadOpens 12 = .ok (.istore_n 3, 1) := by decide +kernel
theorem dX0_roadOpens_13 : decode cX0_roadOpens 13 = .ok (.iload_n 3, 1) := by decide +kernel
theorem dX0_roadOpens_14 : decode cX0_roadOpens 14 = .ok (.iload_n 2, 1) := by decide +kernel
theorem dX0_roadOpens_15 : decode cX0_roadOpens 15 = .ok (.if_icmp .gt 30, 3) := by decide +kernel
theorem dX0_roadOpens_18 : decode cX0_roadOpens 18 = .ok (.aload_n 0, 1) := by decide +kernel
theorem dX0_roadOpens_19 : decode cX0_roadOpens 19 = .ok (.getfield 15, 3) := by decide +kernel
theorem dX0_roadOpens_22 : decode cX0_roadOpens 22 = .ok (.iload_n 1, 1) := by decide +kernel
theorem dX0_roadOpens_23 : decode cX0_roadOpens 23 = .ok (.invokevirtual 108, 3) := by decide +kernel
theorem dX0_roadOpens_26 : decode cX0_roadOpens 26 = .ok (.ifCond .eq 5, 3) := by decide +kernel
theorem dX0_roadOpens_29 : decode cX0_roadOpens 29 = .ok (.iload_n 3, 1) := by decide +kernel
theorem dX0_roadOpens_30 : decode cX0_roadOpens 30 = .ok (.ireturn, 1) := by decide +kernel
theorem dX0_roadOpens_31 : decode cX0_roadOpens 31 = .ok (.aload_n 0, 1) := by decide +kernel
theorem dX0_roadOpens_32 : decode cX0_roadOpens 32 = .ok (.getfield 15, 3) := by decide +kernel
theorem dX0_roadOpens_35 : decode cX0_roadOpens 35 = .ok (.invokevirtual 111, 3) := by decide +kernel
theorem dX0_roadOpens_38 : decode cX0_roadOpens 38 = .ok (.pop, 1) := by decide +kernel
theorem dX0_roadOpens_39 : decode cX0_roadOpens 39 = .ok (.iinc 3 1, 3) := by decide +kernel
theorem dX0_roadOpens_42 : decode cX0_roadOpens 42 = .ok (.goto (-29), 3) := by decide +kernel
theorem dX0_roadOpens_45 : decode cX0_roadOpens 45 = .ok (.iconst (-1), 1) := by decide +kernel
theorem dX0_roadOpens_46 : decode cX0_roadOpens 46 = .ok (.ireturn, 1) := by decide +kernel
theorem dX0_roadLasts_0 : decode cX0_roadLasts 0 = .ok (.iload_n 3, 1) := by decide +kernel
theorem dX0_roadLasts_1 : decode cX0_roadLasts 1 = .ok (.istore 4, 2) := by decide +kernel
theorem dX0_roadLasts_3 : decode cX0_roadLasts 3 = .ok (.iload 4, 2) := by decide +kernel
theorem dX0_roadLasts_5 : decode cX0_roadLasts 5 = .ok (.iload_n 2, 1) := by decide +kernel
theorem dX0_roadLasts_6 : decode cX0_roadLasts 6 = .ok (.if_icmp .gt 28, 3) := by decide +kernel
theorem dX0_roadLasts_9 : decode cX0_roadLasts 9 = .ok (.aload_n 0, 1) := by decide +kernel
theorem dX0_roadLasts_10 : decode cX0_roadLasts 10 = .ok (.getfield 15, 3) := by decide +kernel
theorem dX0_roadLasts_13 : decode cX0_roadLasts 13 = .ok (.iload_n 1, 1) := by decide +kernel
theorem dX0_roadLasts_14 : decode cX0_roadLasts 14 = .ok (.invokevirtual 108, 3) := by decide +kernel
theorem dX0_roadLasts_17 : decode cX0_roadLasts 17 = .ok (.ifCond .eq 17, 3) := by decide +kernel
theorem dX0_roadLasts_20 : decode cX0_roadLasts 20 = .ok (.aload_n 0, 1) := by decide +kernel
theorem dX0_roadLasts_21 : decode cX0_roadLasts 21 = .ok (.getfield 15, 3) := by decide +kernel
theorem dX0_roadLasts_24 : decode cX0_roadLasts 24 = .ok (.invokevirtual 111, 3) := by decide +kernel
theorem dX0_roadLasts_27 : decode cX0_roadLasts 27 = .ok (.pop, 1) := by decide +kernel
theorem dX0_roadLasts_28 : decode cX0_roadLasts 28 = .ok (.iinc 4 1, 3) := by decide +kernel
theorem dX0_roadLasts_31 : decode cX0_roadLasts 31 = .ok (.goto (-28), 3) := by decide +kernel
theorem dX0_roadLasts_34 : decode cX0_roadLasts 34 = .ok (.iload 4, 2) := by decide +kernel
theorem dX0_roadLasts_36 : decode cX0_roadLasts 36 = .ok (.iload_n 3, 1) := by decide +kernel
theorem dX0_roadLasts_37 : decode cX0_roadLasts 37 = .ok (.isub, 1) := by decide +kernel
theorem dX0_roadLasts_38 : decode cX0_roadLasts 38 = .ok (.ireturn, 1) := by decide +kernel
theorem dX0_findTaken_0 : decode cX0_findTaken 0 = .ok (.aload_n 0, 1) := by decide +kernel
theorem dX0_findTaken_1 : decode cX0_findTaken 1 = .ok (.getfield 15, 3) := by decide +kernel
theorem dX0_findTaken_4 : decode cX0_findTaken 4 = .ok (.aload_n 0, 1) := by decide +kernel
theorem dX0_findTaken_5 : decode cX0_findTaken 5 = .ok (.getfield 9, 3) := by decide +kernel
theorem dX0_findTaken_8 : decode cX0_findTaken 8 = .ok (.invokevirtual 53, 3) := by decide +kernel
theorem dX0_findTaken_11 : decode cX0_findTaken 11 = .ok (.aload_n 0, 1) := by decide +kernel
theorem dX0_findTaken_12 : decode cX0_findTaken 12 = .ok (.getfield 15, 3) := by decide +kernel
theorem dX0_findTaken_15 : decode cX0_findTaken 15 = .ok (.iload_n 1, 1) := by decide +kernel
theorem dX0_findTaken_16 : decode cX0_findTaken 16 = .ok (.invokevirtual 59, 3) := by decide +kernel
theorem dX0_findTaken_19 : decode cX0_findTaken 19 = .ok (.pop, 1) := by decide +kernel
theorem dX0_findTaken_20 : decode cX0_findTaken 20 = .ok (.iconst 0, 1) := by decide +kernel
theorem dX0_findTaken_21 : decode cX0_findTaken 21 = .ok (.istore_n 2, 1) := by decide +kernel
theorem dX0_findTaken_22 : decode cX0_findTaken 22 = .ok (.iconst 0, 1) := by decide +kernel
theorem dX0_findTaken_23 : decode cX0_findTaken 23 = .ok (.istore_n 3, 1) := by decide +kernel
theorem dX0_findTaken_24 : decode cX0_findTaken 24 = .ok (.iload_n 3, 1) := by decide +kernel
theorem dX0_findTaken_25 : decode cX0_findTaken 25 = .ok (.iconst 5, 1) := by decide +kernel
theorem dX0_findTaken_26 : decode cX0_findTaken 26 = .ok (.if_icmp .ge 70, 3) := by decide +kernel
theorem dX0_findTaken_29 : decode cX0_findTaken 29 = .ok (.iconst 0, 1) := by decide +kernel
theorem dX0_findTaken_30 : decode cX0_findTaken 30 = .ok (.istore 4, 2) := by decide +kernel
theorem dX0_findTaken_32 : decode cX0_findTaken 32 = .ok (.iload 4, 2) := by decide +kernel
theorem dX0_findTaken_34 : decode cX0_findTaken 34 = .ok (.aload_n 0, 1) := by decide +kernel
theorem dX0_findTaken_35 : decode cX0_findTaken 35 = .ok (.getfield 9, 3) := by decide +kernel
theorem dX0_findTaken_38 : decode cX0_findTaken 38 = .ok (.getfield 63, 3) := by decide +kernel
theorem dX0_findTaken_41 : decode cX0_findTaken 41 = .ok (.if_icmp .ge 49, 3) := by decide +kernel
theorem dX0_findTaken_44 : decode cX0_findTaken 44 = .ok (.aload_n 0, 1) := by decide +kernel
theorem dX0_findTaken_45 : decode cX0_findTaken 45 = .ok (.getfield 9, 3) := by decide +kernel
theorem dX0_findTaken_48 : decode cX0_findTaken 48 = .ok (.iload_n 3, 1) := by decide +kernel
theorem dX0_findTaken_49 : decode cX0_findTaken 49 = .ok (.iload 4, 2) := by decide +kernel
theorem dX0_findTaken_51 : decode cX0_findTaken 51 = .ok (.invokevirtual 83, 3) := by decide +kernel
theorem dX0_findTaken_54 : decode cX0_findTaken 54 = .ok (.ifCond .le 30, 3) := by decide +kernel
theorem dX0_findTaken_57 : decode cX0_findTaken 57 = .ok (.aload_n 0, 1) := by decide +kernel
theorem dX0_findTaken_58 : decode cX0_findTaken 58 = .ok (.iload_n 3, 1) := by decide +kernel
theorem dX0_findTaken_59 : decode cX0_findTaken 59 = .ok (.iload 4, 2) := by decide +kernel
theorem dX0_findTaken_61 : decode cX0_findTaken 61 = .ok (.iload_n 1, 1) := by decide +kernel
theorem dX0_findTaken_62 : decode cX0_findTaken 62 = .ok (.invokevirtual 114, 3) := by decide +kernel
theorem dX0_findTaken_65 : decode cX0_findTaken 65 = .ok (.ifCond .eq 19, 3) := by decide +kernel
theorem dX0_findTaken_68 : decode cX0_findTaken 68 = .ok (.aload_n 0, 1) := by decide +kernel
theorem dX0_findTaken_69 : decode cX0_findTaken 69 = .ok (.getfield 35, 3) := by decide +kernel
theorem dX0_findTaken_72 : decode cX0_findTaken 72 = .ok (.iload_n 2, 1) := by decide +kernel
theorem dX0_findTaken_73 : decode cX0_findTaken 73 = .ok (.bipush 100, 2) := by decide +kernel
theorem dX0_findTaken_75 : decode cX0_findTaken 75 = .ok (.iload_n 3, 1) := by decide +kernel
theorem dX0_findTaken_76 : decode cX0_findTaken 76 = .ok (.imul, 1) := by decide +kernel
theorem dX0_findTaken_77 : decode cX0_findTaken 77 = .ok (.iload 4, 2) := by decide +kernel
theorem dX0_findTaken_79 : decode cX0_findTaken 79 = .ok (.iadd, 1) := by decide +kernel
theorem dX0_findTaken_80 : decode cX0_findTaken 80 = .ok (.iastore, 1) := by decide +kernel
theorem dX0_findTaken_81 : decode cX0_findTaken 81 = .ok (.iinc 2 1, 3) := by decide +kernel
theorem dX0_findTaken_84 : decode cX0_findTaken 84 = .ok (.iinc 4 1, 3) := by decide +kernel
theorem dX0_findTaken_87 : decode cX0_findTaken 87 = .ok (.goto (-55), 3) := by decide +kernel
theorem dX0_findTaken_90 : decode cX0_findTaken 90 = .ok (.iinc 3 1, 3) := by decide +kernel
theorem dX0_findTaken_93 : decode cX0_findTaken 93 = .ok (.goto (-69), 3) := by decide +kernel
theorem dX0_findTaken_96 : decode cX0_findTaken 96 = .ok (.iload_n 2, 1) := by decide +kernel
theorem dX0_findTaken_97 : decode cX0_findTaken 97 = .ok (.ireturn, 1) := by decide +kernel
theorem dX0_takenAt_0 : decode cX0_takenAt 0 = .ok (.aload_n 0, 1) := by decide +kernel
theorem dX0_takenAt_1 : decode cX0_takenAt 1 = .ok (.getfield 35, 3) := by decide +kernel
theorem dX0_takenAt_4 : decode cX0_takenAt 4 = .ok (.iload_n 1, 1) := by decide +kernel
theorem dX0_takenAt_5 : decode cX0_takenAt 5 = .ok (.iaload, 1) := by decide +kernel
theorem dX0_takenAt_6 : decode cX0_takenAt 6 = .ok (.ireturn, 1) := by decide +kernel
theorem dX0_fitsWithout_0 : decode cX0_fitsWithout 0 = .ok (.aload_n 0, 1) := by decide +kernel
theorem dX0_fitsWithout_1 : decode cX0_fitsWithout 1 = .ok (.iload_n 1, 1) := by decide +kernel
theorem dX0_fitsWithout_2 : decode cX0_fitsWithout 2 = .ok (.iload_n 2, 1) := by decide +kernel
theorem dX0_fitsWithout_3 : decode cX0_fitsWithout 3 = .ok (.iload_n 3, 1) := by decide +kernel
theorem dX0_fitsWithout_4 : decode cX0_fitsWithout 4 = .ok (.invokevirtual 118, 3) := by decide +kernel
theorem dX0_fitsWithout_7 : decode cX0_fitsWithout 7 = .ok (.getfield 90, 3) := by decide +kernel
theorem dX0_fitsWithout_10 : decode cX0_fitsWithout 10 = .ok (.istore 4, 2) := by decide +kernel
theorem dX0_fitsWithout_12 : decode cX0_fitsWithout 12 = .ok (.iconst 0, 1) := by decide +kernel
theorem dX0_fitsWithout_13 : decode cX0_fitsWithout 13 = .ok (.istore 5, 2) := by decide +kernel
theorem dX0_fitsWithout_15 : decode cX0_fitsWithout 15 = .ok (.iload 5, 2) := by decide +kernel
theorem dX0_fitsWithout_17 : decode cX0_fitsWithout 17 = .ok (.iconst 5, 1) := by decide +kernel
theorem dX0_fitsWithout_18 : decode cX0_fitsWithout 18 = .ok (.if_icmp .ge 58, 3) := by decide +kernel
theorem dX0_fitsWithout_21 : decode cX0_fitsWithout 21 = .ok (.iload 5, 2) := by decide +kernel
theorem dX0_fitsWithout_23 : decode cX0_fitsWithout 23 = .ok (.iload 4, 2) := by decide +kernel
theorem dX0_fitsWithout_25 : decode cX0_fitsWithout 25 = .ok (.if_icmp .ne 15, 3) := by decide +kernel
theorem dX0_fitsWithout_28 : decode cX0_fitsWithout 28 = .ok (.aload_n 0, 1) := by decide +kernel
theorem dX0_fitsWithout_29 : decode cX0_fitsWithout 29 = .ok (.getfield 9, 3) := by decide +kernel
theorem dX0_fitsWithout_32 : decode cX0_fitsWithout 32 = .ok (.iload_n 1, 1) := by decide +kernel
theorem dX0_fitsWithout_33 : decode cX0_fitsWithout 33 = .ok (.iload_n 2, 1) := by decide +kernel
theorem dX0_fitsWithout_34 : decode cX0_fitsWithout 34 = .ok (.invokevirtual 83, 3) := by decide +kernel
theorem dX0_fitsWithout_37 : decode cX0_fitsWithout 37 = .ok (.goto 4, 3) := by decide +kernel
theorem dX0_fitsWithout_40 : decode cX0_fitsWithout 40 = .ok (.iconst 0, 1) := by decide +kernel
theorem dX0_fitsWithout_41 : decode cX0_fitsWithout 41 = .ok (.istore 6, 2) := by decide +kernel
theorem dX0_fitsWithout_43 : decode cX0_fitsWithout 43 = .ok (.aload_n 0, 1) := by decide +kernel
theorem dX0_fitsWithout_44 : decode cX0_fitsWithout 44 = .ok (.getfield 15, 3) := by decide +kernel
theorem dX0_fitsWithout_47 : decode cX0_fitsWithout 47 = .ok (.iload 5, 2) := by decide +kernel
theorem dX0_fitsWithout_49 : decode cX0_fitsWithout 49 = .ok (.invokevirtual 122, 3) := by decide +kernel
theorem dX0_fitsWithout_52 : decode cX0_fitsWithout 52 = .ok (.iload 6, 2) := by decide +kernel
theorem dX0_fitsWithout_54 : decode cX0_fitsWithout 54 = .ok (.isub, 1) := by decide +kernel
theorem dX0_fitsWithout_55 : decode cX0_fitsWithout 55 = .ok (.aload_n 0, 1) := by decide +kernel
theorem dX0_fitsWithout_56 : decode cX0_fitsWithout 56 = .ok (.getfield 9, 3) := by decide +kernel
theorem dX0_fitsWithout_59 : decode cX0_fitsWithout 59 = .ok (.getfield 125, 3) := by decide +kernel
theorem dX0_fitsWithout_62 : decode cX0_fitsWithout 62 = .ok (.iload 5, 2) := by decide +kernel
theorem dX0_fitsWithout_64 : decode cX0_fitsWithout 64 = .ok (.iaload, 1) := by decide +kernel
theorem dX0_fitsWithout_65 : decode cX0_fitsWithout 65 = .ok (.if_icmp .eq 5, 3) := by decide +kernel
theorem dX0_fitsWithout_68 : decode cX0_fitsWithout 68 = .ok (.iconst 0, 1) := by decide +kernel
theorem dX0_fitsWithout_69 : decode cX0_fitsWithout 69 = .ok (.ireturn, 1) := by decide +kernel
theorem dX0_fitsWithout_70 : decode cX0_fitsWithout 70 = .ok (.iinc 5 1, 3) := by decide +kernel
theorem dX0_fitsWithout_73 : decode cX0_fitsWithout 73 = .ok (.goto (-58), 3) := by decide +kernel
theorem dX0_fitsWithout_76 : decode cX0_fitsWithout 76 = .ok (.iconst 1, 1) := by decide +kernel
theorem dX0_fitsWithout_77 : decode cX0_fitsWithout 77 = .ok (.ireturn, 1) := by decide +kernel
theorem dX0_farmerAhead_0 : decode cX0_farmerAhead 0 = .ok (.aload_n 0, 1) := by decide +kernel
theorem dX0_farmerAhead_1 : decode cX0_farmerAhead 1 = .ok (.invokevirtual 128, 3) := by decide +kernel
theorem dX0_farmerAhead_4 : decode cX0_farmerAhead 4 = .ok (.aload_n 0, 1) := by decide +kernel
theorem dX0_farmerAhead_5 : decode cX0_farmerAhead 5 = .ok (.getfield 25, 3) := by decide +kernel
theorem dX0_farmerAhead_8 : decode cX0_farmerAhead 8 = .ok (.iconst 0, 1) := by decide +kernel
theorem dX0_farmerAhead_9 : decode cX0_farmerAhead 9 = .ok (.iload_n 1, 1) := by decide +kernel
theorem dX0_farmerAhead_10 : decode cX0_farmerAhead 10 = .ok (.invokestatic 131, 3) := by decide +kernel
theorem dX0_farmerAhead_13 : decode cX0_farmerAhead 13 = .ok (.ireturn, 1) := by decide +kernel
theorem dX0_firstTaken_0 : decode cX0_firstTaken 0 = .ok (.aload_n 0, 1) := by decide +kernel
theorem dX0_firstTaken_1 : decode cX0_firstTaken 1 = .ok (.iload_n 1, 1) := by decide +kernel
theorem dX0_firstTaken_2 : decode cX0_firstTaken 2 = .ok (.invokevirtual 135, 3) := by decide +kernel
theorem dX0_firstTaken_5 : decode cX0_firstTaken 5 = .ok (.istore_n 2, 1) := by decide +kernel
theorem dX0_firstTaken_6 : decode cX0_firstTaken 6 = .ok (.iconst 0, 1) := by decide +kernel
theorem dX0_firstTaken_7 : decode cX0_firstTaken 7 = .ok (.istore_n 3, 1) := by decide +kernel
theorem dX0_firstTaken_8 : decode cX0_firstTaken 8 = .ok (.iload_n 3, 1) := by decide +kernel
theorem dX0_firstTaken_9 : decode cX0_firstTaken 9 = .ok (.iconst 5, 1) := by decide +kernel
theorem dX0_firstTaken_10 : decode cX0_firstTaken 10 = .ok (.if_icmp .ge 44, 3) := by decide +kernel
theorem dX0_firstTaken_13 : decode cX0_firstTaken 13 = .ok (.aload_n 0, 1) := by decide +kernel
theorem dX0_firstTaken_14 : decode cX0_firstTaken 14 = .ok (.getfield 25, 3) := by decide +kernel
theorem dX0_firstTaken_17 : decode cX0_firstTaken 17 = .ok (.iload_n 3, 1) := by decide +kernel
theorem dX0_firstTaken_18 : decode cX0_firstTaken 18 = .ok (.iaload, 1) := by decide +kernel
theorem dX0_firstTaken_19 : decode cX0_firstTaken 19 = .ok (.ifCond .le 29, 3) := by decide +kernel
theorem dX0_firstTaken_22 : decode cX0_firstTaken 22 = .ok (.aload_n 0, 1) := by decide +kernel
theorem dX0_firstTaken_23 : decode cX0_firstTaken 23 = .ok (.getfield 25, 3) := by decide +kernel
theorem dX0_firstTaken_26 : decode cX0_firstTaken 26 = .ok (.iload_n 3, 1) := by decide +kernel
theorem dX0_firstTaken_27 : decode cX0_firstTaken 27 = .ok (.iaload, 1) := by decide +kernel
theorem dX0_firstTaken_28 : decode cX0_firstTaken 28 = .ok (.aload_n 0, 1) := by decide +kernel
theorem dX0_firstTaken_29 : decode cX0_firstTaken 29 = .ok (.getfield 25, 3) := by decide +kernel
theorem dX0_firstTaken_32 : decode cX0_firstTaken 32 = .ok (.iconst 1, 1) := by decide +kernel
theorem dX0_firstTaken_33 : decode cX0_firstTaken 33 = .ok (.iload_n 3, 1) := by decide +kernel
theorem dX0_firstTaken_34 : decode cX0_firstTaken 34 = .ok (.ishl, 1) := by decide +kernel
theorem dX0_firstTaken_35 : decode cX0_firstTaken 35 = .ok (.iload_n 1, 1) := by decide +kernel
theorem dX0_firstTaken_36 : decode cX0_firstTaken 36 = .ok (.iconst 1, 1) := by decide +kernel
theorem dX0_firstTaken_37 : decode cX0_firstTaken 37 = .ok (.isub, 1) := by decide +kernel
theorem dX0_firstTaken_38 : decode cX0_firstTaken 38 = .ok (.invokestatic 131, 3) := by decide +kernel
theorem dX0_firstTaken_41 : decode cX0_firstTaken 41 = .ok (.isub, 1) := by decide +kernel
theorem dX0_firstTaken_42 : decode cX0_firstTaken 42 = .ok (.iload_n 2, 1) := by decide +kernel
theorem dX0_firstTaken_43 : decode cX0_firstTaken 43 = .ok (.if_icmp .ne 5, 3) := by decide +kernel
theorem dX0_firstTaken_46 : decode cX0_firstTaken 46 = .ok (.iload_n 3, 1) := by decide +kernel
theorem dX0_firstTaken_47 : decode cX0_firstTaken 47 = .ok (.ireturn, 1) := by decide +kernel
theorem dX0_firstTaken_48 : decode cX0_firstTaken 48 = .ok (.iinc 3 1, 3) := by decide +kernel
theorem dX0_firstTaken_51 : decode cX0_firstTaken 51 = .ok (.goto (-43), 3) := by decide +kernel
theorem dX0_firstTaken_54 : decode cX0_firstTaken 54 = .ok (.iconst (-1), 1) := by decide +kernel
theorem dX0_firstTaken_55 : decode cX0_firstTaken 55 = .ok (.ireturn, 1) := by decide +kernel
theorem dX0_sumLanes_0 : decode cX0_sumLanes 0 = .ok (.iconst 0, 1) := by decide +kernel
theorem dX0_sumLanes_1 : decode cX0_sumLanes 1 = .ok (.istore_n 1, 1) := by decide +kernel
theorem dX0_sumLanes_2 : decode cX0_sumLanes 2 = .ok (.iload_n 1, 1) := by decide +kernel
theorem dX0_sumLanes_3 : decode cX0_sumLanes 3 = .ok (.iconst 5, 1) := by decide +kernel
theorem dX0_sumLanes_4 : decode cX0_sumLanes 4 = .ok (.if_icmp .ge 23, 3) := by decide +kernel
theorem dX0_sumLanes_7 : decode cX0_sumLanes 7 = .ok (.aload_n 0, 1) := by decide +kernel
theorem dX0_sumLanes_8 : decode cX0_sumLanes 8 = .ok (.getfield 25, 3) := by decide +kernel
theorem dX0_sumLanes_11 : decode cX0_sumLanes 11 = .ok (.iload_n 1, 1) := by decide +kernel
theorem dX0_sumLanes_12 : decode cX0_sumLanes 12 = .ok (.aload_n 0, 1) := by decide +kernel
theorem dX0_sumLanes_13 : decode cX0_sumLanes 13 = .ok (.getfield 9, 3) := by decide +kernel
theorem dX0_sumLanes_16 : decode cX0_sumLanes 16 = .ok (.iload_n 1, 1) := by decide +kernel
theorem dX0_sumLanes_17 : decode cX0_sumLanes 17 = .ok (.invokevirtual 122, 3) := by decide +kernel
theorem dX0_sumLanes_20 : decode cX0_sumLanes 20 = .ok (.iastore, 1) := by decide +kernel
theorem dX0_sumLanes_21 : decode cX0_sumLanes 21 = .ok (.iinc 1 1, 3) := by decide +kernel
theorem dX0_sumLanes_24 : decode cX0_sumLanes 24 = .ok (.goto (-22), 3) := by decide +kernel
theorem dX0_sumLanes_27 : decode cX0_sumLanes 27 = .ok (.return_, 1) := by decide +kernel
theorem dX0_aheadBy_0 : decode cX0_aheadBy 0 = .ok (.iload_n 2, 1) := by decide +kernel
theorem dX0_aheadBy_1 : decode cX0_aheadBy 1 = .ok (.ifCond .gt 5, 3) := by decide +kernel
theorem dX0_aheadBy_4 : decode cX0_aheadBy 4 = .ok (.iconst 0, 1) := by decide +kernel
theorem dX0_aheadBy_5 : decode cX0_aheadBy 5 = .ok (.ireturn, 1) := by decide +kernel
theorem dX0_aheadBy_6 : decode cX0_aheadBy 6 = .ok (.iconst 0, 1) := by decide +kernel
theorem dX0_aheadBy_7 : decode cX0_aheadBy 7 = .ok (.istore_n 3, 1) := by decide +kernel
theorem dX0_aheadBy_8 : decode cX0_aheadBy 8 = .ok (.iconst 0, 1) := by decide +kernel
theorem dX0_aheadBy_9 : decode cX0_aheadBy 9 = .ok (.istore 4, 2) := by decide +kernel
theorem dX0_aheadBy_11 : decode cX0_aheadBy 11 = .ok (.iconst 0, 1) := by decide +kernel
theorem dX0_aheadBy_12 : decode cX0_aheadBy 12 = .ok (.istore 5, 2) := by decide +kernel
theorem dX0_aheadBy_14 : decode cX0_aheadBy 14 = .ok (.iload 5, 2) := by decide +kernel
theorem dX0_aheadBy_16 : decode cX0_aheadBy 16 = .ok (.iconst 5, 1) := by decide +kernel
theorem dX0_aheadBy_17 : decode cX0_aheadBy 17 = .ok (.if_icmp .ge 62, 3) := by decide +kernel
theorem dX0_aheadBy_20 : decode cX0_aheadBy 20 = .ok (.aload_n 0, 1) := by decide +kernel
theorem dX0_aheadBy_21 : decode cX0_aheadBy 21 = .ok (.iload 5, 2) := by decide +kernel
theorem dX0_aheadBy_23 : decode cX0_aheadBy 23 = .ok (.iaload, 1) := by decide +kernel
theorem dX0_aheadBy_24 : decode cX0_aheadBy 24 = .ok (.ifCond .le 49, 3) := by decide +kernel
theorem dX0_aheadBy_27 : decode cX0_aheadBy 27 = .ok (.iload_n 1, 1) := by decide +kernel
theorem dX0_aheadBy_28 : decode cX0_aheadBy 28 = .ok (.iload 5, 2) := by decide +kernel
theorem dX0_aheadBy_30 : decode cX0_aheadBy 30 = .ok (.ishr, 1) := by decide +kernel
theorem dX0_aheadBy_31 : decode cX0_aheadBy 31 = .ok (.iconst 1, 1) := by decide +kernel
theorem dX0_aheadBy_32 : decode cX0_aheadBy 32 = .ok (.iand, 1) := by decide +kernel
theorem dX0_aheadBy_33 : decode cX0_aheadBy 33 = .ok (.ifCond .ne 40, 3) := by decide +kernel
theorem dX0_aheadBy_36 : decode cX0_aheadBy 36 = .ok (.aload_n 0, 1) := by decide +kernel
theorem dX0_aheadBy_37 : decode cX0_aheadBy 37 = .ok (.iload 5, 2) := by decide +kernel
theorem dX0_aheadBy_39 : decode cX0_aheadBy 39 = .ok (.iaload, 1) := by decide +kernel
theorem dX0_aheadBy_40 : decode cX0_aheadBy 40 = .ok (.aload_n 0, 1) := by decide +kernel
theorem dX0_aheadBy_41 : decode cX0_aheadBy 41 = .ok (.iload_n 1, 1) := by decide +kernel
theorem dX0_aheadBy_42 : decode cX0_aheadBy 42 = .ok (.iconst 1, 1) := by decide +kernel
theorem dX0_aheadBy_43 : decode cX0_aheadBy 43 = .ok (.iload 5, 2) := by decide +kernel
theorem dX0_aheadBy_45 : decode cX0_aheadBy 45 = .ok (.ishl, 1) := by decide +kernel
theorem dX0_aheadBy_46 : decode cX0_aheadBy 46 = .ok (.ior, 1) := by decide +kernel
theorem dX0_aheadBy_47 : decode cX0_aheadBy 47 = .ok (.iload_n 2, 1) := by decide +kernel
theorem dX0_aheadBy_48 : decode cX0_aheadBy 48 = .ok (.iconst 1, 1) := by decide +kernel
theorem dX0_aheadBy_49 : decode cX0_aheadBy 49 = .ok (.isub, 1) := by decide +kernel
theorem dX0_aheadBy_50 : decode cX0_aheadBy 50 = .ok (.invokestatic 131, 3) := by decide +kernel
theorem dX0_aheadBy_53 : decode cX0_aheadBy 53 = .ok (.isub, 1) := by decide +kernel
theorem dX0_aheadBy_54 : decode cX0_aheadBy 54 = .ok (.istore 6, 2) := by decide +kernel
theorem dX0_aheadBy_56 : decode cX0_aheadBy 56 = .ok (.iload_n 3, 1) := by decide +kernel
theorem dX0_aheadBy_57 : decode cX0_aheadBy 57 = .ok (.ifCond .eq 10, 3) := by decide +kernel
theorem dX0_aheadBy_60 : decode cX0_aheadBy 60 = .ok (.iload 6, 2) := by decide +kernel
theorem dX0_aheadBy_62 : decode cX0_aheadBy 62 = .ok (.iload 4, 2) := by decide +kernel
theorem dX0_aheadBy_64 : decode cX0_aheadBy 64 = .ok (.if_icmp .le 9, 3) := by decide +kernel
theorem dX0_aheadBy_67 : decode cX0_aheadBy 67 = .ok (.iload 6, 2) := by decide +kernel
theorem dX0_aheadBy_69 : decode cX0_aheadBy 69 = .ok (.istore 4, 2) := by decide +kernel
theorem dX0_aheadBy_71 : decode cX0_aheadBy 71 = .ok (.iconst 1, 1) := by decide +kernel
theorem dX0_aheadBy_72 : decode cX0_aheadBy 72 = .ok (.istore_n 3, 1) := by decide +kernel
theorem dX0_aheadBy_73 : decode cX0_aheadBy 73 = .ok (.iinc 5 1, 3) := by decide +kernel
theorem dX0_aheadBy_76 : decode cX0_aheadBy 76 = .ok (.goto (-62), 3) := by decide +kernel
theorem dX0_aheadBy_79 : decode cX0_aheadBy 79 = .ok (.iload 4, 2) := by decide +kernel
theorem dX0_aheadBy_81 : decode cX0_aheadBy 81 = .ok (.ireturn, 1) := by decide +kernel
theorem dX0_addedInAllOrders_0 : decode cX0_addedInAllOrders 0 = .ok (.iconst 1, 1) := by decide +kernel
theorem dX0_addedInAllOrders_1 : decode cX0_addedInAllOrders 1 = .ok (.aload_n 0, 1) := by decide +kernel
theorem dX0_addedInAllOrders_2 : decode cX0_addedInAllOrders 2 = .ok (.getfield 9, 3) := by decide +kernel
theorem dX0_addedInAllOrders_5 : decode cX0_addedInAllOrders 5 = .ok (.getfield 138, 3) := by decide +kernel
theorem dX0_addedInAllOrders_8 : decode cX0_addedInAllOrders 8 = .ok (.ishl, 1) := by decide +kernel
theorem dX0_addedInAllOrders_9 : decode cX0_addedInAllOrders 9 = .ok (.istore_n 3, 1) := by decide +kernel
theorem dX0_addedInAllOrders_10 : decode cX0_addedInAllOrders 10 = .ok (.iconst 0, 1) := by decide +kernel
theorem dX0_addedInAllOrders_11 : decode cX0_addedInAllOrders 11 = .ok (.istore 4, 2) := by decide +kernel
theorem dX0_addedInAllOrders_13 : decode cX0_addedInAllOrders 13 = .ok (.iload 4, 2) := by decide +kernel
theorem dX0_addedInAllOrders_15 : decode cX0_addedInAllOrders 15 = .ok (.iload_n 3, 1) := by decide +kernel
theorem dX0_addedInAllOrders_16 : decode cX0_addedInAllOrders 16 = .ok (.if_icmp .ge 44, 3) := by decide +kernel
theorem dX0_addedInAllOrders_19 : decode cX0_addedInAllOrders 19 = .ok (.aload_n 0, 1) := by decide +kernel
theorem dX0_addedInAllOrders_20 : decode cX0_addedInAllOrders 20 = .ok (.getfield 15, 3) := by decide +kernel
theorem dX0_addedInAllOrders_23 : decode cX0_addedInAllOrders 23 = .ok (.aload_n 0, 1) := by decide +kernel
theorem dX0_addedInAllOrders_24 : decode cX0_addedInAllOrders 24 = .ok (.getfield 9, 3) := by decide +kernel
theorem dX0_addedInAllOrders_27 : decode cX0_addedInAllOrders 27 = .ok (.invokevirtual 53, 3) := by decide +kernel
theorem dX0_addedInAllOrders_30 : decode cX0_addedInAllOrders 30 = .ok (.aload_n 0, 1) := by decide +kernel
theorem dX0_addedInAllOrders_31 : decode cX0_addedInAllOrders 31 = .ok (.getfield 15, 3) := by decide +kernel
theorem dX0_addedInAllOrders_34 : decode cX0_addedInAllOrders 34 = .ok (.iload 4, 2) := by decide +kernel
theorem dX0_addedInAllOrders_36 : decode cX0_addedInAllOrders 36 = .ok (.invokevirtual 141, 3) := by decide +kernel
theorem dX0_addedInAllOrders_39 : decode cX0_addedInAllOrders 39 = .ok (.aload_n 0, 1) := by decide +kernel
theorem dX0_addedInAllOrders_40 : decode cX0_addedInAllOrders 40 = .ok (.getfield 38, 3) := by decide +kernel
theorem dX0_addedInAllOrders_43 : decode cX0_addedInAllOrders 43 = .ok (.iload 4, 2) := by decide +kernel
theorem dX0_addedInAllOrders_45 : decode cX0_addedInAllOrders 45 = .ok (.aload_n 0, 1) := by decide +kernel
theorem dX0_addedInAllOrders_46 : decode cX0_addedInAllOrders 46 = .ok (.getfield 15, 3) := by decide +kernel
theorem dX0_addedInAllOrders_49 : decode cX0_addedInAllOrders 49 = .ok (.iload_n 2, 1) := by decide +kernel
theorem dX0_addedInAllOrders_50 : decode cX0_addedInAllOrders 50 = .ok (.invokevirtual 59, 3) := by decide +kernel
theorem dX0_addedInAllOrders_53 : decode cX0_addedInAllOrders 53 = .ok (.iastore, 1) := by decide +kernel
theorem dX0_addedInAllOrders_54 : decode cX0_addedInAllOrders 54 = .ok (.iinc 4 1, 3) := by decide +kernel
theorem dX0_addedInAllOrders_57 : decode cX0_addedInAllOrders 57 = .ok (.goto (-44), 3) := by decide +kernel
theorem dX0_addedInAllOrders_60 : decode cX0_addedInAllOrders 60 = .ok (.iconst 1, 1) := by decide +kernel
theorem dX0_addedInAllOrders_61 : decode cX0_addedInAllOrders 61 = .ok (.iload_n 1, 1) := by decide +kernel
theorem dX0_addedInAllOrders_62 : decode cX0_addedInAllOrders 62 = .ok (.ishl, 1) := by decide +kernel
theorem dX0_addedInAllOrders_63 : decode cX0_addedInAllOrders 63 = .ok (.istore 4, 2) := by decide +kernel
theorem dX0_addedInAllOrders_65 : decode cX0_addedInAllOrders 65 = .ok (.lconst 0, 1) := by decide +kernel
theorem dX0_addedInAllOrders_66 : decode cX0_addedInAllOrders 66 = .ok (.lstore 5, 2) := by decide +kernel
theorem dX0_addedInAllOrders_68 : decode cX0_addedInAllOrders 68 = .ok (.iconst 0, 1) := by decide +kernel
theorem dX0_addedInAllOrders_69 : decode cX0_addedInAllOrders 69 = .ok (.istore 7, 2) := by decide +kernel
theorem dX0_addedInAllOrders_71 : decode cX0_addedInAllOrders 71 = .ok (.iload 7, 2) := by decide +kernel
theorem dX0_addedInAllOrders_73 : decode cX0_addedInAllOrders 73 = .ok (.iload_n 3, 1) := by decide +kernel
theorem dX0_addedInAllOrders_74 : decode cX0_addedInAllOrders 74 = .ok (.if_icmp .ge 48, 3) := by decide +kernel
theorem dX0_addedInAllOrders_77 : decode cX0_addedInAllOrders 77 = .ok (.iload 7, 2) := by decide +kernel
theorem dX0_addedInAllOrders_79 : decode cX0_addedInAllOrders 79 = .ok (.iload 4, 2) := by decide +kernel
theorem dX0_addedInAllOrders_81 : decode cX0_addedInAllOrders 81 = .ok (.iand, 1) := by decide +kernel
theorem dX0_addedInAllOrders_82 : decode cX0_addedInAllOrders 82 = .ok (.ifCond .ne 34, 3) := by decide +kernel
theorem dX0_addedInAllOrders_85 : decode cX0_addedInAllOrders 85 = .ok (.lload 5, 2) := by decide +kernel
theorem dX0_addedInAllOrders_87 : decode cX0_addedInAllOrders 87 = .ok (.aload_n 0, 1) := by decide +kernel
theorem dX0_addedInAllOrders_88 : decode cX0_addedInAllOrders 88 = .ok (.iload 7, 2) := by decide +kernel
theorem dX0_addedInAllOrders_90 : decode cX0_addedInAllOrders 90 = .ok (.invokevirtual 144, 3) := by decide +kernel
theorem dX0_addedInAllOrders_93 : decode cX0_addedInAllOrders 93 = .ok (.aload_n 0, 1) := by decide +kernel
theorem dX0_addedInAllOrders_94 : decode cX0_addedInAllOrders 94 = .ok (.getfield 38, 3) := by decide +kernel
theorem dX0_addedInAllOrders_97 : decode cX0_addedInAllOrders 97 = .ok (.iload 7, 2) := by decide +kernel
theorem dX0_addedInAllOrders_99 : decode cX0_addedInAllOrders 99 = .ok (.iload 4, 2) := by decide +kernel
theorem dX0_addedInAllOrders_101 : decode cX0_addedInAllOrders 101 = .ok (.ior, 1) := by decide +kernel
theorem dX0_addedInAllOrders_102 : decode cX0_addedInAllOrders 102 = .ok (.iaload, 1) := by decide +kernel
theorem dX0_addedInAllOrders_103 : decode cX0_addedInAllOrders 103 = .ok (.aload_n 0, 1) := by decide +kernel
theorem dX0_addedInAllOrders_104 : decode cX0_addedInAllOrders 104 = .ok (.getfield 38, 3) := by decide +kernel
theorem dX0_addedInAllOrders_107 : decode cX0_addedInAllOrders 107 = .ok (.iload 7, 2) := by decide +kernel
theorem dX0_addedInAllOrders_109 : decode cX0_addedInAllOrders 109 = .ok (.iaload, 1) := by decide +kernel
theorem dX0_addedInAllOrders_110 : decode cX0_addedInAllOrders 110 = .ok (.isub, 1) := by decide +kernel
theorem dX0_addedInAllOrders_111 : decode cX0_addedInAllOrders 111 = .ok (.i2l, 1) := by decide +kernel
theorem dX0_addedInAllOrders_112 : decode cX0_addedInAllOrders 112 = .ok (.lmul, 1) := by decide +kernel
theorem dX0_addedInAllOrders_113 : decode cX0_addedInAllOrders 113 = .ok (.ladd, 1) := by decide +kernel
theorem dX0_addedInAllOrders_114 : decode cX0_addedInAllOrders 114 = .ok (.lstore 5, 2) := by decide +kernel
theorem dX0_addedInAllOrders_116 : decode cX0_addedInAllOrders 116 = .ok (.iinc 7 1, 3) := by decide +kernel
theorem dX0_addedInAllOrders_119 : decode cX0_addedInAllOrders 119 = .ok (.goto (-48), 3) := by decide +kernel
theorem dX0_addedInAllOrders_122 : decode cX0_addedInAllOrders 122 = .ok (.lload 5, 2) := by decide +kernel
theorem dX0_addedInAllOrders_124 : decode cX0_addedInAllOrders 124 = .ok (.lreturn, 1) := by decide +kernel
theorem dX0_ordersBehind_0 : decode cX0_ordersBehind 0 = .ok (.iload_n 1, 1) := by decide +kernel
theorem dX0_ordersBehind_1 : decode cX0_ordersBehind 1 = .ok (.invokestatic 148, 3) := by decide +kernel
theorem dX0_ordersBehind_4 : decode cX0_ordersBehind 4 = .ok (.istore_n 2, 1) := by decide +kernel
theorem dX0_ordersBehind_5 : decode cX0_ordersBehind 5 = .ok (.aload_n 0, 1) := by decide +kernel
theorem dX0_ordersBehind_6 : decode cX0_ordersBehind 6 = .ok (.getfield 9, 3) := by decide +kernel
theorem dX0_ordersBehind_9 : decode cX0_ordersBehind 9 = .ok (.getfield 138, 3) := by decide +kernel
theorem dX0_ordersBehind_12 : decode cX0_ordersBehind 12 = .ok (.iconst 1, 1) := by decide +kernel
theorem dX0_ordersBehind_13 : decode cX0_ordersBehind 13 = .ok (.isub, 1) := by decide +kernel
theorem dX0_ordersBehind_14 : decode cX0_ordersBehind 14 = .ok (.iload_n 2, 1) := by decide +kernel
theorem dX0_ordersBehind_15 : decode cX0_ordersBehind 15 = .ok (.isub, 1) := by decide +kernel
theorem dX0_ordersBehind_16 : decode cX0_ordersBehind 16 = .ok (.istore_n 3, 1) := by decide +kernel
theorem dX0_ordersBehind_17 : decode cX0_ordersBehind 17 = .ok (.iload_n 3, 1) := by decide +kernel
theorem dX0_ordersBehind_18 : decode cX0_ordersBehind 18 = .ok (.ifCond .ge 7, 3) := by decide +kernel
theorem dX0_ordersBehind_21 : decode cX0_ordersBehind 21 = .ok (.lconst 0, 1) := by decide +kernel
theorem dX0_ordersBehind_22 : decode cX0_ordersBehind 22 = .ok (.goto 15, 3) := by decide +kernel
theorem dX0_ordersBehind_25 : decode cX0_ordersBehind 25 = .ok (.getstatic 153, 3) := by decide +kernel
theorem dX0_ordersBehind_28 : decode cX0_ordersBehind 28 = .ok (.iload_n 2, 1) := by decide +kernel
theorem dX0_ordersBehind_29 : decode cX0_ordersBehind 29 = .ok (.iaload, 1) := by decide +kernel
theorem dX0_ordersBehind_30 : decode cX0_ordersBehind 30 = .ok (.getstatic 153, 3) := by decide +kernel
theorem dX0_ordersBehind_33 : decode cX0_ordersBehind 33 = .ok (.iload_n 3, 1) := by decide +kernel
theorem dX0_ordersBehind_34 : decode cX0_ordersBehind 34 = .ok (.iaload, 1) := by decide +kernel
theorem dX0_ordersBehind_35 : decode cX0_ordersBehind 35 = .ok (.imul, 1) := by decide +kernel
theorem dX0_ordersBehind_36 : decode cX0_ordersBehind 36 = .ok (.i2l, 1) := by decide +kernel
theorem dX0_ordersBehind_37 : decode cX0_ordersBehind 37 = .ok (.lreturn, 1) := by decide +kernel
theorem dX1_init_0 : decode cX1_init 0 = .ok (.aload_n 0, 1) := by decide +kernel
theorem dX1_init_1 : decode cX1_init 1 = .ok (.invokespecial 1, 3) := by decide +kernel
theorem dX1_init_4 : decode cX1_init 4 = .ok (.return_, 1) := by decide +kernel
theorem dX1_force_0 : decode cX1_force 0 = .ok (.iconst (-1), 1) := by decide +kernel
theorem dX1_force_1 : decode cX1_force 1 = .ok (.ireturn, 1) := by decide +kernel
theorem dX2_init_0 : decode cX2_init 0 = .ok (.aload_n 0, 1) := by decide +kernel
theorem dX2_init_1 : decode cX2_init 1 = .ok (.invokespecial 1, 3) := by decide +kernel
theorem dX2_init_4 : decode cX2_init 4 = .ok (.return_, 1) := by decide +kernel
theorem dX2_lie_0 : decode cX2_lie 0 = .ok (.aload_n 0, 1) := by decide +kernel
theorem dX2_lie_1 : decode cX2_lie 1 = .ok (.iload_n 1, 1) := by decide +kernel
theorem dX2_lie_2 : decode cX2_lie 2 = .ok (.putfield 7, 3) := by decide +kernel
theorem dX2_lie_5 : decode cX2_lie 5 = .ok (.aload_n 0, 1) := by decide +kernel
theorem dX2_lie_6 : decode cX2_lie 6 = .ok (.iload_n 2, 1) := by decide +kernel
theorem dX2_lie_7 : decode cX2_lie 7 = .ok (.putfield 13, 3) := by decide +kernel
theorem dX2_lie_10 : decode cX2_lie 10 = .ok (.aload_n 0, 1) := by decide +kernel
theorem dX2_lie_11 : decode cX2_lie 11 = .ok (.iconst 0, 1) := by decide +kernel
theorem dX2_lie_12 : decode cX2_lie 12 = .ok (.putfield 16, 3) := by decide +kernel
theorem dX2_lie_15 : decode cX2_lie 15 = .ok (.return_, 1) := by decide +kernel
theorem dX2_isLost_0 : decode cX2_isLost 0 = .ok (.aload_n 0, 1) := by decide +kernel
theorem dX2_isLost_1 : decode cX2_isLost 1 = .ok (.getfield 7, 3) := by decide +kernel
theorem dX2_isLost_4 : decode cX2_isLost 4 = .ok (.invokestatic 19, 3) := by decide +kernel
theorem dX2_isLost_7 : decode cX2_isLost 7 = .ok (.ifCond .ne 7, 3) := by decide +kernel
theorem dX2_isLost_10 : decode cX2_isLost 10 = .ok (.iconst 1, 1) := by decide +kernel
theorem dX2_isLost_11 : decode cX2_isLost 11 = .ok (.goto 4, 3) := by decide +kernel
theorem dX2_isLost_14 : decode cX2_isLost 14 = .ok (.iconst 0, 1) := by decide +kernel
theorem dX2_isLost_15 : decode cX2_isLost 15 = .ok (.ireturn, 1) := by decide +kernel
theorem dX2_goOn_0 : decode cX2_goOn 0 = .ok (.aload_n 0, 1) := by decide +kernel
theorem dX2_goOn_1 : decode cX2_goOn 1 = .ok (.invokevirtual 25, 3) := by decide +kernel
theorem dX2_goOn_4 : decode cX2_goOn 4 = .ok (.ifCond .eq 4, 3) := by decide +kernel
theorem dX2_goOn_7 : decode cX2_goOn 7 = .ok (.return_, 1) := by decide +kernel
theorem dX2_goOn_8 : decode cX2_goOn 8 = .ok (.aload_n 0, 1) := by decide +kernel
theorem dX2_goOn_9 : decode cX2_goOn 9 = .ok (.aload_n 1, 1) := by decide +kernel
theorem dX2_goOn_10 : decode cX2_goOn 10 = .ok (.aload_n 0, 1) := by decide +kernel
theorem dX2_goOn_11 : decode cX2_goOn 11 = .ok (.getfield 13, 3) := by decide +kernel
theorem dX2_goOn_14 : decode cX2_goOn 14 = .ok (.aload_n 1, 1) := by decide +kernel
theorem dX2_goOn_15 : decode cX2_goOn 15 = .ok (.getfield 29, 3) := by decide +kernel
theorem dX2_goOn_18 : decode cX2_goOn 18 = .ok (.aload_n 0, 1) := by decide +kernel
theorem dX2_goOn_19 : decode cX2_goOn 19 = .ok (.getfield 7, 3) := by decide +kernel
theorem dX2_goOn_22 : decode cX2_goOn 22 = .ok (.iaload, 1) := by decide +kernel
theorem dX2_goOn_23 : decode cX2_goOn 23 = .ok (.iadd, 1) := by decide +kernel
theorem dX2_goOn_24 : decode cX2_goOn 24 = .ok (.invokevirtual 35, 3) := by decide +kernel
theorem dX2_goOn_27 : decode cX2_goOn 27 = .ok (.putfield 13, 3) := by decide +kernel
theorem dX2_goOn_30 : decode cX2_goOn 30 = .ok (.iconst 0, 1) := by decide +kernel
theorem dX2_goOn_31 : decode cX2_goOn 31 = .ok (.istore_n 3, 1) := by decide +kernel
theorem dX2_goOn_32 : decode cX2_goOn 32 = .ok (.iload_n 3, 1) := by decide +kernel
theorem dX2_goOn_33 : decode cX2_goOn 33 = .ok (.aload_n 1, 1) := by decide +kernel
theorem dX2_goOn_34 : decode cX2_goOn 34 = .ok (.getfield 39, 3) := by decide +kernel
theorem dX2_goOn_37 : decode cX2_goOn 37 = .ok (.if_icmp .ge 58, 3) := by decide +kernel
theorem dX2_goOn_40 : decode cX2_goOn 40 = .ok (.aload_n 0, 1) := by decide +kernel
theorem dX2_goOn_41 : decode cX2_goOn 41 = .ok (.invokevirtual 25, 3) := by decide +kernel
theorem dX2_goOn_44 : decode cX2_goOn 44 = .ok (.ifCond .ne 51, 3) := by decide +kernel
theorem dX2_goOn_47 : decode cX2_goOn 47 = .ok (.aload_n 1, 1) := by decide +kernel
theorem dX2_goOn_48 : decode cX2_goOn 48 = .ok (.iload_n 3, 1) := by decide +kernel
theorem dX2_goOn_49 : decode cX2_goOn 49 = .ok (.iload_n 2, 1) := by decide +kernel
theorem dX2_goOn_50 : decode cX2_goOn 50 = .ok (.aload_n 0, 1) := by decide +kernel
theorem dX2_goOn_51 : decode cX2_goOn 51 = .ok (.getfield 7, 3) := by decide +kernel
theorem dX2_goOn_54 : decode cX2_goOn 54 = .ok (.aload_n 0, 1) := by decide +kernel
theorem dX2_goOn_55 : decode cX2_goOn 55 = .ok (.getfield 13, 3) := by decide +kernel
theorem dX2_goOn_58 : decode cX2_goOn 58 = .ok (.invokevirtual 42, 3) := by decide +kernel
theorem dX2_goOn_61 : decode cX2_goOn 61 = .ok (.istore 4, 2) := by decide +kernel
theorem dX2_goOn_63 : decode cX2_goOn 63 = .ok (.iload 4, 2) := by decide +kernel
theorem dX2_goOn_65 : decode cX2_goOn 65 = .ok (.ifCond .eq 24, 3) := by decide +kernel
theorem dX2_goOn_68 : decode cX2_goOn 68 = .ok (.aload_n 0, 1) := by decide +kernel
theorem dX2_goOn_69 : decode cX2_goOn 69 = .ok (.dup, 1) := by decide +kernel
theorem dX2_goOn_70 : decode cX2_goOn 70 = .ok (.getfield 7, 3) := by decide +kernel
theorem dX2_goOn_73 : decode cX2_goOn 73 = .ok (.iload 4, 2) := by decide +kernel
theorem dX2_goOn_75 : decode cX2_goOn 75 = .ok (.iadd, 1) := by decide +kernel
theorem dX2_goOn_76 : decode cX2_goOn 76 = .ok (.putfield 7, 3) := by decide +kernel
theorem dX2_goOn_79 : decode cX2_goOn 79 = .ok (.aload_n 0, 1) := by decide +kernel
theorem dX2_goOn_80 : decode cX2_goOn 80 = .ok (.dup, 1) := by decide +kernel
theorem dX2_goOn_81 : decode cX2_goOn 81 = .ok (.getfield 16, 3) := by decide +kernel
theorem dX2_goOn_84 : decode cX2_goOn 84 = .ok (.iconst 1, 1) := by decide +kernel
theorem dX2_goOn_85 : decode cX2_goOn 85 = .ok (.iadd, 1) := by decide +kernel
theorem dX2_goOn_86 : decode cX2_goOn 86 = .ok (.putfield 16, 3) := by decide +kernel
theorem dX2_goOn_89 : decode cX2_goOn 89 = .ok (.iinc 3 1, 3) := by decide +kernel
theorem dX2_goOn_92 : decode cX2_goOn 92 = .ok (.goto (-60), 3) := by decide +kernel
theorem dX2_goOn_95 : decode cX2_goOn 95 = .ok (.return_, 1) := by decide +kernel
theorem dX3_init_0 : decode cX3_init 0 = .ok (.aload_n 0, 1) := by decide +kernel
theorem dX3_init_1 : decode cX3_init 1 = .ok (.invokespecial 1, 3) := by decide +kernel
theorem dX3_init_4 : decode cX3_init 4 = .ok (.return_, 1) := by decide +kernel
theorem dX3_force_0 : decode cX3_force 0 = .ok (.iconst 1, 1) := by decide +kernel
theorem dX3_force_1 : decode cX3_force 1 = .ok (.ireturn, 1) := by decide +kernel
theorem dX3_reach_0 : decode cX3_reach 0 = .ok (.iconst 0, 1) := by decide +kernel
theorem dX3_reach_1 : decode cX3_reach 1 = .ok (.ireturn, 1) := by decide +kernel
theorem dX3_isAwake_0 : decode cX3_isAwake 0 = .ok (.iconst 1, 1) := by decide +kernel
theorem dX3_isAwake_1 : decode cX3_isAwake 1 = .ok (.ireturn, 1) := by decide +kernel
theorem dX4_init_0 : decode cX4_init 0 = .ok (.aload_n 0, 1) := by decide +kernel
theorem dX4_init_1 : decode cX4_init 1 = .ok (.invokespecial 3, 3) := by decide +kernel
theorem dX4_init_4 : decode cX4_init 4 = .ok (.aload_n 0, 1) := by decide +kernel
theorem dX4_init_5 : decode cX4_init 5 = .ok (.aload_n 1, 1) := by decide +kernel
theorem dX4_init_6 : decode cX4_init 6 = .ok (.putfield 9, 3) := by decide +kernel
theorem dX4_init_9 : decode cX4_init 9 = .ok (.aload_n 0, 1) := by decide +kernel
theorem dX4_init_10 : decode cX4_init 10 = .ok (.aload_n 2, 1) := by decide +kernel
theorem dX4_init_11 : decode cX4_init 11 = .ok (.putfield 15, 3) := by decide +kernel
theorem dX4_init_14 : decode cX4_init 14 = .ok (.aload_n 0, 1) := by decide +kernel
theorem dX4_init_15 : decode cX4_init 15 = .ok (.iconst 4, 1) := by decide +kernel
theorem dX4_init_16 : decode cX4_init 16 = .ok (.newarray .int, 2) := by decide +kernel
theorem dX4_init_18 : decode cX4_init 18 = .ok (.putfield 19, 3) := by decide +kernel
theorem dX4_init_21 : decode cX4_init 21 = .ok (.return_, 1) := by decide +kernel
theorem dX4_readAll_0 : decode cX4_readAll 0 = .ok (.aload_n 0, 1) := by decide +kernel
theorem dX4_readAll_1 : decode cX4_readAll 1 = .ok (.getfield 9, 3) := by decide +kernel
theorem dX4_readAll_4 : decode cX4_readAll 4 = .ok (.invokevirtual 23, 3) := by decide +kernel
theorem dX4_readAll_7 : decode cX4_readAll 7 = .ok (.aload_n 0, 1) := by decide +kernel
theorem dX4_readAll_8 : decode cX4_readAll 8 = .ok (.getfield 9, 3) := by decide +kernel
theorem dX4_readAll_11 : decode cX4_readAll 11 = .ok (.invokevirtual 28, 3) := by decide +kernel
theorem dX4_readAll_14 : decode cX4_readAll 14 = .ok (.aload_n 0, 1) := by decide +kernel
theorem dX4_readAll_15 : decode cX4_readAll 15 = .ok (.invokevirtual 31, 3) := by decide +kernel
theorem dX4_readAll_18 : decode cX4_readAll 18 = .ok (.ifCond .ne 14, 3) := by decide +kernel
theorem dX4_readAll_21 : decode cX4_readAll 21 = .ok (.bipush (-10), 2) := by decide +kernel
theorem dX4_readAll_23 : decode cX4_readAll 23 = .ok (.aload_n 0, 1) := by decide +kernel
theorem dX4_readAll_24 : decode cX4_readAll 24 = .ok (.getfield 9, 3) := by decide +kernel
theorem dX4_readAll_27 : decode cX4_readAll 27 = .ok (.getfield 35, 3) := by decide +kernel
theorem dX4_readAll_30 : decode cX4_readAll 30 = .ok (.isub, 1) := by decide +kernel
theorem dX4_readAll_31 : decode cX4_readAll 31 = .ok (.ireturn, 1) := by decide +kernel
theorem dX4_readAll_32 : decode cX4_readAll 32 = .ok (.iconst 1, 1) := by decide +kernel
theorem dX4_readAll_33 : decode cX4_readAll 33 = .ok (.istore_n 1, 1) := by decide +kernel
theorem dX4_readAll_34 : decode cX4_readAll 34 = .ok (.aload_n 0, 1) := by decide +kernel
theorem dX4_readAll_35 : decode cX4_readAll 35 = .ok (.getfield 9, 3) := by decide +kernel
theorem dX4_readAll_38 : decode cX4_readAll 38 = .ok (.invokevirtual 28, 3) := by decide +kernel
theorem dX4_readAll_41 : decode cX4_readAll 41 = .ok (.iload_n 1, 1) := by decide +kernel
theorem dX4_readAll_42 : decode cX4_readAll 42 = .ok (.sipush 250, 3) := by decide +kernel
theorem dX4_readAll_45 : decode cX4_readAll 45 = .ok (.if_icmp .ge 44, 3) := by decide +kernel
theorem dX4_readAll_48 : decode cX4_readAll 48 = .ok (.aload_n 0, 1) := by decide +kernel
theorem dX4_readAll_49 : decode cX4_readAll 49 = .ok (.getfield 9, 3) := by decide +kernel
theorem dX4_readAll_52 : decode cX4_readAll 52 = .ok (.getfield 39, 3) := by decide +kernel
theorem dX4_readAll_55 : decode cX4_readAll 55 = .ok (.ifCond .eq 34, 3) := by decide +kernel
theorem dX4_readAll_58 : decode cX4_readAll 58 = .ok (.aload_n 0, 1) := by decide +kernel
theorem dX4_readAll_59 : decode cX4_readAll 59 = .ok (.invokevirtual 42, 3) := by decide +kernel
theorem dX4_readAll_62 : decode cX4_readAll 62 = .ok (.ifCond .ne 14, 3) := by decide +kernel
theorem dX4_readAll_65 : decode cX4_readAll 65 = .ok (.bipush (-10), 2) := by decide +kernel
theorem dX4_readAll_67 : decode cX4_readAll 67 = .ok (.aload_n 0, 1) := by decide +kernel
theorem dX4_readAll_68 : decode cX4_readAll 68 = .ok (.getfield 9, 3) := by decide +kernel
theorem dX4_readAll_71 : decode cX4_readAll 71 = .ok (.getfield 35, 3) := by decide +kernel
theorem dX4_readAll_74 : decode cX4_readAll 74 = .ok (.isub, 1) := by decide +kernel
theorem dX4_readAll_75 : decode cX4_readAll 75 = .ok (.ireturn, 1) := by decide +kernel
theorem dX4_readAll_76 : decode cX4_readAll 76 = .ok (.iinc 1 1, 3) := by decide +kernel
theorem dX4_readAll_79 : decode cX4_readAll 79 = .ok (.aload_n 0, 1) := by decide +kernel
theorem dX4_readAll_80 : decode cX4_readAll 80 = .ok (.getfield 9, 3) := by decide +kernel
theorem dX4_readAll_83 : decode cX4_readAll 83 = .ok (.invokevirtual 28, 3) := by decide +kernel
theorem dX4_readAll_86 : decode cX4_readAll 86 = .ok (.goto (-45), 3) := by decide +kernel
theorem dX4_readAll_89 : decode cX4_readAll 89 = .ok (.iload_n 1, 1) := by decide +kernel
theorem dX4_readAll_90 : decode cX4_readAll 90 = .ok (.ireturn, 1) := by decide +kernel
theorem dX4_readRing_0 : decode cX4_readRing 0 = .ok (.aload_n 0, 1) := by decide +kernel
theorem dX4_readRing_1 : decode cX4_readRing 1 = .ok (.getfield 9, 3) := by decide +kernel
theorem dX4_readRing_4 : decode cX4_readRing 4 = .ok (.ldc 45, 2) := by decide +kernel
theorem dX4_readRing_6 : decode cX4_readRing 6 = .ok (.invokevirtual 47, 3) := by decide +kernel
theorem dX4_readRing_9 : decode cX4_readRing 9 = .ok (.ifCond .eq 21, 3) := by decide +kernel
theorem dX4_readRing_12 : decode cX4_readRing 12 = .ok (.aload_n 0, 1) := by decide +kernel
theorem dX4_readRing_13 : decode cX4_readRing 13 = .ok (.iconst 0, 1) := by decide +kernel
theorem dX4_readRing_14 : decode cX4_readRing 14 = .ok (.iconst 4, 1) := by decide +kernel
theorem dX4_readRing_15 : decode cX4_readRing 15 = .ok (.bipush 24, 2) := by decide +kernel
theorem dX4_readRing_17 : decode cX4_readRing 17 = .ok (.invokevirtual 51, 3) := by decide +kernel
theorem dX4_readRing_20 : decode cX4_readRing 20 = .ok (.ifCond .eq 10, 3) := by decide +kernel
theorem dX4_readRing_23 : decode cX4_readRing 23 = .ok (.aload_n 0, 1) := by decide +kernel
theorem dX4_readRing_24 : decode cX4_readRing 24 = .ok (.invokevirtual 55, 3) := by decide +kernel
theorem dX4_readRing_27 : decode cX4_readRing 27 = .ok (.ifCond .ne 5, 3) := by decide +kernel
theorem dX4_readRing_30 : decode cX4_readRing 30 = .ok (.iconst 0, 1) := by decide +kernel
theorem dX4_readRing_31 : decode cX4_readRing 31 = .ok (.ireturn, 1) := by decide +kernel
theorem dX4_readRing_32 : decode cX4_readRing 32 = .ok (.aload_n 0, 1) := by decide +kernel
theorem dX4_readRing_33 : decode cX4_readRing 33 = .ok (.getfield 15, 3) := by decide +kernel
theorem dX4_readRing_36 : decode cX4_readRing 36 = .ok (.aload_n 0, 1) := by decide +kernel
theorem dX4_readRing_37 : decode cX4_readRing 37 = .ok (.getfield 19, 3) := by decide +kernel
theorem dX4_readRing_40 : decode cX4_readRing 40 = .ok (.iconst 0, 1) := by decide +kernel
theorem dX4_readRing_41 : decode cX4_readRing 41 = .ok (.iaload, 1) := by decide +kernel
theorem dX4_readRing_42 : decode cX4_readRing 42 = .ok (.invokevirtual 58, 3) := by decide +kernel
theorem dX4_readRing_45 : decode cX4_readRing 45 = .ok (.iconst 1, 1) := by decide +kernel
theorem dX4_readRing_46 : decode cX4_readRing 46 = .ok (.ireturn, 1) := by decide +kernel
theorem dX4_readItem_0 : decode cX4_readItem 0 = .ok (.aload_n 0, 1) := by decide +kernel
theorem dX4_readItem_1 : decode cX4_readItem 1 = .ok (.getfield 9, 3) := by decide +kernel
theorem dX4_readItem_4 : decode cX4_readItem 4 = .ok (.ldc 64, 2) := by decide +kernel
theorem dX4_readItem_6 : decode cX4_readItem 6 = .ok (.invokevirtual 47, 3) := by decide +kernel
theorem dX4_readItem_9 : decode cX4_readItem 9 = .ok (.ifCond .eq 8, 3) := by decide +kernel
theorem dX4_readItem_12 : decode cX4_readItem 12 = .ok (.aload_n 0, 1) := by decide +kernel
theorem dX4_readItem_13 : decode cX4_readItem 13 = .ok (.invokevirtual 66, 3) := by decide +kernel
theorem dX4_readItem_16 : decode cX4_readItem 16 = .ok (.ireturn, 1) := by decide +kernel
theorem dX4_readItem_17 : decode cX4_readItem 17 = .ok (.aload_n 0, 1) := by decide +kernel
theorem dX4_readItem_18 : decode cX4_readItem 18 = .ok (.getfield 9, 3) := by decide +kernel
theorem dX4_readItem_21 : decode cX4_readItem 21 = .ok (.ldc 69, 2) := by decide +kernel
theorem dX4_readItem_23 : decode cX4_readItem 23 = .ok (.invokevirtual 47, 3) := by decide +kernel
theorem dX4_readItem_26 : decode cX4_readItem 26 = .ok (.ifCond .eq 8, 3) := by decide +kernel
theorem dX4_readItem_29 : decode cX4_readItem 29 = .ok (.aload_n 0, 1) := by decide +kernel
theorem dX4_readItem_30 : decode cX4_readItem 30 = .ok (.invokevirtual 71, 3) := by decide +kernel
theorem dX4_readItem_33 : decode cX4_readItem 33 = .ok (.ireturn, 1) := by decide +kernel
theorem dX4_readItem_34 : decode cX4_readItem 34 = .ok (.aload_n 0, 1) := by decide +kernel
theorem dX4_readItem_35 : decode cX4_readItem 35 = .ok (.getfield 9, 3) := by decide +kernel
theorem dX4_readItem_38 : decode cX4_readItem 38 = .ok (.ldc 74, 2) := by decide +kernel
theorem dX4_readItem_40 : decode cX4_readItem 40 = .ok (.invokevirtual 47, 3) := by decide +kernel
theorem dX4_readItem_43 : decode cX4_readItem 43 = .ok (.ifCond .eq 25, 3) := by decide +kernel
theorem dX4_readItem_46 : decode cX4_readItem 46 = .ok (.aload_n 0, 1) := by decide +kernel
theorem dX4_readItem_47 : decode cX4_readItem 47 = .ok (.getfield 15, 3) := by decide +kernel
theorem dX4_readItem_50 : decode cX4_readItem 50 = .ok (.getfield 76, 3) := by decide +kernel
theorem dX4_readItem_53 : decode cX4_readItem 53 = .ok (.iconst 4, 1) := by decide +kernel
theorem dX4_readItem_54 : decode cX4_readItem 54 = .ok (.if_icmp .ge 14, 3) := by decide +kernel
theorem dX4_readItem_57 : decode cX4_readItem 57 = .ok (.aload_n 0, 1) := by decide +kernel
theorem dX4_readItem_58 : decode cX4_readItem 58 = .ok (.invokevirtual 79, 3) := by decide +kernel
theorem dX4_readItem_61 : decode cX4_readItem 61 = .ok (.ifCond .eq 7, 3) := by decide +kernel
theorem dX4_readItem_64 : decode cX4_readItem 64 = .ok (.iconst 1, 1) := by decide +kernel
theorem dX4_readItem_65 : decode cX4_readItem 65 = .ok (.goto 4, 3) := by decide +kernel
theorem dX4_readItem_68 : decode cX4_readItem 68 = .ok (.iconst 0, 1) := by decide +kernel
theorem dX4_readItem_69 : decode cX4_readItem 69 = .ok (.ireturn, 1) := by decide +kernel
theorem dX4_readStep_0 : decode cX4_readStep 0 = .ok (.aload_n 0, 1) := by decide +kernel
theorem dX4_readStep_1 : decode cX4_readStep 1 = .ok (.iconst 0, 1) := by decide +kernel
theorem dX4_readStep_2 : decode cX4_readStep 2 = .ok (.iconst 0, 1) := by decide +kernel
theorem dX4_readStep_3 : decode cX4_readStep 3 = .ok (.iconst 4, 1) := by decide +kernel
theorem dX4_readStep_4 : decode cX4_readStep 4 = .ok (.invokevirtual 51, 3) := by decide +kernel
theorem dX4_readStep_7 : decode cX4_readStep 7 = .ok (.ifCond .eq 21, 3) := by decide +kernel
theorem dX4_readStep_10 : decode cX4_readStep 10 = .ok (.aload_n 0, 1) := by decide +kernel
theorem dX4_readStep_11 : decode cX4_readStep 11 = .ok (.iconst 1, 1) := by decide +kernel
theorem dX4_readStep_12 : decode cX4_readStep 12 = .ok (.iconst 0, 1) := by decide +kernel
theorem dX4_readStep_13 : decode cX4_readStep 13 = .ok (.bipush 9, 2) := by decide +kernel
theorem dX4_readStep_15 : decode cX4_readStep 15 = .ok (.invokevirtual 51, 3) := by decide +kernel
theorem dX4_readStep_18 : decode cX4_readStep 18 = .ok (.ifCond .eq 10, 3) := by decide +kernel
theorem dX4_readStep_21 : decode cX4_readStep 21 = .ok (.aload_n 0, 1) := by decide +kernel
theorem dX4_readStep_22 : decode cX4_readStep 22 = .ok (.invokevirtual 55, 3) := by decide +kernel
theorem dX4_readStep_25 : decode cX4_readStep 25 = .ok (.ifCond .ne 5, 3) := by decide +kernel
theorem dX4_readStep_28 : decode cX4_readStep 28 = .ok (.iconst 0, 1) := by decide +kernel
theorem dX4_readStep_29 : decode cX4_readStep 29 = .ok (.ireturn, 1) := by decide +kernel
theorem dX4_readStep_30 : decode cX4_readStep 30 = .ok (.aload_n 0, 1) := by decide +kernel
theorem dX4_readStep_31 : decode cX4_readStep 31 = .ok (.getfield 15, 3) := by decide +kernel
theorem dX4_readStep_34 : decode cX4_readStep 34 = .ok (.getfield 82, 3) := by decide +kernel
theorem dX4_readStep_37 : decode cX4_readStep 37 = .ok (.aload_n 0, 1) := by decide +kernel
theorem dX4_readStep_38 : decode cX4_readStep 38 = .ok (.getfield 19, 3) := by decide +kernel
theorem dX4_readStep_41 : decode cX4_readStep 41 = .ok (.iconst 0, 1) := by decide +kernel
theorem dX4_readStep_42 : decode cX4_readStep 42 = .ok (.iaload, 1) := by decide +kernel
theorem dX4_readStep_43 : decode cX4_readStep 43 = .ok (.aload_n 0, 1) := by decide +kernel
theorem dX4_readStep_44 : decode cX4_readStep 44 = .ok (.getfield 19, 3) := by decide +kernel
theorem dX4_readStep_47 : decode cX4_readStep 47 = .ok (.iconst 1, 1) := by decide +kernel
theorem dX4_readStep_48 : decode cX4_readStep 48 = .ok (.iaload, 1) := by decide +kernel
theorem dX4_readStep_49 : decode cX4_readStep 49 = .ok (.iastore, 1) := by decide +kernel
theorem dX4_readStep_50 : decode cX4_readStep 50 = .ok (.iconst 1, 1) := by decide +kernel
theorem dX4_readStep_51 : decode cX4_readStep 51 = .ok (.ireturn, 1) := by decide +kernel
theorem dX4_readLumps_0 : decode cX4_readLumps 0 = .ok (.aload_n 0, 1) := by decide +kernel
theorem dX4_readLumps_1 : decode cX4_readLumps 1 = .ok (.iconst 0, 1) := by decide +kernel
theorem dX4_readLumps_2 : decode cX4_readLumps 2 = .ok (.iconst 0, 1) := by decide +kernel
theorem dX4_readLumps_3 : decode cX4_readLumps 3 = .ok (.iconst 4, 1) := by decide +kernel
theorem dX4_readLumps_4 : decode cX4_readLumps 4 = .ok (.invokevirtual 51, 3) := by decide +kernel
theorem dX4_readLumps_7 : decode cX4_readLumps 7 = .ok (.ifCond .eq 40, 3) := by decide +kernel
theorem dX4_readLumps_10 : decode cX4_readLumps 10 = .ok (.aload_n 0, 1) := by decide +kernel
theorem dX4_readLumps_11 : decode cX4_readLumps 11 = .ok (.iconst 1, 1) := by decide +kernel
theorem dX4_readLumps_12 : decode cX4_readLumps 12 = .ok (.iconst 0, 1) := by decide +kernel
theorem dX4_readLumps_13 : decode cX4_readLumps 13 = .ok (.aload_n 0, 1) := by decide +kernel
theorem dX4_readLumps_14 : decode cX4_readLumps 14 = .ok (.getfield 15, 3) := by decide +kernel
theorem dX4_readLumps_17 : decode cX4_readLumps 17 = .ok (.getfield 85, 3) := by decide +kernel
theorem dX4_readLumps_20 : decode cX4_readLumps 20 = .ok (.iconst 1, 1) := by decide +kernel
theorem dX4_readLumps_21 : decode cX4_readLumps 21 = .ok (.isub, 1) := by decide +kernel
theorem dX4_readLumps_22 : decode cX4_readLumps 22 = .ok (.invokevirtual 51, 3) := by decide +kernel
theorem dX4_readLumps_25 : decode cX4_readLumps 25 = .ok (.ifCond .eq 22, 3) := by decide +kernel
theorem dX4_readLumps_28 : decode cX4_readLumps 28 = .ok (.aload_n 0, 1) := by decide +kernel
theorem dX4_readLumps_29 : decode cX4_readLumps 29 = .ok (.iconst 2, 1) := by decide +kernel
theorem dX4_readLumps_30 : decode cX4_readLumps 30 = .ok (.iconst 0, 1) := by decide +kernel
theorem dX4_readLumps_31 : decode cX4_readLumps 31 = .ok (.sipush 999, 3) := by decide +kernel
theorem dX4_readLumps_34 : decode cX4_readLumps 34 = .ok (.invokevirtual 51, 3) := by decide +kernel
theorem dX4_readLumps_37 : decode cX4_readLumps 37 = .ok (.ifCond .eq 10, 3) := by decide +kernel
theorem dX4_readLumps_40 : decode cX4_readLumps 40 = .ok (.aload_n 0, 1) := by decide +kernel
theorem dX4_readLumps_41 : decode cX4_readLumps 41 = .ok (.invokevirtual 55, 3) := by decide +kernel
theorem dX4_readLumps_44 : decode cX4_readLumps 44 = .ok (.ifCond .ne 5, 3) := by decide +kernel
theorem dX4_readLumps_47 : decode cX4_readLumps 47 = .ok (.iconst 0, 1) := by decide +kernel
theorem dX4_readLumps_48 : decode cX4_readLumps 48 = .ok (.ireturn, 1) := by decide +kernel
theorem dX4_readLumps_49 : decode cX4_readLumps 49 = .ok (.aload_n 0, 1) := by decide +kernel
theorem dX4_readLumps_50 : decode cX4_readLumps 50 = .ok (.getfield 15, 3) := by decide +kernel
theorem dX4_readLumps_53 : decode cX4_readLumps 53 = .ok (.aload_n 0, 1) := by decide +kernel
theorem dX4_readLumps_54 : decode cX4_readLumps 54 = .ok (.getfield 19, 3) := by decide +kernel
theorem dX4_readLumps_57 : decode cX4_readLumps 57 = .ok (.iconst 0, 1) := by decide +kernel
theorem dX4_readLumps_58 : decode cX4_readLumps 58 = .ok (.iaload, 1) := by decide +kernel
theorem dX4_readLumps_59 : decode cX4_readLumps 59 = .ok (.aload_n 0, 1) := by decide +kernel
theorem dX4_readLumps_60 : decode cX4_readLumps 60 = .ok (.getfield 19, 3) := by decide +kernel
theorem dX4_readLumps_63 : decode cX4_readLumps 63 = .ok (.iconst 1, 1) := by decide +kernel
theorem dX4_readLumps_64 : decode cX4_readLumps 64 = .ok (.iaload, 1) := by decide +kernel
theorem dX4_readLumps_65 : decode cX4_readLumps 65 = .ok (.aload_n 0, 1) := by decide +kernel
theorem dX4_readLumps_66 : decode cX4_readLumps 66 = .ok (.getfield 19, 3) := by decide +kernel
theorem dX4_readLumps_69 : decode cX4_readLumps 69 = .ok (.iconst 2, 1) := by decide +kernel
theorem dX4_readLumps_70 : decode cX4_readLumps 70 = .ok (.iaload, 1) := by decide +kernel
theorem dX4_readLumps_71 : decode cX4_readLumps 71 = .ok (.invokevirtual 88, 3) := by decide +kernel
theorem dX4_readLumps_74 : decode cX4_readLumps 74 = .ok (.iconst 1, 1) := by decide +kernel
theorem dX4_readLumps_75 : decode cX4_readLumps 75 = .ok (.ireturn, 1) := by decide +kernel
theorem dX4_readMoon_0 : decode cX4_readMoon 0 = .ok (.aload_n 0, 1) := by decide +kernel
theorem dX4_readMoon_1 : decode cX4_readMoon 1 = .ok (.iconst 0, 1) := by decide +kernel
theorem dX4_readMoon_2 : decode cX4_readMoon 2 = .ok (.iconst 0, 1) := by decide +kernel
theorem dX4_readMoon_3 : decode cX4_readMoon 3 = .ok (.iconst 4, 1) := by decide +kernel
theorem dX4_readMoon_4 : decode cX4_readMoon 4 = .ok (.invokevirtual 51, 3) := by decide +kernel
theorem dX4_readMoon_7 : decode cX4_readMoon 7 = .ok (.ifCond .eq 49, 3) := by decide +kernel
theorem dX4_readMoon_10 : decode cX4_readMoon 10 = .ok (.aload_n 0, 1) := by decide +kernel
theorem dX4_readMoon_11 : decode cX4_readMoon 11 = .ok (.iconst 1, 1) := by decide +kernel
theorem dX4_readMoon_12 : decode cX4_readMoon 12 = .ok (.iconst 0, 1) := by decide +kernel
theorem dX4_readMoon_13 : decode cX4_readMoon 13 = .ok (.iconst 5, 1) := by decide +kernel
theorem dX4_readMoon_14 : decode cX4_readMoon 14 = .ok (.invokevirtual 51, 3) := by decide +kernel
theorem dX4_readMoon_17 : decode cX4_readMoon 17 = .ok (.ifCond .eq 39, 3) := by decide +kernel
theorem dX4_readMoon_20 : decode cX4_readMoon 20 = .ok (.aload_n 0, 1) := by decide +kernel
theorem dX4_readMoon_21 : decode cX4_readMoon 21 = .ok (.iconst 2, 1) := by decide +kernel
theorem dX4_readMoon_22 : decode cX4_readMoon 22 = .ok (.iconst 0, 1) := by decide +kernel
theorem dX4_readMoon_23 : decode cX4_readMoon 23 = .ok (.aload_n 0, 1) := by decide +kernel
theorem dX4_readMoon_24 : decode cX4_readMoon 24 = .ok (.getfield 15, 3) := by decide +kernel
theorem dX4_readMoon_27 : decode cX4_readMoon 27 = .ok (.getfield 85, 3) := by decide +kernel
theorem dX4_readMoon_30 : decode cX4_readMoon 30 = .ok (.iconst 1, 1) := by decide +kernel
theorem dX4_readMoon_31 : decode cX4_readMoon 31 = .ok (.isub, 1) := by decide +kernel
theorem dX4_readMoon_32 : decode cX4_readMoon 32 = .ok (.invokevirtual 51, 3) := by decide +kernel
theorem dX4_readMoon_35 : decode cX4_readMoon 35 = .ok (.ifCond .eq 21, 3) := by decide +kernel
theorem dX4_readMoon_38 : decode cX4_readMoon 38 = .ok (.aload_n 0, 1) := by decide +kernel
theorem dX4_readMoon_39 : decode cX4_readMoon 39 = .ok (.iconst 3, 1) := by decide +kernel
theorem dX4_readMoon_40 : decode cX4_readMoon 40 = .ok (.iconst 0, 1) := by decide +kernel
theorem dX4_readMoon_41 : decode cX4_readMoon 41 = .ok (.bipush 9, 2) := by decide +kernel
theorem dX4_readMoon_43 : decode cX4_readMoon 43 = .ok (.invokevirtual 51, 3) := by decide +kernel
theorem dX4_readMoon_46 : decode cX4_readMoon 46 = .ok (.ifCond .eq 10, 3) := by decide +kernel
theorem dX4_readMoon_49 : decode cX4_readMoon 49 = .ok (.aload_n 0, 1) := by decide +kernel
theorem dX4_readMoon_50 : decode cX4_readMoon 50 = .ok (.invokevirtual 55, 3) := by decide +kernel
theorem dX4_readMoon_53 : decode cX4_readMoon 53 = .ok (.ifCond .ne 5, 3) := by decide +kernel
theorem dX4_readMoon_56 : decode cX4_readMoon 56 = .ok (.iconst 0, 1) := by decide +kernel
theorem dX4_readMoon_57 : decode cX4_readMoon 57 = .ok (.ireturn, 1) := by decide +kernel
theorem dX4_readMoon_58 : decode cX4_readMoon 58 = .ok (.aload_n 0, 1) := by decide +kernel
theorem dX4_readMoon_59 : decode cX4_readMoon 59 = .ok (.getfield 15, 3) := by decide +kernel
theorem dX4_readMoon_62 : decode cX4_readMoon 62 = .ok (.aload_n 0, 1) := by decide +kernel
theorem dX4_readMoon_63 : decode cX4_readMoon 63 = .ok (.getfield 19, 3) := by decide +kernel
theorem dX4_readMoon_66 : decode cX4_readMoon 66 = .ok (.iconst 0, 1) := by decide +kernel
theorem dX4_readMoon_67 : decode cX4_readMoon 67 = .ok (.iaload, 1) := by decide +kernel
theorem dX4_readMoon_68 : decode cX4_readMoon 68 = .ok (.aload_n 0, 1) := by decide +kernel
theorem dX4_readMoon_69 : decode cX4_readMoon 69 = .ok (.getfield 19, 3) := by decide +kernel
theorem dX4_readMoon_72 : decode cX4_readMoon 72 = .ok (.iconst 1, 1) := by decide +kernel
theorem dX4_readMoon_73 : decode cX4_readMoon 73 = .ok (.iaload, 1) := by decide +kernel
theorem dX4_readMoon_74 : decode cX4_readMoon 74 = .ok (.aload_n 0, 1) := by decide +kernel
theorem dX4_readMoon_75 : decode cX4_readMoon 75 = .ok (.getfield 19, 3) := by decide +kernel
theorem dX4_readMoon_78 : decode cX4_readMoon 78 = .ok (.iconst 2, 1) := by decide +kernel
theorem dX4_readMoon_79 : decode cX4_readMoon 79 = .ok (.iaload, 1) := by decide +kernel
theorem dX4_readMoon_80 : decode cX4_readMoon 80 = .ok (.aload_n 0, 1) := by decide +kernel
theorem dX4_readMoon_81 : decode cX4_readMoon 81 = .ok (.getfield 19, 3) := by decide +kernel
theorem dX4_readMoon_84 : decode cX4_readMoon 84 = .ok (.iconst 3, 1) := by decide +kernel
theorem dX4_readMoon_85 : decode cX4_readMoon 85 = .ok (.iaload, 1) := by decide +kernel
theorem dX4_readMoon_86 : decode cX4_readMoon 86 = .ok (.invokevirtual 92, 3) := by decide +kernel
theorem dX4_readMoon_89 : decode cX4_readMoon 89 = .ok (.pop, 1) := by decide +kernel
theorem dX4_readMoon_90 : decode cX4_readMoon 90 = .ok (.iconst 1, 1) := by decide +kernel
theorem dX4_readMoon_91 : decode cX4_readMoon 91 = .ok (.ireturn, 1) := by decide +kernel
theorem dX4_takeNumber_0 : decode cX4_takeNumber 0 = .ok (.aload_n 0, 1) := by decide +kernel
theorem dX4_takeNumber_1 : decode cX4_takeNumber 1 = .ok (.getfield 9, 3) := by decide +kernel
theorem dX4_takeNumber_4 : decode cX4_takeNumber 4 = .ok (.invokevirtual 28, 3) := by decide +kernel
theorem dX4_takeNumber_7 : decode cX4_takeNumber 7 = .ok (.aload_n 0, 1) := by decide +kernel
theorem dX4_takeNumber_8 : decode cX4_takeNumber 8 = .ok (.getfield 19, 3) := by decide +kernel
theorem dX4_takeNumber_11 : decode cX4_takeNumber 11 = .ok (.iload_n 1, 1) := by decide +kernel
theorem dX4_takeNumber_12 : decode cX4_takeNumber 12 = .ok (.aload_n 0, 1) := by decide +kernel
theorem dX4_takeNumber_13 : decode cX4_takeNumber 13 = .ok (.getfield 9, 3) := by decide +kernel
theorem dX4_takeNumber_16 : decode cX4_takeNumber 16 = .ok (.invokevirtual 96, 3) := by decide +kernel
theorem dX4_takeNumber_19 : decode cX4_takeNumber 19 = .ok (.iastore, 1) := by decide +kernel
theorem dX4_takeNumber_20 : decode cX4_takeNumber 20 = .ok (.aload_n 0, 1) := by decide +kernel
theorem dX4_takeNumber_21 : decode cX4_takeNumber 21 = .ok (.getfield 19, 3) := by decide +kernel
theorem dX4_takeNumber_24 : decode cX4_takeNumber 24 = .ok (.iload_n 1, 1) := by decide +kernel
theorem dX4_takeNumber_25 : decode cX4_takeNumber 25 = .ok (.iaload, 1) := by decide +kernel
theorem dX4_takeNumber_26 : decode cX4_takeNumber 26 = .ok (.iload_n 2, 1) := by decide +kernel
theorem dX4_takeNumber_27 : decode cX4_takeNumber 27 = .ok (.iload_n 3, 1) := by decide +kernel
theorem dX4_takeNumber_28 : decode cX4_takeNumber 28 = .ok (.invokestatic 100, 3) := by decide +kernel
theorem dX4_takeNumber_31 : decode cX4_takeNumber 31 = .ok (.ireturn, 1) := by decide +kernel
theorem dX4_takeSemicolon_0 : decode cX4_takeSemicolon 0 = .ok (.aload_n 0, 1) := by decide +kernel
theorem dX4_takeSemicolon_1 : decode cX4_takeSemicolon 1 = .ok (.getfield 9, 3) := by decide +kernel
theorem dX4_takeSemicolon_4 : decode cX4_takeSemicolon 4 = .ok (.invokevirtual 28, 3) := by decide +kernel
theorem dX4_takeSemicolon_7 : decode cX4_takeSemicolon 7 = .ok (.aload_n 0, 1) := by decide +kernel
theorem dX4_takeSemicolon_8 : decode cX4_takeSemicolon 8 = .ok (.getfield 9, 3) := by decide +kernel
theorem dX4_takeSemicolon_11 : decode cX4_takeSemicolon 11 = .ok (.getfield 39, 3) := by decide +kernel
theorem dX4_takeSemicolon_14 : decode cX4_takeSemicolon 14 = .ok (.iconst 3, 1) := by decide +kernel
theorem dX4_takeSemicolon_15 : decode cX4_takeSemicolon 15 = .ok (.if_icmp .ne 7, 3) := by decide +kernel
theorem dX4_takeSemicolon_18 : decode cX4_takeSemicolon 18 = .ok (.iconst 1, 1) := by decide +kernel
theorem dX4_takeSemicolon_19 : decode cX4_takeSemicolon 19 = .ok (.goto 4, 3) := by decide +kernel
theorem dX4_takeSemicolon_22 : decode cX4_takeSemicolon 22 = .ok (.iconst 0, 1) := by decide +kernel
theorem dX4_takeSemicolon_23 : decode cX4_takeSemicolon 23 = .ok (.ireturn, 1) := by decide +kernel
theorem dX5_init_0 : decode cX5_init 0 = .ok (.aload_n 0, 1) := by decide +kernel
theorem dX5_init_1 : decode cX5_init 1 = .ok (.invokespecial 3, 3) := by decide +kernel
theorem dX5_init_4 : decode cX5_init 4 = .ok (.aload_n 0, 1) := by decide +kernel
theorem dX5_init_5 : decode cX5_init 5 = .ok (.aload_n 1, 1) := by decide +kernel
theorem dX5_init_6 : decode cX5_init 6 = .ok (.putfield 9, 3) := by decide +kernel
theorem dX5_init_9 : decode cX5_init 9 = .ok (.aload_n 0, 1) := by decide +kernel
theorem dX5_init_10 : decode cX5_init 10 = .ok (.iconst 5, 1) := by decide +kernel
theorem dX5_init_11 : decode cX5_init 11 = .ok (.newarray .int, 2) := by decide +kernel
theorem dX5_init_13 : decode cX5_init 13 = .ok (.putfield 15, 3) := by decide +kernel
theorem dX5_init_16 : decode cX5_init 16 = .ok (.aload_n 0, 1) := by decide +kernel
theorem dX5_init_17 : decode cX5_init 17 = .ok (.iconst 5, 1) := by decide +kernel
theorem dX5_init_18 : decode cX5_init 18 = .ok (.newarray .int, 2) := by decide +kernel
theorem dX5_init_20 : decode cX5_init 20 = .ok (.putfield 19, 3) := by decide +kernel
theorem dX5_init_23 : decode cX5_init 23 = .ok (.aload_n 0, 1) := by decide +kernel
theorem dX5_init_24 : decode cX5_init 24 = .ok (.bipush 120, 2) := by decide +kernel
theorem dX5_init_26 : decode cX5_init 26 = .ok (.newarray .int, 2) := by decide +kernel
theorem dX5_init_28 : decode cX5_init 28 = .ok (.putfield 22, 3) := by decide +kernel
theorem dX5_init_31 : decode cX5_init 31 = .ok (.aload_n 0, 1) := by decide +kernel
theorem dX5_init_32 : decode cX5_init 32 = .ok (.iconst 5, 1) := by decide +kernel
theorem dX5_init_33 : decode cX5_init 33 = .ok (.newarray .int, 2) := by decide +kernel
theorem dX5_init_35 : decode cX5_init 35 = .ok (.putfield 25, 3) := by decide +kernel
theorem dX5_init_38 : decode cX5_init 38 = .ok (.aload_n 0, 1) := by decide +kernel
theorem dX5_init_39 : decode cX5_init 39 = .ok (.iconst 4, 1) := by decide +kernel
theorem dX5_init_40 : decode cX5_init 40 = .ok (.newarray .int, 2) := by decide +kernel
theorem dX5_init_42 : decode cX5_init 42 = .ok (.putfield 28, 3) := by decide +kernel
theorem dX5_init_45 : decode cX5_init 45 = .ok (.aload_n 0, 1) := by decide +kernel
theorem dX5_init_46 : decode cX5_init 46 = .ok (.iconst 4, 1) := by decide +kernel
theorem dX5_init_47 : decode cX5_init 47 = .ok (.newarray .int, 2) := by decide +kernel
theorem dX5_init_49 : decode cX5_init 49 = .ok (.putfield 31, 3) := by decide +kernel
theorem dX5_init_52 : decode cX5_init 52 = .ok (.aload_n 0, 1) := by decide +kernel
theorem dX5_init_53 : decode cX5_init 53 = .ok (.iconst 4, 1) := by decide +kernel
theorem dX5_init_54 : decode cX5_init 54 = .ok (.newarray .int, 2) := by decide +kernel
theorem dX5_init_56 : decode cX5_init 56 = .ok (.putfield 34, 3) := by decide +kernel
theorem dX5_init_59 : decode cX5_init 59 = .ok (.aload_n 0, 1) := by decide +kernel
theorem dX5_init_60 : decode cX5_init 60 = .ok (.iconst 4, 1) := by decide +kernel
theorem dX5_init_61 : decode cX5_init 61 = .ok (.newarray .int, 2) := by decide +kernel
theorem dX5_init_63 : decode cX5_init 63 = .ok (.putfield 37, 3) := by decide +kernel
theorem dX5_init_66 : decode cX5_init 66 = .ok (.aload_n 0, 1) := by decide +kernel
theorem dX5_init_67 : decode cX5_init 67 = .ok (.bipush 12, 2) := by decide +kernel
theorem dX5_init_69 : decode cX5_init 69 = .ok (.invokevirtual 40, 3) := by decide +kernel
theorem dX5_init_72 : decode cX5_init 72 = .ok (.return_, 1) := by decide +kernel
theorem dX5_begin_0 : decode cX5_begin 0 = .ok (.aload_n 0, 1) := by decide +kernel
theorem dX5_begin_1 : decode cX5_begin 1 = .ok (.iload_n 1, 1) := by decide +kernel
theorem dX5_begin_2 : decode cX5_begin 2 = .ok (.putfield 44, 3) := by decide +kernel
theorem dX5_begin_5 : decode cX5_begin 5 = .ok (.aload_n 0, 1) := by decide +kernel
theorem dX5_begin_6 : decode cX5_begin 6 = .ok (.iconst 0, 1) := by decide +kernel
theorem dX5_begin_7 : decode cX5_begin 7 = .ok (.putfield 48, 3) := by decide +kernel
theorem dX5_begin_10 : decode cX5_begin 10 = .ok (.aload_n 0, 1) := by decide +kernel
theorem dX5_begin_11 : decode cX5_begin 11 = .ok (.iconst 0, 1) := by decide +kernel
theorem dX5_begin_12 : decode cX5_begin 12 = .ok (.putfield 51, 3) := by decide +kernel
theorem dX5_begin_15 : decode cX5_begin 15 = .ok (.aload_n 0, 1) := by decide +kernel
theorem dX5_begin_16 : decode cX5_begin 16 = .ok (.iconst 0, 1) := by decide +kernel
theorem dX5_begin_17 : decode cX5_begin 17 = .ok (.putfield 54, 3) := by decide +kernel
theorem dX5_begin_20 : decode cX5_begin 20 = .ok (.iconst 0, 1) := by decide +kernel
theorem dX5_begin_21 : decode cX5_begin 21 = .ok (.istore_n 2, 1) := by decide +kernel
theorem dX5_begin_22 : decode cX5_begin 22 = .ok (.iload_n 2, 1) := by decide +kernel
theorem dX5_begin_23 : decode cX5_begin 23 = .ok (.iconst 5, 1) := by decide +kernel
theorem dX5_begin_24 : decode cX5_begin 24 = .ok (.if_icmp .ge 18, 3) := by decide +kernel
theorem dX5_begin_27 : decode cX5_begin 27 = .ok (.aload_n 0, 1) := by decide +kernel
theorem dX5_begin_28 : decode cX5_begin 28 = .ok (.getfield 15, 3) := by decide +kernel
theorem dX5_begin_31 : decode cX5_begin 31 = .ok (.iload_n 2, 1) := by decide +kernel
theorem dX5_begin_32 : decode cX5_begin 32 = .ok (.iconst 5, 1) := by decide +kernel
theorem dX5_begin_33 : decode cX5_begin 33 = .ok (.iload_n 2, 1) := by decide +kernel
theorem dX5_begin_34 : decode cX5_begin 34 = .ok (.isub, 1) := by decide +kernel
theorem dX5_begin_35 : decode cX5_begin 35 = .ok (.iastore, 1) := by decide +kernel
theorem dX5_begin_36 : decode cX5_begin 36 = .ok (.iinc 2 1, 3) := by decide +kernel
theorem dX5_begin_39 : decode cX5_begin 39 = .ok (.goto (-17), 3) := by decide +kernel
theorem dX5_begin_42 : decode cX5_begin 42 = .ok (.aload_n 0, 1) := by decide +kernel
theorem dX5_begin_43 : decode cX5_begin 43 = .ok (.getfield 19, 3) := by decide +kernel
theorem dX5_begin_46 : decode cX5_begin 46 = .ok (.iconst 0, 1) := by decide +kernel
theorem dX5_begin_47 : decode cX5_begin 47 = .ok (.invokestatic 57, 3) := by decide +kernel
theorem dX5_begin_50 : decode cX5_begin 50 = .ok (.aload_n 0, 1) := by decide +kernel
theorem dX5_begin_51 : decode cX5_begin 51 = .ok (.getfield 22, 3) := by decide +kernel
theorem dX5_begin_54 : decode cX5_begin 54 = .ok (.iconst 0, 1) := by decide +kernel
theorem dX5_begin_55 : decode cX5_begin 55 = .ok (.invokestatic 57, 3) := by decide +kernel
theorem dX5_begin_58 : decode cX5_begin 58 = .ok (.aload_n 0, 1) := by decide +kernel
theorem dX5_begin_59 : decode cX5_begin 59 = .ok (.getfield 25, 3) := by decide +kernel
theorem dX5_begin_62 : decode cX5_begin 62 = .ok (.iconst 0, 1) := by decide +kernel
theorem dX5_begin_63 : decode cX5_begin 63 = .ok (.invokestatic 57, 3) := by decide +kernel
theorem dX5_begin_66 : decode cX5_begin 66 = .ok (.return_, 1) := by decide +kernel
theorem dX5_copy_0 : decode cX5_copy 0 = .ok (.aload_n 0, 1) := by decide +kernel
theorem dX5_copy_1 : decode cX5_copy 1 = .ok (.aload_n 1, 1) := by decide +kernel
theorem dX5_copy_2 : decode cX5_copy 2 = .ok (.getfield 44, 3) := by decide +kernel
theorem dX5_copy_5 : decode cX5_copy 5 = .ok (.putfield 44, 3) := by decide +kernel
theorem dX5_copy_8 : decode cX5_copy 8 = .ok (.aload_n 0, 1) := by decide +kernel
theorem dX5_copy_9 : decode cX5_copy 9 = .ok (.aload_n 1, 1) := by decide +kernel
theorem dX5_copy_10 : decode cX5_copy 10 = .ok (.getfield 48, 3) := by decide +kernel
theorem dX5_copy_13 : decode cX5_copy 13 = .ok (.putfield 48, 3) := by decide +kernel
theorem dX5_copy_16 : decode cX5_copy 16 = .ok (.aload_n 1, 1) := by decide +kernel
theorem dX5_copy_17 : decode cX5_copy 17 = .ok (.getfield 15, 3) := by decide +kernel
theorem dX5_copy_20 : decode cX5_copy 20 = .ok (.iconst 0, 1) := by decide +kernel
theorem dX5_copy_21 : decode cX5_copy 21 = .ok (.aload_n 0, 1) := by decide +kernel
theorem dX5_copy_22 : decode cX5_copy 22 = .ok (.getfield 15, 3) := by decide +kernel
theorem dX5_copy_25 : decode cX5_copy 25 = .ok (.iconst 0, 1) := by decide +kernel
theorem dX5_copy_26 : decode cX5_copy 26 = .ok (.iconst 5, 1) := by decide +kernel
theorem dX5_copy_27 : decode cX5_copy 27 = .ok (.invokestatic 63, 3) := by decide +kernel
theorem dX5_copy_30 : decode cX5_copy 30 = .ok (.aload_n 1, 1) := by decide +kernel
theorem dX5_copy_31 : decode cX5_copy 31 = .ok (.getfield 19, 3) := by decide +kernel
theorem dX5_copy_34 : decode cX5_copy 34 = .ok (.iconst 0, 1) := by decide +kernel
theorem dX5_copy_35 : decode cX5_copy 35 = .ok (.aload_n 0, 1) := by decide +kernel
theorem dX5_copy_36 : decode cX5_copy 36 = .ok (.getfield 19, 3) := by decide +kernel
theorem dX5_copy_39 : decode cX5_copy 39 = .ok (.iconst 0, 1) := by decide +kernel
theorem dX5_copy_40 : decode cX5_copy 40 = .ok (.iconst 5, 1) := by decide +kernel
theorem dX5_copy_41 : decode cX5_copy 41 = .ok (.invokestatic 63, 3) := by decide +kernel
theorem dX5_copy_44 : decode cX5_copy 44 = .ok (.aload_n 1, 1) := by decide +kernel
theorem dX5_copy_45 : decode cX5_copy 45 = .ok (.getfield 28, 3) := by decide +kernel
theorem dX5_copy_48 : decode cX5_copy 48 = .ok (.iconst 0, 1) := by decide +kernel
theorem dX5_copy_49 : decode cX5_copy 49 = .ok (.aload_n 0, 1) := by decide +kernel
theorem dX5_copy_50 : decode cX5_copy 50 = .ok (.getfield 28, 3) := by decide +kernel
theorem dX5_copy_53 : decode cX5_copy 53 = .ok (.iconst 0, 1) := by decide +kernel
theorem dX5_copy_54 : decode cX5_copy 54 = .ok (.iconst 4, 1) := by decide +kernel
theorem dX5_copy_55 : decode cX5_copy 55 = .ok (.invokestatic 63, 3) := by decide +kernel
theorem dX5_copy_58 : decode cX5_copy 58 = .ok (.aload_n 1, 1) := by decide +kernel
theorem dX5_copy_59 : decode cX5_copy 59 = .ok (.getfield 31, 3) := by decide +kernel
theorem dX5_copy_62 : decode cX5_copy 62 = .ok (.iconst 0, 1) := by decide +kernel
theorem dX5_copy_63 : decode cX5_copy 63 = .ok (.aload_n 0, 1) := by decide +kernel
theorem dX5_copy_64 : decode cX5_copy 64 = .ok (.getfield 31, 3) := by decide +kernel
theorem dX5_copy_67 : decode cX5_copy 67 = .ok (.iconst 0, 1) := by decide +kernel
theorem dX5_copy_68 : decode cX5_copy 68 = .ok (.iconst 4, 1) := by decide +kernel
theorem dX5_copy_69 : decode cX5_copy 69 = .ok (.invokestatic 63, 3) := by decide +kernel
theorem dX5_copy_72 : decode cX5_copy 72 = .ok (.aload_n 1, 1) := by decide +kernel
theorem dX5_copy_73 : decode cX5_copy 73 = .ok (.getfield 37, 3) := by decide +kernel
theorem dX5_copy_76 : decode cX5_copy 76 = .ok (.iconst 0, 1) := by decide +kernel
theorem dX5_copy_77 : decode cX5_copy 77 = .ok (.aload_n 0, 1) := by decide +kernel
theorem dX5_copy_78 : decode cX5_copy 78 = .ok (.getfield 37, 3) := by decide +kernel
theorem dX5_copy_81 : decode cX5_copy 81 = .ok (.iconst 0, 1) := by decide +kernel
theorem dX5_copy_82 : decode cX5_copy 82 = .ok (.iconst 4, 1) := by decide +kernel
theorem dX5_copy_83 : decode cX5_copy 83 = .ok (.invokestatic 63, 3) := by decide +kernel
theorem dX5_copy_86 : decode cX5_copy 86 = .ok (.aload_n 0, 1) := by decide +kernel
theorem dX5_copy_87 : decode cX5_copy 87 = .ok (.aload_n 1, 1) := by decide +kernel
theorem dX5_copy_88 : decode cX5_copy 88 = .ok (.invokevirtual 69, 3) := by decide +kernel
theorem dX5_copy_91 : decode cX5_copy 91 = .ok (.return_, 1) := by decide +kernel
theorem dX5_goBackTo_0 : decode cX5_goBackTo 0 = .ok (.aload_n 0, 1) := by decide +kernel
theorem dX5_goBackTo_1 : decode cX5_goBackTo 1 = .ok (.aload_n 1, 1) := by decide +kernel
theorem dX5_goBackTo_2 : decode cX5_goBackTo 2 = .ok (.getfield 51, 3) := by decide +kernel
theorem dX5_goBackTo_5 : decode cX5_goBackTo 5 = .ok (.putfield 51, 3) := by decide +kernel
theorem dX5_goBackTo_8 : decode cX5_goBackTo 8 = .ok (.aload_n 0, 1) := by decide +kernel
theorem dX5_goBackTo_9 : decode cX5_goBackTo 9 = .ok (.aload_n 1, 1) := by decide +kernel
theorem dX5_goBackTo_10 : decode cX5_goBackTo 10 = .ok (.getfield 54, 3) := by decide +kernel
theorem dX5_goBackTo_13 : decode cX5_goBackTo 13 = .ok (.putfield 54, 3) := by decide +kernel
theorem dX5_goBackTo_16 : decode cX5_goBackTo 16 = .ok (.aload_n 1, 1) := by decide +kernel
theorem dX5_goBackTo_17 : decode cX5_goBackTo 17 = .ok (.getfield 22, 3) := by decide +kernel
theorem dX5_goBackTo_20 : decode cX5_goBackTo 20 = .ok (.iconst 0, 1) := by decide +kernel
theorem dX5_goBackTo_21 : decode cX5_goBackTo 21 = .ok (.aload_n 0, 1) := by decide +kernel
theorem dX5_goBackTo_22 : decode cX5_goBackTo 22 = .ok (.getfield 22, 3) := by decide +kernel
theorem dX5_goBackTo_25 : decode cX5_goBackTo 25 = .ok (.iconst 0, 1) := by decide +kernel
theorem dX5_goBackTo_26 : decode cX5_goBackTo 26 = .ok (.bipush 120, 2) := by decide +kernel
theorem dX5_goBackTo_28 : decode cX5_goBackTo 28 = .ok (.invokestatic 63, 3) := by decide +kernel
theorem dX5_goBackTo_31 : decode cX5_goBackTo 31 = .ok (.aload_n 1, 1) := by decide +kernel
theorem dX5_goBackTo_32 : decode cX5_goBackTo 32 = .ok (.getfield 25, 3) := by decide +kernel
theorem dX5_goBackTo_35 : decode cX5_goBackTo 35 = .ok (.iconst 0, 1) := by decide +kernel
theorem dX5_goBackTo_36 : decode cX5_goBackTo 36 = .ok (.aload_n 0, 1) := by decide +kernel
theorem dX5_goBackTo_37 : decode cX5_goBackTo 37 = .ok (.getfield 25, 3) := by decide +kernel
theorem dX5_goBackTo_40 : decode cX5_goBackTo 40 = .ok (.iconst 0, 1) := by decide +kernel
theorem dX5_goBackTo_41 : decode cX5_goBackTo 41 = .ok (.iconst 5, 1) := by decide +kernel
theorem dX5_goBackTo_42 : decode cX5_goBackTo 42 = .ok (.invokestatic 63, 3) := by decide +kernel
theorem dX5_goBackTo_45 : decode cX5_goBackTo 45 = .ok (.aload_n 1, 1) := by decide +kernel
theorem dX5_goBackTo_46 : decode cX5_goBackTo 46 = .ok (.getfield 34, 3) := by decide +kernel
theorem dX5_goBackTo_49 : decode cX5_goBackTo 49 = .ok (.iconst 0, 1) := by decide +kernel
theorem dX5_goBackTo_50 : decode cX5_goBackTo 50 = .ok (.aload_n 0, 1) := by decide +kernel
theorem dX5_goBackTo_51 : decode cX5_goBackTo 51 = .ok (.getfield 34, 3) := by decide +kernel
theorem dX5_goBackTo_54 : decode cX5_goBackTo 54 = .ok (.iconst 0, 1) := by decide +kernel
theorem dX5_goBackTo_55 : decode cX5_goBackTo 55 = .ok (.aload_n 1, 1) := by decide +kernel
theorem dX5_goBackTo_56 : decode cX5_goBackTo 56 = .ok (.getfield 48, 3) := by decide +kernel
theorem dX5_goBackTo_59 : decode cX5_goBackTo 59 = .ok (.invokestatic 63, 3) := by decide +kernel
theorem dX5_goBackTo_62 : decode cX5_goBackTo 62 = .ok (.return_, 1) := by decide +kernel
theorem dX5_around_0 : decode cX5_around 0 = .ok (.aload_n 0, 1) := by decide +kernel
theorem dX5_around_1 : decode cX5_around 1 = .ok (.getfield 44, 3) := by decide +kernel
theorem dX5_around_4 : decode cX5_around 4 = .ok (.iconst 1, 1) := by decide +kernel
theorem dX5_around_5 : decode cX5_around 5 = .ok (.if_icmp .ge 7, 3) := by decide +kernel
theorem dX5_around_8 : decode cX5_around 8 = .ok (.iconst 0, 1) := by decide +kernel
theorem dX5_around_9 : decode cX5_around 9 = .ok (.goto 9, 3) := by decide +kernel
theorem dX5_around_12 : decode cX5_around 12 = .ok (.iload_n 1, 1) := by decide +kernel
theorem dX5_around_13 : decode cX5_around 13 = .ok (.aload_n 0, 1) := by decide +kernel
theorem dX5_around_14 : decode cX5_around 14 = .ok (.getfield 44, 3) := by decide +kernel
theorem dX5_around_17 : decode cX5_around 17 = .ok (.irem, 1) := by decide +kernel
theorem dX5_around_18 : decode cX5_around 18 = .ok (.ireturn, 1) := by decide +kernel
theorem dX5_lumpsAt_0 : decode cX5_lumpsAt 0 = .ok (.aload_n 0, 1) := by decide +kernel
theorem dX5_lumpsAt_1 : decode cX5_lumpsAt 1 = .ok (.getfield 22, 3) := by decide +kernel
theorem dX5_lumpsAt_4 : decode cX5_lumpsAt 4 = .ok (.aload_n 0, 1) := by decide +kernel
theorem dX5_lumpsAt_5 : decode cX5_lumpsAt 5 = .ok (.iload_n 1, 1) := by decide +kernel
theorem dX5_lumpsAt_6 : decode cX5_lumpsAt 6 = .ok (.iload_n 2, 1) := by decide +kernel
theorem dX5_lumpsAt_7 : decode cX5_lumpsAt 7 = .ok (.invokevirtual 73, 3) := by decide +kernel
theorem dX5_lumpsAt_10 : decode cX5_lumpsAt 10 = .ok (.iaload, 1) := by decide +kernel
theorem dX5_lumpsAt_11 : decode cX5_lumpsAt 11 = .ok (.ireturn, 1) := by decide +kernel
theorem dX5_setLumps_0 : decode cX5_setLumps 0 = .ok (.aload_n 0, 1) := by decide +kernel
theorem dX5_setLumps_1 : decode cX5_setLumps 1 = .ok (.getfield 22, 3) := by decide +kernel
theorem dX5_setLumps_4 : decode cX5_setLumps 4 = .ok (.aload_n 0, 1) := by decide +kernel
theorem dX5_setLumps_5 : decode cX5_setLumps 5 = .ok (.iload_n 1, 1) := by decide +kernel
theorem dX5_setLumps_6 : decode cX5_setLumps 6 = .ok (.iload_n 2, 1) := by decide +kernel
theorem dX5_setLumps_7 : decode cX5_setLumps 7 = .ok (.invokevirtual 73, 3) := by decide +kernel
theorem dX5_setLumps_10 : decode cX5_setLumps 10 = .ok (.iload_n 3, 1) := by decide +kernel
theorem dX5_setLumps_11 : decode cX5_setLumps 11 = .ok (.iastore, 1) := by decide +kernel
theorem dX5_setLumps_12 : decode cX5_setLumps 12 = .ok (.return_, 1) := by decide +kernel
theorem dX5_seat_0 : decode cX5_seat 0 = .ok (.iload_n 2, 1) := by decide +kernel
theorem dX5_seat_1 : decode cX5_seat 1 = .ok (.aload_n 0, 1) := by decide +kernel
theorem dX5_seat_2 : decode cX5_seat 2 = .ok (.getfield 25, 3) := by decide +kernel
theorem dX5_seat_5 : decode cX5_seat 5 = .ok (.iload_n 1, 1) := by decide +kernel
theorem dX5_seat_6 : decode cX5_seat 6 = .ok (.iaload, 1) := by decide +kernel
theorem dX5_seat_7 : decode cX5_seat 7 = .ok (.isub, 1) := by decide +kernel
theorem dX5_seat_8 : decode cX5_seat 8 = .ok (.istore_n 3, 1) := by decide +kernel
theorem dX5_seat_9 : decode cX5_seat 9 = .ok (.iload_n 1, 1) := by decide +kernel
theorem dX5_seat_10 : decode cX5_seat 10 = .ok (.bipush 24, 2) := by decide +kernel
theorem dX5_seat_12 : decode cX5_seat 12 = .ok (.imul, 1) := by decide +kernel
theorem dX5_seat_13 : decode cX5_seat 13 = .ok (.iload_n 3, 1) := by decide +kernel
theorem dX5_seat_14 : decode cX5_seat 14 = .ok (.ifCond .ge 12, 3) := by decide +kernel
theorem dX5_seat_17 : decode cX5_seat 17 = .ok (.iload_n 3, 1) := by decide +kernel
theorem dX5_seat_18 : decode cX5_seat 18 = .ok (.aload_n 0, 1) := by decide +kernel
theorem dX5_seat_19 : decode cX5_seat 19 = .ok (.getfield 44, 3) := by decide +kernel
theorem dX5_seat_22 : decode cX5_seat 22 = .ok (.iadd, 1) := by decide +kernel
theorem dX5_seat_23 : decode cX5_seat 23 = .ok (.goto 4, 3) := by decide +kernel
theorem dX5_seat_26 : decode cX5_seat 26 = .ok (.iload_n 3, 1) := by decide +kernel
theorem dX5_seat_27 : decode cX5_seat 27 = .ok (.iadd, 1) := by decide +kernel
theorem dX5_seat_28 : decode cX5_seat 28 = .ok (.ireturn, 1) := by decide +kernel
theorem dX5_lumpsIn_0 : decode cX5_lumpsIn 0 = .ok (.iconst 0, 1) := by decide +kernel
theorem dX5_lumpsIn_1 : decode cX5_lumpsIn 1 = .ok (.istore_n 2, 1) := by decide +kernel
theorem dX5_lumpsIn_2 : decode cX5_lumpsIn 2 = .ok (.iload_n 1, 1) := by decide +kernel
theorem dX5_lumpsIn_3 : decode cX5_lumpsIn 3 = .ok (.bipush 24, 2) := by decide +kernel
theorem dX5_lumpsIn_5 : decode cX5_lumpsIn 5 = .ok (.imul, 1) := by decide +kernel
theorem dX5_lumpsIn_6 : decode cX5_lumpsIn 6 = .ok (.istore_n 3, 1) := by decide +kernel
theorem dX5_lumpsIn_7 : decode cX5_lumpsIn 7 = .ok (.iload_n 3, 1) := by decide +kernel
theorem dX5_lumpsIn_8 : decode cX5_lumpsIn 8 = .ok (.istore 4, 2) := by decide +kernel
theorem dX5_lumpsIn_10 : decode cX5_lumpsIn 10 = .ok (.iload 4, 2) := by decide +kernel
theorem dX5_lumpsIn_12 : decode cX5_lumpsIn 12 = .ok (.iload_n 3, 1) := by decide +kernel
theorem dX5_lumpsIn_13 : decode cX5_lumpsIn 13 = .ok (.aload_n 0, 1) := by decide +kernel
theorem dX5_lumpsIn_14 : decode cX5_lumpsIn 14 = .ok (.getfield 44, 3) := by decide +kernel
theorem dX5_lumpsIn_17 : decode cX5_lumpsIn 17 = .ok (.iadd, 1) := by decide +kernel
theorem dX5_lumpsIn_18 : decode cX5_lumpsIn 18 = .ok (.if_icmp .ge 19, 3) := by decide +kernel
theorem dX5_lumpsIn_21 : decode cX5_lumpsIn 21 = .ok (.iload_n 2, 1) := by decide +kernel
theorem dX5_lumpsIn_22 : decode cX5_lumpsIn 22 = .ok (.aload_n 0, 1) := by decide +kernel
theorem dX5_lumpsIn_23 : decode cX5_lumpsIn 23 = .ok (.getfield 22, 3) := by decide +kernel
theorem dX5_lumpsIn_26 : decode cX5_lumpsIn 26 = .ok (.iload 4, 2) := by decide +kernel
theorem dX5_lumpsIn_28 : decode cX5_lumpsIn 28 = .ok (.iaload, 1) := by decide +kernel
theorem dX5_lumpsIn_29 : decode cX5_lumpsIn 29 = .ok (.iadd, 1) := by decide +kernel
theorem dX5_lumpsIn_30 : decode cX5_lumpsIn 30 = .ok (.istore_n 2, 1) := by decide +kernel
theorem dX5_lumpsIn_31 : decode cX5_lumpsIn 31 = .ok (.iinc 4 1, 3) := by decide +kernel
theorem dX5_lumpsIn_34 : decode cX5_lumpsIn 34 = .ok (.goto (-24), 3) := by decide +kernel
theorem dX5_lumpsIn_37 : decode cX5_lumpsIn 37 = .ok (.iload_n 2, 1) := by decide +kernel
theorem dX5_lumpsIn_38 : decode cX5_lumpsIn 38 = .ok (.ireturn, 1) := by decide +kernel
theorem dX5_lumpsInAll_0 : decode cX5_lumpsInAll 0 = .ok (.iconst 0, 1) := by decide +kernel
theorem dX5_lumpsInAll_1 : decode cX5_lumpsInAll 1 = .ok (.istore_n 1, 1) := by decide +kernel
theorem dX5_lumpsInAll_2 : decode cX5_lumpsInAll 2 = .ok (.iconst 0, 1) := by decide +kernel
theorem dX5_lumpsInAll_3 : decode cX5_lumpsInAll 3 = .ok (.istore_n 2, 1) := by decide +kernel
theorem dX5_lumpsInAll_4 : decode cX5_lumpsInAll 4 = .ok (.iload_n 2, 1) := by decide +kernel
theorem dX5_lumpsInAll_5 : decode cX5_lumpsInAll 5 = .ok (.iconst 5, 1) := by decide +kernel
theorem dX5_lumpsInAll_6 : decode cX5_lumpsInAll 6 = .ok (.if_icmp .ge 17, 3) := by decide +kernel
theorem dX5_lumpsInAll_9 : decode cX5_lumpsInAll 9 = .ok (.iload_n 1, 1) := by decide +kernel
theorem dX5_lumpsInAll_10 : decode cX5_lumpsInAll 10 = .ok (.aload_n 0, 1) := by decide +kernel
theorem dX5_lumpsInAll_11 : decode cX5_lumpsInAll 11 = .ok (.iload_n 2, 1) := by decide +kernel
theorem dX5_lumpsInAll_12 : decode cX5_lumpsInAll 12 = .ok (.invokevirtual 77, 3) := by decide +kernel
theorem dX5_lumpsInAll_15 : decode cX5_lumpsInAll 15 = .ok (.iadd, 1) := by decide +kernel
theorem dX5_lumpsInAll_16 : decode cX5_lumpsInAll 16 = .ok (.istore_n 1, 1) := by decide +kernel
theorem dX5_lumpsInAll_17 : decode cX5_lumpsInAll 17 = .ok (.iinc 2 1, 3) := by decide +kernel
theorem dX5_lumpsInAll_20 : decode cX5_lumpsInAll 20 = .ok (.goto (-16), 3) := by decide +kernel
theorem dX5_lumpsInAll_23 : decode cX5_lumpsInAll 23 = .ok (.iload_n 1, 1) := by decide +kernel
theorem dX5_lumpsInAll_24 : decode cX5_lumpsInAll 24 = .ok (.ireturn, 1) := by decide +kernel
theorem dX5_isClear_0 : decode cX5_isClear 0 = .ok (.iconst 0, 1) := by decide +kernel
theorem dX5_isClear_1 : decode cX5_isClear 1 = .ok (.istore_n 2, 1) := by decide +kernel
theorem dX5_isClear_2 : decode cX5_isClear 2 = .ok (.iload_n 2, 1) := by decide +kernel
theorem dX5_isClear_3 : decode cX5_isClear 3 = .ok (.iconst 5, 1) := by decide +kernel
theorem dX5_isClear_4 : decode cX5_isClear 4 = .ok (.if_icmp .ge 20, 3) := by decide +kernel
theorem dX5_isClear_7 : decode cX5_isClear 7 = .ok (.aload_n 0, 1) := by decide +kernel
theorem dX5_isClear_8 : decode cX5_isClear 8 = .ok (.iload_n 2, 1) := by decide +kernel
theorem dX5_isClear_9 : decode cX5_isClear 9 = .ok (.iload_n 1, 1) := by decide +kernel
theorem dX5_isClear_10 : decode cX5_isClear 10 = .ok (.invokevirtual 81, 3) := by decide +kernel
theorem dX5_isClear_13 : decode cX5_isClear 13 = .ok (.ifCond .le 5, 3) := by decide +kernel
theorem dX5_isClear_16 : decode cX5_isClear 16 = .ok (.iconst 0, 1) := by decide +kernel
theorem dX5_isClear_17 : decode cX5_isClear 17 = .ok (.ireturn, 1) := by decide +kernel
theorem dX5_isClear_18 : decode cX5_isClear 18 = .ok (.iinc 2 1, 3) := by decide +kernel
theorem dX5_isClear_21 : decode cX5_isClear 21 = .ok (.goto (-19), 3) := by decide +kernel
theorem dX5_isClear_24 : decode cX5_isClear 24 = .ok (.iconst 1, 1) := by decide +kernel
theorem dX5_isClear_25 : decode cX5_isClear 25 = .ok (.ireturn, 1) := by decide +kernel
theorem dX5_addMoon_0 : decode cX5_addMoon 0 = .ok (.aload_n 0, 1) := by decide +kernel
theorem dX5_addMoon_1 : decode cX5_addMoon 1 = .ok (.getfield 28, 3) := by decide +kernel
theorem dX5_addMoon_4 : decode cX5_addMoon 4 = .ok (.aload_n 0, 1) := by decide +kernel
theorem dX5_addMoon_5 : decode cX5_addMoon 5 = .ok (.getfield 48, 3) := by decide +kernel
theorem dX5_addMoon_8 : decode cX5_addMoon 8 = .ok (.iload_n 1, 1) := by decide +kernel
theorem dX5_addMoon_9 : decode cX5_addMoon 9 = .ok (.iastore, 1) := by decide +kernel
theorem dX5_addMoon_10 : decode cX5_addMoon 10 = .ok (.aload_n 0, 1) := by decide +kernel
theorem dX5_addMoon_11 : decode cX5_addMoon 11 = .ok (.getfield 31, 3) := by decide +kernel
theorem dX5_addMoon_14 : decode cX5_addMoon 14 = .ok (.aload_n 0, 1) := by decide +kernel
theorem dX5_addMoon_15 : decode cX5_addMoon 15 = .ok (.getfield 48, 3) := by decide +kernel
theorem dX5_addMoon_18 : decode cX5_addMoon 18 = .ok (.iload_n 2, 1) := by decide +kernel
theorem dX5_addMoon_19 : decode cX5_addMoon 19 = .ok (.iastore, 1) := by decide +kernel
theorem dX5_addMoon_20 : decode cX5_addMoon 20 = .ok (.aload_n 0, 1) := by decide +kernel
theorem dX5_addMoon_21 : decode cX5_addMoon 21 = .ok (.getfield 34, 3) := by decide +kernel
theorem dX5_addMoon_24 : decode cX5_addMoon 24 = .ok (.aload_n 0, 1) := by decide +kernel
theorem dX5_addMoon_25 : decode cX5_addMoon 25 = .ok (.getfield 48, 3) := by decide +kernel
theorem dX5_addMoon_28 : decode cX5_addMoon 28 = .ok (.iload_n 3, 1) := by decide +kernel
theorem dX5_addMoon_29 : decode cX5_addMoon 29 = .ok (.iastore, 1) := by decide +kernel
theorem dX5_addMoon_30 : decode cX5_addMoon 30 = .ok (.aload_n 0, 1) := by decide +kernel
theorem dX5_addMoon_31 : decode cX5_addMoon 31 = .ok (.getfield 37, 3) := by decide +kernel
theorem dX5_addMoon_34 : decode cX5_addMoon 34 = .ok (.aload_n 0, 1) := by decide +kernel
theorem dX5_addMoon_35 : decode cX5_addMoon 35 = .ok (.getfield 48, 3) := by decide +kernel
theorem dX5_addMoon_38 : decode cX5_addMoon 38 = .ok (.iload 4, 2) := by decide +kernel
theorem dX5_addMoon_40 : decode cX5_addMoon 40 = .ok (.iastore, 1) := by decide +kernel
theorem dX5_addMoon_41 : decode cX5_addMoon 41 = .ok (.aload_n 0, 1) := by decide +kernel
theorem dX5_addMoon_42 : decode cX5_addMoon 42 = .ok (.dup, 1) := by decide +kernel
theorem dX5_addMoon_43 : decode cX5_addMoon 43 = .ok (.getfield 48, 3) := by decide +kernel
theorem dX5_addMoon_46 : decode cX5_addMoon 46 = .ok (.iconst 1, 1) := by decide +kernel
theorem dX5_addMoon_47 : decode cX5_addMoon 47 = .ok (.iadd, 1) := by decide +kernel
theorem dX5_addMoon_48 : decode cX5_addMoon 48 = .ok (.putfield 48, 3) := by decide +kernel
theorem dX5_addMoon_51 : decode cX5_addMoon 51 = .ok (.aload_n 0, 1) := by decide +kernel
theorem dX5_addMoon_52 : decode cX5_addMoon 52 = .ok (.getfield 48, 3) := by decide +kernel
theorem dX5_addMoon_55 : decode cX5_addMoon 55 = .ok (.iconst 1, 1) := by decide +kernel
theorem dX5_addMoon_56 : decode cX5_addMoon 56 = .ok (.isub, 1) := by decide +kernel
theorem dX5_addMoon_57 : decode cX5_addMoon 57 = .ok (.ireturn, 1) := by decide +kernel
theorem dX5_aboutMoon_0 : decode cX5_aboutMoon 0 = .ok (.iload_n 2, 1) := by decide +kernel
theorem dX5_aboutMoon_1 : decode cX5_aboutMoon 1 = .ok (.tableswitch 48 0 2 #[27, 34, 41], 27) := by decide +kernel
theorem dX5_aboutMoon_28 : decode cX5_aboutMoon 28 = .ok (.aload_n 0, 1) := by decide +kernel
theorem dX5_aboutMoon_29 : decode cX5_aboutMoon 29 = .ok (.getfield 28, 3) := by decide +kernel
theorem dX5_aboutMoon_32 : decode cX5_aboutMoon 32 = .ok (.iload_n 1, 1) := by decide +kernel
theorem dX5_aboutMoon_33 : decode cX5_aboutMoon 33 = .ok (.iaload, 1) := by decide +kernel
theorem dX5_aboutMoon_34 : decode cX5_aboutMoon 34 = .ok (.ireturn, 1) := by decide +kernel
theorem dX5_aboutMoon_35 : decode cX5_aboutMoon 35 = .ok (.aload_n 0, 1) := by decide +kernel
theorem dX5_aboutMoon_36 : decode cX5_aboutMoon 36 = .ok (.getfield 31, 3) := by decide +kernel
theorem dX5_aboutMoon_39 : decode cX5_aboutMoon 39 = .ok (.iload_n 1, 1) := by decide +kernel
theorem dX5_aboutMoon_40 : decode cX5_aboutMoon 40 = .ok (.iaload, 1) := by decide +kernel
theorem dX5_aboutMoon_41 : decode cX5_aboutMoon 41 = .ok (.ireturn, 1) := by decide +kernel
theorem dX5_aboutMoon_42 : decode cX5_aboutMoon 42 = .ok (.aload_n 0, 1) := by decide +kernel
theorem dX5_aboutMoon_43 : decode cX5_aboutMoon 43 = .ok (.getfield 34, 3) := by decide +kernel
theorem dX5_aboutMoon_46 : decode cX5_aboutMoon 46 = .ok (.iload_n 1, 1) := by decide +kernel
theorem dX5_aboutMoon_47 : decode cX5_aboutMoon 47 = .ok (.iaload, 1) := by decide +kernel
theorem dX5_aboutMoon_48 : decode cX5_aboutMoon 48 = .ok (.ireturn, 1) := by decide +kernel
theorem dX5_aboutMoon_49 : decode cX5_aboutMoon 49 = .ok (.aload_n 0, 1) := by decide +kernel
theorem dX5_aboutMoon_50 : decode cX5_aboutMoon 50 = .ok (.getfield 37, 3) := by decide +kernel
theorem dX5_aboutMoon_53 : decode cX5_aboutMoon 53 = .ok (.iload_n 1, 1) := by decide +kernel
theorem dX5_aboutMoon_54 : decode cX5_aboutMoon 54 = .ok (.iaload, 1) := by decide +kernel
theorem dX5_aboutMoon_55 : decode cX5_aboutMoon 55 = .ok (.ireturn, 1) := by decide +kernel
theorem dX5_moveMoon_0 : decode cX5_moveMoon 0 = .ok (.aload_n 0, 1) := by decide +kernel
theorem dX5_moveMoon_1 : decode cX5_moveMoon 1 = .ok (.getfield 34, 3) := by decide +kernel
theorem dX5_moveMoon_4 : decode cX5_moveMoon 4 = .ok (.iload_n 1, 1) := by decide +kernel
theorem dX5_moveMoon_5 : decode cX5_moveMoon 5 = .ok (.aload_n 0, 1) := by decide +kernel
theorem dX5_moveMoon_6 : decode cX5_moveMoon 6 = .ok (.aload_n 0, 1) := by decide +kernel
theorem dX5_moveMoon_7 : decode cX5_moveMoon 7 = .ok (.getfield 34, 3) := by decide +kernel
theorem dX5_moveMoon_10 : decode cX5_moveMoon 10 = .ok (.iload_n 1, 1) := by decide +kernel
theorem dX5_moveMoon_11 : decode cX5_moveMoon 11 = .ok (.iaload, 1) := by decide +kernel
theorem dX5_moveMoon_12 : decode cX5_moveMoon 12 = .ok (.iload_n 2, 1) := by decide +kernel
theorem dX5_moveMoon_13 : decode cX5_moveMoon 13 = .ok (.iadd, 1) := by decide +kernel
theorem dX5_moveMoon_14 : decode cX5_moveMoon 14 = .ok (.invokevirtual 84, 3) := by decide +kernel
theorem dX5_moveMoon_17 : decode cX5_moveMoon 17 = .ok (.iastore, 1) := by decide +kernel
theorem dX5_moveMoon_18 : decode cX5_moveMoon 18 = .ok (.return_, 1) := by decide +kernel
theorem dX5_keepMoons_0 : decode cX5_keepMoons 0 = .ok (.aload_n 0, 1) := by decide +kernel
theorem dX5_keepMoons_1 : decode cX5_keepMoons 1 = .ok (.getfield 48, 3) := by decide +kernel
theorem dX5_keepMoons_4 : decode cX5_keepMoons 4 = .ok (.istore_n 2, 1) := by decide +kernel
theorem dX5_keepMoons_5 : decode cX5_keepMoons 5 = .ok (.aload_n 0, 1) := by decide +kernel
theorem dX5_keepMoons_6 : decode cX5_keepMoons 6 = .ok (.iconst 0, 1) := by decide +kernel
theorem dX5_keepMoons_7 : decode cX5_keepMoons 7 = .ok (.putfield 48, 3) := by decide +kernel
theorem dX5_keepMoons_10 : decode cX5_keepMoons 10 = .ok (.iconst 0, 1) := by decide +kernel
theorem dX5_keepMoons_11 : decode cX5_keepMoons 11 = .ok (.istore_n 3, 1) := by decide +kernel
theorem dX5_keepMoons_12 : decode cX5_keepMoons 12 = .ok (.iload_n 3, 1) := by decide +kernel
theorem dX5_keepMoons_13 : decode cX5_keepMoons 13 = .ok (.iload_n 2, 1) := by decide +kernel
theorem dX5_keepMoons_14 : decode cX5_keepMoons 14 = .ok (.if_icmp .ge 47, 3) := by decide +kernel
theorem dX5_keepMoons_17 : decode cX5_keepMoons 17 = .ok (.iload_n 1, 1) := by decide +kernel
theorem dX5_keepMoons_18 : decode cX5_keepMoons 18 = .ok (.iload_n 3, 1) := by decide +kernel
theorem dX5_keepMoons_19 : decode cX5_keepMoons 19 = .ok (.ishr, 1) := by decide +kernel
theorem dX5_keepMoons_20 : decode cX5_keepMoons 20 = .ok (.iconst 1, 1) := by decide +kernel
theorem dX5_keepMoons_21 : decode cX5_keepMoons 21 = .ok (.iand, 1) := by decide +kernel
theorem dX5_keepMoons_22 : decode cX5_keepMoons 22 = .ok (.iconst 1, 1) := by decide +kernel
theorem dX5_keepMoons_23 : decode cX5_keepMoons 23 = .ok (.if_icmp .ne 32, 3) := by decide +kernel
theorem dX5_keepMoons_26 : decode cX5_keepMoons 26 = .ok (.aload_n 0, 1) := by decide +kernel
theorem dX5_keepMoons_27 : decode cX5_keepMoons 27 = .ok (.aload_n 0, 1) := by decide +kernel
theorem dX5_keepMoons_28 : decode cX5_keepMoons 28 = .ok (.getfield 28, 3) := by decide +kernel
theorem dX5_keepMoons_31 : decode cX5_keepMoons 31 = .ok (.iload_n 3, 1) := by decide +kernel
theorem dX5_keepMoons_32 : decode cX5_keepMoons 32 = .ok (.iaload, 1) := by decide +kernel
theorem dX5_keepMoons_33 : decode cX5_keepMoons 33 = .ok (.aload_n 0, 1) := by decide +kernel
theorem dX5_keepMoons_34 : decode cX5_keepMoons 34 = .ok (.getfield 31, 3) := by decide +kernel
theorem dX5_keepMoons_37 : decode cX5_keepMoons 37 = .ok (.iload_n 3, 1) := by decide +kernel
theorem dX5_keepMoons_38 : decode cX5_keepMoons 38 = .ok (.iaload, 1) := by decide +kernel
theorem dX5_keepMoons_39 : decode cX5_keepMoons 39 = .ok (.aload_n 0, 1) := by decide +kernel
theorem dX5_keepMoons_40 : decode cX5_keepMoons 40 = .ok (.getfield 34, 3) := by decide +kernel
theorem dX5_keepMoons_43 : decode cX5_keepMoons 43 = .ok (.iload_n 3, 1) := by decide +kernel
theorem dX5_keepMoons_44 : decode cX5_keepMoons 44 = .ok (.iaload, 1) := by decide +kernel
theorem dX5_keepMoons_45 : decode cX5_keepMoons 45 = .ok (.aload_n 0, 1) := by decide +kernel
theorem dX5_keepMoons_46 : decode cX5_keepMoons 46 = .ok (.getfield 37, 3) := by decide +kernel
theorem dX5_keepMoons_49 : decode cX5_keepMoons 49 = .ok (.iload_n 3, 1) := by decide +kernel
theorem dX5_keepMoons_50 : decode cX5_keepMoons 50 = .ok (.iaload, 1) := by decide +kernel
theorem dX5_keepMoons_51 : decode cX5_keepMoons 51 = .ok (.invokevirtual 87, 3) := by decide +kernel
theorem dX5_keepMoons_54 : decode cX5_keepMoons 54 = .ok (.pop, 1) := by decide +kernel
theorem dX5_keepMoons_55 : decode cX5_keepMoons 55 = .ok (.iinc 3 1, 3) := by decide +kernel
theorem dX5_keepMoons_58 : decode cX5_keepMoons 58 = .ok (.goto (-46), 3) := by decide +kernel
theorem dX5_keepMoons_61 : decode cX5_keepMoons 61 = .ok (.return_, 1) := by decide +kernel
theorem dX5_goOn_0 : decode cX5_goOn 0 = .ok (.aload_n 0, 1) := by decide +kernel
theorem dX5_goOn_1 : decode cX5_goOn 1 = .ok (.dup, 1) := by decide +kernel
theorem dX5_goOn_2 : decode cX5_goOn 2 = .ok (.getfield 51, 3) := by decide +kernel
theorem dX5_goOn_5 : decode cX5_goOn 5 = .ok (.iconst 1, 1) := by decide +kernel
theorem dX5_goOn_6 : decode cX5_goOn 6 = .ok (.iadd, 1) := by decide +kernel
theorem dX5_goOn_7 : decode cX5_goOn 7 = .ok (.putfield 51, 3) := by decide +kernel
theorem dX5_goOn_10 : decode cX5_goOn 10 = .ok (.iconst 0, 1) := by decide +kernel
theorem dX5_goOn_11 : decode cX5_goOn 11 = .ok (.istore_n 1, 1) := by decide +kernel
theorem dX5_goOn_12 : decode cX5_goOn 12 = .ok (.iload_n 1, 1) := by decide +kernel
theorem dX5_goOn_13 : decode cX5_goOn 13 = .ok (.iconst 5, 1) := by decide +kernel
theorem dX5_goOn_14 : decode cX5_goOn 14 = .ok (.if_icmp .ge 32, 3) := by decide +kernel
theorem dX5_goOn_17 : decode cX5_goOn 17 = .ok (.aload_n 0, 1) := by decide +kernel
theorem dX5_goOn_18 : decode cX5_goOn 18 = .ok (.getfield 25, 3) := by decide +kernel
theorem dX5_goOn_21 : decode cX5_goOn 21 = .ok (.iload_n 1, 1) := by decide +kernel
theorem dX5_goOn_22 : decode cX5_goOn 22 = .ok (.aload_n 0, 1) := by decide +kernel
theorem dX5_goOn_23 : decode cX5_goOn 23 = .ok (.aload_n 0, 1) := by decide +kernel
theorem dX5_goOn_24 : decode cX5_goOn 24 = .ok (.getfield 25, 3) := by decide +kernel
theorem dX5_goOn_27 : decode cX5_goOn 27 = .ok (.iload_n 1, 1) := by decide +kernel
theorem dX5_goOn_28 : decode cX5_goOn 28 = .ok (.iaload, 1) := by decide +kernel
theorem dX5_goOn_29 : decode cX5_goOn 29 = .ok (.aload_n 0, 1) := by decide +kernel
theorem dX5_goOn_30 : decode cX5_goOn 30 = .ok (.getfield 15, 3) := by decide +kernel
theorem dX5_goOn_33 : decode cX5_goOn 33 = .ok (.iload_n 1, 1) := by decide +kernel
theorem dX5_goOn_34 : decode cX5_goOn 34 = .ok (.iaload, 1) := by decide +kernel
theorem dX5_goOn_35 : decode cX5_goOn 35 = .ok (.iadd, 1) := by decide +kernel
theorem dX5_goOn_36 : decode cX5_goOn 36 = .ok (.invokevirtual 84, 3) := by decide +kernel
theorem dX5_goOn_39 : decode cX5_goOn 39 = .ok (.iastore, 1) := by decide +kernel
theorem dX5_goOn_40 : decode cX5_goOn 40 = .ok (.iinc 1 1, 3) := by decide +kernel
theorem dX5_goOn_43 : decode cX5_goOn 43 = .ok (.goto (-31), 3) := by decide +kernel
theorem dX5_goOn_46 : decode cX5_goOn 46 = .ok (.iconst 0, 1) := by decide +kernel
theorem dX5_goOn_47 : decode cX5_goOn 47 = .ok (.istore_n 1, 1) := by decide +kernel
theorem dX5_goOn_48 : decode cX5_goOn 48 = .ok (.iload_n 1, 1) := by decide +kernel
theorem dX5_goOn_49 : decode cX5_goOn 49 = .ok (.aload_n 0, 1) := by decide +kernel
theorem dX5_goOn_50 : decode cX5_goOn 50 = .ok (.getfield 48, 3) := by decide +kernel
theorem dX5_goOn_53 : decode cX5_goOn 53 = .ok (.if_icmp .ge 20, 3) := by decide +kernel
theorem dX5_goOn_56 : decode cX5_goOn 56 = .ok (.aload_n 0, 1) := by decide +kernel
theorem dX5_goOn_57 : decode cX5_goOn 57 = .ok (.iload_n 1, 1) := by decide +kernel
theorem dX5_goOn_58 : decode cX5_goOn 58 = .ok (.aload_n 0, 1) := by decide +kernel
theorem dX5_goOn_59 : decode cX5_goOn 59 = .ok (.getfield 37, 3) := by decide +kernel
theorem dX5_goOn_62 : decode cX5_goOn 62 = .ok (.iload_n 1, 1) := by decide +kernel
theorem dX5_goOn_63 : decode cX5_goOn 63 = .ok (.iaload, 1) := by decide +kernel
theorem dX5_goOn_64 : decode cX5_goOn 64 = .ok (.invokevirtual 91, 3) := by decide +kernel
theorem dX5_goOn_67 : decode cX5_goOn 67 = .ok (.iinc 1 1, 3) := by decide +kernel
theorem dX5_goOn_70 : decode cX5_goOn 70 = .ok (.goto (-22), 3) := by decide +kernel
theorem dX5_goOn_73 : decode cX5_goOn 73 = .ok (.iconst 0, 1) := by decide +kernel
theorem dX5_goOn_74 : decode cX5_goOn 74 = .ok (.istore_n 1, 1) := by decide +kernel
theorem dX5_goOn_75 : decode cX5_goOn 75 = .ok (.iconst 0, 1) := by decide +kernel
theorem dX5_goOn_76 : decode cX5_goOn 76 = .ok (.istore_n 2, 1) := by decide +kernel
theorem dX5_goOn_77 : decode cX5_goOn 77 = .ok (.iload_n 2, 1) := by decide +kernel
theorem dX5_goOn_78 : decode cX5_goOn 78 = .ok (.aload_n 0, 1) := by decide +kernel
theorem dX5_goOn_79 : decode cX5_goOn 79 = .ok (.getfield 48, 3) := by decide +kernel
theorem dX5_goOn_82 : decode cX5_goOn 82 = .ok (.if_icmp .ge 17, 3) := by decide +kernel
theorem dX5_goOn_85 : decode cX5_goOn 85 = .ok (.iload_n 1, 1) := by decide +kernel
theorem dX5_goOn_86 : decode cX5_goOn 86 = .ok (.aload_n 0, 1) := by decide +kernel
theorem dX5_goOn_87 : decode cX5_goOn 87 = .ok (.iload_n 2, 1) := by decide +kernel
theorem dX5_goOn_88 : decode cX5_goOn 88 = .ok (.invokevirtual 95, 3) := by decide +kernel
theorem dX5_goOn_91 : decode cX5_goOn 91 = .ok (.iadd, 1) := by decide +kernel
theorem dX5_goOn_92 : decode cX5_goOn 92 = .ok (.istore_n 1, 1) := by decide +kernel
theorem dX5_goOn_93 : decode cX5_goOn 93 = .ok (.iinc 2 1, 3) := by decide +kernel
theorem dX5_goOn_96 : decode cX5_goOn 96 = .ok (.goto (-19), 3) := by decide +kernel
theorem dX5_goOn_99 : decode cX5_goOn 99 = .ok (.aload_n 0, 1) := by decide +kernel
theorem dX5_goOn_100 : decode cX5_goOn 100 = .ok (.dup, 1) := by decide +kernel
theorem dX5_goOn_101 : decode cX5_goOn 101 = .ok (.getfield 54, 3) := by decide +kernel
theorem dX5_goOn_104 : decode cX5_goOn 104 = .ok (.iload_n 1, 1) := by decide +kernel
theorem dX5_goOn_105 : decode cX5_goOn 105 = .ok (.iadd, 1) := by decide +kernel
theorem dX5_goOn_106 : decode cX5_goOn 106 = .ok (.putfield 54, 3) := by decide +kernel
theorem dX5_goOn_109 : decode cX5_goOn 109 = .ok (.iload_n 1, 1) := by decide +kernel
theorem dX5_goOn_110 : decode cX5_goOn 110 = .ok (.ireturn, 1) := by decide +kernel
theorem dX5_goOnBy_0 : decode cX5_goOnBy 0 = .ok (.iconst 0, 1) := by decide +kernel
theorem dX5_goOnBy_1 : decode cX5_goOnBy 1 = .ok (.istore_n 2, 1) := by decide +kernel
theorem dX5_goOnBy_2 : decode cX5_goOnBy 2 = .ok (.iconst 0, 1) := by decide +kernel
theorem dX5_goOnBy_3 : decode cX5_goOnBy 3 = .ok (.istore_n 3, 1) := by decide +kernel
theorem dX5_goOnBy_4 : decode cX5_goOnBy 4 = .ok (.iload_n 3, 1) := by decide +kernel
theorem dX5_goOnBy_5 : decode cX5_goOnBy 5 = .ok (.iload_n 1, 1) := by decide +kernel
theorem dX5_goOnBy_6 : decode cX5_goOnBy 6 = .ok (.if_icmp .ge 16, 3) := by decide +kernel
theorem dX5_goOnBy_9 : decode cX5_goOnBy 9 = .ok (.iload_n 2, 1) := by decide +kernel
theorem dX5_goOnBy_10 : decode cX5_goOnBy 10 = .ok (.aload_n 0, 1) := by decide +kernel
theorem dX5_goOnBy_11 : decode cX5_goOnBy 11 = .ok (.invokevirtual 98, 3) := by decide +kernel
theorem dX5_goOnBy_14 : decode cX5_goOnBy 14 = .ok (.iadd, 1) := by decide +kernel
theorem dX5_goOnBy_15 : decode cX5_goOnBy 15 = .ok (.istore_n 2, 1) := by decide +kernel
theorem dX5_goOnBy_16 : decode cX5_goOnBy 16 = .ok (.iinc 3 1, 3) := by decide +kernel
theorem dX5_goOnBy_19 : decode cX5_goOnBy 19 = .ok (.goto (-15), 3) := by decide +kernel
theorem dX5_goOnBy_22 : decode cX5_goOnBy 22 = .ok (.iload_n 2, 1) := by decide +kernel
theorem dX5_goOnBy_23 : decode cX5_goOnBy 23 = .ok (.ireturn, 1) := by decide +kernel
theorem dX5_passBy_0 : decode cX5_passBy 0 = .ok (.aload_n 0, 1) := by decide +kernel
theorem dX5_passBy_1 : decode cX5_passBy 1 = .ok (.getfield 9, 3) := by decide +kernel
theorem dX5_passBy_4 : decode cX5_passBy 4 = .ok (.aload_n 0, 1) := by decide +kernel
theorem dX5_passBy_5 : decode cX5_passBy 5 = .ok (.getfield 28, 3) := by decide +kernel
theorem dX5_passBy_8 : decode cX5_passBy 8 = .ok (.iload_n 1, 1) := by decide +kernel
theorem dX5_passBy_9 : decode cX5_passBy 9 = .ok (.iaload, 1) := by decide +kernel
theorem dX5_passBy_10 : decode cX5_passBy 10 = .ok (.aaload, 1) := by decide +kernel
theorem dX5_passBy_11 : decode cX5_passBy 11 = .ok (.astore_n 2, 1) := by decide +kernel
theorem dX5_passBy_12 : decode cX5_passBy 12 = .ok (.aload_n 2, 1) := by decide +kernel
theorem dX5_passBy_13 : decode cX5_passBy 13 = .ok (.aload_n 0, 1) := by decide +kernel
theorem dX5_passBy_14 : decode cX5_passBy 14 = .ok (.getfield 51, 3) := by decide +kernel
theorem dX5_passBy_17 : decode cX5_passBy 17 = .ok (.invokevirtual 102, 3) := by decide +kernel
theorem dX5_passBy_20 : decode cX5_passBy 20 = .ok (.ifCond .ne 5, 3) := by decide +kernel
theorem dX5_passBy_23 : decode cX5_passBy 23 = .ok (.iconst 0, 1) := by decide +kernel
theorem dX5_passBy_24 : decode cX5_passBy 24 = .ok (.ireturn, 1) := by decide +kernel
theorem dX5_passBy_25 : decode cX5_passBy 25 = .ok (.aload_n 0, 1) := by decide +kernel
theorem dX5_passBy_26 : decode cX5_passBy 26 = .ok (.getfield 31, 3) := by decide +kernel
theorem dX5_passBy_29 : decode cX5_passBy 29 = .ok (.iload_n 1, 1) := by decide +kernel
theorem dX5_passBy_30 : decode cX5_passBy 30 = .ok (.iaload, 1) := by decide +kernel
theorem dX5_passBy_31 : decode cX5_passBy 31 = .ok (.istore_n 3, 1) := by decide +kernel
theorem dX5_passBy_32 : decode cX5_passBy 32 = .ok (.aload_n 2, 1) := by decide +kernel
theorem dX5_passBy_33 : decode cX5_passBy 33 = .ok (.invokevirtual 108, 3) := by decide +kernel
theorem dX5_passBy_36 : decode cX5_passBy 36 = .ok (.istore 4, 2) := by decide +kernel
theorem dX5_passBy_38 : decode cX5_passBy 38 = .ok (.aload_n 2, 1) := by decide +kernel
theorem dX5_passBy_39 : decode cX5_passBy 39 = .ok (.invokevirtual 111, 3) := by decide +kernel
theorem dX5_passBy_42 : decode cX5_passBy 42 = .ok (.istore 5, 2) := by decide +kernel
theorem dX5_passBy_44 : decode cX5_passBy 44 = .ok (.iconst 0, 1) := by decide +kernel
theorem dX5_passBy_45 : decode cX5_passBy 45 = .ok (.istore 6, 2) := by decide +kernel
theorem dX5_passBy_47 : decode cX5_passBy 47 = .ok (.iload 5, 2) := by decide +kernel
theorem dX5_passBy_49 : decode cX5_passBy 49 = .ok (.ineg, 1) := by decide +kernel
theorem dX5_passBy_50 : decode cX5_passBy 50 = .ok (.istore 7, 2) := by decide +kernel
theorem dX5_passBy_52 : decode cX5_passBy 52 = .ok (.iload 7, 2) := by decide +kernel
theorem dX5_passBy_54 : decode cX5_passBy 54 = .ok (.iload 5, 2) := by decide +kernel
theorem dX5_passBy_56 : decode cX5_passBy 56 = .ok (.if_icmp .gt 81, 3) := by decide +kernel
theorem dX5_passBy_59 : decode cX5_passBy 59 = .ok (.aload_n 0, 1) := by decide +kernel
theorem dX5_passBy_60 : decode cX5_passBy 60 = .ok (.aload_n 0, 1) := by decide +kernel
theorem dX5_passBy_61 : decode cX5_passBy 61 = .ok (.getfield 34, 3) := by decide +kernel
theorem dX5_passBy_64 : decode cX5_passBy 64 = .ok (.iload_n 1, 1) := by decide +kernel
theorem dX5_passBy_65 : decode cX5_passBy 65 = .ok (.iaload, 1) := by decide +kernel
theorem dX5_passBy_66 : decode cX5_passBy 66 = .ok (.iload 7, 2) := by decide +kernel
theorem dX5_passBy_68 : decode cX5_passBy 68 = .ok (.iadd, 1) := by decide +kernel
theorem dX5_passBy_69 : decode cX5_passBy 69 = .ok (.aload_n 0, 1) := by decide +kernel
theorem dX5_passBy_70 : decode cX5_passBy 70 = .ok (.getfield 44, 3) := by decide +kernel
theorem dX5_passBy_73 : decode cX5_passBy 73 = .ok (.iadd, 1) := by decide +kernel
theorem dX5_passBy_74 : decode cX5_passBy 74 = .ok (.invokevirtual 84, 3) := by decide +kernel
theorem dX5_passBy_77 : decode cX5_passBy 77 = .ok (.istore 8, 2) := by decide +kernel
theorem dX5_passBy_79 : decode cX5_passBy 79 = .ok (.aload_n 0, 1) := by decide +kernel
theorem dX5_passBy_80 : decode cX5_passBy 80 = .ok (.iload_n 3, 1) := by decide +kernel
theorem dX5_passBy_81 : decode cX5_passBy 81 = .ok (.iload 8, 2) := by decide +kernel
theorem dX5_passBy_83 : decode cX5_passBy 83 = .ok (.invokevirtual 114, 3) := by decide +kernel
theorem dX5_passBy_86 : decode cX5_passBy 86 = .ok (.istore 9, 2) := by decide +kernel
theorem dX5_passBy_88 : decode cX5_passBy 88 = .ok (.aload_n 0, 1) := by decide +kernel
theorem dX5_passBy_89 : decode cX5_passBy 89 = .ok (.iload_n 3, 1) := by decide +kernel
theorem dX5_passBy_90 : decode cX5_passBy 90 = .ok (.iconst 1, 1) := by decide +kernel
theorem dX5_passBy_91 : decode cX5_passBy 91 = .ok (.isub, 1) := by decide +kernel
theorem dX5_passBy_92 : decode cX5_passBy 92 = .ok (.iload 8, 2) := by decide +kernel
theorem dX5_passBy_94 : decode cX5_passBy 94 = .ok (.invokevirtual 114, 3) := by decide +kernel
theorem dX5_passBy_97 : decode cX5_passBy 97 = .ok (.istore 10, 2) := by decide +kernel
theorem dX5_passBy_99 : decode cX5_passBy 99 = .ok (.iload 6, 2) := by decide +kernel
theorem dX5_passBy_101 : decode cX5_passBy 101 = .ok (.aload_n 0, 1) := by decide +kernel
theorem dX5_passBy_102 : decode cX5_passBy 102 = .ok (.iload_n 3, 1) := by decide +kernel
theorem dX5_passBy_103 : decode cX5_passBy 103 = .ok (.iload 4, 2) := by decide +kernel
theorem dX5_passBy_105 : decode cX5_passBy 105 = .ok (.iadd, 1) := by decide +kernel
theorem dX5_passBy_106 : decode cX5_passBy 106 = .ok (.iload 8, 2) := by decide +kernel
theorem dX5_passBy_108 : decode cX5_passBy 108 = .ok (.iload 9, 2) := by decide +kernel
theorem dX5_passBy_110 : decode cX5_passBy 110 = .ok (.invokevirtual 117, 3) := by decide +kernel
theorem dX5_passBy_113 : decode cX5_passBy 113 = .ok (.aload_n 0, 1) := by decide +kernel
theorem dX5_passBy_114 : decode cX5_passBy 114 = .ok (.iload_n 3, 1) := by decide +kernel
theorem dX5_passBy_115 : decode cX5_passBy 115 = .ok (.iconst 1, 1) := by decide +kernel
theorem dX5_passBy_116 : decode cX5_passBy 116 = .ok (.isub, 1) := by decide +kernel
theorem dX5_passBy_117 : decode cX5_passBy 117 = .ok (.iload 4, 2) := by decide +kernel
theorem dX5_passBy_119 : decode cX5_passBy 119 = .ok (.isub, 1) := by decide +kernel
theorem dX5_passBy_120 : decode cX5_passBy 120 = .ok (.iload 8, 2) := by decide +kernel
theorem dX5_passBy_122 : decode cX5_passBy 122 = .ok (.iload 10, 2) := by decide +kernel
theorem dX5_passBy_124 : decode cX5_passBy 124 = .ok (.invokevirtual 117, 3) := by decide +kernel
theorem dX5_passBy_127 : decode cX5_passBy 127 = .ok (.iadd, 1) := by decide +kernel
theorem dX5_passBy_128 : decode cX5_passBy 128 = .ok (.iadd, 1) := by decide +kernel
theorem dX5_passBy_129 : decode cX5_passBy 129 = .ok (.istore 6, 2) := by decide +kernel
theorem dX5_passBy_131 : decode cX5_passBy 131 = .ok (.iinc 7 1, 3) := by decide +kernel
theorem dX5_passBy_134 : decode cX5_passBy 134 = .ok (.goto (-82), 3) := by decide +kernel
theorem dX5_passBy_137 : decode cX5_passBy 137 = .ok (.iload 6, 2) := by decide +kernel
theorem dX5_passBy_139 : decode cX5_passBy 139 = .ok (.ireturn, 1) := by decide +kernel
theorem dX5_takeAll_0 : decode cX5_takeAll 0 = .ok (.iload_n 1, 1) := by decide +kernel
theorem dX5_takeAll_1 : decode cX5_takeAll 1 = .ok (.invokestatic 121, 3) := by decide +kernel
theorem dX5_takeAll_4 : decode cX5_takeAll 4 = .ok (.ifCond .ne 5, 3) := by decide +kernel
theorem dX5_takeAll_7 : decode cX5_takeAll 7 = .ok (.iconst 0, 1) := by decide +kernel
theorem dX5_takeAll_8 : decode cX5_takeAll 8 = .ok (.ireturn, 1) := by decide +kernel
theorem dX5_takeAll_9 : decode cX5_takeAll 9 = .ok (.aload_n 0, 1) := by decide +kernel
theorem dX5_takeAll_10 : decode cX5_takeAll 10 = .ok (.iload_n 1, 1) := by decide +kernel
theorem dX5_takeAll_11 : decode cX5_takeAll 11 = .ok (.iload_n 2, 1) := by decide +kernel
theorem dX5_takeAll_12 : decode cX5_takeAll 12 = .ok (.invokevirtual 73, 3) := by decide +kernel
theorem dX5_takeAll_15 : decode cX5_takeAll 15 = .ok (.istore_n 3, 1) := by decide +kernel
theorem dX5_takeAll_16 : decode cX5_takeAll 16 = .ok (.aload_n 0, 1) := by decide +kernel
theorem dX5_takeAll_17 : decode cX5_takeAll 17 = .ok (.getfield 22, 3) := by decide +kernel
theorem dX5_takeAll_20 : decode cX5_takeAll 20 = .ok (.iload_n 3, 1) := by decide +kernel
theorem dX5_takeAll_21 : decode cX5_takeAll 21 = .ok (.iaload, 1) := by decide +kernel
theorem dX5_takeAll_22 : decode cX5_takeAll 22 = .ok (.istore 4, 2) := by decide +kernel
theorem dX5_takeAll_24 : decode cX5_takeAll 24 = .ok (.aload_n 0, 1) := by decide +kernel
theorem dX5_takeAll_25 : decode cX5_takeAll 25 = .ok (.getfield 22, 3) := by decide +kernel
theorem dX5_takeAll_28 : decode cX5_takeAll 28 = .ok (.iload_n 3, 1) := by decide +kernel
theorem dX5_takeAll_29 : decode cX5_takeAll 29 = .ok (.iconst 0, 1) := by decide +kernel
theorem dX5_takeAll_30 : decode cX5_takeAll 30 = .ok (.iastore, 1) := by decide +kernel
theorem dX5_takeAll_31 : decode cX5_takeAll 31 = .ok (.iload 4, 2) := by decide +kernel
theorem dX5_takeAll_33 : decode cX5_takeAll 33 = .ok (.ireturn, 1) := by decide +kernel
theorem dX5_put_0 : decode cX5_put 0 = .ok (.iload_n 1, 1) := by decide +kernel
theorem dX5_put_1 : decode cX5_put 1 = .ok (.invokestatic 121, 3) := by decide +kernel
theorem dX5_put_4 : decode cX5_put 4 = .ok (.ifCond .ne 5, 3) := by decide +kernel
theorem dX5_put_7 : decode cX5_put 7 = .ok (.iload_n 3, 1) := by decide +kernel
theorem dX5_put_8 : decode cX5_put 8 = .ok (.ireturn, 1) := by decide +kernel
theorem dX5_put_9 : decode cX5_put 9 = .ok (.aload_n 0, 1) := by decide +kernel
theorem dX5_put_10 : decode cX5_put 10 = .ok (.getfield 22, 3) := by decide +kernel
theorem dX5_put_13 : decode cX5_put 13 = .ok (.aload_n 0, 1) := by decide +kernel
theorem dX5_put_14 : decode cX5_put 14 = .ok (.iload_n 1, 1) := by decide +kernel
theorem dX5_put_15 : decode cX5_put 15 = .ok (.iload_n 2, 1) := by decide +kernel
theorem dX5_put_16 : decode cX5_put 16 = .ok (.invokevirtual 73, 3) := by decide +kernel
theorem dX5_put_19 : decode cX5_put 19 = .ok (.dup2, 1) := by decide +kernel
theorem dX5_put_20 : decode cX5_put 20 = .ok (.iaload, 1) := by decide +kernel
theorem dX5_put_21 : decode cX5_put 21 = .ok (.iload_n 3, 1) := by decide +kernel
theorem dX5_put_22 : decode cX5_put 22 = .ok (.iadd, 1) := by decide +kernel
theorem dX5_put_23 : decode cX5_put 23 = .ok (.iastore, 1) := by decide +kernel
theorem dX5_put_24 : decode cX5_put 24 = .ok (.iconst 0, 1) := by decide +kernel
theorem dX5_put_25 : decode cX5_put 25 = .ok (.ireturn, 1) := by decide +kernel
theorem dX5_pushOf_0 : decode cX5_pushOf 0 = .ok (.aload_n 0, 1) := by decide +kernel
theorem dX5_pushOf_1 : decode cX5_pushOf 1 = .ok (.getfield 31, 3) := by decide +kernel
theorem dX5_pushOf_4 : decode cX5_pushOf 4 = .ok (.iload_n 1, 1) := by decide +kernel
theorem dX5_pushOf_5 : decode cX5_pushOf 5 = .ok (.iaload, 1) := by decide +kernel
theorem dX5_pushOf_6 : decode cX5_pushOf 6 = .ok (.istore 5, 2) := by decide +kernel
theorem dX5_pushOf_8 : decode cX5_pushOf 8 = .ok (.iload_n 3, 1) := by decide +kernel
theorem dX5_pushOf_9 : decode cX5_pushOf 9 = .ok (.iload 5, 2) := by decide +kernel
theorem dX5_pushOf_11 : decode cX5_pushOf 11 = .ok (.if_icmp .eq 13, 3) := by decide +kernel
theorem dX5_pushOf_14 : decode cX5_pushOf 14 = .ok (.iload_n 3, 1) := by decide +kernel
theorem dX5_pushOf_15 : decode cX5_pushOf 15 = .ok (.iload 5, 2) := by decide +kernel
theorem dX5_pushOf_17 : decode cX5_pushOf 17 = .ok (.iconst 1, 1) := by decide +kernel
theorem dX5_pushOf_18 : decode cX5_pushOf 18 = .ok (.isub, 1) := by decide +kernel
theorem dX5_pushOf_19 : decode cX5_pushOf 19 = .ok (.if_icmp .eq 5, 3) := by decide +kernel
theorem dX5_pushOf_22 : decode cX5_pushOf 22 = .ok (.iconst 0, 1) := by decide +kernel
theorem dX5_pushOf_23 : decode cX5_pushOf 23 = .ok (.ireturn, 1) := by decide +kernel
theorem dX5_pushOf_24 : decode cX5_pushOf 24 = .ok (.aload_n 0, 1) := by decide +kernel
theorem dX5_pushOf_25 : decode cX5_pushOf 25 = .ok (.getfield 9, 3) := by decide +kernel
theorem dX5_pushOf_28 : decode cX5_pushOf 28 = .ok (.aload_n 0, 1) := by decide +kernel
theorem dX5_pushOf_29 : decode cX5_pushOf 29 = .ok (.getfield 28, 3) := by decide +kernel
theorem dX5_pushOf_32 : decode cX5_pushOf 32 = .ok (.iload_n 1, 1) := by decide +kernel
theorem dX5_pushOf_33 : decode cX5_pushOf 33 = .ok (.iaload, 1) := by decide +kernel
theorem dX5_pushOf_34 : decode cX5_pushOf 34 = .ok (.aaload, 1) := by decide +kernel
theorem dX5_pushOf_35 : decode cX5_pushOf 35 = .ok (.astore 6, 2) := by decide +kernel
theorem dX5_pushOf_37 : decode cX5_pushOf 37 = .ok (.aload 6, 2) := by decide +kernel
theorem dX5_pushOf_39 : decode cX5_pushOf 39 = .ok (.aload_n 0, 1) := by decide +kernel
theorem dX5_pushOf_40 : decode cX5_pushOf 40 = .ok (.getfield 51, 3) := by decide +kernel
theorem dX5_pushOf_43 : decode cX5_pushOf 43 = .ok (.iload_n 2, 1) := by decide +kernel
theorem dX5_pushOf_44 : decode cX5_pushOf 44 = .ok (.iadd, 1) := by decide +kernel
theorem dX5_pushOf_45 : decode cX5_pushOf 45 = .ok (.invokevirtual 102, 3) := by decide +kernel
theorem dX5_pushOf_48 : decode cX5_pushOf 48 = .ok (.ifCond .ne 5, 3) := by decide +kernel
theorem dX5_pushOf_51 : decode cX5_pushOf 51 = .ok (.iconst 0, 1) := by decide +kernel
theorem dX5_pushOf_52 : decode cX5_pushOf 52 = .ok (.ireturn, 1) := by decide +kernel
theorem dX5_pushOf_53 : decode cX5_pushOf 53 = .ok (.aload_n 0, 1) := by decide +kernel
theorem dX5_pushOf_54 : decode cX5_pushOf 54 = .ok (.iload 4, 2) := by decide +kernel
theorem dX5_pushOf_56 : decode cX5_pushOf 56 = .ok (.aload_n 0, 1) := by decide +kernel
theorem dX5_pushOf_57 : decode cX5_pushOf 57 = .ok (.aload_n 0, 1) := by decide +kernel
theorem dX5_pushOf_58 : decode cX5_pushOf 58 = .ok (.getfield 34, 3) := by decide +kernel
theorem dX5_pushOf_61 : decode cX5_pushOf 61 = .ok (.iload_n 1, 1) := by decide +kernel
theorem dX5_pushOf_62 : decode cX5_pushOf 62 = .ok (.iaload, 1) := by decide +kernel
theorem dX5_pushOf_63 : decode cX5_pushOf 63 = .ok (.iload_n 2, 1) := by decide +kernel
theorem dX5_pushOf_64 : decode cX5_pushOf 64 = .ok (.aload_n 0, 1) := by decide +kernel
theorem dX5_pushOf_65 : decode cX5_pushOf 65 = .ok (.getfield 37, 3) := by decide +kernel
theorem dX5_pushOf_68 : decode cX5_pushOf 68 = .ok (.iload_n 1, 1) := by decide +kernel
theorem dX5_pushOf_69 : decode cX5_pushOf 69 = .ok (.iaload, 1) := by decide +kernel
theorem dX5_pushOf_70 : decode cX5_pushOf 70 = .ok (.imul, 1) := by decide +kernel
theorem dX5_pushOf_71 : decode cX5_pushOf 71 = .ok (.iadd, 1) := by decide +kernel
theorem dX5_pushOf_72 : decode cX5_pushOf 72 = .ok (.invokevirtual 84, 3) := by decide +kernel
theorem dX5_pushOf_75 : decode cX5_pushOf 75 = .ok (.isub, 1) := by decide +kernel
theorem dX5_pushOf_76 : decode cX5_pushOf 76 = .ok (.aload_n 0, 1) := by decide +kernel
theorem dX5_pushOf_77 : decode cX5_pushOf 77 = .ok (.getfield 44, 3) := by decide +kernel
theorem dX5_pushOf_80 : decode cX5_pushOf 80 = .ok (.iadd, 1) := by decide +kernel
theorem dX5_pushOf_81 : decode cX5_pushOf 81 = .ok (.invokevirtual 84, 3) := by decide +kernel
theorem dX5_pushOf_84 : decode cX5_pushOf 84 = .ok (.istore 7, 2) := by decide +kernel
theorem dX5_pushOf_86 : decode cX5_pushOf 86 = .ok (.iload 7, 2) := by decide +kernel
theorem dX5_pushOf_88 : decode cX5_pushOf 88 = .ok (.aload_n 0, 1) := by decide +kernel
theorem dX5_pushOf_89 : decode cX5_pushOf 89 = .ok (.getfield 44, 3) := by decide +kernel
theorem dX5_pushOf_92 : decode cX5_pushOf 92 = .ok (.iload 7, 2) := by decide +kernel
theorem dX5_pushOf_94 : decode cX5_pushOf 94 = .ok (.isub, 1) := by decide +kernel
theorem dX5_pushOf_95 : decode cX5_pushOf 95 = .ok (.invokestatic 124, 3) := by decide +kernel
theorem dX5_pushOf_98 : decode cX5_pushOf 98 = .ok (.aload 6, 2) := by decide +kernel
theorem dX5_pushOf_100 : decode cX5_pushOf 100 = .ok (.invokevirtual 111, 3) := by decide +kernel
theorem dX5_pushOf_103 : decode cX5_pushOf 103 = .ok (.if_icmp .le 5, 3) := by decide +kernel
theorem dX5_pushOf_106 : decode cX5_pushOf 106 = .ok (.iconst 0, 1) := by decide +kernel
theorem dX5_pushOf_107 : decode cX5_pushOf 107 = .ok (.ireturn, 1) := by decide +kernel
theorem dX5_pushOf_108 : decode cX5_pushOf 108 = .ok (.iload_n 3, 1) := by decide +kernel
theorem dX5_pushOf_109 : decode cX5_pushOf 109 = .ok (.iload 5, 2) := by decide +kernel
theorem dX5_pushOf_111 : decode cX5_pushOf 111 = .ok (.if_icmp .ne 11, 3) := by decide +kernel
theorem dX5_pushOf_114 : decode cX5_pushOf 114 = .ok (.aload 6, 2) := by decide +kernel
theorem dX5_pushOf_116 : decode cX5_pushOf 116 = .ok (.invokevirtual 108, 3) := by decide +kernel
theorem dX5_pushOf_119 : decode cX5_pushOf 119 = .ok (.goto 9, 3) := by decide +kernel
theorem dX5_pushOf_122 : decode cX5_pushOf 122 = .ok (.aload 6, 2) := by decide +kernel
theorem dX5_pushOf_124 : decode cX5_pushOf 124 = .ok (.invokevirtual 108, 3) := by decide +kernel
theorem dX5_pushOf_127 : decode cX5_pushOf 127 = .ok (.ineg, 1) := by decide +kernel
theorem dX5_pushOf_128 : decode cX5_pushOf 128 = .ok (.ireturn, 1) := by decide +kernel
theorem dX5_comesRound_0 : decode cX5_comesRound 0 = .ok (.iconst 1, 1) := by decide +kernel
theorem dX5_comesRound_1 : decode cX5_comesRound 1 = .ok (.istore_n 1, 1) := by decide +kernel
theorem dX5_comesRound_2 : decode cX5_comesRound 2 = .ok (.iload_n 1, 1) := by decide +kernel
theorem dX5_comesRound_3 : decode cX5_comesRound 3 = .ok (.aload_n 0, 1) := by decide +kernel
theorem dX5_comesRound_4 : decode cX5_comesRound 4 = .ok (.getfield 44, 3) := by decide +kernel
theorem dX5_comesRound_7 : decode cX5_comesRound 7 = .ok (.if_icmp .ge 17, 3) := by decide +kernel
theorem dX5_comesRound_10 : decode cX5_comesRound 10 = .ok (.aload_n 0, 1) := by decide +kernel
theorem dX5_comesRound_11 : decode cX5_comesRound 11 = .ok (.iload_n 1, 1) := by decide +kernel
theorem dX5_comesRound_12 : decode cX5_comesRound 12 = .ok (.invokevirtual 129, 3) := by decide +kernel
theorem dX5_comesRound_15 : decode cX5_comesRound 15 = .ok (.ifCond .ne 9, 3) := by decide +kernel
theorem dX5_comesRound_18 : decode cX5_comesRound 18 = .ok (.iinc 1 1, 3) := by decide +kernel
theorem dX5_comesRound_21 : decode cX5_comesRound 21 = .ok (.goto (-19), 3) := by decide +kernel
theorem dX5_comesRound_24 : decode cX5_comesRound 24 = .ok (.iload_n 1, 1) := by decide +kernel
theorem dX5_comesRound_25 : decode cX5_comesRound 25 = .ok (.ireturn, 1) := by decide +kernel
theorem dX5_isRoundBehind_0 : decode cX5_isRoundBehind 0 = .ok (.iconst 0, 1) := by decide +kernel
theorem dX5_isRoundBehind_1 : decode cX5_isRoundBehind 1 = .ok (.istore_n 2, 1) := by decide +kernel
theorem dX5_isRoundBehind_2 : decode cX5_isRoundBehind 2 = .ok (.iload_n 2, 1) := by decide +kernel
theorem dX5_isRoundBehind_3 : decode cX5_isRoundBehind 3 = .ok (.iconst 5, 1) := by decide +kernel
theorem dX5_isRoundBehind_4 : decode cX5_isRoundBehind 4 = .ok (.if_icmp .ge 26, 3) := by decide +kernel
theorem dX5_isRoundBehind_7 : decode cX5_isRoundBehind 7 = .ok (.aload_n 0, 1) := by decide +kernel
theorem dX5_isRoundBehind_8 : decode cX5_isRoundBehind 8 = .ok (.iload_n 1, 1) := by decide +kernel
theorem dX5_isRoundBehind_9 : decode cX5_isRoundBehind 9 = .ok (.aload_n 0, 1) := by decide +kernel
theorem dX5_isRoundBehind_10 : decode cX5_isRoundBehind 10 = .ok (.getfield 15, 3) := by decide +kernel
theorem dX5_isRoundBehind_13 : decode cX5_isRoundBehind 13 = .ok (.iload_n 2, 1) := by decide +kernel
theorem dX5_isRoundBehind_14 : decode cX5_isRoundBehind 14 = .ok (.iaload, 1) := by decide +kernel
theorem dX5_isRoundBehind_15 : decode cX5_isRoundBehind 15 = .ok (.imul, 1) := by decide +kernel
theorem dX5_isRoundBehind_16 : decode cX5_isRoundBehind 16 = .ok (.invokevirtual 84, 3) := by decide +kernel
theorem dX5_isRoundBehind_19 : decode cX5_isRoundBehind 19 = .ok (.ifCond .eq 5, 3) := by decide +kernel
theorem dX5_isRoundBehind_22 : decode cX5_isRoundBehind 22 = .ok (.iconst 0, 1) := by decide +kernel
theorem dX5_isRoundBehind_23 : decode cX5_isRoundBehind 23 = .ok (.ireturn, 1) := by decide +kernel
theorem dX5_isRoundBehind_24 : decode cX5_isRoundBehind 24 = .ok (.iinc 2 1, 3) := by decide +kernel
theorem dX5_isRoundBehind_27 : decode cX5_isRoundBehind 27 = .ok (.goto (-25), 3) := by decide +kernel
theorem dX5_isRoundBehind_30 : decode cX5_isRoundBehind 30 = .ok (.iconst 0, 1) := by decide +kernel
theorem dX5_isRoundBehind_31 : decode cX5_isRoundBehind 31 = .ok (.istore_n 2, 1) := by decide +kernel
theorem dX5_isRoundBehind_32 : decode cX5_isRoundBehind 32 = .ok (.iload_n 2, 1) := by decide +kernel
theorem dX5_isRoundBehind_33 : decode cX5_isRoundBehind 33 = .ok (.aload_n 0, 1) := by decide +kernel
theorem dX5_isRoundBehind_34 : decode cX5_isRoundBehind 34 = .ok (.getfield 48, 3) := by decide +kernel
theorem dX5_isRoundBehind_37 : decode cX5_isRoundBehind 37 = .ok (.if_icmp .ge 26, 3) := by decide +kernel
theorem dX5_isRoundBehind_40 : decode cX5_isRoundBehind 40 = .ok (.aload_n 0, 1) := by decide +kernel
theorem dX5_isRoundBehind_41 : decode cX5_isRoundBehind 41 = .ok (.iload_n 1, 1) := by decide +kernel
theorem dX5_isRoundBehind_42 : decode cX5_isRoundBehind 42 = .ok (.aload_n 0, 1) := by decide +kernel
theorem dX5_isRoundBehind_43 : decode cX5_isRoundBehind 43 = .ok (.getfield 37, 3) := by decide +kernel
theorem dX5_isRoundBehind_46 : decode cX5_isRoundBehind 46 = .ok (.iload_n 2, 1) := by decide +kernel
theorem dX5_isRoundBehind_47 : decode cX5_isRoundBehind 47 = .ok (.iaload, 1) := by decide +kernel
theorem dX5_isRoundBehind_48 : decode cX5_isRoundBehind 48 = .ok (.imul, 1) := by decide +kernel
theorem dX5_isRoundBehind_49 : decode cX5_isRoundBehind 49 = .ok (.invokevirtual 84, 3) := by decide +kernel
theorem dX5_isRoundBehind_52 : decode cX5_isRoundBehind 52 = .ok (.ifCond .eq 5, 3) := by decide +kernel
theorem dX5_isRoundBehind_55 : decode cX5_isRoundBehind 55 = .ok (.iconst 0, 1) := by decide +kernel
theorem dX5_isRoundBehind_56 : decode cX5_isRoundBehind 56 = .ok (.ireturn, 1) := by decide +kernel
theorem dX5_isRoundBehind_57 : decode cX5_isRoundBehind 57 = .ok (.iinc 2 1, 3) := by decide +kernel
theorem dX5_isRoundBehind_60 : decode cX5_isRoundBehind 60 = .ok (.goto (-28), 3) := by decide +kernel
theorem dX5_isRoundBehind_63 : decode cX5_isRoundBehind 63 = .ok (.iconst 1, 1) := by decide +kernel
theorem dX5_isRoundBehind_64 : decode cX5_isRoundBehind 64 = .ok (.ireturn, 1) := by decide +kernel
theorem dX5_addTo_0 : decode cX5_addTo 0 = .ok (.lload_n 1, 1) := by decide +kernel
theorem dX5_addTo_1 : decode cX5_addTo 1 = .ok (.lstore_n 3, 1) := by decide +kernel
theorem dX5_addTo_2 : decode cX5_addTo 2 = .ok (.iconst 0, 1) := by decide +kernel
theorem dX5_addTo_3 : decode cX5_addTo 3 = .ok (.istore 5, 2) := by decide +kernel
theorem dX5_addTo_5 : decode cX5_addTo 5 = .ok (.iload 5, 2) := by decide +kernel
theorem dX5_addTo_7 : decode cX5_addTo 7 = .ok (.iconst 5, 1) := by decide +kernel
theorem dX5_addTo_8 : decode cX5_addTo 8 = .ok (.if_icmp .ge 73, 3) := by decide +kernel
theorem dX5_addTo_11 : decode cX5_addTo 11 = .ok (.ldc2_w 132, 3) := by decide +kernel
theorem dX5_addTo_14 : decode cX5_addTo 14 = .ok (.lload_n 3, 1) := by decide +kernel
theorem dX5_addTo_15 : decode cX5_addTo 15 = .ok (.lmul, 1) := by decide +kernel
theorem dX5_addTo_16 : decode cX5_addTo 16 = .ok (.aload_n 0, 1) := by decide +kernel
theorem dX5_addTo_17 : decode cX5_addTo 17 = .ok (.getfield 15, 3) := by decide +kernel
theorem dX5_addTo_20 : decode cX5_addTo 20 = .ok (.iload 5, 2) := by decide +kernel
theorem dX5_addTo_22 : decode cX5_addTo 22 = .ok (.iaload, 1) := by decide +kernel
theorem dX5_addTo_23 : decode cX5_addTo 23 = .ok (.i2l, 1) := by decide +kernel
theorem dX5_addTo_24 : decode cX5_addTo 24 = .ok (.ladd, 1) := by decide +kernel
theorem dX5_addTo_25 : decode cX5_addTo 25 = .ok (.lstore_n 3, 1) := by decide +kernel
theorem dX5_addTo_26 : decode cX5_addTo 26 = .ok (.ldc2_w 132, 3) := by decide +kernel
theorem dX5_addTo_29 : decode cX5_addTo 29 = .ok (.lload_n 3, 1) := by decide +kernel
theorem dX5_addTo_30 : decode cX5_addTo 30 = .ok (.lmul, 1) := by decide +kernel
theorem dX5_addTo_31 : decode cX5_addTo 31 = .ok (.aload_n 0, 1) := by decide +kernel
theorem dX5_addTo_32 : decode cX5_addTo 32 = .ok (.getfield 19, 3) := by decide +kernel
theorem dX5_addTo_35 : decode cX5_addTo 35 = .ok (.iload 5, 2) := by decide +kernel
theorem dX5_addTo_37 : decode cX5_addTo 37 = .ok (.iaload, 1) := by decide +kernel
theorem dX5_addTo_38 : decode cX5_addTo 38 = .ok (.i2l, 1) := by decide +kernel
theorem dX5_addTo_39 : decode cX5_addTo 39 = .ok (.ladd, 1) := by decide +kernel
theorem dX5_addTo_40 : decode cX5_addTo 40 = .ok (.lstore_n 3, 1) := by decide +kernel
theorem dX5_addTo_41 : decode cX5_addTo 41 = .ok (.iconst 0, 1) := by decide +kernel
theorem dX5_addTo_42 : decode cX5_addTo 42 = .ok (.istore 6, 2) := by decide +kernel
theorem dX5_addTo_44 : decode cX5_addTo 44 = .ok (.iload 6, 2) := by decide +kernel
theorem dX5_addTo_46 : decode cX5_addTo 46 = .ok (.aload_n 0, 1) := by decide +kernel
theorem dX5_addTo_47 : decode cX5_addTo 47 = .ok (.getfield 44, 3) := by decide +kernel
theorem dX5_addTo_50 : decode cX5_addTo 50 = .ok (.if_icmp .ge 25, 3) := by decide +kernel
theorem dX5_addTo_53 : decode cX5_addTo 53 = .ok (.ldc2_w 132, 3) := by decide +kernel
theorem dX5_addTo_56 : decode cX5_addTo 56 = .ok (.lload_n 3, 1) := by decide +kernel
theorem dX5_addTo_57 : decode cX5_addTo 57 = .ok (.lmul, 1) := by decide +kernel
theorem dX5_addTo_58 : decode cX5_addTo 58 = .ok (.aload_n 0, 1) := by decide +kernel
theorem dX5_addTo_59 : decode cX5_addTo 59 = .ok (.iload 5, 2) := by decide +kernel
theorem dX5_addTo_61 : decode cX5_addTo 61 = .ok (.iload 6, 2) := by decide +kernel
theorem dX5_addTo_63 : decode cX5_addTo 63 = .ok (.invokevirtual 81, 3) := by decide +kernel
theorem dX5_addTo_66 : decode cX5_addTo 66 = .ok (.i2l, 1) := by decide +kernel
theorem dX5_addTo_67 : decode cX5_addTo 67 = .ok (.ladd, 1) := by decide +kernel
theorem dX5_addTo_68 : decode cX5_addTo 68 = .ok (.lstore_n 3, 1) := by decide +kernel
theorem dX5_addTo_69 : decode cX5_addTo 69 = .ok (.iinc 6 1, 3) := by decide +kernel
theorem dX5_addTo_72 : decode cX5_addTo 72 = .ok (.goto (-28), 3) := by decide +kernel
theorem dX5_addTo_75 : decode cX5_addTo 75 = .ok (.iinc 5 1, 3) := by decide +kernel
theorem dX5_addTo_78 : decode cX5_addTo 78 = .ok (.goto (-73), 3) := by decide +kernel
theorem dX5_addTo_81 : decode cX5_addTo 81 = .ok (.iconst 0, 1) := by decide +kernel
theorem dX5_addTo_82 : decode cX5_addTo 82 = .ok (.istore 5, 2) := by decide +kernel
theorem dX5_addTo_84 : decode cX5_addTo 84 = .ok (.iload 5, 2) := by decide +kernel
theorem dX5_addTo_86 : decode cX5_addTo 86 = .ok (.aload_n 0, 1) := by decide +kernel
theorem dX5_addTo_87 : decode cX5_addTo 87 = .ok (.getfield 48, 3) := by decide +kernel
theorem dX5_addTo_90 : decode cX5_addTo 90 = .ok (.if_icmp .ge 40, 3) := by decide +kernel
theorem dX5_addTo_93 : decode cX5_addTo 93 = .ok (.iconst 0, 1) := by decide +kernel
theorem dX5_addTo_94 : decode cX5_addTo 94 = .ok (.istore 6, 2) := by decide +kernel
theorem dX5_addTo_96 : decode cX5_addTo 96 = .ok (.iload 6, 2) := by decide +kernel
theorem dX5_addTo_98 : decode cX5_addTo 98 = .ok (.iconst 4, 1) := by decide +kernel
theorem dX5_addTo_99 : decode cX5_addTo 99 = .ok (.if_icmp .ge 25, 3) := by decide +kernel
theorem dX5_addTo_102 : decode cX5_addTo 102 = .ok (.ldc2_w 132, 3) := by decide +kernel
theorem dX5_addTo_105 : decode cX5_addTo 105 = .ok (.lload_n 3, 1) := by decide +kernel
theorem dX5_addTo_106 : decode cX5_addTo 106 = .ok (.lmul, 1) := by decide +kernel
theorem dX5_addTo_107 : decode cX5_addTo 107 = .ok (.aload_n 0, 1) := by decide +kernel
theorem dX5_addTo_108 : decode cX5_addTo 108 = .ok (.iload 5, 2) := by decide +kernel
theorem dX5_addTo_110 : decode cX5_addTo 110 = .ok (.iload 6, 2) := by decide +kernel
theorem dX5_addTo_112 : decode cX5_addTo 112 = .ok (.invokevirtual 134, 3) := by decide +kernel
theorem dX5_addTo_115 : decode cX5_addTo 115 = .ok (.i2l, 1) := by decide +kernel
theorem dX5_addTo_116 : decode cX5_addTo 116 = .ok (.ladd, 1) := by decide +kernel
theorem dX5_addTo_117 : decode cX5_addTo 117 = .ok (.lstore_n 3, 1) := by decide +kernel
theorem dX5_addTo_118 : decode cX5_addTo 118 = .ok (.iinc 6 1, 3) := by decide +kernel
theorem dX5_addTo_121 : decode cX5_addTo 121 = .ok (.goto (-25), 3) := by decide +kernel
theorem dX5_addTo_124 : decode cX5_addTo 124 = .ok (.iinc 5 1, 3) := by decide +kernel
theorem dX5_addTo_127 : decode cX5_addTo 127 = .ok (.goto (-43), 3) := by decide +kernel
theorem dX5_addTo_130 : decode cX5_addTo 130 = .ok (.lload_n 3, 1) := by decide +kernel
theorem dX5_addTo_131 : decode cX5_addTo 131 = .ok (.lreturn, 1) := by decide +kernel
theorem dX6_init_0 : decode cX6_init 0 = .ok (.aload_n 0, 1) := by decide +kernel
theorem dX6_init_1 : decode cX6_init 1 = .ok (.invokespecial 1, 3) := by decide +kernel
theorem dX6_init_4 : decode cX6_init 4 = .ok (.return_, 1) := by decide +kernel
theorem dX6_isAwake_0 : decode cX6_isAwake 0 = .ok (.iload_n 1, 1) := by decide +kernel
theorem dX6_isAwake_1 : decode cX6_isAwake 1 = .ok (.iconst 3, 1) := by decide +kernel
theorem dX6_isAwake_2 : decode cX6_isAwake 2 = .ok (.irem, 1) := by decide +kernel
theorem dX6_isAwake_3 : decode cX6_isAwake 3 = .ok (.ifCond .eq 7, 3) := by decide +kernel
theorem dX6_isAwake_6 : decode cX6_isAwake 6 = .ok (.iconst 1, 1) := by decide +kernel
theorem dX6_isAwake_7 : decode cX6_isAwake 7 = .ok (.goto 4, 3) := by decide +kernel
theorem dX6_isAwake_10 : decode cX6_isAwake 10 = .ok (.iconst 0, 1) := by decide +kernel
theorem dX6_isAwake_11 : decode cX6_isAwake 11 = .ok (.ireturn, 1) := by decide +kernel
theorem dX7_init_0 : decode cX7_init 0 = .ok (.aload_n 0, 1) := by decide +kernel
theorem dX7_init_1 : decode cX7_init 1 = .ok (.invokespecial 3, 3) := by decide +kernel
theorem dX7_init_4 : decode cX7_init 4 = .ok (.aload_n 0, 1) := by decide +kernel
theorem dX7_init_5 : decode cX7_init 5 = .ok (.new 9, 3) := by decide +kernel
theorem dX7_init_8 : decode cX7_init 8 = .ok (.dup, 1) := by decide +kernel
theorem dX7_init_9 : decode cX7_init 9 = .ok (.aload_n 1, 1) := by decide +kernel
theorem dX7_init_10 : decode cX7_init 10 = .ok (.invokespecial 11, 3) := by decide +kernel
theorem dX7_init_13 : decode cX7_init 13 = .ok (.putfield 14, 3) := by decide +kernel
theorem dX7_init_16 : decode cX7_init 16 = .ok (.aload_n 0, 1) := by decide +kernel
theorem dX7_init_17 : decode cX7_init 17 = .ok (.bipush 6, 2) := by decide +kernel
theorem dX7_init_19 : decode cX7_init 19 = .ok (.anewarray 9, 3) := by decide +kernel
theorem dX7_init_22 : decode cX7_init 22 = .ok (.putfield 20, 3) := by decide +kernel
