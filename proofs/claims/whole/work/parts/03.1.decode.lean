theorem dX7_init_25 : decode cX7_init 25 = .ok (.iconst 0, 1) := by decide +kernel
theorem dX7_init_26 : decode cX7_init 26 = .ok (.istore_n 2, 1) := by decide +kernel
theorem dX7_init_27 : decode cX7_init 27 = .ok (.iload_n 2, 1) := by decide +kernel
theorem dX7_init_28 : decode cX7_init 28 = .ok (.bipush 6, 2) := by decide +kernel
theorem dX7_init_30 : decode cX7_init 30 = .ok (.if_icmp .ge 23, 3) := by decide +kernel
theorem dX7_init_33 : decode cX7_init 33 = .ok (.aload_n 0, 1) := by decide +kernel
theorem dX7_init_34 : decode cX7_init 34 = .ok (.getfield 20, 3) := by decide +kernel
theorem dX7_init_37 : decode cX7_init 37 = .ok (.iload_n 2, 1) := by decide +kernel
theorem dX7_init_38 : decode cX7_init 38 = .ok (.new 9, 3) := by decide +kernel
theorem dX7_init_41 : decode cX7_init 41 = .ok (.dup, 1) := by decide +kernel
theorem dX7_init_42 : decode cX7_init 42 = .ok (.aload_n 1, 1) := by decide +kernel
theorem dX7_init_43 : decode cX7_init 43 = .ok (.invokespecial 11, 3) := by decide +kernel
theorem dX7_init_46 : decode cX7_init 46 = .ok (.aastore, 1) := by decide +kernel
theorem dX7_init_47 : decode cX7_init 47 = .ok (.iinc 2 1, 3) := by decide +kernel
theorem dX7_init_50 : decode cX7_init 50 = .ok (.goto (-23), 3) := by decide +kernel
theorem dX7_init_53 : decode cX7_init 53 = .ok (.aload_n 0, 1) := by decide +kernel
theorem dX7_init_54 : decode cX7_init 54 = .ok (.iconst 0, 1) := by decide +kernel
theorem dX7_init_55 : decode cX7_init 55 = .ok (.putfield 24, 3) := by decide +kernel
theorem dX7_init_58 : decode cX7_init 58 = .ok (.aload_n 0, 1) := by decide +kernel
theorem dX7_init_59 : decode cX7_init 59 = .ok (.iconst 0, 1) := by decide +kernel
theorem dX7_init_60 : decode cX7_init 60 = .ok (.putfield 28, 3) := by decide +kernel
theorem dX7_init_63 : decode cX7_init 63 = .ok (.return_, 1) := by decide +kernel
theorem dX7_copy_0 : decode cX7_copy 0 = .ok (.aload_n 0, 1) := by decide +kernel
theorem dX7_copy_1 : decode cX7_copy 1 = .ok (.getfield 14, 3) := by decide +kernel
theorem dX7_copy_4 : decode cX7_copy 4 = .ok (.aload_n 1, 1) := by decide +kernel
theorem dX7_copy_5 : decode cX7_copy 5 = .ok (.getfield 14, 3) := by decide +kernel
theorem dX7_copy_8 : decode cX7_copy 8 = .ok (.invokevirtual 31, 3) := by decide +kernel
theorem dX7_copy_11 : decode cX7_copy 11 = .ok (.iconst 0, 1) := by decide +kernel
theorem dX7_copy_12 : decode cX7_copy 12 = .ok (.istore_n 2, 1) := by decide +kernel
theorem dX7_copy_13 : decode cX7_copy 13 = .ok (.iload_n 2, 1) := by decide +kernel
theorem dX7_copy_14 : decode cX7_copy 14 = .ok (.bipush 6, 2) := by decide +kernel
theorem dX7_copy_16 : decode cX7_copy 16 = .ok (.if_icmp .ge 24, 3) := by decide +kernel
theorem dX7_copy_19 : decode cX7_copy 19 = .ok (.aload_n 0, 1) := by decide +kernel
theorem dX7_copy_20 : decode cX7_copy 20 = .ok (.getfield 20, 3) := by decide +kernel
theorem dX7_copy_23 : decode cX7_copy 23 = .ok (.iload_n 2, 1) := by decide +kernel
theorem dX7_copy_24 : decode cX7_copy 24 = .ok (.aaload, 1) := by decide +kernel
theorem dX7_copy_25 : decode cX7_copy 25 = .ok (.aload_n 1, 1) := by decide +kernel
theorem dX7_copy_26 : decode cX7_copy 26 = .ok (.getfield 20, 3) := by decide +kernel
theorem dX7_copy_29 : decode cX7_copy 29 = .ok (.iload_n 2, 1) := by decide +kernel
theorem dX7_copy_30 : decode cX7_copy 30 = .ok (.aaload, 1) := by decide +kernel
theorem dX7_copy_31 : decode cX7_copy 31 = .ok (.invokevirtual 31, 3) := by decide +kernel
theorem dX7_copy_34 : decode cX7_copy 34 = .ok (.iinc 2 1, 3) := by decide +kernel
theorem dX7_copy_37 : decode cX7_copy 37 = .ok (.goto (-24), 3) := by decide +kernel
theorem dX7_copy_40 : decode cX7_copy 40 = .ok (.aload_n 0, 1) := by decide +kernel
theorem dX7_copy_41 : decode cX7_copy 41 = .ok (.aload_n 1, 1) := by decide +kernel
theorem dX7_copy_42 : decode cX7_copy 42 = .ok (.getfield 24, 3) := by decide +kernel
theorem dX7_copy_45 : decode cX7_copy 45 = .ok (.putfield 24, 3) := by decide +kernel
theorem dX7_copy_48 : decode cX7_copy 48 = .ok (.aload_n 0, 1) := by decide +kernel
theorem dX7_copy_49 : decode cX7_copy 49 = .ok (.aload_n 1, 1) := by decide +kernel
theorem dX7_copy_50 : decode cX7_copy 50 = .ok (.getfield 28, 3) := by decide +kernel
theorem dX7_copy_53 : decode cX7_copy 53 = .ok (.putfield 28, 3) := by decide +kernel
theorem dX7_copy_56 : decode cX7_copy 56 = .ok (.return_, 1) := by decide +kernel
theorem dX7_forget_0 : decode cX7_forget 0 = .ok (.aload_n 0, 1) := by decide +kernel
theorem dX7_forget_1 : decode cX7_forget 1 = .ok (.iconst 0, 1) := by decide +kernel
theorem dX7_forget_2 : decode cX7_forget 2 = .ok (.putfield 28, 3) := by decide +kernel
theorem dX7_forget_5 : decode cX7_forget 5 = .ok (.return_, 1) := by decide +kernel
theorem dX7_goOn_0 : decode cX7_goOn 0 = .ok (.aload_n 0, 1) := by decide +kernel
theorem dX7_goOn_1 : decode cX7_goOn 1 = .ok (.aload_n 0, 1) := by decide +kernel
theorem dX7_goOn_2 : decode cX7_goOn 2 = .ok (.getfield 24, 3) := by decide +kernel
theorem dX7_goOn_5 : decode cX7_goOn 5 = .ok (.iconst 1, 1) := by decide +kernel
theorem dX7_goOn_6 : decode cX7_goOn 6 = .ok (.iadd, 1) := by decide +kernel
theorem dX7_goOn_7 : decode cX7_goOn 7 = .ok (.bipush 6, 2) := by decide +kernel
theorem dX7_goOn_9 : decode cX7_goOn 9 = .ok (.irem, 1) := by decide +kernel
theorem dX7_goOn_10 : decode cX7_goOn 10 = .ok (.putfield 24, 3) := by decide +kernel
theorem dX7_goOn_13 : decode cX7_goOn 13 = .ok (.aload_n 0, 1) := by decide +kernel
theorem dX7_goOn_14 : decode cX7_goOn 14 = .ok (.aload_n 0, 1) := by decide +kernel
theorem dX7_goOn_15 : decode cX7_goOn 15 = .ok (.getfield 28, 3) := by decide +kernel
theorem dX7_goOn_18 : decode cX7_goOn 18 = .ok (.iconst 1, 1) := by decide +kernel
theorem dX7_goOn_19 : decode cX7_goOn 19 = .ok (.iadd, 1) := by decide +kernel
theorem dX7_goOn_20 : decode cX7_goOn 20 = .ok (.bipush 6, 2) := by decide +kernel
theorem dX7_goOn_22 : decode cX7_goOn 22 = .ok (.invokestatic 35, 3) := by decide +kernel
theorem dX7_goOn_25 : decode cX7_goOn 25 = .ok (.putfield 28, 3) := by decide +kernel
theorem dX7_goOn_28 : decode cX7_goOn 28 = .ok (.aload_n 0, 1) := by decide +kernel
theorem dX7_goOn_29 : decode cX7_goOn 29 = .ok (.getfield 20, 3) := by decide +kernel
theorem dX7_goOn_32 : decode cX7_goOn 32 = .ok (.aload_n 0, 1) := by decide +kernel
theorem dX7_goOn_33 : decode cX7_goOn 33 = .ok (.getfield 24, 3) := by decide +kernel
theorem dX7_goOn_36 : decode cX7_goOn 36 = .ok (.aaload, 1) := by decide +kernel
theorem dX7_goOn_37 : decode cX7_goOn 37 = .ok (.aload_n 0, 1) := by decide +kernel
theorem dX7_goOn_38 : decode cX7_goOn 38 = .ok (.getfield 14, 3) := by decide +kernel
theorem dX7_goOn_41 : decode cX7_goOn 41 = .ok (.invokevirtual 31, 3) := by decide +kernel
theorem dX7_goOn_44 : decode cX7_goOn 44 = .ok (.aload_n 0, 1) := by decide +kernel
theorem dX7_goOn_45 : decode cX7_goOn 45 = .ok (.getfield 14, 3) := by decide +kernel
theorem dX7_goOn_48 : decode cX7_goOn 48 = .ok (.invokevirtual 41, 3) := by decide +kernel
theorem dX7_goOn_51 : decode cX7_goOn 51 = .ok (.ireturn, 1) := by decide +kernel
theorem dX7_goBack_0 : decode cX7_goBack 0 = .ok (.aload_n 0, 1) := by decide +kernel
theorem dX7_goBack_1 : decode cX7_goBack 1 = .ok (.getfield 14, 3) := by decide +kernel
theorem dX7_goBack_4 : decode cX7_goBack 4 = .ok (.aload_n 0, 1) := by decide +kernel
theorem dX7_goBack_5 : decode cX7_goBack 5 = .ok (.getfield 20, 3) := by decide +kernel
theorem dX7_goBack_8 : decode cX7_goBack 8 = .ok (.aload_n 0, 1) := by decide +kernel
theorem dX7_goBack_9 : decode cX7_goBack 9 = .ok (.getfield 24, 3) := by decide +kernel
theorem dX7_goBack_12 : decode cX7_goBack 12 = .ok (.aaload, 1) := by decide +kernel
theorem dX7_goBack_13 : decode cX7_goBack 13 = .ok (.invokevirtual 45, 3) := by decide +kernel
theorem dX7_goBack_16 : decode cX7_goBack 16 = .ok (.aload_n 0, 1) := by decide +kernel
theorem dX7_goBack_17 : decode cX7_goBack 17 = .ok (.aload_n 0, 1) := by decide +kernel
theorem dX7_goBack_18 : decode cX7_goBack 18 = .ok (.getfield 24, 3) := by decide +kernel
theorem dX7_goBack_21 : decode cX7_goBack 21 = .ok (.bipush 6, 2) := by decide +kernel
theorem dX7_goBack_23 : decode cX7_goBack 23 = .ok (.iadd, 1) := by decide +kernel
theorem dX7_goBack_24 : decode cX7_goBack 24 = .ok (.iconst 1, 1) := by decide +kernel
theorem dX7_goBack_25 : decode cX7_goBack 25 = .ok (.isub, 1) := by decide +kernel
theorem dX7_goBack_26 : decode cX7_goBack 26 = .ok (.bipush 6, 2) := by decide +kernel
theorem dX7_goBack_28 : decode cX7_goBack 28 = .ok (.irem, 1) := by decide +kernel
theorem dX7_goBack_29 : decode cX7_goBack 29 = .ok (.putfield 24, 3) := by decide +kernel
theorem dX7_goBack_32 : decode cX7_goBack 32 = .ok (.aload_n 0, 1) := by decide +kernel
theorem dX7_goBack_33 : decode cX7_goBack 33 = .ok (.dup, 1) := by decide +kernel
theorem dX7_goBack_34 : decode cX7_goBack 34 = .ok (.getfield 28, 3) := by decide +kernel
theorem dX7_goBack_37 : decode cX7_goBack 37 = .ok (.iconst 1, 1) := by decide +kernel
theorem dX7_goBack_38 : decode cX7_goBack 38 = .ok (.isub, 1) := by decide +kernel
theorem dX7_goBack_39 : decode cX7_goBack 39 = .ok (.putfield 28, 3) := by decide +kernel
theorem dX7_goBack_42 : decode cX7_goBack 42 = .ok (.return_, 1) := by decide +kernel
theorem dX8_init_0 : decode cX8_init 0 = .ok (.aload_n 0, 1) := by decide +kernel
theorem dX8_init_1 : decode cX8_init 1 = .ok (.invokespecial 1, 3) := by decide +kernel
theorem dX8_init_4 : decode cX8_init 4 = .ok (.return_, 1) := by decide +kernel
theorem dX8_force_0 : decode cX8_force 0 = .ok (.iconst 2, 1) := by decide +kernel
theorem dX8_force_1 : decode cX8_force 1 = .ok (.ireturn, 1) := by decide +kernel
theorem dX9_init_0 : decode cX9_init 0 = .ok (.aload_n 0, 1) := by decide +kernel
theorem dX9_init_1 : decode cX9_init 1 = .ok (.invokespecial 3, 3) := by decide +kernel
theorem dX9_init_4 : decode cX9_init 4 = .ok (.aload_n 0, 1) := by decide +kernel
theorem dX9_init_5 : decode cX9_init 5 = .ok (.sipush 250, 3) := by decide +kernel
theorem dX9_init_8 : decode cX9_init 8 = .ok (.newarray .int, 2) := by decide +kernel
theorem dX9_init_10 : decode cX9_init 10 = .ok (.putfield 9, 3) := by decide +kernel
theorem dX9_init_13 : decode cX9_init 13 = .ok (.aload_n 0, 1) := by decide +kernel
theorem dX9_init_14 : decode cX9_init 14 = .ok (.iconst 0, 1) := by decide +kernel
theorem dX9_init_15 : decode cX9_init 15 = .ok (.putfield 15, 3) := by decide +kernel
theorem dX9_init_18 : decode cX9_init 18 = .ok (.aload_n 0, 1) := by decide +kernel
theorem dX9_init_19 : decode cX9_init 19 = .ok (.invokevirtual 19, 3) := by decide +kernel
theorem dX9_init_22 : decode cX9_init 22 = .ok (.return_, 1) := by decide +kernel
theorem dX9_add_0 : decode cX9_add 0 = .ok (.iload_n 3, 1) := by decide +kernel
theorem dX9_add_1 : decode cX9_add 1 = .ok (.iconst 1, 1) := by decide +kernel
theorem dX9_add_2 : decode cX9_add 2 = .ok (.isub, 1) := by decide +kernel
theorem dX9_add_3 : decode cX9_add 3 = .ok (.istore 4, 2) := by decide +kernel
theorem dX9_add_5 : decode cX9_add 5 = .ok (.iload 4, 2) := by decide +kernel
theorem dX9_add_7 : decode cX9_add 7 = .ok (.ifCond .lt 40, 3) := by decide +kernel
theorem dX9_add_10 : decode cX9_add 10 = .ok (.aload_n 0, 1) := by decide +kernel
theorem dX9_add_11 : decode cX9_add 11 = .ok (.getfield 9, 3) := by decide +kernel
theorem dX9_add_14 : decode cX9_add 14 = .ok (.aload_n 0, 1) := by decide +kernel
theorem dX9_add_15 : decode cX9_add 15 = .ok (.getfield 15, 3) := by decide +kernel
theorem dX9_add_18 : decode cX9_add 18 = .ok (.lload_n 1, 1) := by decide +kernel
theorem dX9_add_19 : decode cX9_add 19 = .ok (.bipush 8, 2) := by decide +kernel
theorem dX9_add_21 : decode cX9_add 21 = .ok (.iload 4, 2) := by decide +kernel
theorem dX9_add_23 : decode cX9_add 23 = .ok (.imul, 1) := by decide +kernel
theorem dX9_add_24 : decode cX9_add 24 = .ok (.lshr, 1) := by decide +kernel
theorem dX9_add_25 : decode cX9_add 25 = .ok (.ldc2_w 22, 3) := by decide +kernel
theorem dX9_add_28 : decode cX9_add 28 = .ok (.land, 1) := by decide +kernel
theorem dX9_add_29 : decode cX9_add 29 = .ok (.l2i, 1) := by decide +kernel
theorem dX9_add_30 : decode cX9_add 30 = .ok (.iastore, 1) := by decide +kernel
theorem dX9_add_31 : decode cX9_add 31 = .ok (.aload_n 0, 1) := by decide +kernel
theorem dX9_add_32 : decode cX9_add 32 = .ok (.dup, 1) := by decide +kernel
theorem dX9_add_33 : decode cX9_add 33 = .ok (.getfield 15, 3) := by decide +kernel
theorem dX9_add_36 : decode cX9_add 36 = .ok (.iconst 1, 1) := by decide +kernel
theorem dX9_add_37 : decode cX9_add 37 = .ok (.iadd, 1) := by decide +kernel
theorem dX9_add_38 : decode cX9_add 38 = .ok (.putfield 15, 3) := by decide +kernel
theorem dX9_add_41 : decode cX9_add 41 = .ok (.iinc 4 (-1), 3) := by decide +kernel
theorem dX9_add_44 : decode cX9_add 44 = .ok (.goto (-39), 3) := by decide +kernel
theorem dX9_add_47 : decode cX9_add 47 = .ok (.return_, 1) := by decide +kernel
theorem dX9_rewind_0 : decode cX9_rewind 0 = .ok (.aload_n 0, 1) := by decide +kernel
theorem dX9_rewind_1 : decode cX9_rewind 1 = .ok (.iconst 0, 1) := by decide +kernel
theorem dX9_rewind_2 : decode cX9_rewind 2 = .ok (.putfield 24, 3) := by decide +kernel
theorem dX9_rewind_5 : decode cX9_rewind 5 = .ok (.aload_n 0, 1) := by decide +kernel
theorem dX9_rewind_6 : decode cX9_rewind 6 = .ok (.iconst 0, 1) := by decide +kernel
theorem dX9_rewind_7 : decode cX9_rewind 7 = .ok (.putfield 27, 3) := by decide +kernel
theorem dX9_rewind_10 : decode cX9_rewind 10 = .ok (.aload_n 0, 1) := by decide +kernel
theorem dX9_rewind_11 : decode cX9_rewind 11 = .ok (.iconst 0, 1) := by decide +kernel
theorem dX9_rewind_12 : decode cX9_rewind 12 = .ok (.putfield 30, 3) := by decide +kernel
theorem dX9_rewind_15 : decode cX9_rewind 15 = .ok (.return_, 1) := by decide +kernel
theorem dX9_nextToken_0 : decode cX9_nextToken 0 = .ok (.aload_n 0, 1) := by decide +kernel
theorem dX9_nextToken_1 : decode cX9_nextToken 1 = .ok (.aload_n 0, 1) := by decide +kernel
theorem dX9_nextToken_2 : decode cX9_nextToken 2 = .ok (.getfield 30, 3) := by decide +kernel
theorem dX9_nextToken_5 : decode cX9_nextToken 5 = .ok (.putfield 27, 3) := by decide +kernel
theorem dX9_nextToken_8 : decode cX9_nextToken 8 = .ok (.aload_n 0, 1) := by decide +kernel
theorem dX9_nextToken_9 : decode cX9_nextToken 9 = .ok (.getfield 27, 3) := by decide +kernel
theorem dX9_nextToken_12 : decode cX9_nextToken 12 = .ok (.aload_n 0, 1) := by decide +kernel
theorem dX9_nextToken_13 : decode cX9_nextToken 13 = .ok (.getfield 15, 3) := by decide +kernel
theorem dX9_nextToken_16 : decode cX9_nextToken 16 = .ok (.if_icmp .ge 30, 3) := by decide +kernel
theorem dX9_nextToken_19 : decode cX9_nextToken 19 = .ok (.aload_n 0, 1) := by decide +kernel
theorem dX9_nextToken_20 : decode cX9_nextToken 20 = .ok (.getfield 9, 3) := by decide +kernel
theorem dX9_nextToken_23 : decode cX9_nextToken 23 = .ok (.aload_n 0, 1) := by decide +kernel
theorem dX9_nextToken_24 : decode cX9_nextToken 24 = .ok (.getfield 27, 3) := by decide +kernel
theorem dX9_nextToken_27 : decode cX9_nextToken 27 = .ok (.iaload, 1) := by decide +kernel
theorem dX9_nextToken_28 : decode cX9_nextToken 28 = .ok (.bipush 32, 2) := by decide +kernel
theorem dX9_nextToken_30 : decode cX9_nextToken 30 = .ok (.if_icmp .ne 16, 3) := by decide +kernel
theorem dX9_nextToken_33 : decode cX9_nextToken 33 = .ok (.aload_n 0, 1) := by decide +kernel
theorem dX9_nextToken_34 : decode cX9_nextToken 34 = .ok (.dup, 1) := by decide +kernel
theorem dX9_nextToken_35 : decode cX9_nextToken 35 = .ok (.getfield 27, 3) := by decide +kernel
theorem dX9_nextToken_38 : decode cX9_nextToken 38 = .ok (.iconst 1, 1) := by decide +kernel
theorem dX9_nextToken_39 : decode cX9_nextToken 39 = .ok (.iadd, 1) := by decide +kernel
theorem dX9_nextToken_40 : decode cX9_nextToken 40 = .ok (.putfield 27, 3) := by decide +kernel
theorem dX9_nextToken_43 : decode cX9_nextToken 43 = .ok (.goto (-35), 3) := by decide +kernel
theorem dX9_nextToken_46 : decode cX9_nextToken 46 = .ok (.aload_n 0, 1) := by decide +kernel
theorem dX9_nextToken_47 : decode cX9_nextToken 47 = .ok (.aload_n 0, 1) := by decide +kernel
theorem dX9_nextToken_48 : decode cX9_nextToken 48 = .ok (.getfield 27, 3) := by decide +kernel
theorem dX9_nextToken_51 : decode cX9_nextToken 51 = .ok (.putfield 30, 3) := by decide +kernel
theorem dX9_nextToken_54 : decode cX9_nextToken 54 = .ok (.aload_n 0, 1) := by decide +kernel
theorem dX9_nextToken_55 : decode cX9_nextToken 55 = .ok (.iconst 0, 1) := by decide +kernel
theorem dX9_nextToken_56 : decode cX9_nextToken 56 = .ok (.putfield 24, 3) := by decide +kernel
theorem dX9_nextToken_59 : decode cX9_nextToken 59 = .ok (.aload_n 0, 1) := by decide +kernel
theorem dX9_nextToken_60 : decode cX9_nextToken 60 = .ok (.getfield 27, 3) := by decide +kernel
theorem dX9_nextToken_63 : decode cX9_nextToken 63 = .ok (.aload_n 0, 1) := by decide +kernel
theorem dX9_nextToken_64 : decode cX9_nextToken 64 = .ok (.getfield 15, 3) := by decide +kernel
theorem dX9_nextToken_67 : decode cX9_nextToken 67 = .ok (.if_icmp .ge 29, 3) := by decide +kernel
theorem dX9_nextToken_70 : decode cX9_nextToken 70 = .ok (.aload_n 0, 1) := by decide +kernel
theorem dX9_nextToken_71 : decode cX9_nextToken 71 = .ok (.aload_n 0, 1) := by decide +kernel
theorem dX9_nextToken_72 : decode cX9_nextToken 72 = .ok (.getfield 9, 3) := by decide +kernel
theorem dX9_nextToken_75 : decode cX9_nextToken 75 = .ok (.aload_n 0, 1) := by decide +kernel
theorem dX9_nextToken_76 : decode cX9_nextToken 76 = .ok (.getfield 27, 3) := by decide +kernel
theorem dX9_nextToken_79 : decode cX9_nextToken 79 = .ok (.iaload, 1) := by decide +kernel
theorem dX9_nextToken_80 : decode cX9_nextToken 80 = .ok (.invokestatic 33, 3) := by decide +kernel
theorem dX9_nextToken_83 : decode cX9_nextToken 83 = .ok (.putfield 24, 3) := by decide +kernel
theorem dX9_nextToken_86 : decode cX9_nextToken 86 = .ok (.aload_n 0, 1) := by decide +kernel
theorem dX9_nextToken_87 : decode cX9_nextToken 87 = .ok (.dup, 1) := by decide +kernel
theorem dX9_nextToken_88 : decode cX9_nextToken 88 = .ok (.getfield 30, 3) := by decide +kernel
theorem dX9_nextToken_91 : decode cX9_nextToken 91 = .ok (.iconst 1, 1) := by decide +kernel
theorem dX9_nextToken_92 : decode cX9_nextToken 92 = .ok (.iadd, 1) := by decide +kernel
theorem dX9_nextToken_93 : decode cX9_nextToken 93 = .ok (.putfield 30, 3) := by decide +kernel
theorem dX9_nextToken_96 : decode cX9_nextToken 96 = .ok (.aload_n 0, 1) := by decide +kernel
theorem dX9_nextToken_97 : decode cX9_nextToken 97 = .ok (.getfield 24, 3) := by decide +kernel
theorem dX9_nextToken_100 : decode cX9_nextToken 100 = .ok (.iconst 1, 1) := by decide +kernel
theorem dX9_nextToken_101 : decode cX9_nextToken 101 = .ok (.if_icmp .eq 11, 3) := by decide +kernel
theorem dX9_nextToken_104 : decode cX9_nextToken 104 = .ok (.aload_n 0, 1) := by decide +kernel
theorem dX9_nextToken_105 : decode cX9_nextToken 105 = .ok (.getfield 24, 3) := by decide +kernel
theorem dX9_nextToken_108 : decode cX9_nextToken 108 = .ok (.iconst 2, 1) := by decide +kernel
theorem dX9_nextToken_109 : decode cX9_nextToken 109 = .ok (.if_icmp .ne 46, 3) := by decide +kernel
theorem dX9_nextToken_112 : decode cX9_nextToken 112 = .ok (.aload_n 0, 1) := by decide +kernel
theorem dX9_nextToken_113 : decode cX9_nextToken 113 = .ok (.getfield 30, 3) := by decide +kernel
theorem dX9_nextToken_116 : decode cX9_nextToken 116 = .ok (.aload_n 0, 1) := by decide +kernel
theorem dX9_nextToken_117 : decode cX9_nextToken 117 = .ok (.getfield 15, 3) := by decide +kernel
theorem dX9_nextToken_120 : decode cX9_nextToken 120 = .ok (.if_icmp .ge 35, 3) := by decide +kernel
theorem dX9_nextToken_123 : decode cX9_nextToken 123 = .ok (.aload_n 0, 1) := by decide +kernel
theorem dX9_nextToken_124 : decode cX9_nextToken 124 = .ok (.getfield 9, 3) := by decide +kernel
theorem dX9_nextToken_127 : decode cX9_nextToken 127 = .ok (.aload_n 0, 1) := by decide +kernel
theorem dX9_nextToken_128 : decode cX9_nextToken 128 = .ok (.getfield 30, 3) := by decide +kernel
theorem dX9_nextToken_131 : decode cX9_nextToken 131 = .ok (.iaload, 1) := by decide +kernel
theorem dX9_nextToken_132 : decode cX9_nextToken 132 = .ok (.invokestatic 33, 3) := by decide +kernel
theorem dX9_nextToken_135 : decode cX9_nextToken 135 = .ok (.aload_n 0, 1) := by decide +kernel
theorem dX9_nextToken_136 : decode cX9_nextToken 136 = .ok (.getfield 24, 3) := by decide +kernel
theorem dX9_nextToken_139 : decode cX9_nextToken 139 = .ok (.if_icmp .ne 16, 3) := by decide +kernel
theorem dX9_nextToken_142 : decode cX9_nextToken 142 = .ok (.aload_n 0, 1) := by decide +kernel
theorem dX9_nextToken_143 : decode cX9_nextToken 143 = .ok (.dup, 1) := by decide +kernel
theorem dX9_nextToken_144 : decode cX9_nextToken 144 = .ok (.getfield 30, 3) := by decide +kernel
theorem dX9_nextToken_147 : decode cX9_nextToken 147 = .ok (.iconst 1, 1) := by decide +kernel
theorem dX9_nextToken_148 : decode cX9_nextToken 148 = .ok (.iadd, 1) := by decide +kernel
theorem dX9_nextToken_149 : decode cX9_nextToken 149 = .ok (.putfield 30, 3) := by decide +kernel
theorem dX9_nextToken_152 : decode cX9_nextToken 152 = .ok (.goto (-56), 3) := by decide +kernel
theorem dX9_nextToken_155 : decode cX9_nextToken 155 = .ok (.aload_n 0, 1) := by decide +kernel
theorem dX9_nextToken_156 : decode cX9_nextToken 156 = .ok (.getfield 24, 3) := by decide +kernel
theorem dX9_nextToken_159 : decode cX9_nextToken 159 = .ok (.iconst 2, 1) := by decide +kernel
theorem dX9_nextToken_160 : decode cX9_nextToken 160 = .ok (.if_icmp .ne 21, 3) := by decide +kernel
theorem dX9_nextToken_163 : decode cX9_nextToken 163 = .ok (.aload_n 0, 1) := by decide +kernel
theorem dX9_nextToken_164 : decode cX9_nextToken 164 = .ok (.getfield 30, 3) := by decide +kernel
theorem dX9_nextToken_167 : decode cX9_nextToken 167 = .ok (.aload_n 0, 1) := by decide +kernel
theorem dX9_nextToken_168 : decode cX9_nextToken 168 = .ok (.getfield 27, 3) := by decide +kernel
theorem dX9_nextToken_171 : decode cX9_nextToken 171 = .ok (.isub, 1) := by decide +kernel
theorem dX9_nextToken_172 : decode cX9_nextToken 172 = .ok (.iconst 3, 1) := by decide +kernel
theorem dX9_nextToken_173 : decode cX9_nextToken 173 = .ok (.if_icmp .le 8, 3) := by decide +kernel
theorem dX9_nextToken_176 : decode cX9_nextToken 176 = .ok (.aload_n 0, 1) := by decide +kernel
theorem dX9_nextToken_177 : decode cX9_nextToken 177 = .ok (.iconst 4, 1) := by decide +kernel
theorem dX9_nextToken_178 : decode cX9_nextToken 178 = .ok (.putfield 24, 3) := by decide +kernel
theorem dX9_nextToken_181 : decode cX9_nextToken 181 = .ok (.return_, 1) := by decide +kernel
theorem dX9_begunBy_0 : decode cX9_begunBy 0 = .ok (.iload_n 0, 1) := by decide +kernel
theorem dX9_begunBy_1 : decode cX9_begunBy 1 = .ok (.bipush 97, 2) := by decide +kernel
theorem dX9_begunBy_3 : decode cX9_begunBy 3 = .ok (.if_icmp .lt 11, 3) := by decide +kernel
theorem dX9_begunBy_6 : decode cX9_begunBy 6 = .ok (.iload_n 0, 1) := by decide +kernel
theorem dX9_begunBy_7 : decode cX9_begunBy 7 = .ok (.bipush 122, 2) := by decide +kernel
theorem dX9_begunBy_9 : decode cX9_begunBy 9 = .ok (.if_icmp .gt 5, 3) := by decide +kernel
theorem dX9_begunBy_12 : decode cX9_begunBy 12 = .ok (.iconst 1, 1) := by decide +kernel
theorem dX9_begunBy_13 : decode cX9_begunBy 13 = .ok (.ireturn, 1) := by decide +kernel
theorem dX9_begunBy_14 : decode cX9_begunBy 14 = .ok (.iload_n 0, 1) := by decide +kernel
theorem dX9_begunBy_15 : decode cX9_begunBy 15 = .ok (.bipush 48, 2) := by decide +kernel
theorem dX9_begunBy_17 : decode cX9_begunBy 17 = .ok (.if_icmp .lt 11, 3) := by decide +kernel
theorem dX9_begunBy_20 : decode cX9_begunBy 20 = .ok (.iload_n 0, 1) := by decide +kernel
theorem dX9_begunBy_21 : decode cX9_begunBy 21 = .ok (.bipush 57, 2) := by decide +kernel
theorem dX9_begunBy_23 : decode cX9_begunBy 23 = .ok (.if_icmp .gt 5, 3) := by decide +kernel
theorem dX9_begunBy_26 : decode cX9_begunBy 26 = .ok (.iconst 2, 1) := by decide +kernel
theorem dX9_begunBy_27 : decode cX9_begunBy 27 = .ok (.ireturn, 1) := by decide +kernel
theorem dX9_begunBy_28 : decode cX9_begunBy 28 = .ok (.iload_n 0, 1) := by decide +kernel
theorem dX9_begunBy_29 : decode cX9_begunBy 29 = .ok (.bipush 59, 2) := by decide +kernel
theorem dX9_begunBy_31 : decode cX9_begunBy 31 = .ok (.if_icmp .ne 7, 3) := by decide +kernel
theorem dX9_begunBy_34 : decode cX9_begunBy 34 = .ok (.iconst 3, 1) := by decide +kernel
theorem dX9_begunBy_35 : decode cX9_begunBy 35 = .ok (.goto 4, 3) := by decide +kernel
theorem dX9_begunBy_38 : decode cX9_begunBy 38 = .ok (.iconst 4, 1) := by decide +kernel
theorem dX9_begunBy_39 : decode cX9_begunBy 39 = .ok (.ireturn, 1) := by decide +kernel
theorem dX9_number_0 : decode cX9_number 0 = .ok (.aload_n 0, 1) := by decide +kernel
theorem dX9_number_1 : decode cX9_number 1 = .ok (.getfield 24, 3) := by decide +kernel
theorem dX9_number_4 : decode cX9_number 4 = .ok (.iconst 2, 1) := by decide +kernel
theorem dX9_number_5 : decode cX9_number 5 = .ok (.if_icmp .eq 5, 3) := by decide +kernel
theorem dX9_number_8 : decode cX9_number 8 = .ok (.iconst (-1), 1) := by decide +kernel
theorem dX9_number_9 : decode cX9_number 9 = .ok (.ireturn, 1) := by decide +kernel
theorem dX9_number_10 : decode cX9_number 10 = .ok (.iconst 0, 1) := by decide +kernel
theorem dX9_number_11 : decode cX9_number 11 = .ok (.istore_n 1, 1) := by decide +kernel
theorem dX9_number_12 : decode cX9_number 12 = .ok (.aload_n 0, 1) := by decide +kernel
theorem dX9_number_13 : decode cX9_number 13 = .ok (.getfield 27, 3) := by decide +kernel
theorem dX9_number_16 : decode cX9_number 16 = .ok (.istore_n 2, 1) := by decide +kernel
theorem dX9_number_17 : decode cX9_number 17 = .ok (.iload_n 2, 1) := by decide +kernel
theorem dX9_number_18 : decode cX9_number 18 = .ok (.aload_n 0, 1) := by decide +kernel
theorem dX9_number_19 : decode cX9_number 19 = .ok (.getfield 30, 3) := by decide +kernel
theorem dX9_number_22 : decode cX9_number 22 = .ok (.if_icmp .ge 24, 3) := by decide +kernel
theorem dX9_number_25 : decode cX9_number 25 = .ok (.bipush 10, 2) := by decide +kernel
theorem dX9_number_27 : decode cX9_number 27 = .ok (.iload_n 1, 1) := by decide +kernel
theorem dX9_number_28 : decode cX9_number 28 = .ok (.imul, 1) := by decide +kernel
theorem dX9_number_29 : decode cX9_number 29 = .ok (.aload_n 0, 1) := by decide +kernel
theorem dX9_number_30 : decode cX9_number 30 = .ok (.getfield 9, 3) := by decide +kernel
theorem dX9_number_33 : decode cX9_number 33 = .ok (.iload_n 2, 1) := by decide +kernel
theorem dX9_number_34 : decode cX9_number 34 = .ok (.iaload, 1) := by decide +kernel
theorem dX9_number_35 : decode cX9_number 35 = .ok (.iadd, 1) := by decide +kernel
theorem dX9_number_36 : decode cX9_number 36 = .ok (.bipush 48, 2) := by decide +kernel
theorem dX9_number_38 : decode cX9_number 38 = .ok (.isub, 1) := by decide +kernel
theorem dX9_number_39 : decode cX9_number 39 = .ok (.istore_n 1, 1) := by decide +kernel
theorem dX9_number_40 : decode cX9_number 40 = .ok (.iinc 2 1, 3) := by decide +kernel
theorem dX9_number_43 : decode cX9_number 43 = .ok (.goto (-26), 3) := by decide +kernel
theorem dX9_number_46 : decode cX9_number 46 = .ok (.iload_n 1, 1) := by decide +kernel
theorem dX9_number_47 : decode cX9_number 47 = .ok (.ireturn, 1) := by decide +kernel
theorem dX9_isWord_0 : decode cX9_isWord 0 = .ok (.aload_n 0, 1) := by decide +kernel
theorem dX9_isWord_1 : decode cX9_isWord 1 = .ok (.getfield 24, 3) := by decide +kernel
theorem dX9_isWord_4 : decode cX9_isWord 4 = .ok (.iconst 1, 1) := by decide +kernel
theorem dX9_isWord_5 : decode cX9_isWord 5 = .ok (.if_icmp .ne 19, 3) := by decide +kernel
theorem dX9_isWord_8 : decode cX9_isWord 8 = .ok (.aload_n 0, 1) := by decide +kernel
theorem dX9_isWord_9 : decode cX9_isWord 9 = .ok (.getfield 30, 3) := by decide +kernel
theorem dX9_isWord_12 : decode cX9_isWord 12 = .ok (.aload_n 0, 1) := by decide +kernel
theorem dX9_isWord_13 : decode cX9_isWord 13 = .ok (.getfield 27, 3) := by decide +kernel
theorem dX9_isWord_16 : decode cX9_isWord 16 = .ok (.isub, 1) := by decide +kernel
theorem dX9_isWord_17 : decode cX9_isWord 17 = .ok (.aload_n 1, 1) := by decide +kernel
theorem dX9_isWord_18 : decode cX9_isWord 18 = .ok (.invokevirtual 37, 3) := by decide +kernel
theorem dX9_isWord_21 : decode cX9_isWord 21 = .ok (.if_icmp .eq 5, 3) := by decide +kernel
theorem dX9_isWord_24 : decode cX9_isWord 24 = .ok (.iconst 0, 1) := by decide +kernel
theorem dX9_isWord_25 : decode cX9_isWord 25 = .ok (.ireturn, 1) := by decide +kernel
theorem dX9_isWord_26 : decode cX9_isWord 26 = .ok (.iconst 0, 1) := by decide +kernel
theorem dX9_isWord_27 : decode cX9_isWord 27 = .ok (.istore_n 2, 1) := by decide +kernel
theorem dX9_isWord_28 : decode cX9_isWord 28 = .ok (.iload_n 2, 1) := by decide +kernel
theorem dX9_isWord_29 : decode cX9_isWord 29 = .ok (.aload_n 1, 1) := by decide +kernel
theorem dX9_isWord_30 : decode cX9_isWord 30 = .ok (.invokevirtual 37, 3) := by decide +kernel
theorem dX9_isWord_33 : decode cX9_isWord 33 = .ok (.if_icmp .ge 30, 3) := by decide +kernel
theorem dX9_isWord_36 : decode cX9_isWord 36 = .ok (.aload_n 0, 1) := by decide +kernel
theorem dX9_isWord_37 : decode cX9_isWord 37 = .ok (.getfield 9, 3) := by decide +kernel
theorem dX9_isWord_40 : decode cX9_isWord 40 = .ok (.aload_n 0, 1) := by decide +kernel
theorem dX9_isWord_41 : decode cX9_isWord 41 = .ok (.getfield 27, 3) := by decide +kernel
theorem dX9_isWord_44 : decode cX9_isWord 44 = .ok (.iload_n 2, 1) := by decide +kernel
theorem dX9_isWord_45 : decode cX9_isWord 45 = .ok (.iadd, 1) := by decide +kernel
theorem dX9_isWord_46 : decode cX9_isWord 46 = .ok (.iaload, 1) := by decide +kernel
theorem dX9_isWord_47 : decode cX9_isWord 47 = .ok (.aload_n 1, 1) := by decide +kernel
theorem dX9_isWord_48 : decode cX9_isWord 48 = .ok (.iload_n 2, 1) := by decide +kernel
theorem dX9_isWord_49 : decode cX9_isWord 49 = .ok (.invokevirtual 43, 3) := by decide +kernel
theorem dX9_isWord_52 : decode cX9_isWord 52 = .ok (.if_icmp .eq 5, 3) := by decide +kernel
theorem dX9_isWord_55 : decode cX9_isWord 55 = .ok (.iconst 0, 1) := by decide +kernel
theorem dX9_isWord_56 : decode cX9_isWord 56 = .ok (.ireturn, 1) := by decide +kernel
theorem dX9_isWord_57 : decode cX9_isWord 57 = .ok (.iinc 2 1, 3) := by decide +kernel
theorem dX9_isWord_60 : decode cX9_isWord 60 = .ok (.goto (-32), 3) := by decide +kernel
theorem dX9_isWord_63 : decode cX9_isWord 63 = .ok (.iconst 1, 1) := by decide +kernel
theorem dX9_isWord_64 : decode cX9_isWord 64 = .ok (.ireturn, 1) := by decide +kernel
theorem dX10_init_0 : decode cX10_init 0 = .ok (.aload_n 0, 1) := by decide +kernel
theorem dX10_init_1 : decode cX10_init 1 = .ok (.invokespecial 1, 3) := by decide +kernel
theorem dX10_init_4 : decode cX10_init 4 = .ok (.return_, 1) := by decide +kernel
theorem dX10_reach_0 : decode cX10_reach 0 = .ok (.iconst 1, 1) := by decide +kernel
theorem dX10_reach_1 : decode cX10_reach 1 = .ok (.ireturn, 1) := by decide +kernel
theorem dX11_init_0 : decode cX11_init 0 = .ok (.aload_n 0, 1) := by decide +kernel
theorem dX11_init_1 : decode cX11_init 1 = .ok (.invokespecial 1, 3) := by decide +kernel
theorem dX11_init_4 : decode cX11_init 4 = .ok (.iconst 5, 1) := by decide +kernel
theorem dX11_init_5 : decode cX11_init 5 = .ok (.anewarray 7, 3) := by decide +kernel
theorem dX11_init_8 : decode cX11_init 8 = .ok (.dup, 1) := by decide +kernel
theorem dX11_init_9 : decode cX11_init 9 = .ok (.iconst 0, 1) := by decide +kernel
theorem dX11_init_10 : decode cX11_init 10 = .ok (.new 7, 3) := by decide +kernel
theorem dX11_init_13 : decode cX11_init 13 = .ok (.dup, 1) := by decide +kernel
theorem dX11_init_14 : decode cX11_init 14 = .ok (.invokespecial 9, 3) := by decide +kernel
theorem dX11_init_17 : decode cX11_init 17 = .ok (.aastore, 1) := by decide +kernel
theorem dX11_init_18 : decode cX11_init 18 = .ok (.dup, 1) := by decide +kernel
theorem dX11_init_19 : decode cX11_init 19 = .ok (.iconst 1, 1) := by decide +kernel
theorem dX11_init_20 : decode cX11_init 20 = .ok (.new 10, 3) := by decide +kernel
theorem dX11_init_23 : decode cX11_init 23 = .ok (.dup, 1) := by decide +kernel
theorem dX11_init_24 : decode cX11_init 24 = .ok (.invokespecial 12, 3) := by decide +kernel
theorem dX11_init_27 : decode cX11_init 27 = .ok (.aastore, 1) := by decide +kernel
theorem dX11_init_28 : decode cX11_init 28 = .ok (.dup, 1) := by decide +kernel
theorem dX11_init_29 : decode cX11_init 29 = .ok (.iconst 2, 1) := by decide +kernel
theorem dX11_init_30 : decode cX11_init 30 = .ok (.new 13, 3) := by decide +kernel
theorem dX11_init_33 : decode cX11_init 33 = .ok (.dup, 1) := by decide +kernel
theorem dX11_init_34 : decode cX11_init 34 = .ok (.invokespecial 15, 3) := by decide +kernel
theorem dX11_init_37 : decode cX11_init 37 = .ok (.aastore, 1) := by decide +kernel
theorem dX11_init_38 : decode cX11_init 38 = .ok (.dup, 1) := by decide +kernel
theorem dX11_init_39 : decode cX11_init 39 = .ok (.iconst 3, 1) := by decide +kernel
theorem dX11_init_40 : decode cX11_init 40 = .ok (.new 16, 3) := by decide +kernel
theorem dX11_init_43 : decode cX11_init 43 = .ok (.dup, 1) := by decide +kernel
theorem dX11_init_44 : decode cX11_init 44 = .ok (.invokespecial 18, 3) := by decide +kernel
theorem dX11_init_47 : decode cX11_init 47 = .ok (.aastore, 1) := by decide +kernel
theorem dX11_init_48 : decode cX11_init 48 = .ok (.dup, 1) := by decide +kernel
theorem dX11_init_49 : decode cX11_init 49 = .ok (.iconst 4, 1) := by decide +kernel
theorem dX11_init_50 : decode cX11_init 50 = .ok (.new 19, 3) := by decide +kernel
theorem dX11_init_53 : decode cX11_init 53 = .ok (.dup, 1) := by decide +kernel
theorem dX11_init_54 : decode cX11_init 54 = .ok (.invokespecial 21, 3) := by decide +kernel
theorem dX11_init_57 : decode cX11_init 57 = .ok (.aastore, 1) := by decide +kernel
theorem dX11_init_58 : decode cX11_init 58 = .ok (.astore_n 1, 1) := by decide +kernel
theorem dX11_init_59 : decode cX11_init 59 = .ok (.aload_n 0, 1) := by decide +kernel
theorem dX11_init_60 : decode cX11_init 60 = .ok (.new 22, 3) := by decide +kernel
theorem dX11_init_63 : decode cX11_init 63 = .ok (.dup, 1) := by decide +kernel
theorem dX11_init_64 : decode cX11_init 64 = .ok (.aload_n 1, 1) := by decide +kernel
theorem dX11_init_65 : decode cX11_init 65 = .ok (.invokespecial 24, 3) := by decide +kernel
theorem dX11_init_68 : decode cX11_init 68 = .ok (.putfield 27, 3) := by decide +kernel
theorem dX11_init_71 : decode cX11_init 71 = .ok (.aload_n 0, 1) := by decide +kernel
theorem dX11_init_72 : decode cX11_init 72 = .ok (.iconst 2, 1) := by decide +kernel
theorem dX11_init_73 : decode cX11_init 73 = .ok (.anewarray 22, 3) := by decide +kernel
theorem dX11_init_76 : decode cX11_init 76 = .ok (.putfield 33, 3) := by decide +kernel
theorem dX11_init_79 : decode cX11_init 79 = .ok (.iconst 0, 1) := by decide +kernel
theorem dX11_init_80 : decode cX11_init 80 = .ok (.istore_n 2, 1) := by decide +kernel
theorem dX11_init_81 : decode cX11_init 81 = .ok (.iload_n 2, 1) := by decide +kernel
theorem dX11_init_82 : decode cX11_init 82 = .ok (.iconst 2, 1) := by decide +kernel
theorem dX11_init_83 : decode cX11_init 83 = .ok (.if_icmp .ge 23, 3) := by decide +kernel
theorem dX11_init_86 : decode cX11_init 86 = .ok (.aload_n 0, 1) := by decide +kernel
theorem dX11_init_87 : decode cX11_init 87 = .ok (.getfield 33, 3) := by decide +kernel
theorem dX11_init_90 : decode cX11_init 90 = .ok (.iload_n 2, 1) := by decide +kernel
theorem dX11_init_91 : decode cX11_init 91 = .ok (.new 22, 3) := by decide +kernel
theorem dX11_init_94 : decode cX11_init 94 = .ok (.dup, 1) := by decide +kernel
theorem dX11_init_95 : decode cX11_init 95 = .ok (.aload_n 1, 1) := by decide +kernel
theorem dX11_init_96 : decode cX11_init 96 = .ok (.invokespecial 24, 3) := by decide +kernel
theorem dX11_init_99 : decode cX11_init 99 = .ok (.aastore, 1) := by decide +kernel
theorem dX11_init_100 : decode cX11_init 100 = .ok (.iinc 2 1, 3) := by decide +kernel
theorem dX11_init_103 : decode cX11_init 103 = .ok (.goto (-22), 3) := by decide +kernel
theorem dX11_init_106 : decode cX11_init 106 = .ok (.aload_n 0, 1) := by decide +kernel
theorem dX11_init_107 : decode cX11_init 107 = .ok (.iconst 2, 1) := by decide +kernel
theorem dX11_init_108 : decode cX11_init 108 = .ok (.newarray .boolean, 2) := by decide +kernel
theorem dX11_init_110 : decode cX11_init 110 = .ok (.putfield 37, 3) := by decide +kernel
theorem dX11_init_113 : decode cX11_init 113 = .ok (.aload_n 0, 1) := by decide +kernel
theorem dX11_init_114 : decode cX11_init 114 = .ok (.new 41, 3) := by decide +kernel
theorem dX11_init_117 : decode cX11_init 117 = .ok (.dup, 1) := by decide +kernel
theorem dX11_init_118 : decode cX11_init 118 = .ok (.aload_n 0, 1) := by decide +kernel
theorem dX11_init_119 : decode cX11_init 119 = .ok (.getfield 27, 3) := by decide +kernel
theorem dX11_init_122 : decode cX11_init 122 = .ok (.getfield 43, 3) := by decide +kernel
theorem dX11_init_125 : decode cX11_init 125 = .ok (.new 47, 3) := by decide +kernel
theorem dX11_init_128 : decode cX11_init 128 = .ok (.dup, 1) := by decide +kernel
theorem dX11_init_129 : decode cX11_init 129 = .ok (.aload_n 1, 1) := by decide +kernel
theorem dX11_init_130 : decode cX11_init 130 = .ok (.invokespecial 49, 3) := by decide +kernel
theorem dX11_init_133 : decode cX11_init 133 = .ok (.invokespecial 50, 3) := by decide +kernel
theorem dX11_init_136 : decode cX11_init 136 = .ok (.putfield 53, 3) := by decide +kernel
theorem dX11_init_139 : decode cX11_init 139 = .ok (.aload_n 0, 1) := by decide +kernel
theorem dX11_init_140 : decode cX11_init 140 = .ok (.new 57, 3) := by decide +kernel
theorem dX11_init_143 : decode cX11_init 143 = .ok (.dup, 1) := by decide +kernel
theorem dX11_init_144 : decode cX11_init 144 = .ok (.invokespecial 59, 3) := by decide +kernel
theorem dX11_init_147 : decode cX11_init 147 = .ok (.putfield 60, 3) := by decide +kernel
theorem dX11_init_150 : decode cX11_init 150 = .ok (.aload_n 0, 1) := by decide +kernel
theorem dX11_init_151 : decode cX11_init 151 = .ok (.new 64, 3) := by decide +kernel
theorem dX11_init_154 : decode cX11_init 154 = .ok (.dup, 1) := by decide +kernel
theorem dX11_init_155 : decode cX11_init 155 = .ok (.aload_n 0, 1) := by decide +kernel
theorem dX11_init_156 : decode cX11_init 156 = .ok (.getfield 60, 3) := by decide +kernel
theorem dX11_init_159 : decode cX11_init 159 = .ok (.new 47, 3) := by decide +kernel
theorem dX11_init_162 : decode cX11_init 162 = .ok (.dup, 1) := by decide +kernel
theorem dX11_init_163 : decode cX11_init 163 = .ok (.aload_n 1, 1) := by decide +kernel
theorem dX11_init_164 : decode cX11_init 164 = .ok (.invokespecial 49, 3) := by decide +kernel
theorem dX11_init_167 : decode cX11_init 167 = .ok (.invokespecial 66, 3) := by decide +kernel
theorem dX11_init_170 : decode cX11_init 170 = .ok (.putfield 69, 3) := by decide +kernel
theorem dX11_init_173 : decode cX11_init 173 = .ok (.aload_n 0, 1) := by decide +kernel
theorem dX11_init_174 : decode cX11_init 174 = .ok (.iconst 3, 1) := by decide +kernel
theorem dX11_init_175 : decode cX11_init 175 = .ok (.newarray .int, 2) := by decide +kernel
theorem dX11_init_177 : decode cX11_init 177 = .ok (.putfield 73, 3) := by decide +kernel
theorem dX11_init_180 : decode cX11_init 180 = .ok (.aload_n 0, 1) := by decide +kernel
theorem dX11_init_181 : decode cX11_init 181 = .ok (.lconst 0, 1) := by decide +kernel
theorem dX11_init_182 : decode cX11_init 182 = .ok (.putfield 77, 3) := by decide +kernel
theorem dX11_init_185 : decode cX11_init 185 = .ok (.aload_n 0, 1) := by decide +kernel
theorem dX11_init_186 : decode cX11_init 186 = .ok (.lconst 1, 1) := by decide +kernel
theorem dX11_init_187 : decode cX11_init 187 = .ok (.putfield 81, 3) := by decide +kernel
theorem dX11_init_190 : decode cX11_init 190 = .ok (.return_, 1) := by decide +kernel
theorem dX11_ring_0 : decode cX11_ring 0 = .ok (.iload_n 1, 1) := by decide +kernel
theorem dX11_ring_1 : decode cX11_ring 1 = .ok (.iconst 4, 1) := by decide +kernel
theorem dX11_ring_2 : decode cX11_ring 2 = .ok (.bipush 24, 2) := by decide +kernel
theorem dX11_ring_4 : decode cX11_ring 4 = .ok (.invokestatic 84, 3) := by decide +kernel
theorem dX11_ring_7 : decode cX11_ring 7 = .ok (.ifCond .ne 11, 3) := by decide +kernel
theorem dX11_ring_10 : decode cX11_ring 10 = .ok (.aload_n 0, 1) := by decide +kernel
theorem dX11_ring_11 : decode cX11_ring 11 = .ok (.iconst 0, 1) := by decide +kernel
theorem dX11_ring_12 : decode cX11_ring 12 = .ok (.bipush (-2), 2) := by decide +kernel
theorem dX11_ring_14 : decode cX11_ring 14 = .ok (.invokevirtual 88, 3) := by decide +kernel
theorem dX11_ring_17 : decode cX11_ring 17 = .ok (.ireturn, 1) := by decide +kernel
theorem dX11_ring_18 : decode cX11_ring 18 = .ok (.aload_n 0, 1) := by decide +kernel
theorem dX11_ring_19 : decode cX11_ring 19 = .ok (.getfield 27, 3) := by decide +kernel
theorem dX11_ring_22 : decode cX11_ring 22 = .ok (.getfield 43, 3) := by decide +kernel
theorem dX11_ring_25 : decode cX11_ring 25 = .ok (.getfield 92, 3) := by decide +kernel
theorem dX11_ring_28 : decode cX11_ring 28 = .ok (.istore_n 2, 1) := by decide +kernel
theorem dX11_ring_29 : decode cX11_ring 29 = .ok (.aload_n 0, 1) := by decide +kernel
theorem dX11_ring_30 : decode cX11_ring 30 = .ok (.getfield 27, 3) := by decide +kernel
theorem dX11_ring_33 : decode cX11_ring 33 = .ok (.getfield 43, 3) := by decide +kernel
theorem dX11_ring_36 : decode cX11_ring 36 = .ok (.iload_n 1, 1) := by decide +kernel
theorem dX11_ring_37 : decode cX11_ring 37 = .ok (.invokevirtual 96, 3) := by decide +kernel
theorem dX11_ring_40 : decode cX11_ring 40 = .ok (.aload_n 0, 1) := by decide +kernel
theorem dX11_ring_41 : decode cX11_ring 41 = .ok (.getfield 27, 3) := by decide +kernel
theorem dX11_ring_44 : decode cX11_ring 44 = .ok (.invokevirtual 100, 3) := by decide +kernel
theorem dX11_ring_47 : decode cX11_ring 47 = .ok (.iload_n 2, 1) := by decide +kernel
theorem dX11_ring_48 : decode cX11_ring 48 = .ok (.ireturn, 1) := by decide +kernel
theorem dX11_step_0 : decode cX11_step 0 = .ok (.iload_n 1, 1) := by decide +kernel
theorem dX11_step_1 : decode cX11_step 1 = .ok (.invokestatic 103, 3) := by decide +kernel
theorem dX11_step_4 : decode cX11_step 4 = .ok (.ifCond .eq 13, 3) := by decide +kernel
theorem dX11_step_7 : decode cX11_step 7 = .ok (.iload_n 2, 1) := by decide +kernel
theorem dX11_step_8 : decode cX11_step 8 = .ok (.iconst 0, 1) := by decide +kernel
theorem dX11_step_9 : decode cX11_step 9 = .ok (.bipush 9, 2) := by decide +kernel
theorem dX11_step_11 : decode cX11_step 11 = .ok (.invokestatic 84, 3) := by decide +kernel
theorem dX11_step_14 : decode cX11_step 14 = .ok (.ifCond .ne 11, 3) := by decide +kernel
theorem dX11_step_17 : decode cX11_step 17 = .ok (.aload_n 0, 1) := by decide +kernel
theorem dX11_step_18 : decode cX11_step 18 = .ok (.iconst 0, 1) := by decide +kernel
theorem dX11_step_19 : decode cX11_step 19 = .ok (.bipush (-2), 2) := by decide +kernel
theorem dX11_step_21 : decode cX11_step 21 = .ok (.invokevirtual 88, 3) := by decide +kernel
theorem dX11_step_24 : decode cX11_step 24 = .ok (.ireturn, 1) := by decide +kernel
theorem dX11_step_25 : decode cX11_step 25 = .ok (.aload_n 0, 1) := by decide +kernel
theorem dX11_step_26 : decode cX11_step 26 = .ok (.getfield 27, 3) := by decide +kernel
theorem dX11_step_29 : decode cX11_step 29 = .ok (.getfield 43, 3) := by decide +kernel
theorem dX11_step_32 : decode cX11_step 32 = .ok (.getfield 107, 3) := by decide +kernel
theorem dX11_step_35 : decode cX11_step 35 = .ok (.iload_n 1, 1) := by decide +kernel
theorem dX11_step_36 : decode cX11_step 36 = .ok (.iaload, 1) := by decide +kernel
theorem dX11_step_37 : decode cX11_step 37 = .ok (.istore_n 3, 1) := by decide +kernel
theorem dX11_step_38 : decode cX11_step 38 = .ok (.aload_n 0, 1) := by decide +kernel
theorem dX11_step_39 : decode cX11_step 39 = .ok (.getfield 27, 3) := by decide +kernel
theorem dX11_step_42 : decode cX11_step 42 = .ok (.getfield 43, 3) := by decide +kernel
theorem dX11_step_45 : decode cX11_step 45 = .ok (.getfield 107, 3) := by decide +kernel
theorem dX11_step_48 : decode cX11_step 48 = .ok (.iload_n 1, 1) := by decide +kernel
theorem dX11_step_49 : decode cX11_step 49 = .ok (.iload_n 2, 1) := by decide +kernel
theorem dX11_step_50 : decode cX11_step 50 = .ok (.iastore, 1) := by decide +kernel
theorem dX11_step_51 : decode cX11_step 51 = .ok (.iload_n 3, 1) := by decide +kernel
theorem dX11_step_52 : decode cX11_step 52 = .ok (.ireturn, 1) := by decide +kernel
theorem dX11_lumps_0 : decode cX11_lumps 0 = .ok (.iload_n 1, 1) := by decide +kernel
theorem dX11_lumps_1 : decode cX11_lumps 1 = .ok (.invokestatic 103, 3) := by decide +kernel
theorem dX11_lumps_4 : decode cX11_lumps 4 = .ok (.ifCond .eq 22, 3) := by decide +kernel
theorem dX11_lumps_7 : decode cX11_lumps 7 = .ok (.aload_n 0, 1) := by decide +kernel
theorem dX11_lumps_8 : decode cX11_lumps 8 = .ok (.iload_n 2, 1) := by decide +kernel
theorem dX11_lumps_9 : decode cX11_lumps 9 = .ok (.invokevirtual 110, 3) := by decide +kernel
theorem dX11_lumps_12 : decode cX11_lumps 12 = .ok (.ifCond .eq 14, 3) := by decide +kernel
theorem dX11_lumps_15 : decode cX11_lumps 15 = .ok (.iload_n 3, 1) := by decide +kernel
theorem dX11_lumps_16 : decode cX11_lumps 16 = .ok (.iconst 0, 1) := by decide +kernel
theorem dX11_lumps_17 : decode cX11_lumps 17 = .ok (.sipush 999, 3) := by decide +kernel
theorem dX11_lumps_20 : decode cX11_lumps 20 = .ok (.invokestatic 84, 3) := by decide +kernel
theorem dX11_lumps_23 : decode cX11_lumps 23 = .ok (.ifCond .ne 11, 3) := by decide +kernel
theorem dX11_lumps_26 : decode cX11_lumps 26 = .ok (.aload_n 0, 1) := by decide +kernel
theorem dX11_lumps_27 : decode cX11_lumps 27 = .ok (.iconst 0, 1) := by decide +kernel
theorem dX11_lumps_28 : decode cX11_lumps 28 = .ok (.bipush (-2), 2) := by decide +kernel
theorem dX11_lumps_30 : decode cX11_lumps 30 = .ok (.invokevirtual 88, 3) := by decide +kernel
theorem dX11_lumps_33 : decode cX11_lumps 33 = .ok (.ireturn, 1) := by decide +kernel
theorem dX11_lumps_34 : decode cX11_lumps 34 = .ok (.aload_n 0, 1) := by decide +kernel
theorem dX11_lumps_35 : decode cX11_lumps 35 = .ok (.getfield 27, 3) := by decide +kernel
theorem dX11_lumps_38 : decode cX11_lumps 38 = .ok (.getfield 43, 3) := by decide +kernel
theorem dX11_lumps_41 : decode cX11_lumps 41 = .ok (.iload_n 1, 1) := by decide +kernel
theorem dX11_lumps_42 : decode cX11_lumps 42 = .ok (.iload_n 2, 1) := by decide +kernel
theorem dX11_lumps_43 : decode cX11_lumps 43 = .ok (.invokevirtual 113, 3) := by decide +kernel
theorem dX11_lumps_46 : decode cX11_lumps 46 = .ok (.istore 4, 2) := by decide +kernel
theorem dX11_lumps_48 : decode cX11_lumps 48 = .ok (.aload_n 0, 1) := by decide +kernel
theorem dX11_lumps_49 : decode cX11_lumps 49 = .ok (.getfield 27, 3) := by decide +kernel
theorem dX11_lumps_52 : decode cX11_lumps 52 = .ok (.getfield 43, 3) := by decide +kernel
theorem dX11_lumps_55 : decode cX11_lumps 55 = .ok (.iload_n 1, 1) := by decide +kernel
theorem dX11_lumps_56 : decode cX11_lumps 56 = .ok (.iload_n 2, 1) := by decide +kernel
theorem dX11_lumps_57 : decode cX11_lumps 57 = .ok (.iload_n 3, 1) := by decide +kernel
theorem dX11_lumps_58 : decode cX11_lumps 58 = .ok (.invokevirtual 116, 3) := by decide +kernel
theorem dX11_lumps_61 : decode cX11_lumps 61 = .ok (.iload 4, 2) := by decide +kernel
theorem dX11_lumps_63 : decode cX11_lumps 63 = .ok (.ireturn, 1) := by decide +kernel
theorem dX11_moon_0 : decode cX11_moon 0 = .ok (.iload_n 1, 1) := by decide +kernel
theorem dX11_moon_1 : decode cX11_moon 1 = .ok (.iconst 0, 1) := by decide +kernel
theorem dX11_moon_2 : decode cX11_moon 2 = .ok (.iconst 4, 1) := by decide +kernel
theorem dX11_moon_3 : decode cX11_moon 3 = .ok (.invokestatic 84, 3) := by decide +kernel
theorem dX11_moon_6 : decode cX11_moon 6 = .ok (.ifCond .eq 31, 3) := by decide +kernel
theorem dX11_moon_9 : decode cX11_moon 9 = .ok (.iload_n 2, 1) := by decide +kernel
theorem dX11_moon_10 : decode cX11_moon 10 = .ok (.iconst 0, 1) := by decide +kernel
theorem dX11_moon_11 : decode cX11_moon 11 = .ok (.iconst 5, 1) := by decide +kernel
theorem dX11_moon_12 : decode cX11_moon 12 = .ok (.invokestatic 84, 3) := by decide +kernel
theorem dX11_moon_15 : decode cX11_moon 15 = .ok (.ifCond .eq 22, 3) := by decide +kernel
theorem dX11_moon_18 : decode cX11_moon 18 = .ok (.aload_n 0, 1) := by decide +kernel
theorem dX11_moon_19 : decode cX11_moon 19 = .ok (.iload_n 3, 1) := by decide +kernel
theorem dX11_moon_20 : decode cX11_moon 20 = .ok (.invokevirtual 110, 3) := by decide +kernel
theorem dX11_moon_23 : decode cX11_moon 23 = .ok (.ifCond .eq 14, 3) := by decide +kernel
theorem dX11_moon_26 : decode cX11_moon 26 = .ok (.iload 4, 2) := by decide +kernel
theorem dX11_moon_28 : decode cX11_moon 28 = .ok (.iconst 0, 1) := by decide +kernel
theorem dX11_moon_29 : decode cX11_moon 29 = .ok (.bipush 9, 2) := by decide +kernel
theorem dX11_moon_31 : decode cX11_moon 31 = .ok (.invokestatic 84, 3) := by decide +kernel
theorem dX11_moon_34 : decode cX11_moon 34 = .ok (.ifCond .ne 11, 3) := by decide +kernel
theorem dX11_moon_37 : decode cX11_moon 37 = .ok (.aload_n 0, 1) := by decide +kernel
theorem dX11_moon_38 : decode cX11_moon 38 = .ok (.iconst 0, 1) := by decide +kernel
theorem dX11_moon_39 : decode cX11_moon 39 = .ok (.bipush (-2), 2) := by decide +kernel
theorem dX11_moon_41 : decode cX11_moon 41 = .ok (.invokevirtual 88, 3) := by decide +kernel
theorem dX11_moon_44 : decode cX11_moon 44 = .ok (.ireturn, 1) := by decide +kernel
theorem dX11_moon_45 : decode cX11_moon 45 = .ok (.aload_n 0, 1) := by decide +kernel
theorem dX11_moon_46 : decode cX11_moon 46 = .ok (.getfield 27, 3) := by decide +kernel
theorem dX11_moon_49 : decode cX11_moon 49 = .ok (.getfield 43, 3) := by decide +kernel
theorem dX11_moon_52 : decode cX11_moon 52 = .ok (.getfield 120, 3) := by decide +kernel
theorem dX11_moon_55 : decode cX11_moon 55 = .ok (.iconst 4, 1) := by decide +kernel
theorem dX11_moon_56 : decode cX11_moon 56 = .ok (.if_icmp .lt 11, 3) := by decide +kernel
theorem dX11_moon_59 : decode cX11_moon 59 = .ok (.aload_n 0, 1) := by decide +kernel
theorem dX11_moon_60 : decode cX11_moon 60 = .ok (.iconst 2, 1) := by decide +kernel
theorem dX11_moon_61 : decode cX11_moon 61 = .ok (.bipush (-4), 2) := by decide +kernel
theorem dX11_moon_63 : decode cX11_moon 63 = .ok (.invokevirtual 88, 3) := by decide +kernel
theorem dX11_moon_66 : decode cX11_moon 66 = .ok (.ireturn, 1) := by decide +kernel
theorem dX11_moon_67 : decode cX11_moon 67 = .ok (.aload_n 0, 1) := by decide +kernel
theorem dX11_moon_68 : decode cX11_moon 68 = .ok (.getfield 27, 3) := by decide +kernel
theorem dX11_moon_71 : decode cX11_moon 71 = .ok (.getfield 43, 3) := by decide +kernel
theorem dX11_moon_74 : decode cX11_moon 74 = .ok (.iload_n 1, 1) := by decide +kernel
theorem dX11_moon_75 : decode cX11_moon 75 = .ok (.iload_n 2, 1) := by decide +kernel
theorem dX11_moon_76 : decode cX11_moon 76 = .ok (.iload_n 3, 1) := by decide +kernel
theorem dX11_moon_77 : decode cX11_moon 77 = .ok (.iload 4, 2) := by decide +kernel
theorem dX11_moon_79 : decode cX11_moon 79 = .ok (.invokevirtual 123, 3) := by decide +kernel
theorem dX11_moon_82 : decode cX11_moon 82 = .ok (.ireturn, 1) := by decide +kernel
theorem dX11_type_0 : decode cX11_type 0 = .ok (.iload_n 3, 1) := by decide +kernel
theorem dX11_type_1 : decode cX11_type 1 = .ok (.iconst 1, 1) := by decide +kernel
theorem dX11_type_2 : decode cX11_type 2 = .ok (.bipush 8, 2) := by decide +kernel
theorem dX11_type_4 : decode cX11_type 4 = .ok (.invokestatic 84, 3) := by decide +kernel
theorem dX11_type_7 : decode cX11_type 7 = .ok (.ifCond .ne 11, 3) := by decide +kernel
theorem dX11_type_10 : decode cX11_type 10 = .ok (.aload_n 0, 1) := by decide +kernel
theorem dX11_type_11 : decode cX11_type 11 = .ok (.iconst 0, 1) := by decide +kernel
theorem dX11_type_12 : decode cX11_type 12 = .ok (.bipush (-2), 2) := by decide +kernel
theorem dX11_type_14 : decode cX11_type 14 = .ok (.invokevirtual 88, 3) := by decide +kernel
theorem dX11_type_17 : decode cX11_type 17 = .ok (.ireturn, 1) := by decide +kernel
theorem dX11_type_18 : decode cX11_type 18 = .ok (.aload_n 0, 1) := by decide +kernel
theorem dX11_type_19 : decode cX11_type 19 = .ok (.getfield 60, 3) := by decide +kernel
theorem dX11_type_22 : decode cX11_type 22 = .ok (.getfield 127, 3) := by decide +kernel
theorem dX11_type_25 : decode cX11_type 25 = .ok (.iload_n 3, 1) := by decide +kernel
theorem dX11_type_26 : decode cX11_type 26 = .ok (.iadd, 1) := by decide +kernel
theorem dX11_type_27 : decode cX11_type 27 = .ok (.sipush 250, 3) := by decide +kernel
theorem dX11_type_30 : decode cX11_type 30 = .ok (.if_icmp .le 11, 3) := by decide +kernel
theorem dX11_type_33 : decode cX11_type 33 = .ok (.aload_n 0, 1) := by decide +kernel
theorem dX11_type_34 : decode cX11_type 34 = .ok (.iconst 2, 1) := by decide +kernel
theorem dX11_type_35 : decode cX11_type 35 = .ok (.bipush (-4), 2) := by decide +kernel
theorem dX11_type_37 : decode cX11_type 37 = .ok (.invokevirtual 88, 3) := by decide +kernel
theorem dX11_type_40 : decode cX11_type 40 = .ok (.ireturn, 1) := by decide +kernel
theorem dX11_type_41 : decode cX11_type 41 = .ok (.aload_n 0, 1) := by decide +kernel
theorem dX11_type_42 : decode cX11_type 42 = .ok (.getfield 60, 3) := by decide +kernel
theorem dX11_type_45 : decode cX11_type 45 = .ok (.lload_n 1, 1) := by decide +kernel
theorem dX11_type_46 : decode cX11_type 46 = .ok (.iload_n 3, 1) := by decide +kernel
theorem dX11_type_47 : decode cX11_type 47 = .ok (.invokevirtual 130, 3) := by decide +kernel
theorem dX11_type_50 : decode cX11_type 50 = .ok (.aload_n 0, 1) := by decide +kernel
theorem dX11_type_51 : decode cX11_type 51 = .ok (.getfield 60, 3) := by decide +kernel
theorem dX11_type_54 : decode cX11_type 54 = .ok (.getfield 127, 3) := by decide +kernel
theorem dX11_type_57 : decode cX11_type 57 = .ok (.ireturn, 1) := by decide +kernel
theorem dX11_clear_0 : decode cX11_clear 0 = .ok (.aload_n 0, 1) := by decide +kernel
theorem dX11_clear_1 : decode cX11_clear 1 = .ok (.getfield 60, 3) := by decide +kernel
theorem dX11_clear_4 : decode cX11_clear 4 = .ok (.getfield 127, 3) := by decide +kernel
theorem dX11_clear_7 : decode cX11_clear 7 = .ok (.istore_n 1, 1) := by decide +kernel
theorem dX11_clear_8 : decode cX11_clear 8 = .ok (.aload_n 0, 1) := by decide +kernel
theorem dX11_clear_9 : decode cX11_clear 9 = .ok (.getfield 60, 3) := by decide +kernel
theorem dX11_clear_12 : decode cX11_clear 12 = .ok (.iconst 0, 1) := by decide +kernel
theorem dX11_clear_13 : decode cX11_clear 13 = .ok (.putfield 127, 3) := by decide +kernel
theorem dX11_clear_16 : decode cX11_clear 16 = .ok (.iload_n 1, 1) := by decide +kernel
theorem dX11_clear_17 : decode cX11_clear 17 = .ok (.ireturn, 1) := by decide +kernel
theorem dX11_read_0 : decode cX11_read 0 = .ok (.aload_n 0, 1) := by decide +kernel
theorem dX11_read_1 : decode cX11_read 1 = .ok (.getfield 69, 3) := by decide +kernel
theorem dX11_read_4 : decode cX11_read 4 = .ok (.invokevirtual 134, 3) := by decide +kernel
theorem dX11_read_7 : decode cX11_read 7 = .ok (.istore_n 1, 1) := by decide +kernel
theorem dX11_read_8 : decode cX11_read 8 = .ok (.iload_n 1, 1) := by decide +kernel
theorem dX11_read_9 : decode cX11_read 9 = .ok (.ifCond .lt 27, 3) := by decide +kernel
theorem dX11_read_12 : decode cX11_read 12 = .ok (.aload_n 0, 1) := by decide +kernel
theorem dX11_read_13 : decode cX11_read 13 = .ok (.getfield 27, 3) := by decide +kernel
theorem dX11_read_16 : decode cX11_read 16 = .ok (.getfield 43, 3) := by decide +kernel
theorem dX11_read_19 : decode cX11_read 19 = .ok (.aload_n 0, 1) := by decide +kernel
theorem dX11_read_20 : decode cX11_read 20 = .ok (.getfield 69, 3) := by decide +kernel
theorem dX11_read_23 : decode cX11_read 23 = .ok (.getfield 138, 3) := by decide +kernel
theorem dX11_read_26 : decode cX11_read 26 = .ok (.invokevirtual 141, 3) := by decide +kernel
theorem dX11_read_29 : decode cX11_read 29 = .ok (.aload_n 0, 1) := by decide +kernel
theorem dX11_read_30 : decode cX11_read 30 = .ok (.getfield 27, 3) := by decide +kernel
theorem dX11_read_33 : decode cX11_read 33 = .ok (.invokevirtual 100, 3) := by decide +kernel
theorem dX11_read_36 : decode cX11_read 36 = .ok (.iload_n 1, 1) := by decide +kernel
theorem dX11_read_37 : decode cX11_read 37 = .ok (.ireturn, 1) := by decide +kernel
theorem dX11_round_0 : decode cX11_round 0 = .ok (.aload_n 0, 1) := by decide +kernel
theorem dX11_round_1 : decode cX11_round 1 = .ok (.getfield 27, 3) := by decide +kernel
theorem dX11_round_4 : decode cX11_round 4 = .ok (.invokevirtual 145, 3) := by decide +kernel
theorem dX11_round_7 : decode cX11_round 7 = .ok (.ireturn, 1) := by decide +kernel
theorem dX11_undo_0 : decode cX11_undo 0 = .ok (.aload_n 0, 1) := by decide +kernel
theorem dX11_undo_1 : decode cX11_undo 1 = .ok (.getfield 27, 3) := by decide +kernel
theorem dX11_undo_4 : decode cX11_undo 4 = .ok (.getfield 148, 3) := by decide +kernel
theorem dX11_undo_7 : decode cX11_undo 7 = .ok (.iconst 1, 1) := by decide +kernel
theorem dX11_undo_8 : decode cX11_undo 8 = .ok (.if_icmp .ge 11, 3) := by decide +kernel
theorem dX11_undo_11 : decode cX11_undo 11 = .ok (.aload_n 0, 1) := by decide +kernel
theorem dX11_undo_12 : decode cX11_undo 12 = .ok (.iconst 1, 1) := by decide +kernel
theorem dX11_undo_13 : decode cX11_undo 13 = .ok (.bipush (-3), 2) := by decide +kernel
theorem dX11_undo_15 : decode cX11_undo 15 = .ok (.invokevirtual 88, 3) := by decide +kernel
theorem dX11_undo_18 : decode cX11_undo 18 = .ok (.ireturn, 1) := by decide +kernel
theorem dX11_undo_19 : decode cX11_undo 19 = .ok (.aload_n 0, 1) := by decide +kernel
theorem dX11_undo_20 : decode cX11_undo 20 = .ok (.getfield 27, 3) := by decide +kernel
theorem dX11_undo_23 : decode cX11_undo 23 = .ok (.invokevirtual 151, 3) := by decide +kernel
theorem dX11_undo_26 : decode cX11_undo 26 = .ok (.iconst 1, 1) := by decide +kernel
theorem dX11_undo_27 : decode cX11_undo 27 = .ok (.ireturn, 1) := by decide +kernel
theorem dX11_there_0 : decode cX11_there 0 = .ok (.iload_n 1, 1) := by decide +kernel
theorem dX11_there_1 : decode cX11_there 1 = .ok (.invokestatic 103, 3) := by decide +kernel
theorem dX11_there_4 : decode cX11_there 4 = .ok (.ifCond .eq 16, 3) := by decide +kernel
theorem dX11_there_7 : decode cX11_there 7 = .ok (.iload_n 2, 1) := by decide +kernel
theorem dX11_there_8 : decode cX11_there 8 = .ok (.iconst (-1), 1) := by decide +kernel
theorem dX11_there_9 : decode cX11_there 9 = .ok (.if_icmp .eq 19, 3) := by decide +kernel
theorem dX11_there_12 : decode cX11_there 12 = .ok (.aload_n 0, 1) := by decide +kernel
theorem dX11_there_13 : decode cX11_there 13 = .ok (.iload_n 2, 1) := by decide +kernel
theorem dX11_there_14 : decode cX11_there 14 = .ok (.invokevirtual 110, 3) := by decide +kernel
theorem dX11_there_17 : decode cX11_there 17 = .ok (.ifCond .ne 11, 3) := by decide +kernel
theorem dX11_there_20 : decode cX11_there 20 = .ok (.aload_n 0, 1) := by decide +kernel
theorem dX11_there_21 : decode cX11_there 21 = .ok (.iconst 0, 1) := by decide +kernel
theorem dX11_there_22 : decode cX11_there 22 = .ok (.bipush (-10), 2) := by decide +kernel
theorem dX11_there_24 : decode cX11_there 24 = .ok (.invokevirtual 88, 3) := by decide +kernel
theorem dX11_there_27 : decode cX11_there 27 = .ok (.ireturn, 1) := by decide +kernel
theorem dX11_there_28 : decode cX11_there 28 = .ok (.iload_n 2, 1) := by decide +kernel
theorem dX11_there_29 : decode cX11_there 29 = .ok (.iconst (-1), 1) := by decide +kernel
theorem dX11_there_30 : decode cX11_there 30 = .ok (.if_icmp .ne 17, 3) := by decide +kernel
theorem dX11_there_33 : decode cX11_there 33 = .ok (.aload_n 0, 1) := by decide +kernel
theorem dX11_there_34 : decode cX11_there 34 = .ok (.getfield 27, 3) := by decide +kernel
theorem dX11_there_37 : decode cX11_there 37 = .ok (.getfield 43, 3) := by decide +kernel
theorem dX11_there_40 : decode cX11_there 40 = .ok (.iload_n 1, 1) := by decide +kernel
theorem dX11_there_41 : decode cX11_there 41 = .ok (.invokevirtual 154, 3) := by decide +kernel
theorem dX11_there_44 : decode cX11_there 44 = .ok (.goto 15, 3) := by decide +kernel
theorem dX11_there_47 : decode cX11_there 47 = .ok (.aload_n 0, 1) := by decide +kernel
theorem dX11_there_48 : decode cX11_there 48 = .ok (.getfield 27, 3) := by decide +kernel
theorem dX11_there_51 : decode cX11_there 51 = .ok (.getfield 43, 3) := by decide +kernel
theorem dX11_there_54 : decode cX11_there 54 = .ok (.iload_n 1, 1) := by decide +kernel
theorem dX11_there_55 : decode cX11_there 55 = .ok (.iload_n 2, 1) := by decide +kernel
theorem dX11_there_56 : decode cX11_there 56 = .ok (.invokevirtual 113, 3) := by decide +kernel
theorem dX11_there_59 : decode cX11_there 59 = .ok (.ireturn, 1) := by decide +kernel
theorem dX11_about_0 : decode cX11_about 0 = .ok (.aload_n 0, 1) := by decide +kernel
theorem dX11_about_1 : decode cX11_about 1 = .ok (.iload_n 1, 1) := by decide +kernel
theorem dX11_about_2 : decode cX11_about 2 = .ok (.invokevirtual 158, 3) := by decide +kernel
theorem dX11_about_5 : decode cX11_about 5 = .ok (.ifCond .eq 12, 3) := by decide +kernel
theorem dX11_about_8 : decode cX11_about 8 = .ok (.iload_n 2, 1) := by decide +kernel
theorem dX11_about_9 : decode cX11_about 9 = .ok (.iconst 0, 1) := by decide +kernel
theorem dX11_about_10 : decode cX11_about 10 = .ok (.iconst 3, 1) := by decide +kernel
theorem dX11_about_11 : decode cX11_about 11 = .ok (.invokestatic 84, 3) := by decide +kernel
theorem dX11_about_14 : decode cX11_about 14 = .ok (.ifCond .ne 11, 3) := by decide +kernel
theorem dX11_about_17 : decode cX11_about 17 = .ok (.aload_n 0, 1) := by decide +kernel
theorem dX11_about_18 : decode cX11_about 18 = .ok (.iconst 0, 1) := by decide +kernel
theorem dX11_about_19 : decode cX11_about 19 = .ok (.bipush (-2), 2) := by decide +kernel
theorem dX11_about_21 : decode cX11_about 21 = .ok (.invokevirtual 88, 3) := by decide +kernel
theorem dX11_about_24 : decode cX11_about 24 = .ok (.ireturn, 1) := by decide +kernel
theorem dX11_about_25 : decode cX11_about 25 = .ok (.aload_n 0, 1) := by decide +kernel
theorem dX11_about_26 : decode cX11_about 26 = .ok (.getfield 27, 3) := by decide +kernel
theorem dX11_about_29 : decode cX11_about 29 = .ok (.getfield 43, 3) := by decide +kernel
theorem dX11_about_32 : decode cX11_about 32 = .ok (.iload_n 1, 1) := by decide +kernel
theorem dX11_about_33 : decode cX11_about 33 = .ok (.iload_n 2, 1) := by decide +kernel
theorem dX11_about_34 : decode cX11_about 34 = .ok (.invokevirtual 161, 3) := by decide +kernel
theorem dX11_about_37 : decode cX11_about 37 = .ok (.ireturn, 1) := by decide +kernel
theorem dX11_where_0 : decode cX11_where 0 = .ok (.iload_n 1, 1) := by decide +kernel
theorem dX11_where_1 : decode cX11_where 1 = .ok (.invokestatic 103, 3) := by decide +kernel
theorem dX11_where_4 : decode cX11_where 4 = .ok (.ifCond .eq 28, 3) := by decide +kernel
theorem dX11_where_7 : decode cX11_where 7 = .ok (.aload_n 0, 1) := by decide +kernel
theorem dX11_where_8 : decode cX11_where 8 = .ok (.iload_n 2, 1) := by decide +kernel
theorem dX11_where_9 : decode cX11_where 9 = .ok (.invokevirtual 110, 3) := by decide +kernel
theorem dX11_where_12 : decode cX11_where 12 = .ok (.ifCond .eq 20, 3) := by decide +kernel
theorem dX11_where_15 : decode cX11_where 15 = .ok (.iload_n 3, 1) := by decide +kernel
theorem dX11_where_16 : decode cX11_where 16 = .ok (.invokestatic 164, 3) := by decide +kernel
theorem dX11_where_19 : decode cX11_where 19 = .ok (.ifCond .eq 13, 3) := by decide +kernel
theorem dX11_where_22 : decode cX11_where 22 = .ok (.iload 4, 2) := by decide +kernel
theorem dX11_where_24 : decode cX11_where 24 = .ok (.iconst 0, 1) := by decide +kernel
theorem dX11_where_25 : decode cX11_where 25 = .ok (.iconst 2, 1) := by decide +kernel
theorem dX11_where_26 : decode cX11_where 26 = .ok (.invokestatic 84, 3) := by decide +kernel
theorem dX11_where_29 : decode cX11_where 29 = .ok (.ifCond .ne 11, 3) := by decide +kernel
theorem dX11_where_32 : decode cX11_where 32 = .ok (.aload_n 0, 1) := by decide +kernel
theorem dX11_where_33 : decode cX11_where 33 = .ok (.iconst 0, 1) := by decide +kernel
theorem dX11_where_34 : decode cX11_where 34 = .ok (.bipush (-10), 2) := by decide +kernel
theorem dX11_where_36 : decode cX11_where 36 = .ok (.invokevirtual 88, 3) := by decide +kernel
theorem dX11_where_39 : decode cX11_where 39 = .ok (.ireturn, 1) := by decide +kernel
theorem dX11_where_40 : decode cX11_where 40 = .ok (.aload_n 0, 1) := by decide +kernel
theorem dX11_where_41 : decode cX11_where 41 = .ok (.getfield 53, 3) := by decide +kernel
theorem dX11_where_44 : decode cX11_where 44 = .ok (.iload_n 1, 1) := by decide +kernel
theorem dX11_where_45 : decode cX11_where 45 = .ok (.iload_n 2, 1) := by decide +kernel
theorem dX11_where_46 : decode cX11_where 46 = .ok (.iload_n 3, 1) := by decide +kernel
theorem dX11_where_47 : decode cX11_where 47 = .ok (.invokevirtual 167, 3) := by decide +kernel
theorem dX11_where_50 : decode cX11_where 50 = .ok (.astore 5, 2) := by decide +kernel
theorem dX11_where_52 : decode cX11_where 52 = .ok (.iload 4, 2) := by decide +kernel
theorem dX11_where_54 : decode cX11_where 54 = .ok (.ifCond .ne 21, 3) := by decide +kernel
theorem dX11_where_57 : decode cX11_where 57 = .ok (.aload 5, 2) := by decide +kernel
theorem dX11_where_59 : decode cX11_where 59 = .ok (.invokevirtual 171, 3) := by decide +kernel
theorem dX11_where_62 : decode cX11_where 62 = .ok (.ifCond .eq 7, 3) := by decide +kernel
theorem dX11_where_65 : decode cX11_where 65 = .ok (.iconst (-1), 1) := by decide +kernel
theorem dX11_where_66 : decode cX11_where 66 = .ok (.goto 8, 3) := by decide +kernel
theorem dX11_where_69 : decode cX11_where 69 = .ok (.aload 5, 2) := by decide +kernel
theorem dX11_where_71 : decode cX11_where 71 = .ok (.getfield 177, 3) := by decide +kernel
theorem dX11_where_74 : decode cX11_where 74 = .ok (.ireturn, 1) := by decide +kernel
theorem dX11_where_75 : decode cX11_where 75 = .ok (.iload 4, 2) := by decide +kernel
theorem dX11_where_77 : decode cX11_where 77 = .ok (.iconst 1, 1) := by decide +kernel
theorem dX11_where_78 : decode cX11_where 78 = .ok (.if_icmp .ne 11, 3) := by decide +kernel
theorem dX11_where_81 : decode cX11_where 81 = .ok (.aload 5, 2) := by decide +kernel
theorem dX11_where_83 : decode cX11_where 83 = .ok (.getfield 180, 3) := by decide +kernel
theorem dX11_where_86 : decode cX11_where 86 = .ok (.goto 8, 3) := by decide +kernel
theorem dX11_where_89 : decode cX11_where 89 = .ok (.aload 5, 2) := by decide +kernel
theorem dX11_where_91 : decode cX11_where 91 = .ok (.getfield 183, 3) := by decide +kernel
theorem dX11_where_94 : decode cX11_where 94 = .ok (.ireturn, 1) := by decide +kernel
theorem dX11_loss_0 : decode cX11_loss 0 = .ok (.iload_n 1, 1) := by decide +kernel
theorem dX11_loss_1 : decode cX11_loss 1 = .ok (.invokestatic 164, 3) := by decide +kernel
theorem dX11_loss_4 : decode cX11_loss 4 = .ok (.ifCond .ne 11, 3) := by decide +kernel
theorem dX11_loss_7 : decode cX11_loss 7 = .ok (.aload_n 0, 1) := by decide +kernel
theorem dX11_loss_8 : decode cX11_loss 8 = .ok (.iconst 0, 1) := by decide +kernel
theorem dX11_loss_9 : decode cX11_loss 9 = .ok (.bipush (-2), 2) := by decide +kernel
theorem dX11_loss_11 : decode cX11_loss 11 = .ok (.invokevirtual 88, 3) := by decide +kernel
theorem dX11_loss_14 : decode cX11_loss 14 = .ok (.ireturn, 1) := by decide +kernel
theorem dX11_loss_15 : decode cX11_loss 15 = .ok (.aload_n 0, 1) := by decide +kernel
theorem dX11_loss_16 : decode cX11_loss 16 = .ok (.getfield 53, 3) := by decide +kernel
theorem dX11_loss_19 : decode cX11_loss 19 = .ok (.iload_n 1, 1) := by decide +kernel
theorem dX11_loss_20 : decode cX11_loss 20 = .ok (.invokevirtual 186, 3) := by decide +kernel
theorem dX11_loss_23 : decode cX11_loss 23 = .ok (.ireturn, 1) := by decide +kernel
theorem dX11_pushes_0 : decode cX11_pushes 0 = .ok (.iload_n 1, 1) := by decide +kernel
theorem dX11_pushes_1 : decode cX11_pushes 1 = .ok (.iconst 0, 1) := by decide +kernel
theorem dX11_pushes_2 : decode cX11_pushes 2 = .ok (.bipush 12, 2) := by decide +kernel
theorem dX11_pushes_4 : decode cX11_pushes 4 = .ok (.invokestatic 84, 3) := by decide +kernel
theorem dX11_pushes_7 : decode cX11_pushes 7 = .ok (.ifCond .ne 11, 3) := by decide +kernel
theorem dX11_pushes_10 : decode cX11_pushes 10 = .ok (.aload_n 0, 1) := by decide +kernel
theorem dX11_pushes_11 : decode cX11_pushes 11 = .ok (.iconst 0, 1) := by decide +kernel
theorem dX11_pushes_12 : decode cX11_pushes 12 = .ok (.bipush (-2), 2) := by decide +kernel
theorem dX11_pushes_14 : decode cX11_pushes 14 = .ok (.invokevirtual 88, 3) := by decide +kernel
theorem dX11_pushes_17 : decode cX11_pushes 17 = .ok (.ireturn, 1) := by decide +kernel
theorem dX11_pushes_18 : decode cX11_pushes 18 = .ok (.aload_n 0, 1) := by decide +kernel
theorem dX11_pushes_19 : decode cX11_pushes 19 = .ok (.getfield 53, 3) := by decide +kernel
theorem dX11_pushes_22 : decode cX11_pushes 22 = .ok (.iload_n 1, 1) := by decide +kernel
theorem dX11_pushes_23 : decode cX11_pushes 23 = .ok (.invokevirtual 189, 3) := by decide +kernel
theorem dX11_pushes_26 : decode cX11_pushes 26 = .ok (.ireturn, 1) := by decide +kernel
theorem dX11_moved_0 : decode cX11_moved 0 = .ok (.aload_n 0, 1) := by decide +kernel
theorem dX11_moved_1 : decode cX11_moved 1 = .ok (.iload_n 1, 1) := by decide +kernel
theorem dX11_moved_2 : decode cX11_moved 2 = .ok (.invokevirtual 158, 3) := by decide +kernel
theorem dX11_moved_5 : decode cX11_moved 5 = .ok (.ifCond .eq 10, 3) := by decide +kernel
theorem dX11_moved_8 : decode cX11_moved 8 = .ok (.iload_n 2, 1) := by decide +kernel
theorem dX11_moved_9 : decode cX11_moved 9 = .ok (.invokestatic 164, 3) := by decide +kernel
theorem dX11_moved_12 : decode cX11_moved 12 = .ok (.ifCond .ne 11, 3) := by decide +kernel
theorem dX11_moved_15 : decode cX11_moved 15 = .ok (.aload_n 0, 1) := by decide +kernel
theorem dX11_moved_16 : decode cX11_moved 16 = .ok (.iconst 0, 1) := by decide +kernel
theorem dX11_moved_17 : decode cX11_moved 17 = .ok (.bipush (-2), 2) := by decide +kernel
theorem dX11_moved_19 : decode cX11_moved 19 = .ok (.invokevirtual 88, 3) := by decide +kernel
theorem dX11_moved_22 : decode cX11_moved 22 = .ok (.ireturn, 1) := by decide +kernel
theorem dX11_moved_23 : decode cX11_moved 23 = .ok (.aload_n 0, 1) := by decide +kernel
theorem dX11_moved_24 : decode cX11_moved 24 = .ok (.getfield 53, 3) := by decide +kernel
theorem dX11_moved_27 : decode cX11_moved 27 = .ok (.iload_n 1, 1) := by decide +kernel
theorem dX11_moved_28 : decode cX11_moved 28 = .ok (.iload_n 2, 1) := by decide +kernel
theorem dX11_moved_29 : decode cX11_moved 29 = .ok (.invokevirtual 192, 3) := by decide +kernel
theorem dX11_moved_32 : decode cX11_moved 32 = .ok (.ireturn, 1) := by decide +kernel
theorem dX11_road_0 : decode cX11_road 0 = .ok (.aload_n 0, 1) := by decide +kernel
theorem dX11_road_1 : decode cX11_road 1 = .ok (.iload_n 1, 1) := by decide +kernel
theorem dX11_road_2 : decode cX11_road 2 = .ok (.invokevirtual 110, 3) := by decide +kernel
theorem dX11_road_5 : decode cX11_road 5 = .ok (.ifCond .eq 19, 3) := by decide +kernel
theorem dX11_road_8 : decode cX11_road 8 = .ok (.iload_n 2, 1) := by decide +kernel
theorem dX11_road_9 : decode cX11_road 9 = .ok (.invokestatic 164, 3) := by decide +kernel
theorem dX11_road_12 : decode cX11_road 12 = .ok (.ifCond .eq 12, 3) := by decide +kernel
theorem dX11_road_15 : decode cX11_road 15 = .ok (.iload_n 3, 1) := by decide +kernel
theorem dX11_road_16 : decode cX11_road 16 = .ok (.iconst 0, 1) := by decide +kernel
theorem dX11_road_17 : decode cX11_road 17 = .ok (.iconst 1, 1) := by decide +kernel
theorem dX11_road_18 : decode cX11_road 18 = .ok (.invokestatic 84, 3) := by decide +kernel
theorem dX11_road_21 : decode cX11_road 21 = .ok (.ifCond .ne 11, 3) := by decide +kernel
theorem dX11_road_24 : decode cX11_road 24 = .ok (.aload_n 0, 1) := by decide +kernel
theorem dX11_road_25 : decode cX11_road 25 = .ok (.iconst 0, 1) := by decide +kernel
theorem dX11_road_26 : decode cX11_road 26 = .ok (.bipush (-10), 2) := by decide +kernel
theorem dX11_road_28 : decode cX11_road 28 = .ok (.invokevirtual 88, 3) := by decide +kernel
theorem dX11_road_31 : decode cX11_road 31 = .ok (.ireturn, 1) := by decide +kernel
theorem dX11_road_32 : decode cX11_road 32 = .ok (.aload_n 0, 1) := by decide +kernel
theorem dX11_road_33 : decode cX11_road 33 = .ok (.getfield 53, 3) := by decide +kernel
theorem dX11_road_36 : decode cX11_road 36 = .ok (.iload_n 1, 1) := by decide +kernel
theorem dX11_road_37 : decode cX11_road 37 = .ok (.iload_n 2, 1) := by decide +kernel
theorem dX11_road_38 : decode cX11_road 38 = .ok (.invokevirtual 195, 3) := by decide +kernel
theorem dX11_road_41 : decode cX11_road 41 = .ok (.istore 4, 2) := by decide +kernel
theorem dX11_road_43 : decode cX11_road 43 = .ok (.iload_n 3, 1) := by decide +kernel
theorem dX11_road_44 : decode cX11_road 44 = .ok (.ifCond .eq 9, 3) := by decide +kernel
theorem dX11_road_47 : decode cX11_road 47 = .ok (.iload 4, 2) := by decide +kernel
theorem dX11_road_49 : decode cX11_road 49 = .ok (.iconst (-1), 1) := by decide +kernel
theorem dX11_road_50 : decode cX11_road 50 = .ok (.if_icmp .ne 6, 3) := by decide +kernel
theorem dX11_road_53 : decode cX11_road 53 = .ok (.iload 4, 2) := by decide +kernel
theorem dX11_road_55 : decode cX11_road 55 = .ok (.ireturn, 1) := by decide +kernel
theorem dX11_road_56 : decode cX11_road 56 = .ok (.aload_n 0, 1) := by decide +kernel
theorem dX11_road_57 : decode cX11_road 57 = .ok (.getfield 53, 3) := by decide +kernel
theorem dX11_road_60 : decode cX11_road 60 = .ok (.iload_n 1, 1) := by decide +kernel
theorem dX11_road_61 : decode cX11_road 61 = .ok (.iload_n 2, 1) := by decide +kernel
theorem dX11_road_62 : decode cX11_road 62 = .ok (.iload 4, 2) := by decide +kernel
theorem dX11_road_64 : decode cX11_road 64 = .ok (.invokevirtual 198, 3) := by decide +kernel
theorem dX11_road_67 : decode cX11_road 67 = .ok (.ireturn, 1) := by decide +kernel
theorem dX11_back_0 : decode cX11_back 0 = .ok (.aload_n 0, 1) := by decide +kernel
theorem dX11_back_1 : decode cX11_back 1 = .ok (.getfield 27, 3) := by decide +kernel
theorem dX11_back_4 : decode cX11_back 4 = .ok (.getfield 43, 3) := by decide +kernel
theorem dX11_back_7 : decode cX11_back 7 = .ok (.invokevirtual 202, 3) := by decide +kernel
theorem dX11_back_10 : decode cX11_back 10 = .ok (.ireturn, 1) := by decide +kernel
theorem dX11_told_0 : decode cX11_told 0 = .ok (.iload_n 1, 1) := by decide +kernel
theorem dX11_told_1 : decode cX11_told 1 = .ok (.invokestatic 103, 3) := by decide +kernel
theorem dX11_told_4 : decode cX11_told 4 = .ok (.ifCond .eq 14, 3) := by decide +kernel
theorem dX11_told_7 : decode cX11_told 7 = .ok (.iload_n 2, 1) := by decide +kernel
theorem dX11_told_8 : decode cX11_told 8 = .ok (.iconst 0, 1) := by decide +kernel
theorem dX11_told_9 : decode cX11_told 9 = .ok (.sipush 9999, 3) := by decide +kernel
theorem dX11_told_12 : decode cX11_told 12 = .ok (.invokestatic 84, 3) := by decide +kernel
theorem dX11_told_15 : decode cX11_told 15 = .ok (.ifCond .ne 11, 3) := by decide +kernel
theorem dX11_told_18 : decode cX11_told 18 = .ok (.aload_n 0, 1) := by decide +kernel
theorem dX11_told_19 : decode cX11_told 19 = .ok (.iconst 0, 1) := by decide +kernel
theorem dX11_told_20 : decode cX11_told 20 = .ok (.bipush (-2), 2) := by decide +kernel
theorem dX11_told_22 : decode cX11_told 22 = .ok (.invokevirtual 88, 3) := by decide +kernel
theorem dX11_told_25 : decode cX11_told 25 = .ok (.ireturn, 1) := by decide +kernel
theorem dX11_told_26 : decode cX11_told 26 = .ok (.aload_n 0, 1) := by decide +kernel
theorem dX11_told_27 : decode cX11_told 27 = .ok (.getfield 27, 3) := by decide +kernel
theorem dX11_told_30 : decode cX11_told 30 = .ok (.getfield 43, 3) := by decide +kernel
theorem dX11_told_33 : decode cX11_told 33 = .ok (.getfield 205, 3) := by decide +kernel
theorem dX11_told_36 : decode cX11_told 36 = .ok (.iload_n 1, 1) := by decide +kernel
theorem dX11_told_37 : decode cX11_told 37 = .ok (.iaload, 1) := by decide +kernel
theorem dX11_told_38 : decode cX11_told 38 = .ok (.istore_n 3, 1) := by decide +kernel
theorem dX11_told_39 : decode cX11_told 39 = .ok (.aload_n 0, 1) := by decide +kernel
theorem dX11_told_40 : decode cX11_told 40 = .ok (.getfield 27, 3) := by decide +kernel
theorem dX11_told_43 : decode cX11_told 43 = .ok (.getfield 43, 3) := by decide +kernel
theorem dX11_told_46 : decode cX11_told 46 = .ok (.getfield 205, 3) := by decide +kernel
theorem dX11_told_49 : decode cX11_told 49 = .ok (.iload_n 1, 1) := by decide +kernel
theorem dX11_told_50 : decode cX11_told 50 = .ok (.iload_n 2, 1) := by decide +kernel
theorem dX11_told_51 : decode cX11_told 51 = .ok (.iastore, 1) := by decide +kernel
theorem dX11_told_52 : decode cX11_told 52 = .ok (.iload_n 3, 1) := by decide +kernel
theorem dX11_told_53 : decode cX11_told 53 = .ok (.ireturn, 1) := by decide +kernel
theorem dX11_taken_0 : decode cX11_taken 0 = .ok (.iload_n 1, 1) := by decide +kernel
theorem dX11_taken_1 : decode cX11_taken 1 = .ok (.invokestatic 164, 3) := by decide +kernel
theorem dX11_taken_4 : decode cX11_taken 4 = .ok (.ifCond .eq 8, 3) := by decide +kernel
theorem dX11_taken_7 : decode cX11_taken 7 = .ok (.iload_n 2, 1) := by decide +kernel
theorem dX11_taken_8 : decode cX11_taken 8 = .ok (.iconst (-1), 1) := by decide +kernel
theorem dX11_taken_9 : decode cX11_taken 9 = .ok (.if_icmp .ge 11, 3) := by decide +kernel
theorem dX11_taken_12 : decode cX11_taken 12 = .ok (.aload_n 0, 1) := by decide +kernel
theorem dX11_taken_13 : decode cX11_taken 13 = .ok (.iconst 0, 1) := by decide +kernel
theorem dX11_taken_14 : decode cX11_taken 14 = .ok (.bipush (-10), 2) := by decide +kernel
theorem dX11_taken_16 : decode cX11_taken 16 = .ok (.invokevirtual 88, 3) := by decide +kernel
theorem dX11_taken_19 : decode cX11_taken 19 = .ok (.ireturn, 1) := by decide +kernel
theorem dX11_taken_20 : decode cX11_taken 20 = .ok (.aload_n 0, 1) := by decide +kernel
theorem dX11_taken_21 : decode cX11_taken 21 = .ok (.getfield 53, 3) := by decide +kernel
theorem dX11_taken_24 : decode cX11_taken 24 = .ok (.iload_n 1, 1) := by decide +kernel
theorem dX11_taken_25 : decode cX11_taken 25 = .ok (.invokevirtual 208, 3) := by decide +kernel
theorem dX11_taken_28 : decode cX11_taken 28 = .ok (.istore_n 3, 1) := by decide +kernel
theorem dX11_taken_29 : decode cX11_taken 29 = .ok (.iload_n 2, 1) := by decide +kernel
theorem dX11_taken_30 : decode cX11_taken 30 = .ok (.iconst (-1), 1) := by decide +kernel
theorem dX11_taken_31 : decode cX11_taken 31 = .ok (.if_icmp .ne 5, 3) := by decide +kernel
theorem dX11_taken_34 : decode cX11_taken 34 = .ok (.iload_n 3, 1) := by decide +kernel
theorem dX11_taken_35 : decode cX11_taken 35 = .ok (.ireturn, 1) := by decide +kernel
theorem dX11_taken_36 : decode cX11_taken 36 = .ok (.iload_n 2, 1) := by decide +kernel
theorem dX11_taken_37 : decode cX11_taken 37 = .ok (.iload_n 3, 1) := by decide +kernel
theorem dX11_taken_38 : decode cX11_taken 38 = .ok (.if_icmp .ge 14, 3) := by decide +kernel
theorem dX11_taken_41 : decode cX11_taken 41 = .ok (.aload_n 0, 1) := by decide +kernel
theorem dX11_taken_42 : decode cX11_taken 42 = .ok (.getfield 53, 3) := by decide +kernel
theorem dX11_taken_45 : decode cX11_taken 45 = .ok (.iload_n 2, 1) := by decide +kernel
theorem dX11_taken_46 : decode cX11_taken 46 = .ok (.invokevirtual 211, 3) := by decide +kernel
theorem dX11_taken_49 : decode cX11_taken 49 = .ok (.goto 5, 3) := by decide +kernel
theorem dX11_taken_52 : decode cX11_taken 52 = .ok (.bipush (-5), 2) := by decide +kernel
theorem dX11_taken_54 : decode cX11_taken 54 = .ok (.ireturn, 1) := by decide +kernel
theorem dX11_game_0 : decode cX11_game 0 = .ok (.iload_n 1, 1) := by decide +kernel
theorem dX11_game_1 : decode cX11_game 1 = .ok (.iconst 1, 1) := by decide +kernel
theorem dX11_game_2 : decode cX11_game 2 = .ok (.bipush 6, 2) := by decide +kernel
theorem dX11_game_4 : decode cX11_game 4 = .ok (.invokestatic 84, 3) := by decide +kernel
theorem dX11_game_7 : decode cX11_game 7 = .ok (.ifCond .eq 12, 3) := by decide +kernel
theorem dX11_game_10 : decode cX11_game 10 = .ok (.iload_n 2, 1) := by decide +kernel
theorem dX11_game_11 : decode cX11_game 11 = .ok (.iconst 0, 1) := by decide +kernel
theorem dX11_game_12 : decode cX11_game 12 = .ok (.iconst 1, 1) := by decide +kernel
theorem dX11_game_13 : decode cX11_game 13 = .ok (.invokestatic 84, 3) := by decide +kernel
theorem dX11_game_16 : decode cX11_game 16 = .ok (.ifCond .ne 11, 3) := by decide +kernel
theorem dX11_game_19 : decode cX11_game 19 = .ok (.aload_n 0, 1) := by decide +kernel
theorem dX11_game_20 : decode cX11_game 20 = .ok (.iconst 0, 1) := by decide +kernel
theorem dX11_game_21 : decode cX11_game 21 = .ok (.ldc 214, 2) := by decide +kernel
theorem dX11_game_23 : decode cX11_game 23 = .ok (.invokevirtual 88, 3) := by decide +kernel
theorem dX11_game_26 : decode cX11_game 26 = .ok (.ireturn, 1) := by decide +kernel
theorem dX11_game_27 : decode cX11_game 27 = .ok (.iload_n 2, 1) := by decide +kernel
theorem dX11_game_28 : decode cX11_game 28 = .ok (.ifCond .ne 14, 3) := by decide +kernel
theorem dX11_game_31 : decode cX11_game 31 = .ok (.aload_n 0, 1) := by decide +kernel
theorem dX11_game_32 : decode cX11_game 32 = .ok (.getfield 53, 3) := by decide +kernel
theorem dX11_game_35 : decode cX11_game 35 = .ok (.iload_n 1, 1) := by decide +kernel
theorem dX11_game_36 : decode cX11_game 36 = .ok (.invokevirtual 215, 3) := by decide +kernel
theorem dX11_game_39 : decode cX11_game 39 = .ok (.goto 11, 3) := by decide +kernel
theorem dX11_game_42 : decode cX11_game 42 = .ok (.aload_n 0, 1) := by decide +kernel
theorem dX11_game_43 : decode cX11_game 43 = .ok (.getfield 53, 3) := by decide +kernel
theorem dX11_game_46 : decode cX11_game 46 = .ok (.iload_n 1, 1) := by decide +kernel
theorem dX11_game_47 : decode cX11_game 47 = .ok (.invokevirtual 218, 3) := by decide +kernel
theorem dX11_game_50 : decode cX11_game 50 = .ok (.ireturn, 1) := by decide +kernel
theorem dX11_fee_0 : decode cX11_fee 0 = .ok (.aload_n 0, 1) := by decide +kernel
theorem dX11_fee_1 : decode cX11_fee 1 = .ok (.iload_n 1, 1) := by decide +kernel
theorem dX11_fee_2 : decode cX11_fee 2 = .ok (.invokevirtual 158, 3) := by decide +kernel
theorem dX11_fee_5 : decode cX11_fee 5 = .ok (.ifCond .eq 10, 3) := by decide +kernel
theorem dX11_fee_8 : decode cX11_fee 8 = .ok (.iload_n 2, 1) := by decide +kernel
theorem dX11_fee_9 : decode cX11_fee 9 = .ok (.invokestatic 164, 3) := by decide +kernel
theorem dX11_fee_12 : decode cX11_fee 12 = .ok (.ifCond .ne 11, 3) := by decide +kernel
theorem dX11_fee_15 : decode cX11_fee 15 = .ok (.aload_n 0, 1) := by decide +kernel
theorem dX11_fee_16 : decode cX11_fee 16 = .ok (.iconst 0, 1) := by decide +kernel
theorem dX11_fee_17 : decode cX11_fee 17 = .ok (.bipush (-2), 2) := by decide +kernel
theorem dX11_fee_19 : decode cX11_fee 19 = .ok (.invokevirtual 88, 3) := by decide +kernel
theorem dX11_fee_22 : decode cX11_fee 22 = .ok (.ireturn, 1) := by decide +kernel
theorem dX11_fee_23 : decode cX11_fee 23 = .ok (.aload_n 0, 1) := by decide +kernel
theorem dX11_fee_24 : decode cX11_fee 24 = .ok (.getfield 53, 3) := by decide +kernel
theorem dX11_fee_27 : decode cX11_fee 27 = .ok (.iload_n 1, 1) := by decide +kernel
theorem dX11_fee_28 : decode cX11_fee 28 = .ok (.iload_n 2, 1) := by decide +kernel
theorem dX11_fee_29 : decode cX11_fee 29 = .ok (.invokevirtual 221, 3) := by decide +kernel
theorem dX11_fee_32 : decode cX11_fee 32 = .ok (.lstore_n 3, 1) := by decide +kernel
theorem dX11_fee_33 : decode cX11_fee 33 = .ok (.getstatic 225, 3) := by decide +kernel
theorem dX11_fee_36 : decode cX11_fee 36 = .ok (.aload_n 0, 1) := by decide +kernel
theorem dX11_fee_37 : decode cX11_fee 37 = .ok (.getfield 27, 3) := by decide +kernel
theorem dX11_fee_40 : decode cX11_fee 40 = .ok (.getfield 43, 3) := by decide +kernel
theorem dX11_fee_43 : decode cX11_fee 43 = .ok (.getfield 120, 3) := by decide +kernel
theorem dX11_fee_46 : decode cX11_fee 46 = .ok (.iaload, 1) := by decide +kernel
theorem dX11_fee_47 : decode cX11_fee 47 = .ok (.i2l, 1) := by decide +kernel
theorem dX11_fee_48 : decode cX11_fee 48 = .ok (.lstore 5, 2) := by decide +kernel
theorem dX11_fee_50 : decode cX11_fee 50 = .ok (.lload_n 3, 1) := by decide +kernel
theorem dX11_fee_51 : decode cX11_fee 51 = .ok (.invokestatic 228, 3) := by decide +kernel
theorem dX11_fee_54 : decode cX11_fee 54 = .ok (.lload 5, 2) := by decide +kernel
theorem dX11_fee_56 : decode cX11_fee 56 = .ok (.invokestatic 234, 3) := by decide +kernel
theorem dX11_fee_59 : decode cX11_fee 59 = .ok (.lstore 7, 2) := by decide +kernel
theorem dX11_fee_61 : decode cX11_fee 61 = .ok (.lload 7, 2) := by decide +kernel
theorem dX11_fee_63 : decode cX11_fee 63 = .ok (.lconst 0, 1) := by decide +kernel
theorem dX11_fee_64 : decode cX11_fee 64 = .ok (.lcmp, 1) := by decide +kernel
theorem dX11_fee_65 : decode cX11_fee 65 = .ok (.ifCond .le 20, 3) := by decide +kernel
theorem dX11_fee_68 : decode cX11_fee 68 = .ok (.aload_n 0, 1) := by decide +kernel
theorem dX11_fee_69 : decode cX11_fee 69 = .ok (.lload_n 3, 1) := by decide +kernel
theorem dX11_fee_70 : decode cX11_fee 70 = .ok (.lload 7, 2) := by decide +kernel
theorem dX11_fee_72 : decode cX11_fee 72 = .ok (.ldiv, 1) := by decide +kernel
theorem dX11_fee_73 : decode cX11_fee 73 = .ok (.putfield 77, 3) := by decide +kernel
theorem dX11_fee_76 : decode cX11_fee 76 = .ok (.aload_n 0, 1) := by decide +kernel
theorem dX11_fee_77 : decode cX11_fee 77 = .ok (.lload 5, 2) := by decide +kernel
theorem dX11_fee_79 : decode cX11_fee 79 = .ok (.lload 7, 2) := by decide +kernel
theorem dX11_fee_81 : decode cX11_fee 81 = .ok (.ldiv, 1) := by decide +kernel
theorem dX11_fee_82 : decode cX11_fee 82 = .ok (.putfield 81, 3) := by decide +kernel
theorem dX11_fee_85 : decode cX11_fee 85 = .ok (.iconst 1, 1) := by decide +kernel
theorem dX11_fee_86 : decode cX11_fee 86 = .ok (.ireturn, 1) := by decide +kernel
theorem dX11_part_0 : decode cX11_part 0 = .ok (.iload_n 1, 1) := by decide +kernel
theorem dX11_part_1 : decode cX11_part 1 = .ok (.iconst 0, 1) := by decide +kernel
theorem dX11_part_2 : decode cX11_part 2 = .ok (.iconst 1, 1) := by decide +kernel
theorem dX11_part_3 : decode cX11_part 3 = .ok (.invokestatic 84, 3) := by decide +kernel
theorem dX11_part_6 : decode cX11_part 6 = .ok (.ifCond .ne 12, 3) := by decide +kernel
theorem dX11_part_9 : decode cX11_part 9 = .ok (.aload_n 0, 1) := by decide +kernel
theorem dX11_part_10 : decode cX11_part 10 = .ok (.iconst 0, 1) := by decide +kernel
theorem dX11_part_11 : decode cX11_part 11 = .ok (.ldc 214, 2) := by decide +kernel
theorem dX11_part_13 : decode cX11_part 13 = .ok (.invokevirtual 88, 3) := by decide +kernel
theorem dX11_part_16 : decode cX11_part 16 = .ok (.i2l, 1) := by decide +kernel
theorem dX11_part_17 : decode cX11_part 17 = .ok (.lreturn, 1) := by decide +kernel
theorem dX11_part_18 : decode cX11_part 18 = .ok (.iload_n 1, 1) := by decide +kernel
theorem dX11_part_19 : decode cX11_part 19 = .ok (.ifCond .ne 10, 3) := by decide +kernel
theorem dX11_part_22 : decode cX11_part 22 = .ok (.aload_n 0, 1) := by decide +kernel
theorem dX11_part_23 : decode cX11_part 23 = .ok (.getfield 77, 3) := by decide +kernel
theorem dX11_part_26 : decode cX11_part 26 = .ok (.goto 7, 3) := by decide +kernel
theorem dX11_part_29 : decode cX11_part 29 = .ok (.aload_n 0, 1) := by decide +kernel
theorem dX11_part_30 : decode cX11_part 30 = .ok (.getfield 81, 3) := by decide +kernel
theorem dX11_part_33 : decode cX11_part 33 = .ok (.lreturn, 1) := by decide +kernel
theorem dX11_image_0 : decode cX11_image 0 = .ok (.iload_n 1, 1) := by decide +kernel
theorem dX11_image_1 : decode cX11_image 1 = .ok (.iconst 0, 1) := by decide +kernel
theorem dX11_image_2 : decode cX11_image 2 = .ok (.iconst 1, 1) := by decide +kernel
theorem dX11_image_3 : decode cX11_image 3 = .ok (.invokestatic 84, 3) := by decide +kernel
theorem dX11_image_6 : decode cX11_image 6 = .ok (.ifCond .ne 11, 3) := by decide +kernel
theorem dX11_image_9 : decode cX11_image 9 = .ok (.aload_n 0, 1) := by decide +kernel
theorem dX11_image_10 : decode cX11_image 10 = .ok (.iconst 0, 1) := by decide +kernel
theorem dX11_image_11 : decode cX11_image 11 = .ok (.bipush (-2), 2) := by decide +kernel
theorem dX11_image_13 : decode cX11_image 13 = .ok (.invokevirtual 88, 3) := by decide +kernel
theorem dX11_image_16 : decode cX11_image 16 = .ok (.ireturn, 1) := by decide +kernel
theorem dX11_image_17 : decode cX11_image 17 = .ok (.aload_n 0, 1) := by decide +kernel
theorem dX11_image_18 : decode cX11_image 18 = .ok (.getfield 33, 3) := by decide +kernel
theorem dX11_image_21 : decode cX11_image 21 = .ok (.iload_n 1, 1) := by decide +kernel
theorem dX11_image_22 : decode cX11_image 22 = .ok (.aaload, 1) := by decide +kernel
theorem dX11_image_23 : decode cX11_image 23 = .ok (.aload_n 0, 1) := by decide +kernel
theorem dX11_image_24 : decode cX11_image 24 = .ok (.getfield 27, 3) := by decide +kernel
theorem dX11_image_27 : decode cX11_image 27 = .ok (.invokevirtual 238, 3) := by decide +kernel
theorem dX11_image_30 : decode cX11_image 30 = .ok (.aload_n 0, 1) := by decide +kernel
theorem dX11_image_31 : decode cX11_image 31 = .ok (.getfield 37, 3) := by decide +kernel
theorem dX11_image_34 : decode cX11_image 34 = .ok (.iload_n 1, 1) := by decide +kernel
theorem dX11_image_35 : decode cX11_image 35 = .ok (.iconst 1, 1) := by decide +kernel
theorem dX11_image_36 : decode cX11_image 36 = .ok (.bastore, 1) := by decide +kernel
theorem dX11_image_37 : decode cX11_image 37 = .ok (.iconst 1, 1) := by decide +kernel
theorem dX11_image_38 : decode cX11_image 38 = .ok (.ireturn, 1) := by decide +kernel
theorem dX11_from_0 : decode cX11_from 0 = .ok (.iload_n 1, 1) := by decide +kernel
theorem dX11_from_1 : decode cX11_from 1 = .ok (.iconst 0, 1) := by decide +kernel
theorem dX11_from_2 : decode cX11_from 2 = .ok (.iconst 1, 1) := by decide +kernel
theorem dX11_from_3 : decode cX11_from 3 = .ok (.invokestatic 84, 3) := by decide +kernel
theorem dX11_from_6 : decode cX11_from 6 = .ok (.ifCond .ne 11, 3) := by decide +kernel
theorem dX11_from_9 : decode cX11_from 9 = .ok (.aload_n 0, 1) := by decide +kernel
theorem dX11_from_10 : decode cX11_from 10 = .ok (.iconst 0, 1) := by decide +kernel
theorem dX11_from_11 : decode cX11_from 11 = .ok (.bipush (-2), 2) := by decide +kernel
theorem dX11_from_13 : decode cX11_from 13 = .ok (.invokevirtual 88, 3) := by decide +kernel
theorem dX11_from_16 : decode cX11_from 16 = .ok (.ireturn, 1) := by decide +kernel
theorem dX11_from_17 : decode cX11_from 17 = .ok (.aload_n 0, 1) := by decide +kernel
theorem dX11_from_18 : decode cX11_from 18 = .ok (.getfield 37, 3) := by decide +kernel
theorem dX11_from_21 : decode cX11_from 21 = .ok (.iload_n 1, 1) := by decide +kernel
theorem dX11_from_22 : decode cX11_from 22 = .ok (.baload, 1) := by decide +kernel
theorem dX11_from_23 : decode cX11_from 23 = .ok (.ifCond .ne 11, 3) := by decide +kernel
theorem dX11_from_26 : decode cX11_from 26 = .ok (.aload_n 0, 1) := by decide +kernel
theorem dX11_from_27 : decode cX11_from 27 = .ok (.iconst 1, 1) := by decide +kernel
theorem dX11_from_28 : decode cX11_from 28 = .ok (.bipush (-3), 2) := by decide +kernel
theorem dX11_from_30 : decode cX11_from 30 = .ok (.invokevirtual 88, 3) := by decide +kernel
theorem dX11_from_33 : decode cX11_from 33 = .ok (.ireturn, 1) := by decide +kernel
theorem dX11_from_34 : decode cX11_from 34 = .ok (.aload_n 0, 1) := by decide +kernel
theorem dX11_from_35 : decode cX11_from 35 = .ok (.getfield 27, 3) := by decide +kernel
theorem dX11_from_38 : decode cX11_from 38 = .ok (.aload_n 0, 1) := by decide +kernel
theorem dX11_from_39 : decode cX11_from 39 = .ok (.getfield 33, 3) := by decide +kernel
theorem dX11_from_42 : decode cX11_from 42 = .ok (.iload_n 1, 1) := by decide +kernel
theorem dX11_from_43 : decode cX11_from 43 = .ok (.aaload, 1) := by decide +kernel
theorem dX11_from_44 : decode cX11_from 44 = .ok (.invokevirtual 238, 3) := by decide +kernel
theorem dX11_from_47 : decode cX11_from 47 = .ok (.iconst 1, 1) := by decide +kernel
theorem dX11_from_48 : decode cX11_from 48 = .ok (.ireturn, 1) := by decide +kernel
theorem dX11_status_0 : decode cX11_status 0 = .ok (.iload_n 1, 1) := by decide +kernel
theorem dX11_status_1 : decode cX11_status 1 = .ok (.iconst 0, 1) := by decide +kernel
theorem dX11_status_2 : decode cX11_status 2 = .ok (.iconst 2, 1) := by decide +kernel
theorem dX11_status_3 : decode cX11_status 3 = .ok (.invokestatic 84, 3) := by decide +kernel
theorem dX11_status_6 : decode cX11_status 6 = .ok (.ifCond .ne 10, 3) := by decide +kernel
theorem dX11_status_9 : decode cX11_status 9 = .ok (.aload_n 0, 1) := by decide +kernel
theorem dX11_status_10 : decode cX11_status 10 = .ok (.iconst 0, 1) := by decide +kernel
theorem dX11_status_11 : decode cX11_status 11 = .ok (.iconst (-1), 1) := by decide +kernel
theorem dX11_status_12 : decode cX11_status 12 = .ok (.invokevirtual 88, 3) := by decide +kernel
theorem dX11_status_15 : decode cX11_status 15 = .ok (.ireturn, 1) := by decide +kernel
theorem dX11_status_16 : decode cX11_status 16 = .ok (.aload_n 0, 1) := by decide +kernel
theorem dX11_status_17 : decode cX11_status 17 = .ok (.getfield 73, 3) := by decide +kernel
theorem dX11_status_20 : decode cX11_status 20 = .ok (.iload_n 1, 1) := by decide +kernel
theorem dX11_status_21 : decode cX11_status 21 = .ok (.iaload, 1) := by decide +kernel
theorem dX11_status_22 : decode cX11_status 22 = .ok (.ireturn, 1) := by decide +kernel
theorem dX11_count_0 : decode cX11_count 0 = .ok (.iload_n 1, 1) := by decide +kernel
theorem dX11_count_1 : decode cX11_count 1 = .ok (.iconst 0, 1) := by decide +kernel
theorem dX11_count_2 : decode cX11_count 2 = .ok (.bipush 6, 2) := by decide +kernel
theorem dX11_count_4 : decode cX11_count 4 = .ok (.invokestatic 84, 3) := by decide +kernel
theorem dX11_count_7 : decode cX11_count 7 = .ok (.ifCond .ne 11, 3) := by decide +kernel
theorem dX11_count_10 : decode cX11_count 10 = .ok (.aload_n 0, 1) := by decide +kernel
theorem dX11_count_11 : decode cX11_count 11 = .ok (.iconst 0, 1) := by decide +kernel
theorem dX11_count_12 : decode cX11_count 12 = .ok (.bipush (-2), 2) := by decide +kernel
theorem dX11_count_14 : decode cX11_count 14 = .ok (.invokevirtual 88, 3) := by decide +kernel
theorem dX11_count_17 : decode cX11_count 17 = .ok (.ireturn, 1) := by decide +kernel
theorem dX11_count_18 : decode cX11_count 18 = .ok (.aload_n 0, 1) := by decide +kernel
theorem dX11_count_19 : decode cX11_count 19 = .ok (.iload_n 1, 1) := by decide +kernel
theorem dX11_count_20 : decode cX11_count 20 = .ok (.invokevirtual 241, 3) := by decide +kernel
theorem dX11_count_23 : decode cX11_count 23 = .ok (.ireturn, 1) := by decide +kernel
theorem dX11_digest_0 : decode cX11_digest 0 = .ok (.ldc2_w 244, 3) := by decide +kernel
theorem dX11_digest_3 : decode cX11_digest 3 = .ok (.lstore_n 1, 1) := by decide +kernel
theorem dX11_digest_4 : decode cX11_digest 4 = .ok (.iconst 0, 1) := by decide +kernel
theorem dX11_digest_5 : decode cX11_digest 5 = .ok (.istore_n 3, 1) := by decide +kernel
theorem dX11_digest_6 : decode cX11_digest 6 = .ok (.iload_n 3, 1) := by decide +kernel
theorem dX11_digest_7 : decode cX11_digest 7 = .ok (.bipush 7, 2) := by decide +kernel
theorem dX11_digest_9 : decode cX11_digest 9 = .ok (.if_icmp .ge 22, 3) := by decide +kernel
theorem dX11_digest_12 : decode cX11_digest 12 = .ok (.ldc2_w 246, 3) := by decide +kernel
theorem dX11_digest_15 : decode cX11_digest 15 = .ok (.lload_n 1, 1) := by decide +kernel
theorem dX11_digest_16 : decode cX11_digest 16 = .ok (.lmul, 1) := by decide +kernel
theorem dX11_digest_17 : decode cX11_digest 17 = .ok (.aload_n 0, 1) := by decide +kernel
theorem dX11_digest_18 : decode cX11_digest 18 = .ok (.iload_n 3, 1) := by decide +kernel
theorem dX11_digest_19 : decode cX11_digest 19 = .ok (.invokevirtual 241, 3) := by decide +kernel
theorem dX11_digest_22 : decode cX11_digest 22 = .ok (.i2l, 1) := by decide +kernel
theorem dX11_digest_23 : decode cX11_digest 23 = .ok (.ladd, 1) := by decide +kernel
theorem dX11_digest_24 : decode cX11_digest 24 = .ok (.lstore_n 1, 1) := by decide +kernel
theorem dX11_digest_25 : decode cX11_digest 25 = .ok (.iinc 3 1, 3) := by decide +kernel
theorem dX11_digest_28 : decode cX11_digest 28 = .ok (.goto (-22), 3) := by decide +kernel
theorem dX11_digest_31 : decode cX11_digest 31 = .ok (.aload_n 0, 1) := by decide +kernel
theorem dX11_digest_32 : decode cX11_digest 32 = .ok (.getfield 27, 3) := by decide +kernel
theorem dX11_digest_35 : decode cX11_digest 35 = .ok (.getfield 43, 3) := by decide +kernel
theorem dX11_digest_38 : decode cX11_digest 38 = .ok (.lload_n 1, 1) := by decide +kernel
theorem dX11_digest_39 : decode cX11_digest 39 = .ok (.invokevirtual 248, 3) := by decide +kernel
theorem dX11_digest_42 : decode cX11_digest 42 = .ok (.lstore_n 1, 1) := by decide +kernel
theorem dX11_digest_43 : decode cX11_digest 43 = .ok (.ldc2_w 246, 3) := by decide +kernel
theorem dX11_digest_46 : decode cX11_digest 46 = .ok (.lload_n 1, 1) := by decide +kernel
theorem dX11_digest_47 : decode cX11_digest 47 = .ok (.lmul, 1) := by decide +kernel
theorem dX11_digest_48 : decode cX11_digest 48 = .ok (.aload_n 0, 1) := by decide +kernel
theorem dX11_digest_49 : decode cX11_digest 49 = .ok (.getfield 77, 3) := by decide +kernel
theorem dX11_digest_52 : decode cX11_digest 52 = .ok (.ladd, 1) := by decide +kernel
theorem dX11_digest_53 : decode cX11_digest 53 = .ok (.lstore_n 1, 1) := by decide +kernel
theorem dX11_digest_54 : decode cX11_digest 54 = .ok (.ldc2_w 246, 3) := by decide +kernel
theorem dX11_digest_57 : decode cX11_digest 57 = .ok (.lload_n 1, 1) := by decide +kernel
theorem dX11_digest_58 : decode cX11_digest 58 = .ok (.lmul, 1) := by decide +kernel
theorem dX11_digest_59 : decode cX11_digest 59 = .ok (.aload_n 0, 1) := by decide +kernel
theorem dX11_digest_60 : decode cX11_digest 60 = .ok (.getfield 81, 3) := by decide +kernel
theorem dX11_digest_63 : decode cX11_digest 63 = .ok (.ladd, 1) := by decide +kernel
theorem dX11_digest_64 : decode cX11_digest 64 = .ok (.lreturn, 1) := by decide +kernel
theorem dX11_counted_0 : decode cX11_counted 0 = .ok (.iload_n 1, 1) := by decide +kernel
theorem dX11_counted_1 : decode cX11_counted 1 = .ok (.tableswitch 102 0 5 #[39, 50, 61, 72, 83, 94], 39) := by decide +kernel
theorem dX11_counted_40 : decode cX11_counted 40 = .ok (.aload_n 0, 1) := by decide +kernel
theorem dX11_counted_41 : decode cX11_counted 41 = .ok (.getfield 27, 3) := by decide +kernel
theorem dX11_counted_44 : decode cX11_counted 44 = .ok (.getfield 43, 3) := by decide +kernel
theorem dX11_counted_47 : decode cX11_counted 47 = .ok (.getfield 92, 3) := by decide +kernel
theorem dX11_counted_50 : decode cX11_counted 50 = .ok (.ireturn, 1) := by decide +kernel
theorem dX11_counted_51 : decode cX11_counted 51 = .ok (.aload_n 0, 1) := by decide +kernel
theorem dX11_counted_52 : decode cX11_counted 52 = .ok (.getfield 27, 3) := by decide +kernel
theorem dX11_counted_55 : decode cX11_counted 55 = .ok (.getfield 43, 3) := by decide +kernel
theorem dX11_counted_58 : decode cX11_counted 58 = .ok (.invokevirtual 251, 3) := by decide +kernel
theorem dX11_counted_61 : decode cX11_counted 61 = .ok (.ireturn, 1) := by decide +kernel
theorem dX11_counted_62 : decode cX11_counted 62 = .ok (.aload_n 0, 1) := by decide +kernel
theorem dX11_counted_63 : decode cX11_counted 63 = .ok (.getfield 27, 3) := by decide +kernel
theorem dX11_counted_66 : decode cX11_counted 66 = .ok (.getfield 43, 3) := by decide +kernel
theorem dX11_counted_69 : decode cX11_counted 69 = .ok (.getfield 120, 3) := by decide +kernel
theorem dX11_counted_72 : decode cX11_counted 72 = .ok (.ireturn, 1) := by decide +kernel
theorem dX11_counted_73 : decode cX11_counted 73 = .ok (.aload_n 0, 1) := by decide +kernel
theorem dX11_counted_74 : decode cX11_counted 74 = .ok (.getfield 27, 3) := by decide +kernel
theorem dX11_counted_77 : decode cX11_counted 77 = .ok (.getfield 43, 3) := by decide +kernel
theorem dX11_counted_80 : decode cX11_counted 80 = .ok (.getfield 254, 3) := by decide +kernel
theorem dX11_counted_83 : decode cX11_counted 83 = .ok (.ireturn, 1) := by decide +kernel
theorem dX11_counted_84 : decode cX11_counted 84 = .ok (.aload_n 0, 1) := by decide +kernel
theorem dX11_counted_85 : decode cX11_counted 85 = .ok (.getfield 27, 3) := by decide +kernel
theorem dX11_counted_88 : decode cX11_counted 88 = .ok (.getfield 43, 3) := by decide +kernel
theorem dX11_counted_91 : decode cX11_counted 91 = .ok (.getfield 257, 3) := by decide +kernel
theorem dX11_counted_94 : decode cX11_counted 94 = .ok (.ireturn, 1) := by decide +kernel
theorem dX11_counted_95 : decode cX11_counted 95 = .ok (.aload_n 0, 1) := by decide +kernel
theorem dX11_counted_96 : decode cX11_counted 96 = .ok (.getfield 27, 3) := by decide +kernel
theorem dX11_counted_99 : decode cX11_counted 99 = .ok (.getfield 148, 3) := by decide +kernel
theorem dX11_counted_102 : decode cX11_counted 102 = .ok (.ireturn, 1) := by decide +kernel
theorem dX11_counted_103 : decode cX11_counted 103 = .ok (.aload_n 0, 1) := by decide +kernel
theorem dX11_counted_104 : decode cX11_counted 104 = .ok (.getfield 60, 3) := by decide +kernel
theorem dX11_counted_107 : decode cX11_counted 107 = .ok (.getfield 127, 3) := by decide +kernel
theorem dX11_counted_110 : decode cX11_counted 110 = .ok (.ireturn, 1) := by decide +kernel
theorem dX11_refuse_0 : decode cX11_refuse 0 = .ok (.aload_n 0, 1) := by decide +kernel
theorem dX11_refuse_1 : decode cX11_refuse 1 = .ok (.getfield 73, 3) := by decide +kernel
theorem dX11_refuse_4 : decode cX11_refuse 4 = .ok (.iload_n 1, 1) := by decide +kernel
theorem dX11_refuse_5 : decode cX11_refuse 5 = .ok (.dup2, 1) := by decide +kernel
theorem dX11_refuse_6 : decode cX11_refuse 6 = .ok (.iaload, 1) := by decide +kernel
theorem dX11_refuse_7 : decode cX11_refuse 7 = .ok (.iconst 1, 1) := by decide +kernel
theorem dX11_refuse_8 : decode cX11_refuse 8 = .ok (.iadd, 1) := by decide +kernel
theorem dX11_refuse_9 : decode cX11_refuse 9 = .ok (.iastore, 1) := by decide +kernel
theorem dX11_refuse_10 : decode cX11_refuse 10 = .ok (.iload_n 2, 1) := by decide +kernel
theorem dX11_refuse_11 : decode cX11_refuse 11 = .ok (.ireturn, 1) := by decide +kernel
theorem dX11_isPlace_0 : decode cX11_isPlace 0 = .ok (.iload_n 1, 1) := by decide +kernel
theorem dX11_isPlace_1 : decode cX11_isPlace 1 = .ok (.iconst 0, 1) := by decide +kernel
theorem dX11_isPlace_2 : decode cX11_isPlace 2 = .ok (.aload_n 0, 1) := by decide +kernel
theorem dX11_isPlace_3 : decode cX11_isPlace 3 = .ok (.getfield 27, 3) := by decide +kernel
theorem dX11_isPlace_6 : decode cX11_isPlace 6 = .ok (.getfield 43, 3) := by decide +kernel
theorem dX11_isPlace_9 : decode cX11_isPlace 9 = .ok (.getfield 92, 3) := by decide +kernel
theorem dX11_isPlace_12 : decode cX11_isPlace 12 = .ok (.iconst 1, 1) := by decide +kernel
theorem dX11_isPlace_13 : decode cX11_isPlace 13 = .ok (.isub, 1) := by decide +kernel
theorem dX11_isPlace_14 : decode cX11_isPlace 14 = .ok (.invokestatic 84, 3) := by decide +kernel
theorem dX11_isPlace_17 : decode cX11_isPlace 17 = .ok (.ireturn, 1) := by decide +kernel
theorem dX11_isMoon_0 : decode cX11_isMoon 0 = .ok (.iload_n 1, 1) := by decide +kernel
theorem dX11_isMoon_1 : decode cX11_isMoon 1 = .ok (.iconst 0, 1) := by decide +kernel
theorem dX11_isMoon_2 : decode cX11_isMoon 2 = .ok (.aload_n 0, 1) := by decide +kernel
theorem dX11_isMoon_3 : decode cX11_isMoon 3 = .ok (.getfield 27, 3) := by decide +kernel
theorem dX11_isMoon_6 : decode cX11_isMoon 6 = .ok (.getfield 43, 3) := by decide +kernel
theorem dX11_isMoon_9 : decode cX11_isMoon 9 = .ok (.getfield 120, 3) := by decide +kernel
theorem dX11_isMoon_12 : decode cX11_isMoon 12 = .ok (.iconst 1, 1) := by decide +kernel
theorem dX11_isMoon_13 : decode cX11_isMoon 13 = .ok (.isub, 1) := by decide +kernel
theorem dX11_isMoon_14 : decode cX11_isMoon 14 = .ok (.invokestatic 84, 3) := by decide +kernel
theorem dX11_isMoon_17 : decode cX11_isMoon 17 = .ok (.ireturn, 1) := by decide +kernel
theorem dX11_isRounds_0 : decode cX11_isRounds 0 = .ok (.iload_n 0, 1) := by decide +kernel
theorem dX11_isRounds_1 : decode cX11_isRounds 1 = .ok (.iconst 0, 1) := by decide +kernel
theorem dX11_isRounds_2 : decode cX11_isRounds 2 = .ok (.bipush 60, 2) := by decide +kernel
theorem dX11_isRounds_4 : decode cX11_isRounds 4 = .ok (.invokestatic 84, 3) := by decide +kernel
theorem dX11_isRounds_7 : decode cX11_isRounds 7 = .ok (.ireturn, 1) := by decide +kernel
theorem dX11_isLane_0 : decode cX11_isLane 0 = .ok (.iload_n 0, 1) := by decide +kernel
theorem dX11_isLane_1 : decode cX11_isLane 1 = .ok (.ifCond .lt 12, 3) := by decide +kernel
theorem dX11_isLane_4 : decode cX11_isLane 4 = .ok (.iload_n 0, 1) := by decide +kernel
theorem dX11_isLane_5 : decode cX11_isLane 5 = .ok (.iconst 5, 1) := by decide +kernel
theorem dX11_isLane_6 : decode cX11_isLane 6 = .ok (.if_icmp .ge 7, 3) := by decide +kernel
theorem dX11_isLane_9 : decode cX11_isLane 9 = .ok (.iconst 1, 1) := by decide +kernel
theorem dX11_isLane_10 : decode cX11_isLane 10 = .ok (.goto 4, 3) := by decide +kernel
theorem dX11_isLane_13 : decode cX11_isLane 13 = .ok (.iconst 0, 1) := by decide +kernel
theorem dX11_isLane_14 : decode cX11_isLane 14 = .ok (.ireturn, 1) := by decide +kernel
theorem dX11_isWithin_0 : decode cX11_isWithin 0 = .ok (.iload_n 0, 1) := by decide +kernel
theorem dX11_isWithin_1 : decode cX11_isWithin 1 = .ok (.iload_n 1, 1) := by decide +kernel
theorem dX11_isWithin_2 : decode cX11_isWithin 2 = .ok (.if_icmp .lt 12, 3) := by decide +kernel
theorem dX11_isWithin_5 : decode cX11_isWithin 5 = .ok (.iload_n 0, 1) := by decide +kernel
theorem dX11_isWithin_6 : decode cX11_isWithin 6 = .ok (.iload_n 2, 1) := by decide +kernel
theorem dX11_isWithin_7 : decode cX11_isWithin 7 = .ok (.if_icmp .gt 7, 3) := by decide +kernel
theorem dX11_isWithin_10 : decode cX11_isWithin 10 = .ok (.iconst 1, 1) := by decide +kernel
theorem dX11_isWithin_11 : decode cX11_isWithin 11 = .ok (.goto 4, 3) := by decide +kernel
theorem dX11_isWithin_14 : decode cX11_isWithin 14 = .ok (.iconst 0, 1) := by decide +kernel
theorem dX11_isWithin_15 : decode cX11_isWithin 15 = .ok (.ireturn, 1) := by decide +kernel
theorem dX11_greatestDivisor_0 : decode cX11_greatestDivisor 0 = .ok (.lload_n 0, 1) := by decide +kernel
theorem dX11_greatestDivisor_1 : decode cX11_greatestDivisor 1 = .ok (.lstore 4, 2) := by decide +kernel
theorem dX11_greatestDivisor_3 : decode cX11_greatestDivisor 3 = .ok (.lload_n 2, 1) := by decide +kernel
theorem dX11_greatestDivisor_4 : decode cX11_greatestDivisor 4 = .ok (.lstore 6, 2) := by decide +kernel
theorem dX11_greatestDivisor_6 : decode cX11_greatestDivisor 6 = .ok (.iconst 0, 1) := by decide +kernel
theorem dX11_greatestDivisor_7 : decode cX11_greatestDivisor 7 = .ok (.istore 8, 2) := by decide +kernel
theorem dX11_greatestDivisor_9 : decode cX11_greatestDivisor 9 = .ok (.iload 8, 2) := by decide +kernel
theorem dX11_greatestDivisor_11 : decode cX11_greatestDivisor 11 = .ok (.sipush 200, 3) := by decide +kernel
theorem dX11_greatestDivisor_14 : decode cX11_greatestDivisor 14 = .ok (.if_icmp .ge 31, 3) := by decide +kernel
theorem dX11_greatestDivisor_17 : decode cX11_greatestDivisor 17 = .ok (.lload 6, 2) := by decide +kernel
theorem dX11_greatestDivisor_19 : decode cX11_greatestDivisor 19 = .ok (.lconst 0, 1) := by decide +kernel
theorem dX11_greatestDivisor_20 : decode cX11_greatestDivisor 20 = .ok (.lcmp, 1) := by decide +kernel
theorem dX11_greatestDivisor_21 : decode cX11_greatestDivisor 21 = .ok (.ifCond .eq 24, 3) := by decide +kernel
theorem dX11_greatestDivisor_24 : decode cX11_greatestDivisor 24 = .ok (.lload 4, 2) := by decide +kernel
theorem dX11_greatestDivisor_26 : decode cX11_greatestDivisor 26 = .ok (.lload 6, 2) := by decide +kernel
theorem dX11_greatestDivisor_28 : decode cX11_greatestDivisor 28 = .ok (.lrem, 1) := by decide +kernel
theorem dX11_greatestDivisor_29 : decode cX11_greatestDivisor 29 = .ok (.lstore 9, 2) := by decide +kernel
theorem dX11_greatestDivisor_31 : decode cX11_greatestDivisor 31 = .ok (.lload 6, 2) := by decide +kernel
theorem dX11_greatestDivisor_33 : decode cX11_greatestDivisor 33 = .ok (.lstore 4, 2) := by decide +kernel
theorem dX11_greatestDivisor_35 : decode cX11_greatestDivisor 35 = .ok (.lload 9, 2) := by decide +kernel
theorem dX11_greatestDivisor_37 : decode cX11_greatestDivisor 37 = .ok (.lstore 6, 2) := by decide +kernel
theorem dX11_greatestDivisor_39 : decode cX11_greatestDivisor 39 = .ok (.iinc 8 1, 3) := by decide +kernel
theorem dX11_greatestDivisor_42 : decode cX11_greatestDivisor 42 = .ok (.goto (-33), 3) := by decide +kernel
theorem dX11_greatestDivisor_45 : decode cX11_greatestDivisor 45 = .ok (.lload 4, 2) := by decide +kernel
theorem dX11_greatestDivisor_47 : decode cX11_greatestDivisor 47 = .ok (.lreturn, 1) := by decide +kernel
theorem dX12_init_0 : decode cX12_init 0 = .ok (.aload_n 0, 1) := by decide +kernel
theorem dX12_init_1 : decode cX12_init 1 = .ok (.invokespecial 1, 3) := by decide +kernel
theorem dX12_init_4 : decode cX12_init 4 = .ok (.aload_n 0, 1) := by decide +kernel
theorem dX12_init_5 : decode cX12_init 5 = .ok (.sipush 913, 3) := by decide +kernel
theorem dX12_init_8 : decode cX12_init 8 = .ok (.newarray .int, 2) := by decide +kernel
theorem dX12_init_10 : decode cX12_init 10 = .ok (.putfield 7, 3) := by decide +kernel
theorem dX12_init_13 : decode cX12_init 13 = .ok (.aload_n 0, 1) := by decide +kernel
theorem dX12_init_14 : decode cX12_init 14 = .ok (.sipush 1826, 3) := by decide +kernel
theorem dX12_init_17 : decode cX12_init 17 = .ok (.newarray .int, 2) := by decide +kernel
theorem dX12_init_19 : decode cX12_init 19 = .ok (.putfield 13, 3) := by decide +kernel
theorem dX12_init_22 : decode cX12_init 22 = .ok (.aload_n 0, 1) := by decide +kernel
theorem dX12_init_23 : decode cX12_init 23 = .ok (.iconst 2, 1) := by decide +kernel
theorem dX12_init_24 : decode cX12_init 24 = .ok (.newarray .boolean, 2) := by decide +kernel
theorem dX12_init_26 : decode cX12_init 26 = .ok (.putfield 16, 3) := by decide +kernel
theorem dX12_init_29 : decode cX12_init 29 = .ok (.aload_n 0, 1) := by decide +kernel
theorem dX12_init_30 : decode cX12_init 30 = .ok (.iconst 3, 1) := by decide +kernel
theorem dX12_init_31 : decode cX12_init 31 = .ok (.newarray .int, 2) := by decide +kernel
theorem dX12_init_33 : decode cX12_init 33 = .ok (.putfield 20, 3) := by decide +kernel
theorem dX12_init_36 : decode cX12_init 36 = .ok (.aload_n 0, 1) := by decide +kernel
theorem dX12_init_37 : decode cX12_init 37 = .ok (.lconst 1, 1) := by decide +kernel
theorem dX12_init_38 : decode cX12_init 38 = .ok (.putfield 23, 3) := by decide +kernel
theorem dX12_init_41 : decode cX12_init 41 = .ok (.aload_n 0, 1) := by decide +kernel
theorem dX12_init_42 : decode cX12_init 42 = .ok (.bipush 120, 2) := by decide +kernel
theorem dX12_init_44 : decode cX12_init 44 = .ok (.newarray .int, 2) := by decide +kernel
theorem dX12_init_46 : decode cX12_init 46 = .ok (.putfield 27, 3) := by decide +kernel
theorem dX12_init_49 : decode cX12_init 49 = .ok (.aload_n 0, 1) := by decide +kernel
theorem dX12_init_50 : decode cX12_init 50 = .ok (.bipush 120, 2) := by decide +kernel
theorem dX12_init_52 : decode cX12_init 52 = .ok (.newarray .int, 2) := by decide +kernel
theorem dX12_init_54 : decode cX12_init 54 = .ok (.putfield 30, 3) := by decide +kernel
theorem dX12_init_57 : decode cX12_init 57 = .ok (.aload_n 0, 1) := by decide +kernel
theorem dX12_init_58 : decode cX12_init 58 = .ok (.iconst 4, 1) := by decide +kernel
theorem dX12_init_59 : decode cX12_init 59 = .ok (.newarray .int, 2) := by decide +kernel
theorem dX12_init_61 : decode cX12_init 61 = .ok (.putfield 33, 3) := by decide +kernel
theorem dX12_init_64 : decode cX12_init 64 = .ok (.aload_n 0, 1) := by decide +kernel
theorem dX12_init_65 : decode cX12_init 65 = .ok (.sipush 1560, 3) := by decide +kernel
theorem dX12_init_68 : decode cX12_init 68 = .ok (.newarray .int, 2) := by decide +kernel
theorem dX12_init_70 : decode cX12_init 70 = .ok (.putfield 36, 3) := by decide +kernel
theorem dX12_init_73 : decode cX12_init 73 = .ok (.aload_n 0, 1) := by decide +kernel
theorem dX12_init_74 : decode cX12_init 74 = .ok (.iconst 5, 1) := by decide +kernel
theorem dX12_init_75 : decode cX12_init 75 = .ok (.newarray .int, 2) := by decide +kernel
theorem dX12_init_77 : decode cX12_init 77 = .ok (.putfield 39, 3) := by decide +kernel
theorem dX12_init_80 : decode cX12_init 80 = .ok (.aload_n 0, 1) := by decide +kernel
theorem dX12_init_81 : decode cX12_init 81 = .ok (.sipush 224, 3) := by decide +kernel
theorem dX12_init_84 : decode cX12_init 84 = .ok (.newarray .int, 2) := by decide +kernel
theorem dX12_init_86 : decode cX12_init 86 = .ok (.putfield 42, 3) := by decide +kernel
theorem dX12_init_89 : decode cX12_init 89 = .ok (.aload_n 0, 1) := by decide +kernel
theorem dX12_init_90 : decode cX12_init 90 = .ok (.sipush 250, 3) := by decide +kernel
theorem dX12_init_93 : decode cX12_init 93 = .ok (.newarray .int, 2) := by decide +kernel
theorem dX12_init_95 : decode cX12_init 95 = .ok (.putfield 45, 3) := by decide +kernel
theorem dX12_init_98 : decode cX12_init 98 = .ok (.aload_n 0, 1) := by decide +kernel
theorem dX12_init_99 : decode cX12_init 99 = .ok (.sipush 151, 3) := by decide +kernel
theorem dX12_init_102 : decode cX12_init 102 = .ok (.newarray .int, 2) := by decide +kernel
theorem dX12_init_104 : decode cX12_init 104 = .ok (.putfield 48, 3) := by decide +kernel
theorem dX12_init_107 : decode cX12_init 107 = .ok (.aload_n 0, 1) := by decide +kernel
theorem dX12_init_108 : decode cX12_init 108 = .ok (.iconst 4, 1) := by decide +kernel
theorem dX12_init_109 : decode cX12_init 109 = .ok (.newarray .int, 2) := by decide +kernel
theorem dX12_init_111 : decode cX12_init 111 = .ok (.putfield 51, 3) := by decide +kernel
theorem dX12_init_114 : decode cX12_init 114 = .ok (.aload_n 0, 1) := by decide +kernel
theorem dX12_init_115 : decode cX12_init 115 = .ok (.getfield 7, 3) := by decide +kernel
theorem dX12_init_118 : decode cX12_init 118 = .ok (.bipush 12, 2) := by decide +kernel
theorem dX12_init_120 : decode cX12_init 120 = .ok (.invokestatic 54, 3) := by decide +kernel
theorem dX12_init_123 : decode cX12_init 123 = .ok (.return_, 1) := by decide +kernel
theorem dX12_in_0 : decode cX12_in 0 = .ok (.lload_n 0, 1) := by decide +kernel
theorem dX12_in_1 : decode cX12_in 1 = .ok (.lload_n 2, 1) := by decide +kernel
theorem dX12_in_2 : decode cX12_in 2 = .ok (.lcmp, 1) := by decide +kernel
theorem dX12_in_3 : decode cX12_in 3 = .ok (.ifCond .lt 14, 3) := by decide +kernel
theorem dX12_in_6 : decode cX12_in 6 = .ok (.lload_n 0, 1) := by decide +kernel
theorem dX12_in_7 : decode cX12_in 7 = .ok (.lload 4, 2) := by decide +kernel
theorem dX12_in_9 : decode cX12_in 9 = .ok (.lcmp, 1) := by decide +kernel
theorem dX12_in_10 : decode cX12_in 10 = .ok (.ifCond .gt 7, 3) := by decide +kernel
theorem dX12_in_13 : decode cX12_in 13 = .ok (.iconst 1, 1) := by decide +kernel
theorem dX12_in_14 : decode cX12_in 14 = .ok (.goto 4, 3) := by decide +kernel
theorem dX12_in_17 : decode cX12_in 17 = .ok (.iconst 0, 1) := by decide +kernel
theorem dX12_in_18 : decode cX12_in 18 = .ok (.ireturn, 1) := by decide +kernel
theorem dX12_bad_0 : decode cX12_bad 0 = .ok (.aload_n 0, 1) := by decide +kernel
theorem dX12_bad_1 : decode cX12_bad 1 = .ok (.getfield 20, 3) := by decide +kernel
theorem dX12_bad_4 : decode cX12_bad 4 = .ok (.iconst 0, 1) := by decide +kernel
theorem dX12_bad_5 : decode cX12_bad 5 = .ok (.dup2, 1) := by decide +kernel
theorem dX12_bad_6 : decode cX12_bad 6 = .ok (.iaload, 1) := by decide +kernel
theorem dX12_bad_7 : decode cX12_bad 7 = .ok (.iconst 1, 1) := by decide +kernel
theorem dX12_bad_8 : decode cX12_bad 8 = .ok (.iadd, 1) := by decide +kernel
theorem dX12_bad_9 : decode cX12_bad 9 = .ok (.iastore, 1) := by decide +kernel
theorem dX12_bad_10 : decode cX12_bad 10 = .ok (.iload_n 1, 1) := by decide +kernel
theorem dX12_bad_11 : decode cX12_bad 11 = .ok (.ireturn, 1) := by decide +kernel
theorem dX12_no_0 : decode cX12_no 0 = .ok (.aload_n 0, 1) := by decide +kernel
theorem dX12_no_1 : decode cX12_no 1 = .ok (.getfield 20, 3) := by decide +kernel
theorem dX12_no_4 : decode cX12_no 4 = .ok (.iconst 1, 1) := by decide +kernel
theorem dX12_no_5 : decode cX12_no 5 = .ok (.dup2, 1) := by decide +kernel
theorem dX12_no_6 : decode cX12_no 6 = .ok (.iaload, 1) := by decide +kernel
theorem dX12_no_7 : decode cX12_no 7 = .ok (.iconst 1, 1) := by decide +kernel
theorem dX12_no_8 : decode cX12_no 8 = .ok (.iadd, 1) := by decide +kernel
theorem dX12_no_9 : decode cX12_no 9 = .ok (.iastore, 1) := by decide +kernel
theorem dX12_no_10 : decode cX12_no 10 = .ok (.bipush (-3), 2) := by decide +kernel
theorem dX12_no_12 : decode cX12_no 12 = .ok (.ireturn, 1) := by decide +kernel
theorem dX12_full_0 : decode cX12_full 0 = .ok (.aload_n 0, 1) := by decide +kernel
theorem dX12_full_1 : decode cX12_full 1 = .ok (.getfield 20, 3) := by decide +kernel
theorem dX12_full_4 : decode cX12_full 4 = .ok (.iconst 2, 1) := by decide +kernel
theorem dX12_full_5 : decode cX12_full 5 = .ok (.dup2, 1) := by decide +kernel
theorem dX12_full_6 : decode cX12_full 6 = .ok (.iaload, 1) := by decide +kernel
theorem dX12_full_7 : decode cX12_full 7 = .ok (.iconst 1, 1) := by decide +kernel
theorem dX12_full_8 : decode cX12_full 8 = .ok (.iadd, 1) := by decide +kernel
theorem dX12_full_9 : decode cX12_full 9 = .ok (.iastore, 1) := by decide +kernel
theorem dX12_full_10 : decode cX12_full 10 = .ok (.bipush (-4), 2) := by decide +kernel
theorem dX12_full_12 : decode cX12_full 12 = .ok (.ireturn, 1) := by decide +kernel
theorem dX12_bits_0 : decode cX12_bits 0 = .ok (.iconst 0, 1) := by decide +kernel
theorem dX12_bits_1 : decode cX12_bits 1 = .ok (.istore_n 1, 1) := by decide +kernel
theorem dX12_bits_2 : decode cX12_bits 2 = .ok (.iload_n 0, 1) := by decide +kernel
theorem dX12_bits_3 : decode cX12_bits 3 = .ok (.istore_n 2, 1) := by decide +kernel
theorem dX12_bits_4 : decode cX12_bits 4 = .ok (.iload_n 2, 1) := by decide +kernel
theorem dX12_bits_5 : decode cX12_bits 5 = .ok (.ifCond .le 16, 3) := by decide +kernel
theorem dX12_bits_8 : decode cX12_bits 8 = .ok (.iload_n 1, 1) := by decide +kernel
theorem dX12_bits_9 : decode cX12_bits 9 = .ok (.iload_n 2, 1) := by decide +kernel
theorem dX12_bits_10 : decode cX12_bits 10 = .ok (.iconst 1, 1) := by decide +kernel
theorem dX12_bits_11 : decode cX12_bits 11 = .ok (.iand, 1) := by decide +kernel
theorem dX12_bits_12 : decode cX12_bits 12 = .ok (.iadd, 1) := by decide +kernel
theorem dX12_bits_13 : decode cX12_bits 13 = .ok (.istore_n 1, 1) := by decide +kernel
theorem dX12_bits_14 : decode cX12_bits 14 = .ok (.iload_n 2, 1) := by decide +kernel
theorem dX12_bits_15 : decode cX12_bits 15 = .ok (.iconst 1, 1) := by decide +kernel
theorem dX12_bits_16 : decode cX12_bits 16 = .ok (.ishr, 1) := by decide +kernel
theorem dX12_bits_17 : decode cX12_bits 17 = .ok (.istore_n 2, 1) := by decide +kernel
theorem dX12_bits_18 : decode cX12_bits 18 = .ok (.goto (-14), 3) := by decide +kernel
theorem dX12_bits_21 : decode cX12_bits 21 = .ok (.iload_n 1, 1) := by decide +kernel
theorem dX12_bits_22 : decode cX12_bits 22 = .ok (.ireturn, 1) := by decide +kernel
theorem dX12_begin_0 : decode cX12_begin 0 = .ok (.iconst 0, 1) := by decide +kernel
theorem dX12_begin_1 : decode cX12_begin 1 = .ok (.istore_n 2, 1) := by decide +kernel
theorem dX12_begin_2 : decode cX12_begin 2 = .ok (.iload_n 2, 1) := by decide +kernel
theorem dX12_begin_3 : decode cX12_begin 3 = .ok (.sipush 151, 3) := by decide +kernel
theorem dX12_begin_6 : decode cX12_begin 6 = .ok (.if_icmp .ge 13, 3) := by decide +kernel
theorem dX12_begin_9 : decode cX12_begin 9 = .ok (.aload_n 0, 1) := by decide +kernel
theorem dX12_begin_10 : decode cX12_begin 10 = .ok (.iload_n 2, 1) := by decide +kernel
theorem dX12_begin_11 : decode cX12_begin 11 = .ok (.iconst 0, 1) := by decide +kernel
theorem dX12_begin_12 : decode cX12_begin 12 = .ok (.iastore, 1) := by decide +kernel
theorem dX12_begin_13 : decode cX12_begin 13 = .ok (.iinc 2 1, 3) := by decide +kernel
theorem dX12_begin_16 : decode cX12_begin 16 = .ok (.goto (-14), 3) := by decide +kernel
theorem dX12_begin_19 : decode cX12_begin 19 = .ok (.aload_n 0, 1) := by decide +kernel
theorem dX12_begin_20 : decode cX12_begin 20 = .ok (.iconst 0, 1) := by decide +kernel
theorem dX12_begin_21 : decode cX12_begin 21 = .ok (.iload_n 1, 1) := by decide +kernel
theorem dX12_begin_22 : decode cX12_begin 22 = .ok (.iastore, 1) := by decide +kernel
theorem dX12_begin_23 : decode cX12_begin 23 = .ok (.iconst 0, 1) := by decide +kernel
theorem dX12_begin_24 : decode cX12_begin 24 = .ok (.istore_n 2, 1) := by decide +kernel
theorem dX12_begin_25 : decode cX12_begin 25 = .ok (.iload_n 2, 1) := by decide +kernel
theorem dX12_begin_26 : decode cX12_begin 26 = .ok (.iconst 5, 1) := by decide +kernel
theorem dX12_begin_27 : decode cX12_begin 27 = .ok (.if_icmp .ge 17, 3) := by decide +kernel
theorem dX12_begin_30 : decode cX12_begin 30 = .ok (.aload_n 0, 1) := by decide +kernel
theorem dX12_begin_31 : decode cX12_begin 31 = .ok (.iconst 1, 1) := by decide +kernel
theorem dX12_begin_32 : decode cX12_begin 32 = .ok (.iload_n 2, 1) := by decide +kernel
theorem dX12_begin_33 : decode cX12_begin 33 = .ok (.iadd, 1) := by decide +kernel
theorem dX12_begin_34 : decode cX12_begin 34 = .ok (.iconst 5, 1) := by decide +kernel
theorem dX12_begin_35 : decode cX12_begin 35 = .ok (.iload_n 2, 1) := by decide +kernel
theorem dX12_begin_36 : decode cX12_begin 36 = .ok (.isub, 1) := by decide +kernel
theorem dX12_begin_37 : decode cX12_begin 37 = .ok (.iastore, 1) := by decide +kernel
theorem dX12_begin_38 : decode cX12_begin 38 = .ok (.iinc 2 1, 3) := by decide +kernel
theorem dX12_begin_41 : decode cX12_begin 41 = .ok (.goto (-16), 3) := by decide +kernel
theorem dX12_begin_44 : decode cX12_begin 44 = .ok (.return_, 1) := by decide +kernel
theorem dX12_places_0 : decode cX12_places 0 = .ok (.aload_n 0, 1) := by decide +kernel
theorem dX12_places_1 : decode cX12_places 1 = .ok (.getfield 7, 3) := by decide +kernel
theorem dX12_places_4 : decode cX12_places 4 = .ok (.iconst 0, 1) := by decide +kernel
theorem dX12_places_5 : decode cX12_places 5 = .ok (.iaload, 1) := by decide +kernel
theorem dX12_places_6 : decode cX12_places 6 = .ok (.ireturn, 1) := by decide +kernel
theorem dX12_moons_0 : decode cX12_moons 0 = .ok (.aload_n 0, 1) := by decide +kernel
theorem dX12_moons_1 : decode cX12_moons 1 = .ok (.getfield 7, 3) := by decide +kernel
theorem dX12_moons_4 : decode cX12_moons 4 = .ok (.bipush 126, 2) := by decide +kernel
theorem dX12_moons_6 : decode cX12_moons 6 = .ok (.iaload, 1) := by decide +kernel
theorem dX12_moons_7 : decode cX12_moons 7 = .ok (.ireturn, 1) := by decide +kernel
theorem dX12_isLane_0 : decode cX12_isLane 0 = .ok (.iload_n 0, 1) := by decide +kernel
theorem dX12_isLane_1 : decode cX12_isLane 1 = .ok (.i2l, 1) := by decide +kernel
theorem dX12_isLane_2 : decode cX12_isLane 2 = .ok (.lconst 0, 1) := by decide +kernel
theorem dX12_isLane_3 : decode cX12_isLane 3 = .ok (.ldc2_w 58, 3) := by decide +kernel
theorem dX12_isLane_6 : decode cX12_isLane 6 = .ok (.invokestatic 60, 3) := by decide +kernel
theorem dX12_isLane_9 : decode cX12_isLane 9 = .ok (.ireturn, 1) := by decide +kernel
theorem dX12_isPlace_0 : decode cX12_isPlace 0 = .ok (.iload_n 1, 1) := by decide +kernel
theorem dX12_isPlace_1 : decode cX12_isPlace 1 = .ok (.i2l, 1) := by decide +kernel
theorem dX12_isPlace_2 : decode cX12_isPlace 2 = .ok (.lconst 0, 1) := by decide +kernel
theorem dX12_isPlace_3 : decode cX12_isPlace 3 = .ok (.aload_n 0, 1) := by decide +kernel
theorem dX12_isPlace_4 : decode cX12_isPlace 4 = .ok (.invokevirtual 64, 3) := by decide +kernel
theorem dX12_isPlace_7 : decode cX12_isPlace 7 = .ok (.iconst 1, 1) := by decide +kernel
theorem dX12_isPlace_8 : decode cX12_isPlace 8 = .ok (.isub, 1) := by decide +kernel
theorem dX12_isPlace_9 : decode cX12_isPlace 9 = .ok (.i2l, 1) := by decide +kernel
theorem dX12_isPlace_10 : decode cX12_isPlace 10 = .ok (.invokestatic 60, 3) := by decide +kernel
theorem dX12_isPlace_13 : decode cX12_isPlace 13 = .ok (.ireturn, 1) := by decide +kernel
theorem dX12_isMoon_0 : decode cX12_isMoon 0 = .ok (.iload_n 1, 1) := by decide +kernel
theorem dX12_isMoon_1 : decode cX12_isMoon 1 = .ok (.i2l, 1) := by decide +kernel
theorem dX12_isMoon_2 : decode cX12_isMoon 2 = .ok (.lconst 0, 1) := by decide +kernel
theorem dX12_isMoon_3 : decode cX12_isMoon 3 = .ok (.aload_n 0, 1) := by decide +kernel
theorem dX12_isMoon_4 : decode cX12_isMoon 4 = .ok (.invokevirtual 68, 3) := by decide +kernel
theorem dX12_isMoon_7 : decode cX12_isMoon 7 = .ok (.iconst 1, 1) := by decide +kernel
theorem dX12_isMoon_8 : decode cX12_isMoon 8 = .ok (.isub, 1) := by decide +kernel
theorem dX12_isMoon_9 : decode cX12_isMoon 9 = .ok (.i2l, 1) := by decide +kernel
theorem dX12_isMoon_10 : decode cX12_isMoon 10 = .ok (.invokestatic 60, 3) := by decide +kernel
theorem dX12_isMoon_13 : decode cX12_isMoon 13 = .ok (.ireturn, 1) := by decide +kernel
theorem dX12_of_0 : decode cX12_of 0 = .ok (.aload_n 0, 1) := by decide +kernel
theorem dX12_of_1 : decode cX12_of 1 = .ok (.getfield 7, 3) := by decide +kernel
theorem dX12_of_4 : decode cX12_of 4 = .ok (.bipush 127, 2) := by decide +kernel
theorem dX12_of_6 : decode cX12_of 6 = .ok (.iconst 4, 1) := by decide +kernel
theorem dX12_of_7 : decode cX12_of 7 = .ok (.iload_n 1, 1) := by decide +kernel
theorem dX12_of_8 : decode cX12_of 8 = .ok (.imul, 1) := by decide +kernel
theorem dX12_of_9 : decode cX12_of 9 = .ok (.iadd, 1) := by decide +kernel
theorem dX12_of_10 : decode cX12_of 10 = .ok (.iload_n 2, 1) := by decide +kernel
theorem dX12_of_11 : decode cX12_of 11 = .ok (.iadd, 1) := by decide +kernel
theorem dX12_of_12 : decode cX12_of 12 = .ok (.iaload, 1) := by decide +kernel
theorem dX12_of_13 : decode cX12_of 13 = .ok (.ireturn, 1) := by decide +kernel
theorem dX12_ring_0 : decode cX12_ring 0 = .ok (.iload_n 1, 1) := by decide +kernel
theorem dX12_ring_1 : decode cX12_ring 1 = .ok (.i2l, 1) := by decide +kernel
theorem dX12_ring_2 : decode cX12_ring 2 = .ok (.ldc2_w 58, 3) := by decide +kernel
theorem dX12_ring_5 : decode cX12_ring 5 = .ok (.ldc2_w 71, 3) := by decide +kernel
theorem dX12_ring_8 : decode cX12_ring 8 = .ok (.invokestatic 60, 3) := by decide +kernel
theorem dX12_ring_11 : decode cX12_ring 11 = .ok (.ifCond .ne 10, 3) := by decide +kernel
theorem dX12_ring_14 : decode cX12_ring 14 = .ok (.aload_n 0, 1) := by decide +kernel
theorem dX12_ring_15 : decode cX12_ring 15 = .ok (.bipush (-2), 2) := by decide +kernel
theorem dX12_ring_17 : decode cX12_ring 17 = .ok (.invokevirtual 73, 3) := by decide +kernel
theorem dX12_ring_20 : decode cX12_ring 20 = .ok (.ireturn, 1) := by decide +kernel
theorem dX12_ring_21 : decode cX12_ring 21 = .ok (.aload_n 0, 1) := by decide +kernel
theorem dX12_ring_22 : decode cX12_ring 22 = .ok (.invokevirtual 64, 3) := by decide +kernel
theorem dX12_ring_25 : decode cX12_ring 25 = .ok (.istore_n 2, 1) := by decide +kernel
theorem dX12_ring_26 : decode cX12_ring 26 = .ok (.aload_n 0, 1) := by decide +kernel
theorem dX12_ring_27 : decode cX12_ring 27 = .ok (.getfield 7, 3) := by decide +kernel
theorem dX12_ring_30 : decode cX12_ring 30 = .ok (.iload_n 1, 1) := by decide +kernel
theorem dX12_ring_31 : decode cX12_ring 31 = .ok (.invokestatic 54, 3) := by decide +kernel
theorem dX12_ring_34 : decode cX12_ring 34 = .ok (.iload_n 2, 1) := by decide +kernel
theorem dX12_ring_35 : decode cX12_ring 35 = .ok (.ireturn, 1) := by decide +kernel
theorem dX12_step_0 : decode cX12_step 0 = .ok (.iload_n 1, 1) := by decide +kernel
theorem dX12_step_1 : decode cX12_step 1 = .ok (.invokestatic 77, 3) := by decide +kernel
theorem dX12_step_4 : decode cX12_step 4 = .ok (.ifCond .eq 15, 3) := by decide +kernel
theorem dX12_step_7 : decode cX12_step 7 = .ok (.iload_n 2, 1) := by decide +kernel
theorem dX12_step_8 : decode cX12_step 8 = .ok (.i2l, 1) := by decide +kernel
theorem dX12_step_9 : decode cX12_step 9 = .ok (.lconst 0, 1) := by decide +kernel
theorem dX12_step_10 : decode cX12_step 10 = .ok (.ldc2_w 81, 3) := by decide +kernel
theorem dX12_step_13 : decode cX12_step 13 = .ok (.invokestatic 60, 3) := by decide +kernel
theorem dX12_step_16 : decode cX12_step 16 = .ok (.ifCond .ne 10, 3) := by decide +kernel
theorem dX12_step_19 : decode cX12_step 19 = .ok (.aload_n 0, 1) := by decide +kernel
theorem dX12_step_20 : decode cX12_step 20 = .ok (.bipush (-2), 2) := by decide +kernel
theorem dX12_step_22 : decode cX12_step 22 = .ok (.invokevirtual 73, 3) := by decide +kernel
theorem dX12_step_25 : decode cX12_step 25 = .ok (.ireturn, 1) := by decide +kernel
theorem dX12_step_26 : decode cX12_step 26 = .ok (.aload_n 0, 1) := by decide +kernel
theorem dX12_step_27 : decode cX12_step 27 = .ok (.getfield 7, 3) := by decide +kernel
theorem dX12_step_30 : decode cX12_step 30 = .ok (.iconst 1, 1) := by decide +kernel
theorem dX12_step_31 : decode cX12_step 31 = .ok (.iload_n 1, 1) := by decide +kernel
theorem dX12_step_32 : decode cX12_step 32 = .ok (.iadd, 1) := by decide +kernel
theorem dX12_step_33 : decode cX12_step 33 = .ok (.iaload, 1) := by decide +kernel
theorem dX12_step_34 : decode cX12_step 34 = .ok (.istore_n 3, 1) := by decide +kernel
theorem dX12_step_35 : decode cX12_step 35 = .ok (.aload_n 0, 1) := by decide +kernel
theorem dX12_step_36 : decode cX12_step 36 = .ok (.getfield 7, 3) := by decide +kernel
theorem dX12_step_39 : decode cX12_step 39 = .ok (.iconst 1, 1) := by decide +kernel
theorem dX12_step_40 : decode cX12_step 40 = .ok (.iload_n 1, 1) := by decide +kernel
theorem dX12_step_41 : decode cX12_step 41 = .ok (.iadd, 1) := by decide +kernel
theorem dX12_step_42 : decode cX12_step 42 = .ok (.iload_n 2, 1) := by decide +kernel
theorem dX12_step_43 : decode cX12_step 43 = .ok (.iastore, 1) := by decide +kernel
theorem dX12_step_44 : decode cX12_step 44 = .ok (.iload_n 3, 1) := by decide +kernel
theorem dX12_step_45 : decode cX12_step 45 = .ok (.ireturn, 1) := by decide +kernel
theorem dX12_lumps_0 : decode cX12_lumps 0 = .ok (.iload_n 1, 1) := by decide +kernel
theorem dX12_lumps_1 : decode cX12_lumps 1 = .ok (.invokestatic 77, 3) := by decide +kernel
theorem dX12_lumps_4 : decode cX12_lumps 4 = .ok (.ifCond .eq 23, 3) := by decide +kernel
theorem dX12_lumps_7 : decode cX12_lumps 7 = .ok (.aload_n 0, 1) := by decide +kernel
theorem dX12_lumps_8 : decode cX12_lumps 8 = .ok (.iload_n 2, 1) := by decide +kernel
theorem dX12_lumps_9 : decode cX12_lumps 9 = .ok (.invokevirtual 83, 3) := by decide +kernel
theorem dX12_lumps_12 : decode cX12_lumps 12 = .ok (.ifCond .eq 15, 3) := by decide +kernel
theorem dX12_lumps_15 : decode cX12_lumps 15 = .ok (.iload_n 3, 1) := by decide +kernel
theorem dX12_lumps_16 : decode cX12_lumps 16 = .ok (.i2l, 1) := by decide +kernel
theorem dX12_lumps_17 : decode cX12_lumps 17 = .ok (.lconst 0, 1) := by decide +kernel
theorem dX12_lumps_18 : decode cX12_lumps 18 = .ok (.ldc2_w 86, 3) := by decide +kernel
theorem dX12_lumps_21 : decode cX12_lumps 21 = .ok (.invokestatic 60, 3) := by decide +kernel
theorem dX12_lumps_24 : decode cX12_lumps 24 = .ok (.ifCond .ne 10, 3) := by decide +kernel
theorem dX12_lumps_27 : decode cX12_lumps 27 = .ok (.aload_n 0, 1) := by decide +kernel
theorem dX12_lumps_28 : decode cX12_lumps 28 = .ok (.bipush (-2), 2) := by decide +kernel
theorem dX12_lumps_30 : decode cX12_lumps 30 = .ok (.invokevirtual 73, 3) := by decide +kernel
theorem dX12_lumps_33 : decode cX12_lumps 33 = .ok (.ireturn, 1) := by decide +kernel
theorem dX12_lumps_34 : decode cX12_lumps 34 = .ok (.aload_n 0, 1) := by decide +kernel
theorem dX12_lumps_35 : decode cX12_lumps 35 = .ok (.getfield 7, 3) := by decide +kernel
theorem dX12_lumps_38 : decode cX12_lumps 38 = .ok (.bipush 6, 2) := by decide +kernel
theorem dX12_lumps_40 : decode cX12_lumps 40 = .ok (.bipush 24, 2) := by decide +kernel
theorem dX12_lumps_42 : decode cX12_lumps 42 = .ok (.iload_n 1, 1) := by decide +kernel
theorem dX12_lumps_43 : decode cX12_lumps 43 = .ok (.imul, 1) := by decide +kernel
theorem dX12_lumps_44 : decode cX12_lumps 44 = .ok (.iadd, 1) := by decide +kernel
theorem dX12_lumps_45 : decode cX12_lumps 45 = .ok (.iload_n 2, 1) := by decide +kernel
theorem dX12_lumps_46 : decode cX12_lumps 46 = .ok (.iadd, 1) := by decide +kernel
theorem dX12_lumps_47 : decode cX12_lumps 47 = .ok (.iaload, 1) := by decide +kernel
theorem dX12_lumps_48 : decode cX12_lumps 48 = .ok (.istore 4, 2) := by decide +kernel
theorem dX12_lumps_50 : decode cX12_lumps 50 = .ok (.aload_n 0, 1) := by decide +kernel
theorem dX12_lumps_51 : decode cX12_lumps 51 = .ok (.getfield 7, 3) := by decide +kernel
theorem dX12_lumps_54 : decode cX12_lumps 54 = .ok (.bipush 6, 2) := by decide +kernel
theorem dX12_lumps_56 : decode cX12_lumps 56 = .ok (.bipush 24, 2) := by decide +kernel
theorem dX12_lumps_58 : decode cX12_lumps 58 = .ok (.iload_n 1, 1) := by decide +kernel
theorem dX12_lumps_59 : decode cX12_lumps 59 = .ok (.imul, 1) := by decide +kernel
theorem dX12_lumps_60 : decode cX12_lumps 60 = .ok (.iadd, 1) := by decide +kernel
theorem dX12_lumps_61 : decode cX12_lumps 61 = .ok (.iload_n 2, 1) := by decide +kernel
theorem dX12_lumps_62 : decode cX12_lumps 62 = .ok (.iadd, 1) := by decide +kernel
theorem dX12_lumps_63 : decode cX12_lumps 63 = .ok (.iload_n 3, 1) := by decide +kernel
theorem dX12_lumps_64 : decode cX12_lumps 64 = .ok (.iastore, 1) := by decide +kernel
theorem dX12_lumps_65 : decode cX12_lumps 65 = .ok (.iload 4, 2) := by decide +kernel
theorem dX12_lumps_67 : decode cX12_lumps 67 = .ok (.ireturn, 1) := by decide +kernel
theorem dX12_layMoon_0 : decode cX12_layMoon 0 = .ok (.bipush 127, 2) := by decide +kernel
theorem dX12_layMoon_2 : decode cX12_layMoon 2 = .ok (.iconst 4, 1) := by decide +kernel
theorem dX12_layMoon_3 : decode cX12_layMoon 3 = .ok (.aload_n 0, 1) := by decide +kernel
theorem dX12_layMoon_4 : decode cX12_layMoon 4 = .ok (.bipush 126, 2) := by decide +kernel
theorem dX12_layMoon_6 : decode cX12_layMoon 6 = .ok (.iaload, 1) := by decide +kernel
theorem dX12_layMoon_7 : decode cX12_layMoon 7 = .ok (.imul, 1) := by decide +kernel
theorem dX12_layMoon_8 : decode cX12_layMoon 8 = .ok (.iadd, 1) := by decide +kernel
theorem dX12_layMoon_9 : decode cX12_layMoon 9 = .ok (.istore 5, 2) := by decide +kernel
theorem dX12_layMoon_11 : decode cX12_layMoon 11 = .ok (.aload_n 0, 1) := by decide +kernel
theorem dX12_layMoon_12 : decode cX12_layMoon 12 = .ok (.iload 5, 2) := by decide +kernel
theorem dX12_layMoon_14 : decode cX12_layMoon 14 = .ok (.iconst 0, 1) := by decide +kernel
theorem dX12_layMoon_15 : decode cX12_layMoon 15 = .ok (.iadd, 1) := by decide +kernel
theorem dX12_layMoon_16 : decode cX12_layMoon 16 = .ok (.iload_n 1, 1) := by decide +kernel
theorem dX12_layMoon_17 : decode cX12_layMoon 17 = .ok (.iastore, 1) := by decide +kernel
theorem dX12_layMoon_18 : decode cX12_layMoon 18 = .ok (.aload_n 0, 1) := by decide +kernel
theorem dX12_layMoon_19 : decode cX12_layMoon 19 = .ok (.iload 5, 2) := by decide +kernel
theorem dX12_layMoon_21 : decode cX12_layMoon 21 = .ok (.iconst 1, 1) := by decide +kernel
theorem dX12_layMoon_22 : decode cX12_layMoon 22 = .ok (.iadd, 1) := by decide +kernel
theorem dX12_layMoon_23 : decode cX12_layMoon 23 = .ok (.iload_n 2, 1) := by decide +kernel
theorem dX12_layMoon_24 : decode cX12_layMoon 24 = .ok (.iastore, 1) := by decide +kernel
theorem dX12_layMoon_25 : decode cX12_layMoon 25 = .ok (.aload_n 0, 1) := by decide +kernel
theorem dX12_layMoon_26 : decode cX12_layMoon 26 = .ok (.iload 5, 2) := by decide +kernel
theorem dX12_layMoon_28 : decode cX12_layMoon 28 = .ok (.iconst 2, 1) := by decide +kernel
theorem dX12_layMoon_29 : decode cX12_layMoon 29 = .ok (.iadd, 1) := by decide +kernel
theorem dX12_layMoon_30 : decode cX12_layMoon 30 = .ok (.iload_n 3, 1) := by decide +kernel
theorem dX12_layMoon_31 : decode cX12_layMoon 31 = .ok (.iastore, 1) := by decide +kernel
theorem dX12_layMoon_32 : decode cX12_layMoon 32 = .ok (.aload_n 0, 1) := by decide +kernel
theorem dX12_layMoon_33 : decode cX12_layMoon 33 = .ok (.iload 5, 2) := by decide +kernel
theorem dX12_layMoon_35 : decode cX12_layMoon 35 = .ok (.iconst 3, 1) := by decide +kernel
theorem dX12_layMoon_36 : decode cX12_layMoon 36 = .ok (.iadd, 1) := by decide +kernel
theorem dX12_layMoon_37 : decode cX12_layMoon 37 = .ok (.iload 4, 2) := by decide +kernel
theorem dX12_layMoon_39 : decode cX12_layMoon 39 = .ok (.iastore, 1) := by decide +kernel
theorem dX12_layMoon_40 : decode cX12_layMoon 40 = .ok (.aload_n 0, 1) := by decide +kernel
theorem dX12_layMoon_41 : decode cX12_layMoon 41 = .ok (.bipush 126, 2) := by decide +kernel
theorem dX12_layMoon_43 : decode cX12_layMoon 43 = .ok (.dup2, 1) := by decide +kernel
theorem dX12_layMoon_44 : decode cX12_layMoon 44 = .ok (.iaload, 1) := by decide +kernel
theorem dX12_layMoon_45 : decode cX12_layMoon 45 = .ok (.iconst 1, 1) := by decide +kernel
theorem dX12_layMoon_46 : decode cX12_layMoon 46 = .ok (.iadd, 1) := by decide +kernel
theorem dX12_layMoon_47 : decode cX12_layMoon 47 = .ok (.iastore, 1) := by decide +kernel
theorem dX12_layMoon_48 : decode cX12_layMoon 48 = .ok (.return_, 1) := by decide +kernel
theorem dX12_moon_0 : decode cX12_moon 0 = .ok (.iload_n 1, 1) := by decide +kernel
theorem dX12_moon_1 : decode cX12_moon 1 = .ok (.i2l, 1) := by decide +kernel
theorem dX12_moon_2 : decode cX12_moon 2 = .ok (.lconst 0, 1) := by decide +kernel
theorem dX12_moon_3 : decode cX12_moon 3 = .ok (.ldc2_w 58, 3) := by decide +kernel
theorem dX12_moon_6 : decode cX12_moon 6 = .ok (.invokestatic 60, 3) := by decide +kernel
theorem dX12_moon_9 : decode cX12_moon 9 = .ok (.ifCond .eq 36, 3) := by decide +kernel
theorem dX12_moon_12 : decode cX12_moon 12 = .ok (.iload_n 2, 1) := by decide +kernel
theorem dX12_moon_13 : decode cX12_moon 13 = .ok (.i2l, 1) := by decide +kernel
theorem dX12_moon_14 : decode cX12_moon 14 = .ok (.lconst 0, 1) := by decide +kernel
theorem dX12_moon_15 : decode cX12_moon 15 = .ok (.ldc2_w 88, 3) := by decide +kernel
theorem dX12_moon_18 : decode cX12_moon 18 = .ok (.invokestatic 60, 3) := by decide +kernel
theorem dX12_moon_21 : decode cX12_moon 21 = .ok (.ifCond .eq 24, 3) := by decide +kernel
theorem dX12_moon_24 : decode cX12_moon 24 = .ok (.aload_n 0, 1) := by decide +kernel
theorem dX12_moon_25 : decode cX12_moon 25 = .ok (.iload_n 3, 1) := by decide +kernel
theorem dX12_moon_26 : decode cX12_moon 26 = .ok (.invokevirtual 83, 3) := by decide +kernel
theorem dX12_moon_29 : decode cX12_moon 29 = .ok (.ifCond .eq 16, 3) := by decide +kernel
theorem dX12_moon_32 : decode cX12_moon 32 = .ok (.iload 4, 2) := by decide +kernel
theorem dX12_moon_34 : decode cX12_moon 34 = .ok (.i2l, 1) := by decide +kernel
theorem dX12_moon_35 : decode cX12_moon 35 = .ok (.lconst 0, 1) := by decide +kernel
theorem dX12_moon_36 : decode cX12_moon 36 = .ok (.ldc2_w 81, 3) := by decide +kernel
theorem dX12_moon_39 : decode cX12_moon 39 = .ok (.invokestatic 60, 3) := by decide +kernel
theorem dX12_moon_42 : decode cX12_moon 42 = .ok (.ifCond .ne 10, 3) := by decide +kernel
theorem dX12_moon_45 : decode cX12_moon 45 = .ok (.aload_n 0, 1) := by decide +kernel
theorem dX12_moon_46 : decode cX12_moon 46 = .ok (.bipush (-2), 2) := by decide +kernel
theorem dX12_moon_48 : decode cX12_moon 48 = .ok (.invokevirtual 73, 3) := by decide +kernel
theorem dX12_moon_51 : decode cX12_moon 51 = .ok (.ireturn, 1) := by decide +kernel
theorem dX12_moon_52 : decode cX12_moon 52 = .ok (.aload_n 0, 1) := by decide +kernel
theorem dX12_moon_53 : decode cX12_moon 53 = .ok (.invokevirtual 68, 3) := by decide +kernel
theorem dX12_moon_56 : decode cX12_moon 56 = .ok (.iconst 4, 1) := by decide +kernel
theorem dX12_moon_57 : decode cX12_moon 57 = .ok (.if_icmp .ne 8, 3) := by decide +kernel
theorem dX12_moon_60 : decode cX12_moon 60 = .ok (.aload_n 0, 1) := by decide +kernel
theorem dX12_moon_61 : decode cX12_moon 61 = .ok (.invokevirtual 90, 3) := by decide +kernel
theorem dX12_moon_64 : decode cX12_moon 64 = .ok (.ireturn, 1) := by decide +kernel
theorem dX12_moon_65 : decode cX12_moon 65 = .ok (.aload_n 0, 1) := by decide +kernel
theorem dX12_moon_66 : decode cX12_moon 66 = .ok (.getfield 7, 3) := by decide +kernel
theorem dX12_moon_69 : decode cX12_moon 69 = .ok (.iload_n 1, 1) := by decide +kernel
theorem dX12_moon_70 : decode cX12_moon 70 = .ok (.iload_n 2, 1) := by decide +kernel
theorem dX12_moon_71 : decode cX12_moon 71 = .ok (.iload_n 3, 1) := by decide +kernel
theorem dX12_moon_72 : decode cX12_moon 72 = .ok (.iload 4, 2) := by decide +kernel
theorem dX12_moon_74 : decode cX12_moon 74 = .ok (.invokestatic 93, 3) := by decide +kernel
theorem dX12_moon_77 : decode cX12_moon 77 = .ok (.aload_n 0, 1) := by decide +kernel
theorem dX12_moon_78 : decode cX12_moon 78 = .ok (.invokevirtual 68, 3) := by decide +kernel
theorem dX12_moon_81 : decode cX12_moon 81 = .ok (.iconst 1, 1) := by decide +kernel
theorem dX12_moon_82 : decode cX12_moon 82 = .ok (.isub, 1) := by decide +kernel
theorem dX12_moon_83 : decode cX12_moon 83 = .ok (.ireturn, 1) := by decide +kernel
theorem dX12_takeNow_0 : decode cX12_takeNow 0 = .ok (.iconst 0, 1) := by decide +kernel
theorem dX12_takeNow_1 : decode cX12_takeNow 1 = .ok (.istore_n 2, 1) := by decide +kernel
theorem dX12_takeNow_2 : decode cX12_takeNow 2 = .ok (.iload_n 2, 1) := by decide +kernel
theorem dX12_takeNow_3 : decode cX12_takeNow 3 = .ok (.bipush 120, 2) := by decide +kernel
theorem dX12_takeNow_5 : decode cX12_takeNow 5 = .ok (.if_icmp .ge 24, 3) := by decide +kernel
theorem dX12_takeNow_8 : decode cX12_takeNow 8 = .ok (.aload_n 0, 1) := by decide +kernel
theorem dX12_takeNow_9 : decode cX12_takeNow 9 = .ok (.getfield 27, 3) := by decide +kernel
theorem dX12_takeNow_12 : decode cX12_takeNow 12 = .ok (.iload_n 2, 1) := by decide +kernel
theorem dX12_takeNow_13 : decode cX12_takeNow 13 = .ok (.aload_n 0, 1) := by decide +kernel
theorem dX12_takeNow_14 : decode cX12_takeNow 14 = .ok (.getfield 7, 3) := by decide +kernel
theorem dX12_takeNow_17 : decode cX12_takeNow 17 = .ok (.bipush 6, 2) := by decide +kernel
theorem dX12_takeNow_19 : decode cX12_takeNow 19 = .ok (.iload_n 2, 1) := by decide +kernel
theorem dX12_takeNow_20 : decode cX12_takeNow 20 = .ok (.iadd, 1) := by decide +kernel
theorem dX12_takeNow_21 : decode cX12_takeNow 21 = .ok (.iaload, 1) := by decide +kernel
theorem dX12_takeNow_22 : decode cX12_takeNow 22 = .ok (.iastore, 1) := by decide +kernel
theorem dX12_takeNow_23 : decode cX12_takeNow 23 = .ok (.iinc 2 1, 3) := by decide +kernel
theorem dX12_takeNow_26 : decode cX12_takeNow 26 = .ok (.goto (-24), 3) := by decide +kernel
theorem dX12_takeNow_29 : decode cX12_takeNow 29 = .ok (.iconst 0, 1) := by decide +kernel
theorem dX12_takeNow_30 : decode cX12_takeNow 30 = .ok (.istore_n 2, 1) := by decide +kernel
theorem dX12_takeNow_31 : decode cX12_takeNow 31 = .ok (.iload_n 2, 1) := by decide +kernel
theorem dX12_takeNow_32 : decode cX12_takeNow 32 = .ok (.aload_n 0, 1) := by decide +kernel
theorem dX12_takeNow_33 : decode cX12_takeNow 33 = .ok (.invokevirtual 68, 3) := by decide +kernel
theorem dX12_takeNow_36 : decode cX12_takeNow 36 = .ok (.if_icmp .ge 21, 3) := by decide +kernel
theorem dX12_takeNow_39 : decode cX12_takeNow 39 = .ok (.aload_n 0, 1) := by decide +kernel
theorem dX12_takeNow_40 : decode cX12_takeNow 40 = .ok (.getfield 33, 3) := by decide +kernel
theorem dX12_takeNow_43 : decode cX12_takeNow 43 = .ok (.iload_n 2, 1) := by decide +kernel
theorem dX12_takeNow_44 : decode cX12_takeNow 44 = .ok (.aload_n 0, 1) := by decide +kernel
theorem dX12_takeNow_45 : decode cX12_takeNow 45 = .ok (.iload_n 2, 1) := by decide +kernel
theorem dX12_takeNow_46 : decode cX12_takeNow 46 = .ok (.iconst 2, 1) := by decide +kernel
theorem dX12_takeNow_47 : decode cX12_takeNow 47 = .ok (.invokevirtual 97, 3) := by decide +kernel
theorem dX12_takeNow_50 : decode cX12_takeNow 50 = .ok (.iastore, 1) := by decide +kernel
theorem dX12_takeNow_51 : decode cX12_takeNow 51 = .ok (.iinc 2 1, 3) := by decide +kernel
theorem dX12_takeNow_54 : decode cX12_takeNow 54 = .ok (.goto (-23), 3) := by decide +kernel
theorem dX12_takeNow_57 : decode cX12_takeNow 57 = .ok (.aload_n 0, 1) := by decide +kernel
theorem dX12_takeNow_58 : decode cX12_takeNow 58 = .ok (.aload_n 0, 1) := by decide +kernel
theorem dX12_takeNow_59 : decode cX12_takeNow 59 = .ok (.getfield 7, 3) := by decide +kernel
theorem dX12_takeNow_62 : decode cX12_takeNow 62 = .ok (.sipush 148, 3) := by decide +kernel
theorem dX12_takeNow_65 : decode cX12_takeNow 65 = .ok (.iaload, 1) := by decide +kernel
theorem dX12_takeNow_66 : decode cX12_takeNow 66 = .ok (.putfield 101, 3) := by decide +kernel
theorem dX12_takeNow_69 : decode cX12_takeNow 69 = .ok (.aload_n 0, 1) := by decide +kernel
theorem dX12_takeNow_70 : decode cX12_takeNow 70 = .ok (.iload_n 1, 1) := by decide +kernel
theorem dX12_takeNow_71 : decode cX12_takeNow 71 = .ok (.putfield 105, 3) := by decide +kernel
theorem dX12_takeNow_74 : decode cX12_takeNow 74 = .ok (.return_, 1) := by decide +kernel
theorem dX12_all_0 : decode cX12_all 0 = .ok (.iconst 1, 1) := by decide +kernel
theorem dX12_all_1 : decode cX12_all 1 = .ok (.aload_n 0, 1) := by decide +kernel
theorem dX12_all_2 : decode cX12_all 2 = .ok (.invokevirtual 68, 3) := by decide +kernel
theorem dX12_all_5 : decode cX12_all 5 = .ok (.ishl, 1) := by decide +kernel
theorem dX12_all_6 : decode cX12_all 6 = .ok (.iconst 1, 1) := by decide +kernel
theorem dX12_all_7 : decode cX12_all 7 = .ok (.isub, 1) := by decide +kernel
theorem dX12_all_8 : decode cX12_all 8 = .ok (.ireturn, 1) := by decide +kernel
theorem dX12_isAwake_0 : decode cX12_isAwake 0 = .ok (.aload_n 0, 1) := by decide +kernel
theorem dX12_isAwake_1 : decode cX12_isAwake 1 = .ok (.getfield 105, 3) := by decide +kernel
theorem dX12_isAwake_4 : decode cX12_isAwake 4 = .ok (.iload_n 1, 1) := by decide +kernel
theorem dX12_isAwake_5 : decode cX12_isAwake 5 = .ok (.ishr, 1) := by decide +kernel
theorem dX12_isAwake_6 : decode cX12_isAwake 6 = .ok (.iconst 1, 1) := by decide +kernel
theorem dX12_isAwake_7 : decode cX12_isAwake 7 = .ok (.iand, 1) := by decide +kernel
theorem dX12_isAwake_8 : decode cX12_isAwake 8 = .ok (.iconst 1, 1) := by decide +kernel
theorem dX12_isAwake_9 : decode cX12_isAwake 9 = .ok (.if_icmp .ne 26, 3) := by decide +kernel
theorem dX12_isAwake_12 : decode cX12_isAwake 12 = .ok (.aload_n 0, 1) := by decide +kernel
theorem dX12_isAwake_13 : decode cX12_isAwake 13 = .ok (.iload_n 1, 1) := by decide +kernel
theorem dX12_isAwake_14 : decode cX12_isAwake 14 = .ok (.iconst 0, 1) := by decide +kernel
theorem dX12_isAwake_15 : decode cX12_isAwake 15 = .ok (.invokevirtual 97, 3) := by decide +kernel
theorem dX12_isAwake_18 : decode cX12_isAwake 18 = .ok (.iconst 4, 1) := by decide +kernel
theorem dX12_isAwake_19 : decode cX12_isAwake 19 = .ok (.if_icmp .ne 12, 3) := by decide +kernel
theorem dX12_isAwake_22 : decode cX12_isAwake 22 = .ok (.aload_n 0, 1) := by decide +kernel
theorem dX12_isAwake_23 : decode cX12_isAwake 23 = .ok (.getfield 101, 3) := by decide +kernel
theorem dX12_isAwake_26 : decode cX12_isAwake 26 = .ok (.iconst 3, 1) := by decide +kernel
theorem dX12_isAwake_27 : decode cX12_isAwake 27 = .ok (.irem, 1) := by decide +kernel
theorem dX12_isAwake_28 : decode cX12_isAwake 28 = .ok (.ifCond .eq 7, 3) := by decide +kernel
theorem dX12_isAwake_31 : decode cX12_isAwake 31 = .ok (.iconst 1, 1) := by decide +kernel
theorem dX12_isAwake_32 : decode cX12_isAwake 32 = .ok (.goto 4, 3) := by decide +kernel
theorem dX12_isAwake_35 : decode cX12_isAwake 35 = .ok (.iconst 0, 1) := by decide +kernel
theorem dX12_isAwake_36 : decode cX12_isAwake 36 = .ok (.ireturn, 1) := by decide +kernel
theorem dX12_isBy_0 : decode cX12_isBy 0 = .ok (.aload_n 0, 1) := by decide +kernel
theorem dX12_isBy_1 : decode cX12_isBy 1 = .ok (.iload_n 1, 1) := by decide +kernel
theorem dX12_isBy_2 : decode cX12_isBy 2 = .ok (.iconst 0, 1) := by decide +kernel
theorem dX12_isBy_3 : decode cX12_isBy 3 = .ok (.invokevirtual 97, 3) := by decide +kernel
theorem dX12_isBy_6 : decode cX12_isBy 6 = .ok (.iconst 1, 1) := by decide +kernel
theorem dX12_isBy_7 : decode cX12_isBy 7 = .ok (.if_icmp .eq 13, 3) := by decide +kernel
theorem dX12_isBy_10 : decode cX12_isBy 10 = .ok (.aload_n 0, 1) := by decide +kernel
theorem dX12_isBy_11 : decode cX12_isBy 11 = .ok (.iload_n 1, 1) := by decide +kernel
theorem dX12_isBy_12 : decode cX12_isBy 12 = .ok (.iconst 0, 1) := by decide +kernel
theorem dX12_isBy_13 : decode cX12_isBy 13 = .ok (.invokevirtual 97, 3) := by decide +kernel
theorem dX12_isBy_16 : decode cX12_isBy 16 = .ok (.iconst 3, 1) := by decide +kernel
theorem dX12_isBy_17 : decode cX12_isBy 17 = .ok (.if_icmp .ne 7, 3) := by decide +kernel
theorem dX12_isBy_20 : decode cX12_isBy 20 = .ok (.iconst 1, 1) := by decide +kernel
theorem dX12_isBy_21 : decode cX12_isBy 21 = .ok (.goto 4, 3) := by decide +kernel
theorem dX12_isBy_24 : decode cX12_isBy 24 = .ok (.iconst 0, 1) := by decide +kernel
theorem dX12_isBy_25 : decode cX12_isBy 25 = .ok (.istore_n 3, 1) := by decide +kernel
theorem dX12_isBy_26 : decode cX12_isBy 26 = .ok (.iload_n 2, 1) := by decide +kernel
theorem dX12_isBy_27 : decode cX12_isBy 27 = .ok (.aload_n 0, 1) := by decide +kernel
theorem dX12_isBy_28 : decode cX12_isBy 28 = .ok (.getfield 33, 3) := by decide +kernel
theorem dX12_isBy_31 : decode cX12_isBy 31 = .ok (.iload_n 1, 1) := by decide +kernel
theorem dX12_isBy_32 : decode cX12_isBy 32 = .ok (.iaload, 1) := by decide +kernel
theorem dX12_isBy_33 : decode cX12_isBy 33 = .ok (.isub, 1) := by decide +kernel
theorem dX12_isBy_34 : decode cX12_isBy 34 = .ok (.aload_n 0, 1) := by decide +kernel
theorem dX12_isBy_35 : decode cX12_isBy 35 = .ok (.invokevirtual 64, 3) := by decide +kernel
theorem dX12_isBy_38 : decode cX12_isBy 38 = .ok (.iadd, 1) := by decide +kernel
theorem dX12_isBy_39 : decode cX12_isBy 39 = .ok (.aload_n 0, 1) := by decide +kernel
theorem dX12_isBy_40 : decode cX12_isBy 40 = .ok (.invokevirtual 64, 3) := by decide +kernel
theorem dX12_isBy_43 : decode cX12_isBy 43 = .ok (.irem, 1) := by decide +kernel
theorem dX12_isBy_44 : decode cX12_isBy 44 = .ok (.istore 4, 2) := by decide +kernel
theorem dX12_isBy_46 : decode cX12_isBy 46 = .ok (.iload 4, 2) := by decide +kernel
theorem dX12_isBy_48 : decode cX12_isBy 48 = .ok (.ifCond .eq 24, 3) := by decide +kernel
theorem dX12_isBy_51 : decode cX12_isBy 51 = .ok (.iload_n 3, 1) := by decide +kernel
theorem dX12_isBy_52 : decode cX12_isBy 52 = .ok (.ifCond .eq 24, 3) := by decide +kernel
theorem dX12_isBy_55 : decode cX12_isBy 55 = .ok (.iload 4, 2) := by decide +kernel
theorem dX12_isBy_57 : decode cX12_isBy 57 = .ok (.iconst 1, 1) := by decide +kernel
theorem dX12_isBy_58 : decode cX12_isBy 58 = .ok (.if_icmp .eq 14, 3) := by decide +kernel
theorem dX12_isBy_61 : decode cX12_isBy 61 = .ok (.iload 4, 2) := by decide +kernel
theorem dX12_isBy_63 : decode cX12_isBy 63 = .ok (.aload_n 0, 1) := by decide +kernel
theorem dX12_isBy_64 : decode cX12_isBy 64 = .ok (.invokevirtual 64, 3) := by decide +kernel
theorem dX12_isBy_67 : decode cX12_isBy 67 = .ok (.iconst 1, 1) := by decide +kernel
theorem dX12_isBy_68 : decode cX12_isBy 68 = .ok (.isub, 1) := by decide +kernel
theorem dX12_isBy_69 : decode cX12_isBy 69 = .ok (.if_icmp .ne 7, 3) := by decide +kernel
theorem dX12_isBy_72 : decode cX12_isBy 72 = .ok (.iconst 1, 1) := by decide +kernel
theorem dX12_isBy_73 : decode cX12_isBy 73 = .ok (.goto 4, 3) := by decide +kernel
theorem dX12_isBy_76 : decode cX12_isBy 76 = .ok (.iconst 0, 1) := by decide +kernel
theorem dX12_isBy_77 : decode cX12_isBy 77 = .ok (.ireturn, 1) := by decide +kernel
theorem dX12_movedTo_0 : decode cX12_movedTo 0 = .ok (.aload_n 0, 1) := by decide +kernel
theorem dX12_movedTo_1 : decode cX12_movedTo 1 = .ok (.iload_n 1, 1) := by decide +kernel
theorem dX12_movedTo_2 : decode cX12_movedTo 2 = .ok (.iconst 0, 1) := by decide +kernel
theorem dX12_movedTo_3 : decode cX12_movedTo 3 = .ok (.invokevirtual 97, 3) := by decide +kernel
theorem dX12_movedTo_6 : decode cX12_movedTo 6 = .ok (.istore_n 3, 1) := by decide +kernel
theorem dX12_movedTo_7 : decode cX12_movedTo 7 = .ok (.iload_n 3, 1) := by decide +kernel
theorem dX12_movedTo_8 : decode cX12_movedTo 8 = .ok (.iconst 3, 1) := by decide +kernel
theorem dX12_movedTo_9 : decode cX12_movedTo 9 = .ok (.if_icmp .ne 7, 3) := by decide +kernel
theorem dX12_movedTo_12 : decode cX12_movedTo 12 = .ok (.iconst 2, 1) := by decide +kernel
theorem dX12_movedTo_13 : decode cX12_movedTo 13 = .ok (.goto 4, 3) := by decide +kernel
theorem dX12_movedTo_16 : decode cX12_movedTo 16 = .ok (.iconst 1, 1) := by decide +kernel
theorem dX12_movedTo_17 : decode cX12_movedTo 17 = .ok (.istore 4, 2) := by decide +kernel
theorem dX12_movedTo_19 : decode cX12_movedTo 19 = .ok (.iload_n 2, 1) := by decide +kernel
theorem dX12_movedTo_20 : decode cX12_movedTo 20 = .ok (.aload_n 0, 1) := by decide +kernel
theorem dX12_movedTo_21 : decode cX12_movedTo 21 = .ok (.iload_n 1, 1) := by decide +kernel
theorem dX12_movedTo_22 : decode cX12_movedTo 22 = .ok (.iconst 1, 1) := by decide +kernel
theorem dX12_movedTo_23 : decode cX12_movedTo 23 = .ok (.invokevirtual 97, 3) := by decide +kernel
theorem dX12_movedTo_26 : decode cX12_movedTo 26 = .ok (.if_icmp .ne 7, 3) := by decide +kernel
theorem dX12_movedTo_29 : decode cX12_movedTo 29 = .ok (.iconst 1, 1) := by decide +kernel
theorem dX12_movedTo_30 : decode cX12_movedTo 30 = .ok (.goto 4, 3) := by decide +kernel
theorem dX12_movedTo_33 : decode cX12_movedTo 33 = .ok (.iconst 0, 1) := by decide +kernel
theorem dX12_movedTo_34 : decode cX12_movedTo 34 = .ok (.istore 5, 2) := by decide +kernel
theorem dX12_movedTo_36 : decode cX12_movedTo 36 = .ok (.iload 5, 2) := by decide +kernel
theorem dX12_movedTo_38 : decode cX12_movedTo 38 = .ok (.iload_n 3, 1) := by decide +kernel
theorem dX12_movedTo_39 : decode cX12_movedTo 39 = .ok (.iconst 2, 1) := by decide +kernel
theorem dX12_movedTo_40 : decode cX12_movedTo 40 = .ok (.if_icmp .eq 7, 3) := by decide +kernel
theorem dX12_movedTo_43 : decode cX12_movedTo 43 = .ok (.iconst 1, 1) := by decide +kernel
theorem dX12_movedTo_44 : decode cX12_movedTo 44 = .ok (.goto 4, 3) := by decide +kernel
theorem dX12_movedTo_47 : decode cX12_movedTo 47 = .ok (.iconst 0, 1) := by decide +kernel
theorem dX12_movedTo_48 : decode cX12_movedTo 48 = .ok (.if_icmp .ne 10, 3) := by decide +kernel
theorem dX12_movedTo_51 : decode cX12_movedTo 51 = .ok (.iload_n 2, 1) := by decide +kernel
theorem dX12_movedTo_52 : decode cX12_movedTo 52 = .ok (.iload 4, 2) := by decide +kernel
theorem dX12_movedTo_54 : decode cX12_movedTo 54 = .ok (.iadd, 1) := by decide +kernel
theorem dX12_movedTo_55 : decode cX12_movedTo 55 = .ok (.goto 7, 3) := by decide +kernel
theorem dX12_movedTo_58 : decode cX12_movedTo 58 = .ok (.iload_n 2, 1) := by decide +kernel
theorem dX12_movedTo_59 : decode cX12_movedTo 59 = .ok (.iload 4, 2) := by decide +kernel
theorem dX12_movedTo_61 : decode cX12_movedTo 61 = .ok (.isub, 1) := by decide +kernel
theorem dX12_movedTo_62 : decode cX12_movedTo 62 = .ok (.ireturn, 1) := by decide +kernel
theorem dX12_isBeside_0 : decode cX12_isBeside 0 = .ok (.iload_n 2, 1) := by decide +kernel
theorem dX12_isBeside_1 : decode cX12_isBeside 1 = .ok (.aload_n 0, 1) := by decide +kernel
theorem dX12_isBeside_2 : decode cX12_isBeside 2 = .ok (.iload_n 1, 1) := by decide +kernel
theorem dX12_isBeside_3 : decode cX12_isBeside 3 = .ok (.iconst 1, 1) := by decide +kernel
theorem dX12_isBeside_4 : decode cX12_isBeside 4 = .ok (.invokevirtual 97, 3) := by decide +kernel
theorem dX12_isBeside_7 : decode cX12_isBeside 7 = .ok (.if_icmp .eq 15, 3) := by decide +kernel
theorem dX12_isBeside_10 : decode cX12_isBeside 10 = .ok (.iload_n 2, 1) := by decide +kernel
theorem dX12_isBeside_11 : decode cX12_isBeside 11 = .ok (.aload_n 0, 1) := by decide +kernel
theorem dX12_isBeside_12 : decode cX12_isBeside 12 = .ok (.iload_n 1, 1) := by decide +kernel
theorem dX12_isBeside_13 : decode cX12_isBeside 13 = .ok (.iconst 1, 1) := by decide +kernel
theorem dX12_isBeside_14 : decode cX12_isBeside 14 = .ok (.invokevirtual 97, 3) := by decide +kernel
theorem dX12_isBeside_17 : decode cX12_isBeside 17 = .ok (.iconst 1, 1) := by decide +kernel
theorem dX12_isBeside_18 : decode cX12_isBeside 18 = .ok (.isub, 1) := by decide +kernel
theorem dX12_isBeside_19 : decode cX12_isBeside 19 = .ok (.if_icmp .ne 7, 3) := by decide +kernel
theorem dX12_isBeside_22 : decode cX12_isBeside 22 = .ok (.iconst 1, 1) := by decide +kernel
theorem dX12_isBeside_23 : decode cX12_isBeside 23 = .ok (.goto 4, 3) := by decide +kernel
theorem dX12_isBeside_26 : decode cX12_isBeside 26 = .ok (.iconst 0, 1) := by decide +kernel
theorem dX12_isBeside_27 : decode cX12_isBeside 27 = .ok (.ireturn, 1) := by decide +kernel
theorem dX12_goMoon_0 : decode cX12_goMoon 0 = .ok (.iconst 0, 1) := by decide +kernel
theorem dX12_goMoon_1 : decode cX12_goMoon 1 = .ok (.istore_n 2, 1) := by decide +kernel
theorem dX12_goMoon_2 : decode cX12_goMoon 2 = .ok (.iconst 0, 1) := by decide +kernel
theorem dX12_goMoon_3 : decode cX12_goMoon 3 = .ok (.istore_n 3, 1) := by decide +kernel
theorem dX12_goMoon_4 : decode cX12_goMoon 4 = .ok (.iload_n 3, 1) := by decide +kernel
theorem dX12_goMoon_5 : decode cX12_goMoon 5 = .ok (.aload_n 0, 1) := by decide +kernel
theorem dX12_goMoon_6 : decode cX12_goMoon 6 = .ok (.invokevirtual 64, 3) := by decide +kernel
theorem dX12_goMoon_9 : decode cX12_goMoon 9 = .ok (.if_icmp .ge 156, 3) := by decide +kernel
theorem dX12_goMoon_12 : decode cX12_goMoon 12 = .ok (.aload_n 0, 1) := by decide +kernel
theorem dX12_goMoon_13 : decode cX12_goMoon 13 = .ok (.iload_n 1, 1) := by decide +kernel
theorem dX12_goMoon_14 : decode cX12_goMoon 14 = .ok (.iload_n 3, 1) := by decide +kernel
theorem dX12_goMoon_15 : decode cX12_goMoon 15 = .ok (.invokevirtual 108, 3) := by decide +kernel
theorem dX12_goMoon_18 : decode cX12_goMoon 18 = .ok (.ifCond .eq 141, 3) := by decide +kernel
