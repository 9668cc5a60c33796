theorem dX12_goMoon_21 : decode cX12_goMoon 21 = .ok (.iconst 0, 1) := by decide +kernel
theorem dX12_goMoon_22 : decode cX12_goMoon 22 = .ok (.istore 4, 2) := by decide +kernel
theorem dX12_goMoon_24 : decode cX12_goMoon 24 = .ok (.iload 4, 2) := by decide +kernel
theorem dX12_goMoon_26 : decode cX12_goMoon 26 = .ok (.iconst 5, 1) := by decide +kernel
theorem dX12_goMoon_27 : decode cX12_goMoon 27 = .ok (.if_icmp .ge 17, 3) := by decide +kernel
theorem dX12_goMoon_30 : decode cX12_goMoon 30 = .ok (.aload_n 0, 1) := by decide +kernel
theorem dX12_goMoon_31 : decode cX12_goMoon 31 = .ok (.getfield 30, 3) := by decide +kernel
theorem dX12_goMoon_34 : decode cX12_goMoon 34 = .ok (.iload 4, 2) := by decide +kernel
theorem dX12_goMoon_36 : decode cX12_goMoon 36 = .ok (.iconst 0, 1) := by decide +kernel
theorem dX12_goMoon_37 : decode cX12_goMoon 37 = .ok (.iastore, 1) := by decide +kernel
theorem dX12_goMoon_38 : decode cX12_goMoon 38 = .ok (.iinc 4 1, 3) := by decide +kernel
theorem dX12_goMoon_41 : decode cX12_goMoon 41 = .ok (.goto (-17), 3) := by decide +kernel
theorem dX12_goMoon_44 : decode cX12_goMoon 44 = .ok (.iconst 0, 1) := by decide +kernel
theorem dX12_goMoon_45 : decode cX12_goMoon 45 = .ok (.istore 4, 2) := by decide +kernel
theorem dX12_goMoon_47 : decode cX12_goMoon 47 = .ok (.iload 4, 2) := by decide +kernel
theorem dX12_goMoon_49 : decode cX12_goMoon 49 = .ok (.iconst 5, 1) := by decide +kernel
theorem dX12_goMoon_50 : decode cX12_goMoon 50 = .ok (.if_icmp .ge 75, 3) := by decide +kernel
theorem dX12_goMoon_53 : decode cX12_goMoon 53 = .ok (.aload_n 0, 1) := by decide +kernel
theorem dX12_goMoon_54 : decode cX12_goMoon 54 = .ok (.getfield 27, 3) := by decide +kernel
theorem dX12_goMoon_57 : decode cX12_goMoon 57 = .ok (.bipush 24, 2) := by decide +kernel
theorem dX12_goMoon_59 : decode cX12_goMoon 59 = .ok (.iload 4, 2) := by decide +kernel
theorem dX12_goMoon_61 : decode cX12_goMoon 61 = .ok (.imul, 1) := by decide +kernel
theorem dX12_goMoon_62 : decode cX12_goMoon 62 = .ok (.iload_n 3, 1) := by decide +kernel
theorem dX12_goMoon_63 : decode cX12_goMoon 63 = .ok (.iadd, 1) := by decide +kernel
theorem dX12_goMoon_64 : decode cX12_goMoon 64 = .ok (.iaload, 1) := by decide +kernel
theorem dX12_goMoon_65 : decode cX12_goMoon 65 = .ok (.istore 5, 2) := by decide +kernel
theorem dX12_goMoon_67 : decode cX12_goMoon 67 = .ok (.aload_n 0, 1) := by decide +kernel
theorem dX12_goMoon_68 : decode cX12_goMoon 68 = .ok (.iload_n 1, 1) := by decide +kernel
theorem dX12_goMoon_69 : decode cX12_goMoon 69 = .ok (.iload 4, 2) := by decide +kernel
theorem dX12_goMoon_71 : decode cX12_goMoon 71 = .ok (.invokevirtual 112, 3) := by decide +kernel
theorem dX12_goMoon_74 : decode cX12_goMoon 74 = .ok (.ifCond .eq 13, 3) := by decide +kernel
theorem dX12_goMoon_77 : decode cX12_goMoon 77 = .ok (.aload_n 0, 1) := by decide +kernel
theorem dX12_goMoon_78 : decode cX12_goMoon 78 = .ok (.iload_n 1, 1) := by decide +kernel
theorem dX12_goMoon_79 : decode cX12_goMoon 79 = .ok (.iload 4, 2) := by decide +kernel
theorem dX12_goMoon_81 : decode cX12_goMoon 81 = .ok (.invokevirtual 115, 3) := by decide +kernel
theorem dX12_goMoon_84 : decode cX12_goMoon 84 = .ok (.goto 5, 3) := by decide +kernel
theorem dX12_goMoon_87 : decode cX12_goMoon 87 = .ok (.iload 4, 2) := by decide +kernel
theorem dX12_goMoon_89 : decode cX12_goMoon 89 = .ok (.istore 6, 2) := by decide +kernel
theorem dX12_goMoon_91 : decode cX12_goMoon 91 = .ok (.iload 6, 2) := by decide +kernel
theorem dX12_goMoon_93 : decode cX12_goMoon 93 = .ok (.invokestatic 77, 3) := by decide +kernel
theorem dX12_goMoon_96 : decode cX12_goMoon 96 = .ok (.ifCond .eq 18, 3) := by decide +kernel
theorem dX12_goMoon_99 : decode cX12_goMoon 99 = .ok (.aload_n 0, 1) := by decide +kernel
theorem dX12_goMoon_100 : decode cX12_goMoon 100 = .ok (.getfield 30, 3) := by decide +kernel
theorem dX12_goMoon_103 : decode cX12_goMoon 103 = .ok (.iload 6, 2) := by decide +kernel
theorem dX12_goMoon_105 : decode cX12_goMoon 105 = .ok (.dup2, 1) := by decide +kernel
theorem dX12_goMoon_106 : decode cX12_goMoon 106 = .ok (.iaload, 1) := by decide +kernel
theorem dX12_goMoon_107 : decode cX12_goMoon 107 = .ok (.iload 5, 2) := by decide +kernel
theorem dX12_goMoon_109 : decode cX12_goMoon 109 = .ok (.iadd, 1) := by decide +kernel
theorem dX12_goMoon_110 : decode cX12_goMoon 110 = .ok (.iastore, 1) := by decide +kernel
theorem dX12_goMoon_111 : decode cX12_goMoon 111 = .ok (.goto 8, 3) := by decide +kernel
theorem dX12_goMoon_114 : decode cX12_goMoon 114 = .ok (.iload_n 2, 1) := by decide +kernel
theorem dX12_goMoon_115 : decode cX12_goMoon 115 = .ok (.iload 5, 2) := by decide +kernel
theorem dX12_goMoon_117 : decode cX12_goMoon 117 = .ok (.iadd, 1) := by decide +kernel
theorem dX12_goMoon_118 : decode cX12_goMoon 118 = .ok (.istore_n 2, 1) := by decide +kernel
theorem dX12_goMoon_119 : decode cX12_goMoon 119 = .ok (.iinc 4 1, 3) := by decide +kernel
theorem dX12_goMoon_122 : decode cX12_goMoon 122 = .ok (.goto (-75), 3) := by decide +kernel
theorem dX12_goMoon_125 : decode cX12_goMoon 125 = .ok (.iconst 0, 1) := by decide +kernel
theorem dX12_goMoon_126 : decode cX12_goMoon 126 = .ok (.istore 4, 2) := by decide +kernel
theorem dX12_goMoon_128 : decode cX12_goMoon 128 = .ok (.iload 4, 2) := by decide +kernel
theorem dX12_goMoon_130 : decode cX12_goMoon 130 = .ok (.iconst 5, 1) := by decide +kernel
theorem dX12_goMoon_131 : decode cX12_goMoon 131 = .ok (.if_icmp .ge 28, 3) := by decide +kernel
theorem dX12_goMoon_134 : decode cX12_goMoon 134 = .ok (.aload_n 0, 1) := by decide +kernel
theorem dX12_goMoon_135 : decode cX12_goMoon 135 = .ok (.getfield 27, 3) := by decide +kernel
theorem dX12_goMoon_138 : decode cX12_goMoon 138 = .ok (.bipush 24, 2) := by decide +kernel
theorem dX12_goMoon_140 : decode cX12_goMoon 140 = .ok (.iload 4, 2) := by decide +kernel
theorem dX12_goMoon_142 : decode cX12_goMoon 142 = .ok (.imul, 1) := by decide +kernel
theorem dX12_goMoon_143 : decode cX12_goMoon 143 = .ok (.iload_n 3, 1) := by decide +kernel
theorem dX12_goMoon_144 : decode cX12_goMoon 144 = .ok (.iadd, 1) := by decide +kernel
theorem dX12_goMoon_145 : decode cX12_goMoon 145 = .ok (.aload_n 0, 1) := by decide +kernel
theorem dX12_goMoon_146 : decode cX12_goMoon 146 = .ok (.getfield 30, 3) := by decide +kernel
theorem dX12_goMoon_149 : decode cX12_goMoon 149 = .ok (.iload 4, 2) := by decide +kernel
theorem dX12_goMoon_151 : decode cX12_goMoon 151 = .ok (.iaload, 1) := by decide +kernel
theorem dX12_goMoon_152 : decode cX12_goMoon 152 = .ok (.iastore, 1) := by decide +kernel
theorem dX12_goMoon_153 : decode cX12_goMoon 153 = .ok (.iinc 4 1, 3) := by decide +kernel
theorem dX12_goMoon_156 : decode cX12_goMoon 156 = .ok (.goto (-28), 3) := by decide +kernel
theorem dX12_goMoon_159 : decode cX12_goMoon 159 = .ok (.iinc 3 1, 3) := by decide +kernel
theorem dX12_goMoon_162 : decode cX12_goMoon 162 = .ok (.goto (-158), 3) := by decide +kernel
theorem dX12_goMoon_165 : decode cX12_goMoon 165 = .ok (.iload_n 2, 1) := by decide +kernel
theorem dX12_goMoon_166 : decode cX12_goMoon 166 = .ok (.ireturn, 1) := by decide +kernel
theorem dX12_goMoons_0 : decode cX12_goMoons 0 = .ok (.iconst 0, 1) := by decide +kernel
theorem dX12_goMoons_1 : decode cX12_goMoons 1 = .ok (.istore_n 1, 1) := by decide +kernel
theorem dX12_goMoons_2 : decode cX12_goMoons 2 = .ok (.iload_n 1, 1) := by decide +kernel
theorem dX12_goMoons_3 : decode cX12_goMoons 3 = .ok (.aload_n 0, 1) := by decide +kernel
theorem dX12_goMoons_4 : decode cX12_goMoons 4 = .ok (.invokevirtual 68, 3) := by decide +kernel
theorem dX12_goMoons_7 : decode cX12_goMoons 7 = .ok (.if_icmp .ge 33, 3) := by decide +kernel
theorem dX12_goMoons_10 : decode cX12_goMoons 10 = .ok (.aload_n 0, 1) := by decide +kernel
theorem dX12_goMoons_11 : decode cX12_goMoons 11 = .ok (.getfield 33, 3) := by decide +kernel
theorem dX12_goMoons_14 : decode cX12_goMoons 14 = .ok (.iload_n 1, 1) := by decide +kernel
theorem dX12_goMoons_15 : decode cX12_goMoons 15 = .ok (.aload_n 0, 1) := by decide +kernel
theorem dX12_goMoons_16 : decode cX12_goMoons 16 = .ok (.getfield 33, 3) := by decide +kernel
theorem dX12_goMoons_19 : decode cX12_goMoons 19 = .ok (.iload_n 1, 1) := by decide +kernel
theorem dX12_goMoons_20 : decode cX12_goMoons 20 = .ok (.iaload, 1) := by decide +kernel
theorem dX12_goMoons_21 : decode cX12_goMoons 21 = .ok (.aload_n 0, 1) := by decide +kernel
theorem dX12_goMoons_22 : decode cX12_goMoons 22 = .ok (.iload_n 1, 1) := by decide +kernel
theorem dX12_goMoons_23 : decode cX12_goMoons 23 = .ok (.iconst 3, 1) := by decide +kernel
theorem dX12_goMoons_24 : decode cX12_goMoons 24 = .ok (.invokevirtual 97, 3) := by decide +kernel
theorem dX12_goMoons_27 : decode cX12_goMoons 27 = .ok (.iadd, 1) := by decide +kernel
theorem dX12_goMoons_28 : decode cX12_goMoons 28 = .ok (.aload_n 0, 1) := by decide +kernel
theorem dX12_goMoons_29 : decode cX12_goMoons 29 = .ok (.invokevirtual 64, 3) := by decide +kernel
theorem dX12_goMoons_32 : decode cX12_goMoons 32 = .ok (.irem, 1) := by decide +kernel
theorem dX12_goMoons_33 : decode cX12_goMoons 33 = .ok (.iastore, 1) := by decide +kernel
theorem dX12_goMoons_34 : decode cX12_goMoons 34 = .ok (.iinc 1 1, 3) := by decide +kernel
theorem dX12_goMoons_37 : decode cX12_goMoons 37 = .ok (.goto (-35), 3) := by decide +kernel
theorem dX12_goMoons_40 : decode cX12_goMoons 40 = .ok (.aload_n 0, 1) := by decide +kernel
theorem dX12_goMoons_41 : decode cX12_goMoons 41 = .ok (.dup, 1) := by decide +kernel
theorem dX12_goMoons_42 : decode cX12_goMoons 42 = .ok (.getfield 101, 3) := by decide +kernel
theorem dX12_goMoons_45 : decode cX12_goMoons 45 = .ok (.iconst 1, 1) := by decide +kernel
theorem dX12_goMoons_46 : decode cX12_goMoons 46 = .ok (.iadd, 1) := by decide +kernel
theorem dX12_goMoons_47 : decode cX12_goMoons 47 = .ok (.putfield 101, 3) := by decide +kernel
theorem dX12_goMoons_50 : decode cX12_goMoons 50 = .ok (.return_, 1) := by decide +kernel
theorem dX12_goRound_0 : decode cX12_goRound 0 = .ok (.iconst 0, 1) := by decide +kernel
theorem dX12_goRound_1 : decode cX12_goRound 1 = .ok (.istore_n 1, 1) := by decide +kernel
theorem dX12_goRound_2 : decode cX12_goRound 2 = .ok (.iload_n 1, 1) := by decide +kernel
theorem dX12_goRound_3 : decode cX12_goRound 3 = .ok (.iconst 5, 1) := by decide +kernel
theorem dX12_goRound_4 : decode cX12_goRound 4 = .ok (.if_icmp .ge 89, 3) := by decide +kernel
theorem dX12_goRound_7 : decode cX12_goRound 7 = .ok (.iconst 0, 1) := by decide +kernel
theorem dX12_goRound_8 : decode cX12_goRound 8 = .ok (.istore_n 2, 1) := by decide +kernel
theorem dX12_goRound_9 : decode cX12_goRound 9 = .ok (.iload_n 2, 1) := by decide +kernel
theorem dX12_goRound_10 : decode cX12_goRound 10 = .ok (.aload_n 0, 1) := by decide +kernel
theorem dX12_goRound_11 : decode cX12_goRound 11 = .ok (.invokevirtual 64, 3) := by decide +kernel
theorem dX12_goRound_14 : decode cX12_goRound 14 = .ok (.if_icmp .ge 40, 3) := by decide +kernel
theorem dX12_goRound_17 : decode cX12_goRound 17 = .ok (.aload_n 0, 1) := by decide +kernel
theorem dX12_goRound_18 : decode cX12_goRound 18 = .ok (.getfield 30, 3) := by decide +kernel
theorem dX12_goRound_21 : decode cX12_goRound 21 = .ok (.iload_n 2, 1) := by decide +kernel
theorem dX12_goRound_22 : decode cX12_goRound 22 = .ok (.aload_n 0, 1) := by decide +kernel
theorem dX12_goRound_23 : decode cX12_goRound 23 = .ok (.getfield 7, 3) := by decide +kernel
theorem dX12_goRound_26 : decode cX12_goRound 26 = .ok (.iconst 1, 1) := by decide +kernel
theorem dX12_goRound_27 : decode cX12_goRound 27 = .ok (.iload_n 1, 1) := by decide +kernel
theorem dX12_goRound_28 : decode cX12_goRound 28 = .ok (.iadd, 1) := by decide +kernel
theorem dX12_goRound_29 : decode cX12_goRound 29 = .ok (.iaload, 1) := by decide +kernel
theorem dX12_goRound_30 : decode cX12_goRound 30 = .ok (.iadd, 1) := by decide +kernel
theorem dX12_goRound_31 : decode cX12_goRound 31 = .ok (.aload_n 0, 1) := by decide +kernel
theorem dX12_goRound_32 : decode cX12_goRound 32 = .ok (.invokevirtual 64, 3) := by decide +kernel
theorem dX12_goRound_35 : decode cX12_goRound 35 = .ok (.irem, 1) := by decide +kernel
theorem dX12_goRound_36 : decode cX12_goRound 36 = .ok (.aload_n 0, 1) := by decide +kernel
theorem dX12_goRound_37 : decode cX12_goRound 37 = .ok (.getfield 27, 3) := by decide +kernel
theorem dX12_goRound_40 : decode cX12_goRound 40 = .ok (.bipush 24, 2) := by decide +kernel
theorem dX12_goRound_42 : decode cX12_goRound 42 = .ok (.iload_n 1, 1) := by decide +kernel
theorem dX12_goRound_43 : decode cX12_goRound 43 = .ok (.imul, 1) := by decide +kernel
theorem dX12_goRound_44 : decode cX12_goRound 44 = .ok (.iload_n 2, 1) := by decide +kernel
theorem dX12_goRound_45 : decode cX12_goRound 45 = .ok (.iadd, 1) := by decide +kernel
theorem dX12_goRound_46 : decode cX12_goRound 46 = .ok (.iaload, 1) := by decide +kernel
theorem dX12_goRound_47 : decode cX12_goRound 47 = .ok (.iastore, 1) := by decide +kernel
theorem dX12_goRound_48 : decode cX12_goRound 48 = .ok (.iinc 2 1, 3) := by decide +kernel
theorem dX12_goRound_51 : decode cX12_goRound 51 = .ok (.goto (-42), 3) := by decide +kernel
theorem dX12_goRound_54 : decode cX12_goRound 54 = .ok (.iconst 0, 1) := by decide +kernel
theorem dX12_goRound_55 : decode cX12_goRound 55 = .ok (.istore_n 2, 1) := by decide +kernel
theorem dX12_goRound_56 : decode cX12_goRound 56 = .ok (.iload_n 2, 1) := by decide +kernel
theorem dX12_goRound_57 : decode cX12_goRound 57 = .ok (.aload_n 0, 1) := by decide +kernel
theorem dX12_goRound_58 : decode cX12_goRound 58 = .ok (.invokevirtual 64, 3) := by decide +kernel
theorem dX12_goRound_61 : decode cX12_goRound 61 = .ok (.if_icmp .ge 26, 3) := by decide +kernel
theorem dX12_goRound_64 : decode cX12_goRound 64 = .ok (.aload_n 0, 1) := by decide +kernel
theorem dX12_goRound_65 : decode cX12_goRound 65 = .ok (.getfield 27, 3) := by decide +kernel
theorem dX12_goRound_68 : decode cX12_goRound 68 = .ok (.bipush 24, 2) := by decide +kernel
theorem dX12_goRound_70 : decode cX12_goRound 70 = .ok (.iload_n 1, 1) := by decide +kernel
theorem dX12_goRound_71 : decode cX12_goRound 71 = .ok (.imul, 1) := by decide +kernel
theorem dX12_goRound_72 : decode cX12_goRound 72 = .ok (.iload_n 2, 1) := by decide +kernel
theorem dX12_goRound_73 : decode cX12_goRound 73 = .ok (.iadd, 1) := by decide +kernel
theorem dX12_goRound_74 : decode cX12_goRound 74 = .ok (.aload_n 0, 1) := by decide +kernel
theorem dX12_goRound_75 : decode cX12_goRound 75 = .ok (.getfield 30, 3) := by decide +kernel
theorem dX12_goRound_78 : decode cX12_goRound 78 = .ok (.iload_n 2, 1) := by decide +kernel
theorem dX12_goRound_79 : decode cX12_goRound 79 = .ok (.iaload, 1) := by decide +kernel
theorem dX12_goRound_80 : decode cX12_goRound 80 = .ok (.iastore, 1) := by decide +kernel
theorem dX12_goRound_81 : decode cX12_goRound 81 = .ok (.iinc 2 1, 3) := by decide +kernel
theorem dX12_goRound_84 : decode cX12_goRound 84 = .ok (.goto (-28), 3) := by decide +kernel
theorem dX12_goRound_87 : decode cX12_goRound 87 = .ok (.iinc 1 1, 3) := by decide +kernel
theorem dX12_goRound_90 : decode cX12_goRound 90 = .ok (.goto (-88), 3) := by decide +kernel
theorem dX12_goRound_93 : decode cX12_goRound 93 = .ok (.aload_n 0, 1) := by decide +kernel
theorem dX12_goRound_94 : decode cX12_goRound 94 = .ok (.invokevirtual 118, 3) := by decide +kernel
theorem dX12_goRound_97 : decode cX12_goRound 97 = .ok (.iconst 0, 1) := by decide +kernel
theorem dX12_goRound_98 : decode cX12_goRound 98 = .ok (.istore_n 1, 1) := by decide +kernel
theorem dX12_goRound_99 : decode cX12_goRound 99 = .ok (.iconst 0, 1) := by decide +kernel
theorem dX12_goRound_100 : decode cX12_goRound 100 = .ok (.istore_n 2, 1) := by decide +kernel
theorem dX12_goRound_101 : decode cX12_goRound 101 = .ok (.iload_n 2, 1) := by decide +kernel
theorem dX12_goRound_102 : decode cX12_goRound 102 = .ok (.aload_n 0, 1) := by decide +kernel
theorem dX12_goRound_103 : decode cX12_goRound 103 = .ok (.invokevirtual 68, 3) := by decide +kernel
theorem dX12_goRound_106 : decode cX12_goRound 106 = .ok (.if_icmp .ge 29, 3) := by decide +kernel
theorem dX12_goRound_109 : decode cX12_goRound 109 = .ok (.iload_n 1, 1) := by decide +kernel
theorem dX12_goRound_110 : decode cX12_goRound 110 = .ok (.aload_n 0, 1) := by decide +kernel
theorem dX12_goRound_111 : decode cX12_goRound 111 = .ok (.iload_n 2, 1) := by decide +kernel
theorem dX12_goRound_112 : decode cX12_goRound 112 = .ok (.invokevirtual 121, 3) := by decide +kernel
theorem dX12_goRound_115 : decode cX12_goRound 115 = .ok (.ifCond .eq 11, 3) := by decide +kernel
theorem dX12_goRound_118 : decode cX12_goRound 118 = .ok (.aload_n 0, 1) := by decide +kernel
theorem dX12_goRound_119 : decode cX12_goRound 119 = .ok (.iload_n 2, 1) := by decide +kernel
theorem dX12_goRound_120 : decode cX12_goRound 120 = .ok (.invokevirtual 124, 3) := by decide +kernel
theorem dX12_goRound_123 : decode cX12_goRound 123 = .ok (.goto 4, 3) := by decide +kernel
theorem dX12_goRound_126 : decode cX12_goRound 126 = .ok (.iconst 0, 1) := by decide +kernel
theorem dX12_goRound_127 : decode cX12_goRound 127 = .ok (.iadd, 1) := by decide +kernel
theorem dX12_goRound_128 : decode cX12_goRound 128 = .ok (.istore_n 1, 1) := by decide +kernel
theorem dX12_goRound_129 : decode cX12_goRound 129 = .ok (.iinc 2 1, 3) := by decide +kernel
theorem dX12_goRound_132 : decode cX12_goRound 132 = .ok (.goto (-31), 3) := by decide +kernel
theorem dX12_goRound_135 : decode cX12_goRound 135 = .ok (.iload_n 1, 1) := by decide +kernel
theorem dX12_goRound_136 : decode cX12_goRound 136 = .ok (.ireturn, 1) := by decide +kernel
theorem dX12_round_0 : decode cX12_round 0 = .ok (.aload_n 0, 1) := by decide +kernel
theorem dX12_round_1 : decode cX12_round 1 = .ok (.getfield 7, 3) := by decide +kernel
theorem dX12_round_4 : decode cX12_round 4 = .ok (.sipush 150, 3) := by decide +kernel
theorem dX12_round_7 : decode cX12_round 7 = .ok (.iaload, 1) := by decide +kernel
theorem dX12_round_8 : decode cX12_round 8 = .ok (.bipush 6, 2) := by decide +kernel
theorem dX12_round_10 : decode cX12_round 10 = .ok (.if_icmp .ne 47, 3) := by decide +kernel
theorem dX12_round_13 : decode cX12_round 13 = .ok (.iconst 0, 1) := by decide +kernel
theorem dX12_round_14 : decode cX12_round 14 = .ok (.istore_n 1, 1) := by decide +kernel
theorem dX12_round_15 : decode cX12_round 15 = .ok (.iload_n 1, 1) := by decide +kernel
theorem dX12_round_16 : decode cX12_round 16 = .ok (.sipush 635, 3) := by decide +kernel
theorem dX12_round_19 : decode cX12_round 19 = .ok (.if_icmp .ge 29, 3) := by decide +kernel
theorem dX12_round_22 : decode cX12_round 22 = .ok (.aload_n 0, 1) := by decide +kernel
theorem dX12_round_23 : decode cX12_round 23 = .ok (.getfield 7, 3) := by decide +kernel
theorem dX12_round_26 : decode cX12_round 26 = .ok (.sipush 151, 3) := by decide +kernel
theorem dX12_round_29 : decode cX12_round 29 = .ok (.iload_n 1, 1) := by decide +kernel
theorem dX12_round_30 : decode cX12_round 30 = .ok (.iadd, 1) := by decide +kernel
theorem dX12_round_31 : decode cX12_round 31 = .ok (.aload_n 0, 1) := by decide +kernel
theorem dX12_round_32 : decode cX12_round 32 = .ok (.getfield 7, 3) := by decide +kernel
theorem dX12_round_35 : decode cX12_round 35 = .ok (.sipush 278, 3) := by decide +kernel
theorem dX12_round_38 : decode cX12_round 38 = .ok (.iload_n 1, 1) := by decide +kernel
theorem dX12_round_39 : decode cX12_round 39 = .ok (.iadd, 1) := by decide +kernel
theorem dX12_round_40 : decode cX12_round 40 = .ok (.iaload, 1) := by decide +kernel
theorem dX12_round_41 : decode cX12_round 41 = .ok (.iastore, 1) := by decide +kernel
theorem dX12_round_42 : decode cX12_round 42 = .ok (.iinc 1 1, 3) := by decide +kernel
theorem dX12_round_45 : decode cX12_round 45 = .ok (.goto (-30), 3) := by decide +kernel
theorem dX12_round_48 : decode cX12_round 48 = .ok (.aload_n 0, 1) := by decide +kernel
theorem dX12_round_49 : decode cX12_round 49 = .ok (.getfield 7, 3) := by decide +kernel
theorem dX12_round_52 : decode cX12_round 52 = .ok (.sipush 150, 3) := by decide +kernel
theorem dX12_round_55 : decode cX12_round 55 = .ok (.iconst 5, 1) := by decide +kernel
theorem dX12_round_56 : decode cX12_round 56 = .ok (.iastore, 1) := by decide +kernel
theorem dX12_round_57 : decode cX12_round 57 = .ok (.sipush 151, 3) := by decide +kernel
theorem dX12_round_60 : decode cX12_round 60 = .ok (.bipush 127, 2) := by decide +kernel
theorem dX12_round_62 : decode cX12_round 62 = .ok (.aload_n 0, 1) := by decide +kernel
theorem dX12_round_63 : decode cX12_round 63 = .ok (.getfield 7, 3) := by decide +kernel
theorem dX12_round_66 : decode cX12_round 66 = .ok (.sipush 150, 3) := by decide +kernel
theorem dX12_round_69 : decode cX12_round 69 = .ok (.iaload, 1) := by decide +kernel
theorem dX12_round_70 : decode cX12_round 70 = .ok (.imul, 1) := by decide +kernel
theorem dX12_round_71 : decode cX12_round 71 = .ok (.iadd, 1) := by decide +kernel
theorem dX12_round_72 : decode cX12_round 72 = .ok (.istore_n 1, 1) := by decide +kernel
theorem dX12_round_73 : decode cX12_round 73 = .ok (.iconst 0, 1) := by decide +kernel
theorem dX12_round_74 : decode cX12_round 74 = .ok (.istore_n 2, 1) := by decide +kernel
theorem dX12_round_75 : decode cX12_round 75 = .ok (.iload_n 2, 1) := by decide +kernel
theorem dX12_round_76 : decode cX12_round 76 = .ok (.bipush 120, 2) := by decide +kernel
theorem dX12_round_78 : decode cX12_round 78 = .ok (.if_icmp .ge 26, 3) := by decide +kernel
theorem dX12_round_81 : decode cX12_round 81 = .ok (.aload_n 0, 1) := by decide +kernel
theorem dX12_round_82 : decode cX12_round 82 = .ok (.getfield 7, 3) := by decide +kernel
theorem dX12_round_85 : decode cX12_round 85 = .ok (.iload_n 1, 1) := by decide +kernel
theorem dX12_round_86 : decode cX12_round 86 = .ok (.iload_n 2, 1) := by decide +kernel
theorem dX12_round_87 : decode cX12_round 87 = .ok (.iadd, 1) := by decide +kernel
theorem dX12_round_88 : decode cX12_round 88 = .ok (.aload_n 0, 1) := by decide +kernel
theorem dX12_round_89 : decode cX12_round 89 = .ok (.getfield 7, 3) := by decide +kernel
theorem dX12_round_92 : decode cX12_round 92 = .ok (.bipush 6, 2) := by decide +kernel
theorem dX12_round_94 : decode cX12_round 94 = .ok (.iload_n 2, 1) := by decide +kernel
theorem dX12_round_95 : decode cX12_round 95 = .ok (.iadd, 1) := by decide +kernel
theorem dX12_round_96 : decode cX12_round 96 = .ok (.iaload, 1) := by decide +kernel
theorem dX12_round_97 : decode cX12_round 97 = .ok (.iastore, 1) := by decide +kernel
theorem dX12_round_98 : decode cX12_round 98 = .ok (.iinc 2 1, 3) := by decide +kernel
theorem dX12_round_101 : decode cX12_round 101 = .ok (.goto (-26), 3) := by decide +kernel
theorem dX12_round_104 : decode cX12_round 104 = .ok (.iconst 0, 1) := by decide +kernel
theorem dX12_round_105 : decode cX12_round 105 = .ok (.istore_n 2, 1) := by decide +kernel
theorem dX12_round_106 : decode cX12_round 106 = .ok (.iload_n 2, 1) := by decide +kernel
theorem dX12_round_107 : decode cX12_round 107 = .ok (.iconst 4, 1) := by decide +kernel
theorem dX12_round_108 : decode cX12_round 108 = .ok (.if_icmp .ge 33, 3) := by decide +kernel
theorem dX12_round_111 : decode cX12_round 111 = .ok (.aload_n 0, 1) := by decide +kernel
theorem dX12_round_112 : decode cX12_round 112 = .ok (.getfield 7, 3) := by decide +kernel
theorem dX12_round_115 : decode cX12_round 115 = .ok (.iload_n 1, 1) := by decide +kernel
theorem dX12_round_116 : decode cX12_round 116 = .ok (.bipush 120, 2) := by decide +kernel
theorem dX12_round_118 : decode cX12_round 118 = .ok (.iadd, 1) := by decide +kernel
theorem dX12_round_119 : decode cX12_round 119 = .ok (.iload_n 2, 1) := by decide +kernel
theorem dX12_round_120 : decode cX12_round 120 = .ok (.iadd, 1) := by decide +kernel
theorem dX12_round_121 : decode cX12_round 121 = .ok (.aload_n 0, 1) := by decide +kernel
theorem dX12_round_122 : decode cX12_round 122 = .ok (.getfield 7, 3) := by decide +kernel
theorem dX12_round_125 : decode cX12_round 125 = .ok (.bipush 127, 2) := by decide +kernel
theorem dX12_round_127 : decode cX12_round 127 = .ok (.iconst 4, 1) := by decide +kernel
theorem dX12_round_128 : decode cX12_round 128 = .ok (.iload_n 2, 1) := by decide +kernel
theorem dX12_round_129 : decode cX12_round 129 = .ok (.imul, 1) := by decide +kernel
theorem dX12_round_130 : decode cX12_round 130 = .ok (.iadd, 1) := by decide +kernel
theorem dX12_round_131 : decode cX12_round 131 = .ok (.iconst 2, 1) := by decide +kernel
theorem dX12_round_132 : decode cX12_round 132 = .ok (.iadd, 1) := by decide +kernel
theorem dX12_round_133 : decode cX12_round 133 = .ok (.iaload, 1) := by decide +kernel
theorem dX12_round_134 : decode cX12_round 134 = .ok (.iastore, 1) := by decide +kernel
theorem dX12_round_135 : decode cX12_round 135 = .ok (.iinc 2 1, 3) := by decide +kernel
theorem dX12_round_138 : decode cX12_round 138 = .ok (.goto (-32), 3) := by decide +kernel
theorem dX12_round_141 : decode cX12_round 141 = .ok (.aload_n 0, 1) := by decide +kernel
theorem dX12_round_142 : decode cX12_round 142 = .ok (.getfield 7, 3) := by decide +kernel
theorem dX12_round_145 : decode cX12_round 145 = .ok (.iload_n 1, 1) := by decide +kernel
theorem dX12_round_146 : decode cX12_round 146 = .ok (.bipush 124, 2) := by decide +kernel
theorem dX12_round_148 : decode cX12_round 148 = .ok (.iadd, 1) := by decide +kernel
theorem dX12_round_149 : decode cX12_round 149 = .ok (.aload_n 0, 1) := by decide +kernel
theorem dX12_round_150 : decode cX12_round 150 = .ok (.getfield 7, 3) := by decide +kernel
theorem dX12_round_153 : decode cX12_round 153 = .ok (.sipush 148, 3) := by decide +kernel
theorem dX12_round_156 : decode cX12_round 156 = .ok (.iaload, 1) := by decide +kernel
theorem dX12_round_157 : decode cX12_round 157 = .ok (.iastore, 1) := by decide +kernel
theorem dX12_round_158 : decode cX12_round 158 = .ok (.aload_n 0, 1) := by decide +kernel
theorem dX12_round_159 : decode cX12_round 159 = .ok (.getfield 7, 3) := by decide +kernel
theorem dX12_round_162 : decode cX12_round 162 = .ok (.iload_n 1, 1) := by decide +kernel
theorem dX12_round_163 : decode cX12_round 163 = .ok (.bipush 125, 2) := by decide +kernel
theorem dX12_round_165 : decode cX12_round 165 = .ok (.iadd, 1) := by decide +kernel
theorem dX12_round_166 : decode cX12_round 166 = .ok (.aload_n 0, 1) := by decide +kernel
theorem dX12_round_167 : decode cX12_round 167 = .ok (.getfield 7, 3) := by decide +kernel
theorem dX12_round_170 : decode cX12_round 170 = .ok (.sipush 149, 3) := by decide +kernel
theorem dX12_round_173 : decode cX12_round 173 = .ok (.iaload, 1) := by decide +kernel
theorem dX12_round_174 : decode cX12_round 174 = .ok (.iastore, 1) := by decide +kernel
theorem dX12_round_175 : decode cX12_round 175 = .ok (.aload_n 0, 1) := by decide +kernel
theorem dX12_round_176 : decode cX12_round 176 = .ok (.getfield 7, 3) := by decide +kernel
theorem dX12_round_179 : decode cX12_round 179 = .ok (.iload_n 1, 1) := by decide +kernel
theorem dX12_round_180 : decode cX12_round 180 = .ok (.bipush 126, 2) := by decide +kernel
theorem dX12_round_182 : decode cX12_round 182 = .ok (.iadd, 1) := by decide +kernel
theorem dX12_round_183 : decode cX12_round 183 = .ok (.aload_n 0, 1) := by decide +kernel
theorem dX12_round_184 : decode cX12_round 184 = .ok (.invokevirtual 68, 3) := by decide +kernel
theorem dX12_round_187 : decode cX12_round 187 = .ok (.iastore, 1) := by decide +kernel
theorem dX12_round_188 : decode cX12_round 188 = .ok (.aload_n 0, 1) := by decide +kernel
theorem dX12_round_189 : decode cX12_round 189 = .ok (.getfield 7, 3) := by decide +kernel
theorem dX12_round_192 : decode cX12_round 192 = .ok (.sipush 150, 3) := by decide +kernel
theorem dX12_round_195 : decode cX12_round 195 = .ok (.dup2, 1) := by decide +kernel
theorem dX12_round_196 : decode cX12_round 196 = .ok (.iaload, 1) := by decide +kernel
theorem dX12_round_197 : decode cX12_round 197 = .ok (.iconst 1, 1) := by decide +kernel
theorem dX12_round_198 : decode cX12_round 198 = .ok (.iadd, 1) := by decide +kernel
theorem dX12_round_199 : decode cX12_round 199 = .ok (.iastore, 1) := by decide +kernel
theorem dX12_round_200 : decode cX12_round 200 = .ok (.aload_n 0, 1) := by decide +kernel
theorem dX12_round_201 : decode cX12_round 201 = .ok (.aload_n 0, 1) := by decide +kernel
theorem dX12_round_202 : decode cX12_round 202 = .ok (.invokevirtual 127, 3) := by decide +kernel
theorem dX12_round_205 : decode cX12_round 205 = .ok (.invokevirtual 130, 3) := by decide +kernel
theorem dX12_round_208 : decode cX12_round 208 = .ok (.aload_n 0, 1) := by decide +kernel
theorem dX12_round_209 : decode cX12_round 209 = .ok (.invokevirtual 134, 3) := by decide +kernel
theorem dX12_round_212 : decode cX12_round 212 = .ok (.istore_n 2, 1) := by decide +kernel
theorem dX12_round_213 : decode cX12_round 213 = .ok (.iconst 0, 1) := by decide +kernel
theorem dX12_round_214 : decode cX12_round 214 = .ok (.istore_n 3, 1) := by decide +kernel
theorem dX12_round_215 : decode cX12_round 215 = .ok (.iload_n 3, 1) := by decide +kernel
theorem dX12_round_216 : decode cX12_round 216 = .ok (.bipush 120, 2) := by decide +kernel
theorem dX12_round_218 : decode cX12_round 218 = .ok (.if_icmp .ge 24, 3) := by decide +kernel
theorem dX12_round_221 : decode cX12_round 221 = .ok (.aload_n 0, 1) := by decide +kernel
theorem dX12_round_222 : decode cX12_round 222 = .ok (.getfield 7, 3) := by decide +kernel
theorem dX12_round_225 : decode cX12_round 225 = .ok (.bipush 6, 2) := by decide +kernel
theorem dX12_round_227 : decode cX12_round 227 = .ok (.iload_n 3, 1) := by decide +kernel
theorem dX12_round_228 : decode cX12_round 228 = .ok (.iadd, 1) := by decide +kernel
theorem dX12_round_229 : decode cX12_round 229 = .ok (.aload_n 0, 1) := by decide +kernel
theorem dX12_round_230 : decode cX12_round 230 = .ok (.getfield 27, 3) := by decide +kernel
theorem dX12_round_233 : decode cX12_round 233 = .ok (.iload_n 3, 1) := by decide +kernel
theorem dX12_round_234 : decode cX12_round 234 = .ok (.iaload, 1) := by decide +kernel
theorem dX12_round_235 : decode cX12_round 235 = .ok (.iastore, 1) := by decide +kernel
theorem dX12_round_236 : decode cX12_round 236 = .ok (.iinc 3 1, 3) := by decide +kernel
theorem dX12_round_239 : decode cX12_round 239 = .ok (.goto (-24), 3) := by decide +kernel
theorem dX12_round_242 : decode cX12_round 242 = .ok (.iconst 0, 1) := by decide +kernel
theorem dX12_round_243 : decode cX12_round 243 = .ok (.istore_n 3, 1) := by decide +kernel
theorem dX12_round_244 : decode cX12_round 244 = .ok (.iload_n 3, 1) := by decide +kernel
theorem dX12_round_245 : decode cX12_round 245 = .ok (.aload_n 0, 1) := by decide +kernel
theorem dX12_round_246 : decode cX12_round 246 = .ok (.invokevirtual 68, 3) := by decide +kernel
theorem dX12_round_249 : decode cX12_round 249 = .ok (.if_icmp .ge 28, 3) := by decide +kernel
theorem dX12_round_252 : decode cX12_round 252 = .ok (.aload_n 0, 1) := by decide +kernel
theorem dX12_round_253 : decode cX12_round 253 = .ok (.getfield 7, 3) := by decide +kernel
theorem dX12_round_256 : decode cX12_round 256 = .ok (.bipush 127, 2) := by decide +kernel
theorem dX12_round_258 : decode cX12_round 258 = .ok (.iconst 4, 1) := by decide +kernel
theorem dX12_round_259 : decode cX12_round 259 = .ok (.iload_n 3, 1) := by decide +kernel
theorem dX12_round_260 : decode cX12_round 260 = .ok (.imul, 1) := by decide +kernel
theorem dX12_round_261 : decode cX12_round 261 = .ok (.iadd, 1) := by decide +kernel
theorem dX12_round_262 : decode cX12_round 262 = .ok (.iconst 2, 1) := by decide +kernel
theorem dX12_round_263 : decode cX12_round 263 = .ok (.iadd, 1) := by decide +kernel
theorem dX12_round_264 : decode cX12_round 264 = .ok (.aload_n 0, 1) := by decide +kernel
theorem dX12_round_265 : decode cX12_round 265 = .ok (.getfield 33, 3) := by decide +kernel
theorem dX12_round_268 : decode cX12_round 268 = .ok (.iload_n 3, 1) := by decide +kernel
theorem dX12_round_269 : decode cX12_round 269 = .ok (.iaload, 1) := by decide +kernel
theorem dX12_round_270 : decode cX12_round 270 = .ok (.iastore, 1) := by decide +kernel
theorem dX12_round_271 : decode cX12_round 271 = .ok (.iinc 3 1, 3) := by decide +kernel
theorem dX12_round_274 : decode cX12_round 274 = .ok (.goto (-30), 3) := by decide +kernel
theorem dX12_round_277 : decode cX12_round 277 = .ok (.aload_n 0, 1) := by decide +kernel
theorem dX12_round_278 : decode cX12_round 278 = .ok (.getfield 7, 3) := by decide +kernel
theorem dX12_round_281 : decode cX12_round 281 = .ok (.sipush 148, 3) := by decide +kernel
theorem dX12_round_284 : decode cX12_round 284 = .ok (.dup2, 1) := by decide +kernel
theorem dX12_round_285 : decode cX12_round 285 = .ok (.iaload, 1) := by decide +kernel
theorem dX12_round_286 : decode cX12_round 286 = .ok (.iconst 1, 1) := by decide +kernel
theorem dX12_round_287 : decode cX12_round 287 = .ok (.iadd, 1) := by decide +kernel
theorem dX12_round_288 : decode cX12_round 288 = .ok (.iastore, 1) := by decide +kernel
theorem dX12_round_289 : decode cX12_round 289 = .ok (.aload_n 0, 1) := by decide +kernel
theorem dX12_round_290 : decode cX12_round 290 = .ok (.getfield 7, 3) := by decide +kernel
theorem dX12_round_293 : decode cX12_round 293 = .ok (.sipush 149, 3) := by decide +kernel
theorem dX12_round_296 : decode cX12_round 296 = .ok (.dup2, 1) := by decide +kernel
theorem dX12_round_297 : decode cX12_round 297 = .ok (.iaload, 1) := by decide +kernel
theorem dX12_round_298 : decode cX12_round 298 = .ok (.iload_n 2, 1) := by decide +kernel
theorem dX12_round_299 : decode cX12_round 299 = .ok (.iadd, 1) := by decide +kernel
theorem dX12_round_300 : decode cX12_round 300 = .ok (.iastore, 1) := by decide +kernel
theorem dX12_round_301 : decode cX12_round 301 = .ok (.iload_n 2, 1) := by decide +kernel
theorem dX12_round_302 : decode cX12_round 302 = .ok (.ireturn, 1) := by decide +kernel
theorem dX12_undo_0 : decode cX12_undo 0 = .ok (.aload_n 0, 1) := by decide +kernel
theorem dX12_undo_1 : decode cX12_undo 1 = .ok (.getfield 7, 3) := by decide +kernel
theorem dX12_undo_4 : decode cX12_undo 4 = .ok (.sipush 150, 3) := by decide +kernel
theorem dX12_undo_7 : decode cX12_undo 7 = .ok (.iaload, 1) := by decide +kernel
theorem dX12_undo_8 : decode cX12_undo 8 = .ok (.ifCond .ne 8, 3) := by decide +kernel
theorem dX12_undo_11 : decode cX12_undo 11 = .ok (.aload_n 0, 1) := by decide +kernel
theorem dX12_undo_12 : decode cX12_undo 12 = .ok (.invokevirtual 137, 3) := by decide +kernel
theorem dX12_undo_15 : decode cX12_undo 15 = .ok (.ireturn, 1) := by decide +kernel
theorem dX12_undo_16 : decode cX12_undo 16 = .ok (.aload_n 0, 1) := by decide +kernel
theorem dX12_undo_17 : decode cX12_undo 17 = .ok (.getfield 7, 3) := by decide +kernel
theorem dX12_undo_20 : decode cX12_undo 20 = .ok (.sipush 150, 3) := by decide +kernel
theorem dX12_undo_23 : decode cX12_undo 23 = .ok (.dup2, 1) := by decide +kernel
theorem dX12_undo_24 : decode cX12_undo 24 = .ok (.iaload, 1) := by decide +kernel
theorem dX12_undo_25 : decode cX12_undo 25 = .ok (.iconst 1, 1) := by decide +kernel
theorem dX12_undo_26 : decode cX12_undo 26 = .ok (.isub, 1) := by decide +kernel
theorem dX12_undo_27 : decode cX12_undo 27 = .ok (.iastore, 1) := by decide +kernel
theorem dX12_undo_28 : decode cX12_undo 28 = .ok (.sipush 151, 3) := by decide +kernel
theorem dX12_undo_31 : decode cX12_undo 31 = .ok (.bipush 127, 2) := by decide +kernel
theorem dX12_undo_33 : decode cX12_undo 33 = .ok (.aload_n 0, 1) := by decide +kernel
theorem dX12_undo_34 : decode cX12_undo 34 = .ok (.getfield 7, 3) := by decide +kernel
theorem dX12_undo_37 : decode cX12_undo 37 = .ok (.sipush 150, 3) := by decide +kernel
theorem dX12_undo_40 : decode cX12_undo 40 = .ok (.iaload, 1) := by decide +kernel
theorem dX12_undo_41 : decode cX12_undo 41 = .ok (.imul, 1) := by decide +kernel
theorem dX12_undo_42 : decode cX12_undo 42 = .ok (.iadd, 1) := by decide +kernel
theorem dX12_undo_43 : decode cX12_undo 43 = .ok (.istore_n 1, 1) := by decide +kernel
theorem dX12_undo_44 : decode cX12_undo 44 = .ok (.iconst 0, 1) := by decide +kernel
theorem dX12_undo_45 : decode cX12_undo 45 = .ok (.istore_n 2, 1) := by decide +kernel
theorem dX12_undo_46 : decode cX12_undo 46 = .ok (.iload_n 2, 1) := by decide +kernel
theorem dX12_undo_47 : decode cX12_undo 47 = .ok (.bipush 120, 2) := by decide +kernel
theorem dX12_undo_49 : decode cX12_undo 49 = .ok (.if_icmp .ge 26, 3) := by decide +kernel
theorem dX12_undo_52 : decode cX12_undo 52 = .ok (.aload_n 0, 1) := by decide +kernel
theorem dX12_undo_53 : decode cX12_undo 53 = .ok (.getfield 7, 3) := by decide +kernel
theorem dX12_undo_56 : decode cX12_undo 56 = .ok (.bipush 6, 2) := by decide +kernel
theorem dX12_undo_58 : decode cX12_undo 58 = .ok (.iload_n 2, 1) := by decide +kernel
theorem dX12_undo_59 : decode cX12_undo 59 = .ok (.iadd, 1) := by decide +kernel
theorem dX12_undo_60 : decode cX12_undo 60 = .ok (.aload_n 0, 1) := by decide +kernel
theorem dX12_undo_61 : decode cX12_undo 61 = .ok (.getfield 7, 3) := by decide +kernel
theorem dX12_undo_64 : decode cX12_undo 64 = .ok (.iload_n 1, 1) := by decide +kernel
theorem dX12_undo_65 : decode cX12_undo 65 = .ok (.iload_n 2, 1) := by decide +kernel
theorem dX12_undo_66 : decode cX12_undo 66 = .ok (.iadd, 1) := by decide +kernel
theorem dX12_undo_67 : decode cX12_undo 67 = .ok (.iaload, 1) := by decide +kernel
theorem dX12_undo_68 : decode cX12_undo 68 = .ok (.iastore, 1) := by decide +kernel
theorem dX12_undo_69 : decode cX12_undo 69 = .ok (.iinc 2 1, 3) := by decide +kernel
theorem dX12_undo_72 : decode cX12_undo 72 = .ok (.goto (-26), 3) := by decide +kernel
theorem dX12_undo_75 : decode cX12_undo 75 = .ok (.iconst 0, 1) := by decide +kernel
theorem dX12_undo_76 : decode cX12_undo 76 = .ok (.istore_n 2, 1) := by decide +kernel
theorem dX12_undo_77 : decode cX12_undo 77 = .ok (.iload_n 2, 1) := by decide +kernel
theorem dX12_undo_78 : decode cX12_undo 78 = .ok (.aload_n 0, 1) := by decide +kernel
theorem dX12_undo_79 : decode cX12_undo 79 = .ok (.getfield 7, 3) := by decide +kernel
theorem dX12_undo_82 : decode cX12_undo 82 = .ok (.iload_n 1, 1) := by decide +kernel
theorem dX12_undo_83 : decode cX12_undo 83 = .ok (.bipush 126, 2) := by decide +kernel
theorem dX12_undo_85 : decode cX12_undo 85 = .ok (.iadd, 1) := by decide +kernel
theorem dX12_undo_86 : decode cX12_undo 86 = .ok (.iaload, 1) := by decide +kernel
theorem dX12_undo_87 : decode cX12_undo 87 = .ok (.if_icmp .ge 33, 3) := by decide +kernel
theorem dX12_undo_90 : decode cX12_undo 90 = .ok (.aload_n 0, 1) := by decide +kernel
theorem dX12_undo_91 : decode cX12_undo 91 = .ok (.getfield 7, 3) := by decide +kernel
theorem dX12_undo_94 : decode cX12_undo 94 = .ok (.bipush 127, 2) := by decide +kernel
theorem dX12_undo_96 : decode cX12_undo 96 = .ok (.iconst 4, 1) := by decide +kernel
theorem dX12_undo_97 : decode cX12_undo 97 = .ok (.iload_n 2, 1) := by decide +kernel
theorem dX12_undo_98 : decode cX12_undo 98 = .ok (.imul, 1) := by decide +kernel
theorem dX12_undo_99 : decode cX12_undo 99 = .ok (.iadd, 1) := by decide +kernel
theorem dX12_undo_100 : decode cX12_undo 100 = .ok (.iconst 2, 1) := by decide +kernel
theorem dX12_undo_101 : decode cX12_undo 101 = .ok (.iadd, 1) := by decide +kernel
theorem dX12_undo_102 : decode cX12_undo 102 = .ok (.aload_n 0, 1) := by decide +kernel
theorem dX12_undo_103 : decode cX12_undo 103 = .ok (.getfield 7, 3) := by decide +kernel
theorem dX12_undo_106 : decode cX12_undo 106 = .ok (.iload_n 1, 1) := by decide +kernel
theorem dX12_undo_107 : decode cX12_undo 107 = .ok (.bipush 120, 2) := by decide +kernel
theorem dX12_undo_109 : decode cX12_undo 109 = .ok (.iadd, 1) := by decide +kernel
theorem dX12_undo_110 : decode cX12_undo 110 = .ok (.iload_n 2, 1) := by decide +kernel
theorem dX12_undo_111 : decode cX12_undo 111 = .ok (.iadd, 1) := by decide +kernel
theorem dX12_undo_112 : decode cX12_undo 112 = .ok (.iaload, 1) := by decide +kernel
theorem dX12_undo_113 : decode cX12_undo 113 = .ok (.iastore, 1) := by decide +kernel
theorem dX12_undo_114 : decode cX12_undo 114 = .ok (.iinc 2 1, 3) := by decide +kernel
theorem dX12_undo_117 : decode cX12_undo 117 = .ok (.goto (-40), 3) := by decide +kernel
theorem dX12_undo_120 : decode cX12_undo 120 = .ok (.aload_n 0, 1) := by decide +kernel
theorem dX12_undo_121 : decode cX12_undo 121 = .ok (.getfield 7, 3) := by decide +kernel
theorem dX12_undo_124 : decode cX12_undo 124 = .ok (.sipush 148, 3) := by decide +kernel
theorem dX12_undo_127 : decode cX12_undo 127 = .ok (.aload_n 0, 1) := by decide +kernel
theorem dX12_undo_128 : decode cX12_undo 128 = .ok (.getfield 7, 3) := by decide +kernel
theorem dX12_undo_131 : decode cX12_undo 131 = .ok (.iload_n 1, 1) := by decide +kernel
theorem dX12_undo_132 : decode cX12_undo 132 = .ok (.bipush 124, 2) := by decide +kernel
theorem dX12_undo_134 : decode cX12_undo 134 = .ok (.iadd, 1) := by decide +kernel
theorem dX12_undo_135 : decode cX12_undo 135 = .ok (.iaload, 1) := by decide +kernel
theorem dX12_undo_136 : decode cX12_undo 136 = .ok (.iastore, 1) := by decide +kernel
theorem dX12_undo_137 : decode cX12_undo 137 = .ok (.aload_n 0, 1) := by decide +kernel
theorem dX12_undo_138 : decode cX12_undo 138 = .ok (.getfield 7, 3) := by decide +kernel
theorem dX12_undo_141 : decode cX12_undo 141 = .ok (.sipush 149, 3) := by decide +kernel
theorem dX12_undo_144 : decode cX12_undo 144 = .ok (.aload_n 0, 1) := by decide +kernel
theorem dX12_undo_145 : decode cX12_undo 145 = .ok (.getfield 7, 3) := by decide +kernel
theorem dX12_undo_148 : decode cX12_undo 148 = .ok (.iload_n 1, 1) := by decide +kernel
theorem dX12_undo_149 : decode cX12_undo 149 = .ok (.bipush 125, 2) := by decide +kernel
theorem dX12_undo_151 : decode cX12_undo 151 = .ok (.iadd, 1) := by decide +kernel
theorem dX12_undo_152 : decode cX12_undo 152 = .ok (.iaload, 1) := by decide +kernel
theorem dX12_undo_153 : decode cX12_undo 153 = .ok (.iastore, 1) := by decide +kernel
theorem dX12_undo_154 : decode cX12_undo 154 = .ok (.iconst 1, 1) := by decide +kernel
theorem dX12_undo_155 : decode cX12_undo 155 = .ok (.ireturn, 1) := by decide +kernel
theorem dX12_sumOf_0 : decode cX12_sumOf 0 = .ok (.iconst 0, 1) := by decide +kernel
theorem dX12_sumOf_1 : decode cX12_sumOf 1 = .ok (.istore_n 3, 1) := by decide +kernel
theorem dX12_sumOf_2 : decode cX12_sumOf 2 = .ok (.iconst 0, 1) := by decide +kernel
theorem dX12_sumOf_3 : decode cX12_sumOf 3 = .ok (.istore 4, 2) := by decide +kernel
theorem dX12_sumOf_5 : decode cX12_sumOf 5 = .ok (.iload 4, 2) := by decide +kernel
theorem dX12_sumOf_7 : decode cX12_sumOf 7 = .ok (.iload_n 2, 1) := by decide +kernel
theorem dX12_sumOf_8 : decode cX12_sumOf 8 = .ok (.if_icmp .ge 18, 3) := by decide +kernel
theorem dX12_sumOf_11 : decode cX12_sumOf 11 = .ok (.iload_n 3, 1) := by decide +kernel
theorem dX12_sumOf_12 : decode cX12_sumOf 12 = .ok (.aload_n 0, 1) := by decide +kernel
theorem dX12_sumOf_13 : decode cX12_sumOf 13 = .ok (.iload_n 1, 1) := by decide +kernel
theorem dX12_sumOf_14 : decode cX12_sumOf 14 = .ok (.iload 4, 2) := by decide +kernel
theorem dX12_sumOf_16 : decode cX12_sumOf 16 = .ok (.iadd, 1) := by decide +kernel
theorem dX12_sumOf_17 : decode cX12_sumOf 17 = .ok (.iaload, 1) := by decide +kernel
theorem dX12_sumOf_18 : decode cX12_sumOf 18 = .ok (.iadd, 1) := by decide +kernel
theorem dX12_sumOf_19 : decode cX12_sumOf 19 = .ok (.istore_n 3, 1) := by decide +kernel
theorem dX12_sumOf_20 : decode cX12_sumOf 20 = .ok (.iinc 4 1, 3) := by decide +kernel
theorem dX12_sumOf_23 : decode cX12_sumOf 23 = .ok (.goto (-18), 3) := by decide +kernel
theorem dX12_sumOf_26 : decode cX12_sumOf 26 = .ok (.iload_n 3, 1) := by decide +kernel
theorem dX12_sumOf_27 : decode cX12_sumOf 27 = .ok (.ireturn, 1) := by decide +kernel
theorem dX12_there_0 : decode cX12_there 0 = .ok (.iload_n 1, 1) := by decide +kernel
theorem dX12_there_1 : decode cX12_there 1 = .ok (.invokestatic 77, 3) := by decide +kernel
theorem dX12_there_4 : decode cX12_there 4 = .ok (.ifCond .eq 16, 3) := by decide +kernel
theorem dX12_there_7 : decode cX12_there 7 = .ok (.iload_n 2, 1) := by decide +kernel
theorem dX12_there_8 : decode cX12_there 8 = .ok (.iconst (-1), 1) := by decide +kernel
theorem dX12_there_9 : decode cX12_there 9 = .ok (.if_icmp .eq 18, 3) := by decide +kernel
theorem dX12_there_12 : decode cX12_there 12 = .ok (.aload_n 0, 1) := by decide +kernel
theorem dX12_there_13 : decode cX12_there 13 = .ok (.iload_n 2, 1) := by decide +kernel
theorem dX12_there_14 : decode cX12_there 14 = .ok (.invokevirtual 83, 3) := by decide +kernel
theorem dX12_there_17 : decode cX12_there 17 = .ok (.ifCond .ne 10, 3) := by decide +kernel
theorem dX12_there_20 : decode cX12_there 20 = .ok (.aload_n 0, 1) := by decide +kernel
theorem dX12_there_21 : decode cX12_there 21 = .ok (.bipush (-10), 2) := by decide +kernel
theorem dX12_there_23 : decode cX12_there 23 = .ok (.invokevirtual 73, 3) := by decide +kernel
theorem dX12_there_26 : decode cX12_there 26 = .ok (.ireturn, 1) := by decide +kernel
theorem dX12_there_27 : decode cX12_there 27 = .ok (.iload_n 2, 1) := by decide +kernel
theorem dX12_there_28 : decode cX12_there 28 = .ok (.iconst (-1), 1) := by decide +kernel
theorem dX12_there_29 : decode cX12_there 29 = .ok (.if_icmp .ne 24, 3) := by decide +kernel
theorem dX12_there_32 : decode cX12_there 32 = .ok (.aload_n 0, 1) := by decide +kernel
theorem dX12_there_33 : decode cX12_there 33 = .ok (.getfield 7, 3) := by decide +kernel
theorem dX12_there_36 : decode cX12_there 36 = .ok (.bipush 6, 2) := by decide +kernel
theorem dX12_there_38 : decode cX12_there 38 = .ok (.bipush 24, 2) := by decide +kernel
theorem dX12_there_40 : decode cX12_there 40 = .ok (.iload_n 1, 1) := by decide +kernel
theorem dX12_there_41 : decode cX12_there 41 = .ok (.imul, 1) := by decide +kernel
theorem dX12_there_42 : decode cX12_there 42 = .ok (.iadd, 1) := by decide +kernel
theorem dX12_there_43 : decode cX12_there 43 = .ok (.aload_n 0, 1) := by decide +kernel
theorem dX12_there_44 : decode cX12_there 44 = .ok (.invokevirtual 64, 3) := by decide +kernel
theorem dX12_there_47 : decode cX12_there 47 = .ok (.invokestatic 140, 3) := by decide +kernel
theorem dX12_there_50 : decode cX12_there 50 = .ok (.goto 17, 3) := by decide +kernel
theorem dX12_there_53 : decode cX12_there 53 = .ok (.aload_n 0, 1) := by decide +kernel
theorem dX12_there_54 : decode cX12_there 54 = .ok (.getfield 7, 3) := by decide +kernel
theorem dX12_there_57 : decode cX12_there 57 = .ok (.bipush 6, 2) := by decide +kernel
theorem dX12_there_59 : decode cX12_there 59 = .ok (.bipush 24, 2) := by decide +kernel
theorem dX12_there_61 : decode cX12_there 61 = .ok (.iload_n 1, 1) := by decide +kernel
theorem dX12_there_62 : decode cX12_there 62 = .ok (.imul, 1) := by decide +kernel
theorem dX12_there_63 : decode cX12_there 63 = .ok (.iadd, 1) := by decide +kernel
theorem dX12_there_64 : decode cX12_there 64 = .ok (.iload_n 2, 1) := by decide +kernel
theorem dX12_there_65 : decode cX12_there 65 = .ok (.iadd, 1) := by decide +kernel
theorem dX12_there_66 : decode cX12_there 66 = .ok (.iaload, 1) := by decide +kernel
theorem dX12_there_67 : decode cX12_there 67 = .ok (.ireturn, 1) := by decide +kernel
theorem dX12_about_0 : decode cX12_about 0 = .ok (.aload_n 0, 1) := by decide +kernel
theorem dX12_about_1 : decode cX12_about 1 = .ok (.iload_n 1, 1) := by decide +kernel
theorem dX12_about_2 : decode cX12_about 2 = .ok (.invokevirtual 144, 3) := by decide +kernel
theorem dX12_about_5 : decode cX12_about 5 = .ok (.ifCond .eq 24, 3) := by decide +kernel
theorem dX12_about_8 : decode cX12_about 8 = .ok (.iload_n 2, 1) := by decide +kernel
theorem dX12_about_9 : decode cX12_about 9 = .ok (.i2l, 1) := by decide +kernel
theorem dX12_about_10 : decode cX12_about 10 = .ok (.lconst 0, 1) := by decide +kernel
theorem dX12_about_11 : decode cX12_about 11 = .ok (.ldc2_w 147, 3) := by decide +kernel
theorem dX12_about_14 : decode cX12_about 14 = .ok (.invokestatic 60, 3) := by decide +kernel
theorem dX12_about_17 : decode cX12_about 17 = .ok (.ifCond .eq 12, 3) := by decide +kernel
theorem dX12_about_20 : decode cX12_about 20 = .ok (.aload_n 0, 1) := by decide +kernel
theorem dX12_about_21 : decode cX12_about 21 = .ok (.iload_n 1, 1) := by decide +kernel
theorem dX12_about_22 : decode cX12_about 22 = .ok (.iload_n 2, 1) := by decide +kernel
theorem dX12_about_23 : decode cX12_about 23 = .ok (.invokevirtual 97, 3) := by decide +kernel
theorem dX12_about_26 : decode cX12_about 26 = .ok (.goto 9, 3) := by decide +kernel
theorem dX12_about_29 : decode cX12_about 29 = .ok (.aload_n 0, 1) := by decide +kernel
theorem dX12_about_30 : decode cX12_about 30 = .ok (.bipush (-2), 2) := by decide +kernel
theorem dX12_about_32 : decode cX12_about 32 = .ok (.invokevirtual 73, 3) := by decide +kernel
theorem dX12_about_35 : decode cX12_about 35 = .ok (.ireturn, 1) := by decide +kernel
theorem dX12_goOne_0 : decode cX12_goOne 0 = .ok (.aload_n 0, 1) := by decide +kernel
theorem dX12_goOne_1 : decode cX12_goOne 1 = .ok (.aload_n 0, 1) := by decide +kernel
theorem dX12_goOne_2 : decode cX12_goOne 2 = .ok (.getfield 149, 3) := by decide +kernel
theorem dX12_goOne_5 : decode cX12_goOne 5 = .ok (.aload_n 0, 1) := by decide +kernel
theorem dX12_goOne_6 : decode cX12_goOne 6 = .ok (.getfield 7, 3) := by decide +kernel
theorem dX12_goOne_9 : decode cX12_goOne 9 = .ok (.iconst 1, 1) := by decide +kernel
theorem dX12_goOne_10 : decode cX12_goOne 10 = .ok (.aload_n 0, 1) := by decide +kernel
theorem dX12_goOne_11 : decode cX12_goOne 11 = .ok (.getfield 152, 3) := by decide +kernel
theorem dX12_goOne_14 : decode cX12_goOne 14 = .ok (.iadd, 1) := by decide +kernel
theorem dX12_goOne_15 : decode cX12_goOne 15 = .ok (.iaload, 1) := by decide +kernel
theorem dX12_goOne_16 : decode cX12_goOne 16 = .ok (.iadd, 1) := by decide +kernel
theorem dX12_goOne_17 : decode cX12_goOne 17 = .ok (.aload_n 0, 1) := by decide +kernel
theorem dX12_goOne_18 : decode cX12_goOne 18 = .ok (.invokevirtual 64, 3) := by decide +kernel
theorem dX12_goOne_21 : decode cX12_goOne 21 = .ok (.irem, 1) := by decide +kernel
theorem dX12_goOne_22 : decode cX12_goOne 22 = .ok (.putfield 149, 3) := by decide +kernel
theorem dX12_goOne_25 : decode cX12_goOne 25 = .ok (.aload_n 0, 1) := by decide +kernel
theorem dX12_goOne_26 : decode cX12_goOne 26 = .ok (.invokevirtual 118, 3) := by decide +kernel
theorem dX12_goOne_29 : decode cX12_goOne 29 = .ok (.iconst 0, 1) := by decide +kernel
theorem dX12_goOne_30 : decode cX12_goOne 30 = .ok (.istore_n 1, 1) := by decide +kernel
theorem dX12_goOne_31 : decode cX12_goOne 31 = .ok (.iload_n 1, 1) := by decide +kernel
theorem dX12_goOne_32 : decode cX12_goOne 32 = .ok (.aload_n 0, 1) := by decide +kernel
theorem dX12_goOne_33 : decode cX12_goOne 33 = .ok (.invokevirtual 68, 3) := by decide +kernel
theorem dX12_goOne_36 : decode cX12_goOne 36 = .ok (.if_icmp .ge 74, 3) := by decide +kernel
theorem dX12_goOne_39 : decode cX12_goOne 39 = .ok (.aload_n 0, 1) := by decide +kernel
theorem dX12_goOne_40 : decode cX12_goOne 40 = .ok (.getfield 152, 3) := by decide +kernel
theorem dX12_goOne_43 : decode cX12_goOne 43 = .ok (.invokestatic 77, 3) := by decide +kernel
theorem dX12_goOne_46 : decode cX12_goOne 46 = .ok (.ifCond .eq 64, 3) := by decide +kernel
theorem dX12_goOne_49 : decode cX12_goOne 49 = .ok (.aload_n 0, 1) := by decide +kernel
theorem dX12_goOne_50 : decode cX12_goOne 50 = .ok (.iload_n 1, 1) := by decide +kernel
theorem dX12_goOne_51 : decode cX12_goOne 51 = .ok (.invokevirtual 121, 3) := by decide +kernel
theorem dX12_goOne_54 : decode cX12_goOne 54 = .ok (.ifCond .eq 50, 3) := by decide +kernel
theorem dX12_goOne_57 : decode cX12_goOne 57 = .ok (.aload_n 0, 1) := by decide +kernel
theorem dX12_goOne_58 : decode cX12_goOne 58 = .ok (.iload_n 1, 1) := by decide +kernel
theorem dX12_goOne_59 : decode cX12_goOne 59 = .ok (.aload_n 0, 1) := by decide +kernel
theorem dX12_goOne_60 : decode cX12_goOne 60 = .ok (.getfield 149, 3) := by decide +kernel
theorem dX12_goOne_63 : decode cX12_goOne 63 = .ok (.invokevirtual 108, 3) := by decide +kernel
theorem dX12_goOne_66 : decode cX12_goOne 66 = .ok (.ifCond .eq 38, 3) := by decide +kernel
theorem dX12_goOne_69 : decode cX12_goOne 69 = .ok (.aload_n 0, 1) := by decide +kernel
theorem dX12_goOne_70 : decode cX12_goOne 70 = .ok (.iload_n 1, 1) := by decide +kernel
theorem dX12_goOne_71 : decode cX12_goOne 71 = .ok (.aload_n 0, 1) := by decide +kernel
theorem dX12_goOne_72 : decode cX12_goOne 72 = .ok (.getfield 152, 3) := by decide +kernel
theorem dX12_goOne_75 : decode cX12_goOne 75 = .ok (.invokevirtual 112, 3) := by decide +kernel
theorem dX12_goOne_78 : decode cX12_goOne 78 = .ok (.ifCond .eq 26, 3) := by decide +kernel
theorem dX12_goOne_81 : decode cX12_goOne 81 = .ok (.aload_n 0, 1) := by decide +kernel
theorem dX12_goOne_82 : decode cX12_goOne 82 = .ok (.aload_n 0, 1) := by decide +kernel
theorem dX12_goOne_83 : decode cX12_goOne 83 = .ok (.iload_n 1, 1) := by decide +kernel
theorem dX12_goOne_84 : decode cX12_goOne 84 = .ok (.aload_n 0, 1) := by decide +kernel
theorem dX12_goOne_85 : decode cX12_goOne 85 = .ok (.getfield 152, 3) := by decide +kernel
theorem dX12_goOne_88 : decode cX12_goOne 88 = .ok (.invokevirtual 115, 3) := by decide +kernel
theorem dX12_goOne_91 : decode cX12_goOne 91 = .ok (.putfield 152, 3) := by decide +kernel
theorem dX12_goOne_94 : decode cX12_goOne 94 = .ok (.aload_n 0, 1) := by decide +kernel
theorem dX12_goOne_95 : decode cX12_goOne 95 = .ok (.dup, 1) := by decide +kernel
theorem dX12_goOne_96 : decode cX12_goOne 96 = .ok (.getfield 155, 3) := by decide +kernel
theorem dX12_goOne_99 : decode cX12_goOne 99 = .ok (.iconst 1, 1) := by decide +kernel
theorem dX12_goOne_100 : decode cX12_goOne 100 = .ok (.iadd, 1) := by decide +kernel
theorem dX12_goOne_101 : decode cX12_goOne 101 = .ok (.putfield 155, 3) := by decide +kernel
theorem dX12_goOne_104 : decode cX12_goOne 104 = .ok (.iinc 1 1, 3) := by decide +kernel
theorem dX12_goOne_107 : decode cX12_goOne 107 = .ok (.goto (-76), 3) := by decide +kernel
theorem dX12_goOne_110 : decode cX12_goOne 110 = .ok (.return_, 1) := by decide +kernel
theorem dX12_goOneOn_0 : decode cX12_goOneOn 0 = .ok (.aload_n 0, 1) := by decide +kernel
theorem dX12_goOneOn_1 : decode cX12_goOneOn 1 = .ok (.iload_n 1, 1) := by decide +kernel
theorem dX12_goOneOn_2 : decode cX12_goOneOn 2 = .ok (.putfield 152, 3) := by decide +kernel
theorem dX12_goOneOn_5 : decode cX12_goOneOn 5 = .ok (.aload_n 0, 1) := by decide +kernel
theorem dX12_goOneOn_6 : decode cX12_goOneOn 6 = .ok (.iload_n 2, 1) := by decide +kernel
theorem dX12_goOneOn_7 : decode cX12_goOneOn 7 = .ok (.putfield 149, 3) := by decide +kernel
theorem dX12_goOneOn_10 : decode cX12_goOneOn 10 = .ok (.aload_n 0, 1) := by decide +kernel
theorem dX12_goOneOn_11 : decode cX12_goOneOn 11 = .ok (.iconst 0, 1) := by decide +kernel
theorem dX12_goOneOn_12 : decode cX12_goOneOn 12 = .ok (.putfield 155, 3) := by decide +kernel
theorem dX12_goOneOn_15 : decode cX12_goOneOn 15 = .ok (.aload_n 0, 1) := by decide +kernel
theorem dX12_goOneOn_16 : decode cX12_goOneOn 16 = .ok (.aload_n 0, 1) := by decide +kernel
theorem dX12_goOneOn_17 : decode cX12_goOneOn 17 = .ok (.invokevirtual 127, 3) := by decide +kernel
theorem dX12_goOneOn_20 : decode cX12_goOneOn 20 = .ok (.invokevirtual 130, 3) := by decide +kernel
theorem dX12_goOneOn_23 : decode cX12_goOneOn 23 = .ok (.iconst 0, 1) := by decide +kernel
theorem dX12_goOneOn_24 : decode cX12_goOneOn 24 = .ok (.istore 4, 2) := by decide +kernel
theorem dX12_goOneOn_26 : decode cX12_goOneOn 26 = .ok (.iload 4, 2) := by decide +kernel
theorem dX12_goOneOn_28 : decode cX12_goOneOn 28 = .ok (.iload_n 3, 1) := by decide +kernel
theorem dX12_goOneOn_29 : decode cX12_goOneOn 29 = .ok (.if_icmp .ge 23, 3) := by decide +kernel
theorem dX12_goOneOn_32 : decode cX12_goOneOn 32 = .ok (.aload_n 0, 1) := by decide +kernel
theorem dX12_goOneOn_33 : decode cX12_goOneOn 33 = .ok (.getfield 152, 3) := by decide +kernel
theorem dX12_goOneOn_36 : decode cX12_goOneOn 36 = .ok (.invokestatic 77, 3) := by decide +kernel
theorem dX12_goOneOn_39 : decode cX12_goOneOn 39 = .ok (.ifCond .eq 13, 3) := by decide +kernel
theorem dX12_goOneOn_42 : decode cX12_goOneOn 42 = .ok (.aload_n 0, 1) := by decide +kernel
theorem dX12_goOneOn_43 : decode cX12_goOneOn 43 = .ok (.invokevirtual 158, 3) := by decide +kernel
theorem dX12_goOneOn_46 : decode cX12_goOneOn 46 = .ok (.iinc 4 1, 3) := by decide +kernel
theorem dX12_goOneOn_49 : decode cX12_goOneOn 49 = .ok (.goto (-23), 3) := by decide +kernel
theorem dX12_goOneOn_52 : decode cX12_goOneOn 52 = .ok (.return_, 1) := by decide +kernel
theorem dX12_isLong_0 : decode cX12_isLong 0 = .ok (.iload_n 0, 1) := by decide +kernel
theorem dX12_isLong_1 : decode cX12_isLong 1 = .ok (.i2l, 1) := by decide +kernel
theorem dX12_isLong_2 : decode cX12_isLong 2 = .ok (.lconst 0, 1) := by decide +kernel
theorem dX12_isLong_3 : decode cX12_isLong 3 = .ok (.ldc2_w 161, 3) := by decide +kernel
theorem dX12_isLong_6 : decode cX12_isLong 6 = .ok (.invokestatic 60, 3) := by decide +kernel
theorem dX12_isLong_9 : decode cX12_isLong 9 = .ok (.ireturn, 1) := by decide +kernel
theorem dX12_where_0 : decode cX12_where 0 = .ok (.iload_n 1, 1) := by decide +kernel
theorem dX12_where_1 : decode cX12_where 1 = .ok (.invokestatic 77, 3) := by decide +kernel
theorem dX12_where_4 : decode cX12_where 4 = .ok (.ifCond .eq 31, 3) := by decide +kernel
theorem dX12_where_7 : decode cX12_where 7 = .ok (.aload_n 0, 1) := by decide +kernel
theorem dX12_where_8 : decode cX12_where 8 = .ok (.iload_n 2, 1) := by decide +kernel
theorem dX12_where_9 : decode cX12_where 9 = .ok (.invokevirtual 83, 3) := by decide +kernel
theorem dX12_where_12 : decode cX12_where 12 = .ok (.ifCond .eq 23, 3) := by decide +kernel
theorem dX12_where_15 : decode cX12_where 15 = .ok (.iload_n 3, 1) := by decide +kernel
theorem dX12_where_16 : decode cX12_where 16 = .ok (.invokestatic 163, 3) := by decide +kernel
theorem dX12_where_19 : decode cX12_where 19 = .ok (.ifCond .eq 16, 3) := by decide +kernel
theorem dX12_where_22 : decode cX12_where 22 = .ok (.iload 4, 2) := by decide +kernel
theorem dX12_where_24 : decode cX12_where 24 = .ok (.i2l, 1) := by decide +kernel
theorem dX12_where_25 : decode cX12_where 25 = .ok (.lconst 0, 1) := by decide +kernel
theorem dX12_where_26 : decode cX12_where 26 = .ok (.ldc2_w 166, 3) := by decide +kernel
theorem dX12_where_29 : decode cX12_where 29 = .ok (.invokestatic 60, 3) := by decide +kernel
theorem dX12_where_32 : decode cX12_where 32 = .ok (.ifCond .ne 10, 3) := by decide +kernel
theorem dX12_where_35 : decode cX12_where 35 = .ok (.aload_n 0, 1) := by decide +kernel
theorem dX12_where_36 : decode cX12_where 36 = .ok (.bipush (-10), 2) := by decide +kernel
theorem dX12_where_38 : decode cX12_where 38 = .ok (.invokevirtual 73, 3) := by decide +kernel
theorem dX12_where_41 : decode cX12_where 41 = .ok (.ireturn, 1) := by decide +kernel
theorem dX12_where_42 : decode cX12_where 42 = .ok (.aload_n 0, 1) := by decide +kernel
theorem dX12_where_43 : decode cX12_where 43 = .ok (.iload_n 1, 1) := by decide +kernel
theorem dX12_where_44 : decode cX12_where 44 = .ok (.iload_n 2, 1) := by decide +kernel
theorem dX12_where_45 : decode cX12_where 45 = .ok (.iload_n 3, 1) := by decide +kernel
theorem dX12_where_46 : decode cX12_where 46 = .ok (.invokevirtual 168, 3) := by decide +kernel
theorem dX12_where_49 : decode cX12_where 49 = .ok (.iload 4, 2) := by decide +kernel
theorem dX12_where_51 : decode cX12_where 51 = .ok (.ifCond .ne 24, 3) := by decide +kernel
theorem dX12_where_54 : decode cX12_where 54 = .ok (.aload_n 0, 1) := by decide +kernel
theorem dX12_where_55 : decode cX12_where 55 = .ok (.getfield 152, 3) := by decide +kernel
theorem dX12_where_58 : decode cX12_where 58 = .ok (.invokestatic 77, 3) := by decide +kernel
theorem dX12_where_61 : decode cX12_where 61 = .ok (.ifCond .eq 10, 3) := by decide +kernel
theorem dX12_where_64 : decode cX12_where 64 = .ok (.aload_n 0, 1) := by decide +kernel
theorem dX12_where_65 : decode cX12_where 65 = .ok (.getfield 152, 3) := by decide +kernel
theorem dX12_where_68 : decode cX12_where 68 = .ok (.goto 24, 3) := by decide +kernel
theorem dX12_where_71 : decode cX12_where 71 = .ok (.iconst (-1), 1) := by decide +kernel
theorem dX12_where_72 : decode cX12_where 72 = .ok (.goto 20, 3) := by decide +kernel
theorem dX12_where_75 : decode cX12_where 75 = .ok (.iload 4, 2) := by decide +kernel
theorem dX12_where_77 : decode cX12_where 77 = .ok (.iconst 1, 1) := by decide +kernel
theorem dX12_where_78 : decode cX12_where 78 = .ok (.if_icmp .ne 10, 3) := by decide +kernel
theorem dX12_where_81 : decode cX12_where 81 = .ok (.aload_n 0, 1) := by decide +kernel
theorem dX12_where_82 : decode cX12_where 82 = .ok (.getfield 149, 3) := by decide +kernel
theorem dX12_where_85 : decode cX12_where 85 = .ok (.goto 7, 3) := by decide +kernel
theorem dX12_where_88 : decode cX12_where 88 = .ok (.aload_n 0, 1) := by decide +kernel
theorem dX12_where_89 : decode cX12_where 89 = .ok (.getfield 155, 3) := by decide +kernel
theorem dX12_where_92 : decode cX12_where 92 = .ok (.ireturn, 1) := by decide +kernel
theorem dX12_lossOf_0 : decode cX12_lossOf 0 = .ok (.aload_n 0, 1) := by decide +kernel
theorem dX12_lossOf_1 : decode cX12_lossOf 1 = .ok (.iload_n 2, 1) := by decide +kernel
theorem dX12_lossOf_2 : decode cX12_lossOf 2 = .ok (.invokevirtual 130, 3) := by decide +kernel
theorem dX12_lossOf_5 : decode cX12_lossOf 5 = .ok (.iconst 0, 1) := by decide +kernel
theorem dX12_lossOf_6 : decode cX12_lossOf 6 = .ok (.istore_n 3, 1) := by decide +kernel
theorem dX12_lossOf_7 : decode cX12_lossOf 7 = .ok (.iconst 0, 1) := by decide +kernel
theorem dX12_lossOf_8 : decode cX12_lossOf 8 = .ok (.istore 4, 2) := by decide +kernel
theorem dX12_lossOf_10 : decode cX12_lossOf 10 = .ok (.iload 4, 2) := by decide +kernel
theorem dX12_lossOf_12 : decode cX12_lossOf 12 = .ok (.iload_n 1, 1) := by decide +kernel
theorem dX12_lossOf_13 : decode cX12_lossOf 13 = .ok (.if_icmp .ge 16, 3) := by decide +kernel
theorem dX12_lossOf_16 : decode cX12_lossOf 16 = .ok (.iload_n 3, 1) := by decide +kernel
theorem dX12_lossOf_17 : decode cX12_lossOf 17 = .ok (.aload_n 0, 1) := by decide +kernel
theorem dX12_lossOf_18 : decode cX12_lossOf 18 = .ok (.invokevirtual 134, 3) := by decide +kernel
theorem dX12_lossOf_21 : decode cX12_lossOf 21 = .ok (.iadd, 1) := by decide +kernel
theorem dX12_lossOf_22 : decode cX12_lossOf 22 = .ok (.istore_n 3, 1) := by decide +kernel
theorem dX12_lossOf_23 : decode cX12_lossOf 23 = .ok (.iinc 4 1, 3) := by decide +kernel
theorem dX12_lossOf_26 : decode cX12_lossOf 26 = .ok (.goto (-16), 3) := by decide +kernel
theorem dX12_lossOf_29 : decode cX12_lossOf 29 = .ok (.iload_n 3, 1) := by decide +kernel
theorem dX12_lossOf_30 : decode cX12_lossOf 30 = .ok (.ireturn, 1) := by decide +kernel
theorem dX12_loss_0 : decode cX12_loss 0 = .ok (.iload_n 1, 1) := by decide +kernel
theorem dX12_loss_1 : decode cX12_loss 1 = .ok (.invokestatic 163, 3) := by decide +kernel
theorem dX12_loss_4 : decode cX12_loss 4 = .ok (.ifCond .eq 15, 3) := by decide +kernel
theorem dX12_loss_7 : decode cX12_loss 7 = .ok (.aload_n 0, 1) := by decide +kernel
theorem dX12_loss_8 : decode cX12_loss 8 = .ok (.iload_n 1, 1) := by decide +kernel
theorem dX12_loss_9 : decode cX12_loss 9 = .ok (.aload_n 0, 1) := by decide +kernel
theorem dX12_loss_10 : decode cX12_loss 10 = .ok (.invokevirtual 127, 3) := by decide +kernel
theorem dX12_loss_13 : decode cX12_loss 13 = .ok (.invokevirtual 172, 3) := by decide +kernel
theorem dX12_loss_16 : decode cX12_loss 16 = .ok (.goto 9, 3) := by decide +kernel
theorem dX12_loss_19 : decode cX12_loss 19 = .ok (.aload_n 0, 1) := by decide +kernel
theorem dX12_loss_20 : decode cX12_loss 20 = .ok (.bipush (-2), 2) := by decide +kernel
theorem dX12_loss_22 : decode cX12_loss 22 = .ok (.invokevirtual 73, 3) := by decide +kernel
theorem dX12_loss_25 : decode cX12_loss 25 = .ok (.ireturn, 1) := by decide +kernel
theorem dX12_behind_0 : decode cX12_behind 0 = .ok (.iconst 0, 1) := by decide +kernel
theorem dX12_behind_1 : decode cX12_behind 1 = .ok (.istore 4, 2) := by decide +kernel
theorem dX12_behind_3 : decode cX12_behind 3 = .ok (.iload 4, 2) := by decide +kernel
theorem dX12_behind_5 : decode cX12_behind 5 = .ok (.aload_n 0, 1) := by decide +kernel
theorem dX12_behind_6 : decode cX12_behind 6 = .ok (.invokevirtual 68, 3) := by decide +kernel
theorem dX12_behind_9 : decode cX12_behind 9 = .ok (.if_icmp .ge 38, 3) := by decide +kernel
theorem dX12_behind_12 : decode cX12_behind 12 = .ok (.aload_n 0, 1) := by decide +kernel
theorem dX12_behind_13 : decode cX12_behind 13 = .ok (.getfield 33, 3) := by decide +kernel
theorem dX12_behind_16 : decode cX12_behind 16 = .ok (.iload 4, 2) := by decide +kernel
theorem dX12_behind_18 : decode cX12_behind 18 = .ok (.aload_n 0, 1) := by decide +kernel
theorem dX12_behind_19 : decode cX12_behind 19 = .ok (.iload 4, 2) := by decide +kernel
theorem dX12_behind_21 : decode cX12_behind 21 = .ok (.iconst 2, 1) := by decide +kernel
theorem dX12_behind_22 : decode cX12_behind 22 = .ok (.invokevirtual 97, 3) := by decide +kernel
theorem dX12_behind_25 : decode cX12_behind 25 = .ok (.iload_n 1, 1) := by decide +kernel
theorem dX12_behind_26 : decode cX12_behind 26 = .ok (.aload_n 0, 1) := by decide +kernel
theorem dX12_behind_27 : decode cX12_behind 27 = .ok (.iload 4, 2) := by decide +kernel
theorem dX12_behind_29 : decode cX12_behind 29 = .ok (.iconst 3, 1) := by decide +kernel
theorem dX12_behind_30 : decode cX12_behind 30 = .ok (.invokevirtual 97, 3) := by decide +kernel
theorem dX12_behind_33 : decode cX12_behind 33 = .ok (.imul, 1) := by decide +kernel
theorem dX12_behind_34 : decode cX12_behind 34 = .ok (.iadd, 1) := by decide +kernel
theorem dX12_behind_35 : decode cX12_behind 35 = .ok (.aload_n 0, 1) := by decide +kernel
theorem dX12_behind_36 : decode cX12_behind 36 = .ok (.invokevirtual 64, 3) := by decide +kernel
theorem dX12_behind_39 : decode cX12_behind 39 = .ok (.irem, 1) := by decide +kernel
theorem dX12_behind_40 : decode cX12_behind 40 = .ok (.iastore, 1) := by decide +kernel
theorem dX12_behind_41 : decode cX12_behind 41 = .ok (.iinc 4 1, 3) := by decide +kernel
theorem dX12_behind_44 : decode cX12_behind 44 = .ok (.goto (-41), 3) := by decide +kernel
theorem dX12_behind_47 : decode cX12_behind 47 = .ok (.aload_n 0, 1) := by decide +kernel
theorem dX12_behind_48 : decode cX12_behind 48 = .ok (.aload_n 0, 1) := by decide +kernel
theorem dX12_behind_49 : decode cX12_behind 49 = .ok (.getfield 7, 3) := by decide +kernel
theorem dX12_behind_52 : decode cX12_behind 52 = .ok (.sipush 148, 3) := by decide +kernel
theorem dX12_behind_55 : decode cX12_behind 55 = .ok (.iaload, 1) := by decide +kernel
theorem dX12_behind_56 : decode cX12_behind 56 = .ok (.iload_n 1, 1) := by decide +kernel
theorem dX12_behind_57 : decode cX12_behind 57 = .ok (.iadd, 1) := by decide +kernel
theorem dX12_behind_58 : decode cX12_behind 58 = .ok (.putfield 101, 3) := by decide +kernel
theorem dX12_behind_61 : decode cX12_behind 61 = .ok (.aload_n 0, 1) := by decide +kernel
theorem dX12_behind_62 : decode cX12_behind 62 = .ok (.iload_n 2, 1) := by decide +kernel
theorem dX12_behind_63 : decode cX12_behind 63 = .ok (.putfield 152, 3) := by decide +kernel
theorem dX12_behind_66 : decode cX12_behind 66 = .ok (.aload_n 0, 1) := by decide +kernel
theorem dX12_behind_67 : decode cX12_behind 67 = .ok (.iload_n 3, 1) := by decide +kernel
theorem dX12_behind_68 : decode cX12_behind 68 = .ok (.putfield 149, 3) := by decide +kernel
theorem dX12_behind_71 : decode cX12_behind 71 = .ok (.aload_n 0, 1) := by decide +kernel
theorem dX12_behind_72 : decode cX12_behind 72 = .ok (.invokevirtual 158, 3) := by decide +kernel
theorem dX12_behind_75 : decode cX12_behind 75 = .ok (.aload_n 0, 1) := by decide +kernel
theorem dX12_behind_76 : decode cX12_behind 76 = .ok (.getfield 152, 3) := by decide +kernel
theorem dX12_behind_79 : decode cX12_behind 79 = .ok (.invokestatic 77, 3) := by decide +kernel
theorem dX12_behind_82 : decode cX12_behind 82 = .ok (.ifCond .eq 18, 3) := by decide +kernel
theorem dX12_behind_85 : decode cX12_behind 85 = .ok (.bipush 24, 2) := by decide +kernel
theorem dX12_behind_87 : decode cX12_behind 87 = .ok (.aload_n 0, 1) := by decide +kernel
theorem dX12_behind_88 : decode cX12_behind 88 = .ok (.getfield 152, 3) := by decide +kernel
theorem dX12_behind_91 : decode cX12_behind 91 = .ok (.imul, 1) := by decide +kernel
theorem dX12_behind_92 : decode cX12_behind 92 = .ok (.aload_n 0, 1) := by decide +kernel
theorem dX12_behind_93 : decode cX12_behind 93 = .ok (.getfield 149, 3) := by decide +kernel
theorem dX12_behind_96 : decode cX12_behind 96 = .ok (.iadd, 1) := by decide +kernel
theorem dX12_behind_97 : decode cX12_behind 97 = .ok (.goto 4, 3) := by decide +kernel
theorem dX12_behind_100 : decode cX12_behind 100 = .ok (.iconst (-1), 1) := by decide +kernel
theorem dX12_behind_101 : decode cX12_behind 101 = .ok (.ireturn, 1) := by decide +kernel
theorem dX12_pushes_0 : decode cX12_pushes 0 = .ok (.iload_n 1, 1) := by decide +kernel
theorem dX12_pushes_1 : decode cX12_pushes 1 = .ok (.i2l, 1) := by decide +kernel
theorem dX12_pushes_2 : decode cX12_pushes 2 = .ok (.lconst 0, 1) := by decide +kernel
theorem dX12_pushes_3 : decode cX12_pushes 3 = .ok (.ldc2_w 175, 3) := by decide +kernel
theorem dX12_pushes_6 : decode cX12_pushes 6 = .ok (.invokestatic 60, 3) := by decide +kernel
theorem dX12_pushes_9 : decode cX12_pushes 9 = .ok (.ifCond .ne 10, 3) := by decide +kernel
theorem dX12_pushes_12 : decode cX12_pushes 12 = .ok (.aload_n 0, 1) := by decide +kernel
theorem dX12_pushes_13 : decode cX12_pushes 13 = .ok (.bipush (-2), 2) := by decide +kernel
theorem dX12_pushes_15 : decode cX12_pushes 15 = .ok (.invokevirtual 73, 3) := by decide +kernel
theorem dX12_pushes_18 : decode cX12_pushes 18 = .ok (.ireturn, 1) := by decide +kernel
theorem dX12_pushes_19 : decode cX12_pushes 19 = .ok (.aload_n 0, 1) := by decide +kernel
theorem dX12_pushes_20 : decode cX12_pushes 20 = .ok (.aload_n 0, 1) := by decide +kernel
theorem dX12_pushes_21 : decode cX12_pushes 21 = .ok (.invokevirtual 127, 3) := by decide +kernel
theorem dX12_pushes_24 : decode cX12_pushes 24 = .ok (.putfield 105, 3) := by decide +kernel
theorem dX12_pushes_27 : decode cX12_pushes 27 = .ok (.iconst 0, 1) := by decide +kernel
theorem dX12_pushes_28 : decode cX12_pushes 28 = .ok (.istore_n 2, 1) := by decide +kernel
theorem dX12_pushes_29 : decode cX12_pushes 29 = .ok (.iload_n 2, 1) := by decide +kernel
theorem dX12_pushes_30 : decode cX12_pushes 30 = .ok (.bipush 120, 2) := by decide +kernel
theorem dX12_pushes_32 : decode cX12_pushes 32 = .ok (.if_icmp .ge 21, 3) := by decide +kernel
theorem dX12_pushes_35 : decode cX12_pushes 35 = .ok (.aload_n 0, 1) := by decide +kernel
theorem dX12_pushes_36 : decode cX12_pushes 36 = .ok (.getfield 36, 3) := by decide +kernel
theorem dX12_pushes_39 : decode cX12_pushes 39 = .ok (.bipush 120, 2) := by decide +kernel
theorem dX12_pushes_41 : decode cX12_pushes 41 = .ok (.iload_n 1, 1) := by decide +kernel
theorem dX12_pushes_42 : decode cX12_pushes 42 = .ok (.imul, 1) := by decide +kernel
theorem dX12_pushes_43 : decode cX12_pushes 43 = .ok (.iload_n 2, 1) := by decide +kernel
theorem dX12_pushes_44 : decode cX12_pushes 44 = .ok (.iadd, 1) := by decide +kernel
theorem dX12_pushes_45 : decode cX12_pushes 45 = .ok (.iconst 0, 1) := by decide +kernel
theorem dX12_pushes_46 : decode cX12_pushes 46 = .ok (.iastore, 1) := by decide +kernel
theorem dX12_pushes_47 : decode cX12_pushes 47 = .ok (.iinc 2 1, 3) := by decide +kernel
theorem dX12_pushes_50 : decode cX12_pushes 50 = .ok (.goto (-21), 3) := by decide +kernel
theorem dX12_pushes_53 : decode cX12_pushes 53 = .ok (.iload_n 1, 1) := by decide +kernel
theorem dX12_pushes_54 : decode cX12_pushes 54 = .ok (.iconst 1, 1) := by decide +kernel
theorem dX12_pushes_55 : decode cX12_pushes 55 = .ok (.isub, 1) := by decide +kernel
theorem dX12_pushes_56 : decode cX12_pushes 56 = .ok (.istore_n 2, 1) := by decide +kernel
theorem dX12_pushes_57 : decode cX12_pushes 57 = .ok (.iload_n 2, 1) := by decide +kernel
theorem dX12_pushes_58 : decode cX12_pushes 58 = .ok (.ifCond .lt 154, 3) := by decide +kernel
theorem dX12_pushes_61 : decode cX12_pushes 61 = .ok (.iconst 0, 1) := by decide +kernel
theorem dX12_pushes_62 : decode cX12_pushes 62 = .ok (.istore_n 3, 1) := by decide +kernel
theorem dX12_pushes_63 : decode cX12_pushes 63 = .ok (.iload_n 3, 1) := by decide +kernel
theorem dX12_pushes_64 : decode cX12_pushes 64 = .ok (.bipush 120, 2) := by decide +kernel
theorem dX12_pushes_66 : decode cX12_pushes 66 = .ok (.if_icmp .ge 140, 3) := by decide +kernel
theorem dX12_pushes_69 : decode cX12_pushes 69 = .ok (.ldc 177, 2) := by decide +kernel
theorem dX12_pushes_71 : decode cX12_pushes 71 = .ok (.istore 4, 2) := by decide +kernel
theorem dX12_pushes_73 : decode cX12_pushes 73 = .ok (.iconst (-1), 1) := by decide +kernel
theorem dX12_pushes_74 : decode cX12_pushes 74 = .ok (.istore 5, 2) := by decide +kernel
theorem dX12_pushes_76 : decode cX12_pushes 76 = .ok (.iload 5, 2) := by decide +kernel
theorem dX12_pushes_78 : decode cX12_pushes 78 = .ok (.iconst 2, 1) := by decide +kernel
theorem dX12_pushes_79 : decode cX12_pushes 79 = .ok (.if_icmp .ge 108, 3) := by decide +kernel
theorem dX12_pushes_82 : decode cX12_pushes 82 = .ok (.iload_n 3, 1) := by decide +kernel
theorem dX12_pushes_83 : decode cX12_pushes 83 = .ok (.bipush 24, 2) := by decide +kernel
theorem dX12_pushes_85 : decode cX12_pushes 85 = .ok (.irem, 1) := by decide +kernel
theorem dX12_pushes_86 : decode cX12_pushes 86 = .ok (.aload_n 0, 1) := by decide +kernel
theorem dX12_pushes_87 : decode cX12_pushes 87 = .ok (.invokevirtual 64, 3) := by decide +kernel
theorem dX12_pushes_90 : decode cX12_pushes 90 = .ok (.if_icmp .ge 97, 3) := by decide +kernel
theorem dX12_pushes_93 : decode cX12_pushes 93 = .ok (.iload_n 3, 1) := by decide +kernel
theorem dX12_pushes_94 : decode cX12_pushes 94 = .ok (.bipush 24, 2) := by decide +kernel
theorem dX12_pushes_96 : decode cX12_pushes 96 = .ok (.idiv, 1) := by decide +kernel
theorem dX12_pushes_97 : decode cX12_pushes 97 = .ok (.iload 5, 2) := by decide +kernel
theorem dX12_pushes_99 : decode cX12_pushes 99 = .ok (.iadd, 1) := by decide +kernel
theorem dX12_pushes_100 : decode cX12_pushes 100 = .ok (.istore 6, 2) := by decide +kernel
theorem dX12_pushes_102 : decode cX12_pushes 102 = .ok (.iload 6, 2) := by decide +kernel
theorem dX12_pushes_104 : decode cX12_pushes 104 = .ok (.invokestatic 77, 3) := by decide +kernel
theorem dX12_pushes_107 : decode cX12_pushes 107 = .ok (.ifCond .eq 17, 3) := by decide +kernel
theorem dX12_pushes_110 : decode cX12_pushes 110 = .ok (.aload_n 0, 1) := by decide +kernel
theorem dX12_pushes_111 : decode cX12_pushes 111 = .ok (.iload_n 2, 1) := by decide +kernel
theorem dX12_pushes_112 : decode cX12_pushes 112 = .ok (.iload 6, 2) := by decide +kernel
theorem dX12_pushes_114 : decode cX12_pushes 114 = .ok (.iload_n 3, 1) := by decide +kernel
theorem dX12_pushes_115 : decode cX12_pushes 115 = .ok (.bipush 24, 2) := by decide +kernel
theorem dX12_pushes_117 : decode cX12_pushes 117 = .ok (.irem, 1) := by decide +kernel
theorem dX12_pushes_118 : decode cX12_pushes 118 = .ok (.invokevirtual 178, 3) := by decide +kernel
theorem dX12_pushes_121 : decode cX12_pushes 121 = .ok (.goto 4, 3) := by decide +kernel
theorem dX12_pushes_124 : decode cX12_pushes 124 = .ok (.iconst (-1), 1) := by decide +kernel
theorem dX12_pushes_125 : decode cX12_pushes 125 = .ok (.istore 7, 2) := by decide +kernel
theorem dX12_pushes_127 : decode cX12_pushes 127 = .ok (.iload 7, 2) := by decide +kernel
theorem dX12_pushes_129 : decode cX12_pushes 129 = .ok (.iconst (-1), 1) := by decide +kernel
theorem dX12_pushes_130 : decode cX12_pushes 130 = .ok (.if_icmp .ne 8, 3) := by decide +kernel
theorem dX12_pushes_133 : decode cX12_pushes 133 = .ok (.ldc 177, 2) := by decide +kernel
theorem dX12_pushes_135 : decode cX12_pushes 135 = .ok (.goto 28, 3) := by decide +kernel
theorem dX12_pushes_138 : decode cX12_pushes 138 = .ok (.aload_n 0, 1) := by decide +kernel
theorem dX12_pushes_139 : decode cX12_pushes 139 = .ok (.getfield 36, 3) := by decide +kernel
theorem dX12_pushes_142 : decode cX12_pushes 142 = .ok (.bipush 120, 2) := by decide +kernel
theorem dX12_pushes_144 : decode cX12_pushes 144 = .ok (.iload_n 2, 1) := by decide +kernel
theorem dX12_pushes_145 : decode cX12_pushes 145 = .ok (.iconst 1, 1) := by decide +kernel
theorem dX12_pushes_146 : decode cX12_pushes 146 = .ok (.iadd, 1) := by decide +kernel
theorem dX12_pushes_147 : decode cX12_pushes 147 = .ok (.imul, 1) := by decide +kernel
theorem dX12_pushes_148 : decode cX12_pushes 148 = .ok (.iload 7, 2) := by decide +kernel
theorem dX12_pushes_150 : decode cX12_pushes 150 = .ok (.iadd, 1) := by decide +kernel
theorem dX12_pushes_151 : decode cX12_pushes 151 = .ok (.iaload, 1) := by decide +kernel
theorem dX12_pushes_152 : decode cX12_pushes 152 = .ok (.iload 5, 2) := by decide +kernel
theorem dX12_pushes_154 : decode cX12_pushes 154 = .ok (.ifCond .ne 7, 3) := by decide +kernel
theorem dX12_pushes_157 : decode cX12_pushes 157 = .ok (.iconst 0, 1) := by decide +kernel
theorem dX12_pushes_158 : decode cX12_pushes 158 = .ok (.goto 4, 3) := by decide +kernel
theorem dX12_pushes_161 : decode cX12_pushes 161 = .ok (.iconst 1, 1) := by decide +kernel
theorem dX12_pushes_162 : decode cX12_pushes 162 = .ok (.iadd, 1) := by decide +kernel
theorem dX12_pushes_163 : decode cX12_pushes 163 = .ok (.istore 8, 2) := by decide +kernel
theorem dX12_pushes_165 : decode cX12_pushes 165 = .ok (.iload 8, 2) := by decide +kernel
theorem dX12_pushes_167 : decode cX12_pushes 167 = .ok (.iload 4, 2) := by decide +kernel
theorem dX12_pushes_169 : decode cX12_pushes 169 = .ok (.if_icmp .ge 8, 3) := by decide +kernel
theorem dX12_pushes_172 : decode cX12_pushes 172 = .ok (.iload 8, 2) := by decide +kernel
theorem dX12_pushes_174 : decode cX12_pushes 174 = .ok (.goto 5, 3) := by decide +kernel
theorem dX12_pushes_177 : decode cX12_pushes 177 = .ok (.iload 4, 2) := by decide +kernel
theorem dX12_pushes_179 : decode cX12_pushes 179 = .ok (.istore 4, 2) := by decide +kernel
theorem dX12_pushes_181 : decode cX12_pushes 181 = .ok (.iinc 5 1, 3) := by decide +kernel
theorem dX12_pushes_184 : decode cX12_pushes 184 = .ok (.goto (-108), 3) := by decide +kernel
theorem dX12_pushes_187 : decode cX12_pushes 187 = .ok (.aload_n 0, 1) := by decide +kernel
theorem dX12_pushes_188 : decode cX12_pushes 188 = .ok (.getfield 36, 3) := by decide +kernel
theorem dX12_pushes_191 : decode cX12_pushes 191 = .ok (.bipush 120, 2) := by decide +kernel
theorem dX12_pushes_193 : decode cX12_pushes 193 = .ok (.iload_n 2, 1) := by decide +kernel
theorem dX12_pushes_194 : decode cX12_pushes 194 = .ok (.imul, 1) := by decide +kernel
theorem dX12_pushes_195 : decode cX12_pushes 195 = .ok (.iload_n 3, 1) := by decide +kernel
theorem dX12_pushes_196 : decode cX12_pushes 196 = .ok (.iadd, 1) := by decide +kernel
theorem dX12_pushes_197 : decode cX12_pushes 197 = .ok (.iload 4, 2) := by decide +kernel
theorem dX12_pushes_199 : decode cX12_pushes 199 = .ok (.iastore, 1) := by decide +kernel
theorem dX12_pushes_200 : decode cX12_pushes 200 = .ok (.iinc 3 1, 3) := by decide +kernel
theorem dX12_pushes_203 : decode cX12_pushes 203 = .ok (.goto (-140), 3) := by decide +kernel
theorem dX12_pushes_206 : decode cX12_pushes 206 = .ok (.iinc 2 (-1), 3) := by decide +kernel
theorem dX12_pushes_209 : decode cX12_pushes 209 = .ok (.goto (-152), 3) := by decide +kernel
theorem dX12_pushes_212 : decode cX12_pushes 212 = .ok (.iconst 0, 1) := by decide +kernel
theorem dX12_pushes_213 : decode cX12_pushes 213 = .ok (.istore_n 2, 1) := by decide +kernel
theorem dX12_pushes_214 : decode cX12_pushes 214 = .ok (.iconst 0, 1) := by decide +kernel
theorem dX12_pushes_215 : decode cX12_pushes 215 = .ok (.istore_n 3, 1) := by decide +kernel
theorem dX12_pushes_216 : decode cX12_pushes 216 = .ok (.iload_n 3, 1) := by decide +kernel
theorem dX12_pushes_217 : decode cX12_pushes 217 = .ok (.bipush 120, 2) := by decide +kernel
theorem dX12_pushes_219 : decode cX12_pushes 219 = .ok (.if_icmp .ge 59, 3) := by decide +kernel
theorem dX12_pushes_222 : decode cX12_pushes 222 = .ok (.aload_n 0, 1) := by decide +kernel
theorem dX12_pushes_223 : decode cX12_pushes 223 = .ok (.getfield 7, 3) := by decide +kernel
theorem dX12_pushes_226 : decode cX12_pushes 226 = .ok (.bipush 6, 2) := by decide +kernel
theorem dX12_pushes_228 : decode cX12_pushes 228 = .ok (.iload_n 3, 1) := by decide +kernel
theorem dX12_pushes_229 : decode cX12_pushes 229 = .ok (.iadd, 1) := by decide +kernel
theorem dX12_pushes_230 : decode cX12_pushes 230 = .ok (.iaload, 1) := by decide +kernel
theorem dX12_pushes_231 : decode cX12_pushes 231 = .ok (.istore 4, 2) := by decide +kernel
theorem dX12_pushes_233 : decode cX12_pushes 233 = .ok (.iload 4, 2) := by decide +kernel
theorem dX12_pushes_235 : decode cX12_pushes 235 = .ok (.ifCond .le 16, 3) := by decide +kernel
theorem dX12_pushes_238 : decode cX12_pushes 238 = .ok (.aload_n 0, 1) := by decide +kernel
theorem dX12_pushes_239 : decode cX12_pushes 239 = .ok (.getfield 36, 3) := by decide +kernel
theorem dX12_pushes_242 : decode cX12_pushes 242 = .ok (.iload_n 3, 1) := by decide +kernel
theorem dX12_pushes_243 : decode cX12_pushes 243 = .ok (.iaload, 1) := by decide +kernel
theorem dX12_pushes_244 : decode cX12_pushes 244 = .ok (.ldc 177, 2) := by decide +kernel
theorem dX12_pushes_246 : decode cX12_pushes 246 = .ok (.if_icmp .lt 5, 3) := by decide +kernel
theorem dX12_pushes_249 : decode cX12_pushes 249 = .ok (.iconst (-1), 1) := by decide +kernel
theorem dX12_pushes_250 : decode cX12_pushes 250 = .ok (.ireturn, 1) := by decide +kernel
theorem dX12_pushes_251 : decode cX12_pushes 251 = .ok (.iload_n 2, 1) := by decide +kernel
theorem dX12_pushes_252 : decode cX12_pushes 252 = .ok (.iload 4, 2) := by decide +kernel
theorem dX12_pushes_254 : decode cX12_pushes 254 = .ok (.ifCond .le 15, 3) := by decide +kernel
theorem dX12_pushes_257 : decode cX12_pushes 257 = .ok (.iload 4, 2) := by decide +kernel
theorem dX12_pushes_259 : decode cX12_pushes 259 = .ok (.aload_n 0, 1) := by decide +kernel
theorem dX12_pushes_260 : decode cX12_pushes 260 = .ok (.getfield 36, 3) := by decide +kernel
theorem dX12_pushes_263 : decode cX12_pushes 263 = .ok (.iload_n 3, 1) := by decide +kernel
theorem dX12_pushes_264 : decode cX12_pushes 264 = .ok (.iaload, 1) := by decide +kernel
theorem dX12_pushes_265 : decode cX12_pushes 265 = .ok (.imul, 1) := by decide +kernel
theorem dX12_pushes_266 : decode cX12_pushes 266 = .ok (.goto 4, 3) := by decide +kernel
theorem dX12_pushes_269 : decode cX12_pushes 269 = .ok (.iconst 0, 1) := by decide +kernel
theorem dX12_pushes_270 : decode cX12_pushes 270 = .ok (.iadd, 1) := by decide +kernel
theorem dX12_pushes_271 : decode cX12_pushes 271 = .ok (.istore_n 2, 1) := by decide +kernel
theorem dX12_pushes_272 : decode cX12_pushes 272 = .ok (.iinc 3 1, 3) := by decide +kernel
theorem dX12_pushes_275 : decode cX12_pushes 275 = .ok (.goto (-59), 3) := by decide +kernel
theorem dX12_pushes_278 : decode cX12_pushes 278 = .ok (.iload_n 2, 1) := by decide +kernel
theorem dX12_pushes_279 : decode cX12_pushes 279 = .ok (.ireturn, 1) := by decide +kernel
theorem dX12_moved_0 : decode cX12_moved 0 = .ok (.aload_n 0, 1) := by decide +kernel
theorem dX12_moved_1 : decode cX12_moved 1 = .ok (.iload_n 1, 1) := by decide +kernel
theorem dX12_moved_2 : decode cX12_moved 2 = .ok (.invokevirtual 144, 3) := by decide +kernel
theorem dX12_moved_5 : decode cX12_moved 5 = .ok (.ifCond .eq 10, 3) := by decide +kernel
theorem dX12_moved_8 : decode cX12_moved 8 = .ok (.iload_n 2, 1) := by decide +kernel
theorem dX12_moved_9 : decode cX12_moved 9 = .ok (.invokestatic 163, 3) := by decide +kernel
theorem dX12_moved_12 : decode cX12_moved 12 = .ok (.ifCond .ne 10, 3) := by decide +kernel
theorem dX12_moved_15 : decode cX12_moved 15 = .ok (.aload_n 0, 1) := by decide +kernel
theorem dX12_moved_16 : decode cX12_moved 16 = .ok (.bipush (-2), 2) := by decide +kernel
theorem dX12_moved_18 : decode cX12_moved 18 = .ok (.invokevirtual 73, 3) := by decide +kernel
theorem dX12_moved_21 : decode cX12_moved 21 = .ok (.ireturn, 1) := by decide +kernel
theorem dX12_moved_22 : decode cX12_moved 22 = .ok (.bipush 127, 2) := by decide +kernel
theorem dX12_moved_24 : decode cX12_moved 24 = .ok (.iconst 4, 1) := by decide +kernel
theorem dX12_moved_25 : decode cX12_moved 25 = .ok (.iload_n 1, 1) := by decide +kernel
theorem dX12_moved_26 : decode cX12_moved 26 = .ok (.imul, 1) := by decide +kernel
theorem dX12_moved_27 : decode cX12_moved 27 = .ok (.iadd, 1) := by decide +kernel
theorem dX12_moved_28 : decode cX12_moved 28 = .ok (.iconst 2, 1) := by decide +kernel
theorem dX12_moved_29 : decode cX12_moved 29 = .ok (.iadd, 1) := by decide +kernel
theorem dX12_moved_30 : decode cX12_moved 30 = .ok (.istore_n 3, 1) := by decide +kernel
theorem dX12_moved_31 : decode cX12_moved 31 = .ok (.aload_n 0, 1) := by decide +kernel
theorem dX12_moved_32 : decode cX12_moved 32 = .ok (.getfield 7, 3) := by decide +kernel
theorem dX12_moved_35 : decode cX12_moved 35 = .ok (.iload_n 3, 1) := by decide +kernel
theorem dX12_moved_36 : decode cX12_moved 36 = .ok (.iaload, 1) := by decide +kernel
theorem dX12_moved_37 : decode cX12_moved 37 = .ok (.istore 4, 2) := by decide +kernel
theorem dX12_moved_39 : decode cX12_moved 39 = .ok (.iconst 0, 1) := by decide +kernel
theorem dX12_moved_40 : decode cX12_moved 40 = .ok (.istore 5, 2) := by decide +kernel
theorem dX12_moved_42 : decode cX12_moved 42 = .ok (.ldc 177, 2) := by decide +kernel
theorem dX12_moved_44 : decode cX12_moved 44 = .ok (.istore 6, 2) := by decide +kernel
theorem dX12_moved_46 : decode cX12_moved 46 = .ok (.iconst 0, 1) := by decide +kernel
theorem dX12_moved_47 : decode cX12_moved 47 = .ok (.istore 7, 2) := by decide +kernel
theorem dX12_moved_49 : decode cX12_moved 49 = .ok (.iload 7, 2) := by decide +kernel
theorem dX12_moved_51 : decode cX12_moved 51 = .ok (.aload_n 0, 1) := by decide +kernel
theorem dX12_moved_52 : decode cX12_moved 52 = .ok (.invokevirtual 64, 3) := by decide +kernel
theorem dX12_moved_55 : decode cX12_moved 55 = .ok (.if_icmp .ge 68, 3) := by decide +kernel
theorem dX12_moved_58 : decode cX12_moved 58 = .ok (.aload_n 0, 1) := by decide +kernel
theorem dX12_moved_59 : decode cX12_moved 59 = .ok (.getfield 7, 3) := by decide +kernel
theorem dX12_moved_62 : decode cX12_moved 62 = .ok (.iload_n 3, 1) := by decide +kernel
theorem dX12_moved_63 : decode cX12_moved 63 = .ok (.iload 4, 2) := by decide +kernel
theorem dX12_moved_65 : decode cX12_moved 65 = .ok (.iload 7, 2) := by decide +kernel
theorem dX12_moved_67 : decode cX12_moved 67 = .ok (.iadd, 1) := by decide +kernel
theorem dX12_moved_68 : decode cX12_moved 68 = .ok (.aload_n 0, 1) := by decide +kernel
theorem dX12_moved_69 : decode cX12_moved 69 = .ok (.invokevirtual 64, 3) := by decide +kernel
theorem dX12_moved_72 : decode cX12_moved 72 = .ok (.irem, 1) := by decide +kernel
theorem dX12_moved_73 : decode cX12_moved 73 = .ok (.iastore, 1) := by decide +kernel
theorem dX12_moved_74 : decode cX12_moved 74 = .ok (.aload_n 0, 1) := by decide +kernel
theorem dX12_moved_75 : decode cX12_moved 75 = .ok (.iload_n 2, 1) := by decide +kernel
theorem dX12_moved_76 : decode cX12_moved 76 = .ok (.aload_n 0, 1) := by decide +kernel
theorem dX12_moved_77 : decode cX12_moved 77 = .ok (.invokevirtual 127, 3) := by decide +kernel
theorem dX12_moved_80 : decode cX12_moved 80 = .ok (.invokevirtual 172, 3) := by decide +kernel
theorem dX12_moved_83 : decode cX12_moved 83 = .ok (.istore 8, 2) := by decide +kernel
theorem dX12_moved_85 : decode cX12_moved 85 = .ok (.iload 8, 2) := by decide +kernel
theorem dX12_moved_87 : decode cX12_moved 87 = .ok (.iload 6, 2) := by decide +kernel
theorem dX12_moved_89 : decode cX12_moved 89 = .ok (.if_icmp .ge 8, 3) := by decide +kernel
theorem dX12_moved_92 : decode cX12_moved 92 = .ok (.iload 7, 2) := by decide +kernel
theorem dX12_moved_94 : decode cX12_moved 94 = .ok (.goto 5, 3) := by decide +kernel
theorem dX12_moved_97 : decode cX12_moved 97 = .ok (.iload 5, 2) := by decide +kernel
theorem dX12_moved_99 : decode cX12_moved 99 = .ok (.istore 5, 2) := by decide +kernel
theorem dX12_moved_101 : decode cX12_moved 101 = .ok (.iload 8, 2) := by decide +kernel
theorem dX12_moved_103 : decode cX12_moved 103 = .ok (.iload 6, 2) := by decide +kernel
theorem dX12_moved_105 : decode cX12_moved 105 = .ok (.if_icmp .ge 8, 3) := by decide +kernel
theorem dX12_moved_108 : decode cX12_moved 108 = .ok (.iload 8, 2) := by decide +kernel
theorem dX12_moved_110 : decode cX12_moved 110 = .ok (.goto 5, 3) := by decide +kernel
theorem dX12_moved_113 : decode cX12_moved 113 = .ok (.iload 6, 2) := by decide +kernel
theorem dX12_moved_115 : decode cX12_moved 115 = .ok (.istore 6, 2) := by decide +kernel
theorem dX12_moved_117 : decode cX12_moved 117 = .ok (.iinc 7 1, 3) := by decide +kernel
theorem dX12_moved_120 : decode cX12_moved 120 = .ok (.goto (-71), 3) := by decide +kernel
theorem dX12_moved_123 : decode cX12_moved 123 = .ok (.aload_n 0, 1) := by decide +kernel
theorem dX12_moved_124 : decode cX12_moved 124 = .ok (.getfield 7, 3) := by decide +kernel
theorem dX12_moved_127 : decode cX12_moved 127 = .ok (.iload_n 3, 1) := by decide +kernel
theorem dX12_moved_128 : decode cX12_moved 128 = .ok (.iload 4, 2) := by decide +kernel
theorem dX12_moved_130 : decode cX12_moved 130 = .ok (.iastore, 1) := by decide +kernel
theorem dX12_moved_131 : decode cX12_moved 131 = .ok (.iload 5, 2) := by decide +kernel
theorem dX12_moved_133 : decode cX12_moved 133 = .ok (.ireturn, 1) := by decide +kernel
theorem dX12_isRoad_0 : decode cX12_isRoad 0 = .ok (.iconst 1, 1) := by decide +kernel
theorem dX12_isRoad_1 : decode cX12_isRoad 1 = .ok (.istore_n 2, 1) := by decide +kernel
theorem dX12_isRoad_2 : decode cX12_isRoad 2 = .ok (.iconst 0, 1) := by decide +kernel
theorem dX12_isRoad_3 : decode cX12_isRoad 3 = .ok (.istore_n 3, 1) := by decide +kernel
theorem dX12_isRoad_4 : decode cX12_isRoad 4 = .ok (.iload_n 3, 1) := by decide +kernel
theorem dX12_isRoad_5 : decode cX12_isRoad 5 = .ok (.iconst 5, 1) := by decide +kernel
theorem dX12_isRoad_6 : decode cX12_isRoad 6 = .ok (.if_icmp .ge 33, 3) := by decide +kernel
theorem dX12_isRoad_9 : decode cX12_isRoad 9 = .ok (.iload_n 2, 1) := by decide +kernel
theorem dX12_isRoad_10 : decode cX12_isRoad 10 = .ok (.ifCond .eq 21, 3) := by decide +kernel
theorem dX12_isRoad_13 : decode cX12_isRoad 13 = .ok (.aload_n 0, 1) := by decide +kernel
theorem dX12_isRoad_14 : decode cX12_isRoad 14 = .ok (.getfield 27, 3) := by decide +kernel
theorem dX12_isRoad_17 : decode cX12_isRoad 17 = .ok (.bipush 24, 2) := by decide +kernel
theorem dX12_isRoad_19 : decode cX12_isRoad 19 = .ok (.iload_n 3, 1) := by decide +kernel
theorem dX12_isRoad_20 : decode cX12_isRoad 20 = .ok (.imul, 1) := by decide +kernel
theorem dX12_isRoad_21 : decode cX12_isRoad 21 = .ok (.iload_n 1, 1) := by decide +kernel
theorem dX12_isRoad_22 : decode cX12_isRoad 22 = .ok (.iadd, 1) := by decide +kernel
theorem dX12_isRoad_23 : decode cX12_isRoad 23 = .ok (.iaload, 1) := by decide +kernel
theorem dX12_isRoad_24 : decode cX12_isRoad 24 = .ok (.ifCond .ne 7, 3) := by decide +kernel
theorem dX12_isRoad_27 : decode cX12_isRoad 27 = .ok (.iconst 1, 1) := by decide +kernel
theorem dX12_isRoad_28 : decode cX12_isRoad 28 = .ok (.goto 4, 3) := by decide +kernel
theorem dX12_isRoad_31 : decode cX12_isRoad 31 = .ok (.iconst 0, 1) := by decide +kernel
theorem dX12_isRoad_32 : decode cX12_isRoad 32 = .ok (.istore_n 2, 1) := by decide +kernel
theorem dX12_isRoad_33 : decode cX12_isRoad 33 = .ok (.iinc 3 1, 3) := by decide +kernel
theorem dX12_isRoad_36 : decode cX12_isRoad 36 = .ok (.goto (-32), 3) := by decide +kernel
theorem dX12_isRoad_39 : decode cX12_isRoad 39 = .ok (.iload_n 2, 1) := by decide +kernel
theorem dX12_isRoad_40 : decode cX12_isRoad 40 = .ok (.ireturn, 1) := by decide +kernel
theorem dX12_road_0 : decode cX12_road 0 = .ok (.aload_n 0, 1) := by decide +kernel
theorem dX12_road_1 : decode cX12_road 1 = .ok (.iload_n 1, 1) := by decide +kernel
theorem dX12_road_2 : decode cX12_road 2 = .ok (.invokevirtual 83, 3) := by decide +kernel
theorem dX12_road_5 : decode cX12_road 5 = .ok (.ifCond .eq 20, 3) := by decide +kernel
theorem dX12_road_8 : decode cX12_road 8 = .ok (.iload_n 2, 1) := by decide +kernel
theorem dX12_road_9 : decode cX12_road 9 = .ok (.invokestatic 163, 3) := by decide +kernel
theorem dX12_road_12 : decode cX12_road 12 = .ok (.ifCond .eq 13, 3) := by decide +kernel
theorem dX12_road_15 : decode cX12_road 15 = .ok (.iload_n 3, 1) := by decide +kernel
theorem dX12_road_16 : decode cX12_road 16 = .ok (.i2l, 1) := by decide +kernel
theorem dX12_road_17 : decode cX12_road 17 = .ok (.lconst 0, 1) := by decide +kernel
theorem dX12_road_18 : decode cX12_road 18 = .ok (.lconst 1, 1) := by decide +kernel
theorem dX12_road_19 : decode cX12_road 19 = .ok (.invokestatic 60, 3) := by decide +kernel
theorem dX12_road_22 : decode cX12_road 22 = .ok (.ifCond .ne 10, 3) := by decide +kernel
theorem dX12_road_25 : decode cX12_road 25 = .ok (.aload_n 0, 1) := by decide +kernel
theorem dX12_road_26 : decode cX12_road 26 = .ok (.bipush (-10), 2) := by decide +kernel
theorem dX12_road_28 : decode cX12_road 28 = .ok (.invokevirtual 73, 3) := by decide +kernel
theorem dX12_road_31 : decode cX12_road 31 = .ok (.ireturn, 1) := by decide +kernel
theorem dX12_road_32 : decode cX12_road 32 = .ok (.aload_n 0, 1) := by decide +kernel
theorem dX12_road_33 : decode cX12_road 33 = .ok (.aload_n 0, 1) := by decide +kernel
theorem dX12_road_34 : decode cX12_road 34 = .ok (.invokevirtual 127, 3) := by decide +kernel
theorem dX12_road_37 : decode cX12_road 37 = .ok (.invokevirtual 130, 3) := by decide +kernel
theorem dX12_road_40 : decode cX12_road 40 = .ok (.iconst (-1), 1) := by decide +kernel
theorem dX12_road_41 : decode cX12_road 41 = .ok (.istore 4, 2) := by decide +kernel
theorem dX12_road_43 : decode cX12_road 43 = .ok (.iconst 0, 1) := by decide +kernel
theorem dX12_road_44 : decode cX12_road 44 = .ok (.istore 5, 2) := by decide +kernel
theorem dX12_road_46 : decode cX12_road 46 = .ok (.iconst 0, 1) := by decide +kernel
theorem dX12_road_47 : decode cX12_road 47 = .ok (.istore 6, 2) := by decide +kernel
theorem dX12_road_49 : decode cX12_road 49 = .ok (.iconst 0, 1) := by decide +kernel
theorem dX12_road_50 : decode cX12_road 50 = .ok (.istore 7, 2) := by decide +kernel
theorem dX12_road_52 : decode cX12_road 52 = .ok (.iload 7, 2) := by decide +kernel
theorem dX12_road_54 : decode cX12_road 54 = .ok (.iload_n 2, 1) := by decide +kernel
theorem dX12_road_55 : decode cX12_road 55 = .ok (.if_icmp .gt 89, 3) := by decide +kernel
theorem dX12_road_58 : decode cX12_road 58 = .ok (.iload 6, 2) := by decide +kernel
theorem dX12_road_60 : decode cX12_road 60 = .ok (.ifCond .ne 84, 3) := by decide +kernel
theorem dX12_road_63 : decode cX12_road 63 = .ok (.iload 7, 2) := by decide +kernel
theorem dX12_road_65 : decode cX12_road 65 = .ok (.ifCond .ne 7, 3) := by decide +kernel
theorem dX12_road_68 : decode cX12_road 68 = .ok (.iconst 0, 1) := by decide +kernel
theorem dX12_road_69 : decode cX12_road 69 = .ok (.goto 7, 3) := by decide +kernel
theorem dX12_road_72 : decode cX12_road 72 = .ok (.aload_n 0, 1) := by decide +kernel
theorem dX12_road_73 : decode cX12_road 73 = .ok (.invokevirtual 134, 3) := by decide +kernel
theorem dX12_road_76 : decode cX12_road 76 = .ok (.istore 8, 2) := by decide +kernel
theorem dX12_road_78 : decode cX12_road 78 = .ok (.aload_n 0, 1) := by decide +kernel
theorem dX12_road_79 : decode cX12_road 79 = .ok (.iload_n 1, 1) := by decide +kernel
theorem dX12_road_80 : decode cX12_road 80 = .ok (.invokevirtual 182, 3) := by decide +kernel
theorem dX12_road_83 : decode cX12_road 83 = .ok (.istore 9, 2) := by decide +kernel
theorem dX12_road_85 : decode cX12_road 85 = .ok (.iload 9, 2) := by decide +kernel
theorem dX12_road_87 : decode cX12_road 87 = .ok (.ifCond .eq 14, 3) := by decide +kernel
theorem dX12_road_90 : decode cX12_road 90 = .ok (.iload 4, 2) := by decide +kernel
theorem dX12_road_92 : decode cX12_road 92 = .ok (.iconst (-1), 1) := by decide +kernel
theorem dX12_road_93 : decode cX12_road 93 = .ok (.if_icmp .ne 8, 3) := by decide +kernel
theorem dX12_road_96 : decode cX12_road 96 = .ok (.iload 7, 2) := by decide +kernel
theorem dX12_road_98 : decode cX12_road 98 = .ok (.goto 5, 3) := by decide +kernel
theorem dX12_road_101 : decode cX12_road 101 = .ok (.iload 4, 2) := by decide +kernel
theorem dX12_road_103 : decode cX12_road 103 = .ok (.istore 4, 2) := by decide +kernel
theorem dX12_road_105 : decode cX12_road 105 = .ok (.iload 5, 2) := by decide +kernel
theorem dX12_road_107 : decode cX12_road 107 = .ok (.iload 9, 2) := by decide +kernel
theorem dX12_road_109 : decode cX12_road 109 = .ok (.ifCond .eq 7, 3) := by decide +kernel
theorem dX12_road_112 : decode cX12_road 112 = .ok (.iconst 1, 1) := by decide +kernel
theorem dX12_road_113 : decode cX12_road 113 = .ok (.goto 4, 3) := by decide +kernel
theorem dX12_road_116 : decode cX12_road 116 = .ok (.iconst 0, 1) := by decide +kernel
theorem dX12_road_117 : decode cX12_road 117 = .ok (.iadd, 1) := by decide +kernel
theorem dX12_road_118 : decode cX12_road 118 = .ok (.istore 5, 2) := by decide +kernel
theorem dX12_road_120 : decode cX12_road 120 = .ok (.iload 4, 2) := by decide +kernel
theorem dX12_road_122 : decode cX12_road 122 = .ok (.iconst (-1), 1) := by decide +kernel
theorem dX12_road_123 : decode cX12_road 123 = .ok (.if_icmp .eq 12, 3) := by decide +kernel
theorem dX12_road_126 : decode cX12_road 126 = .ok (.iload 9, 2) := by decide +kernel
theorem dX12_road_128 : decode cX12_road 128 = .ok (.ifCond .ne 7, 3) := by decide +kernel
theorem dX12_road_131 : decode cX12_road 131 = .ok (.iconst 1, 1) := by decide +kernel
theorem dX12_road_132 : decode cX12_road 132 = .ok (.goto 4, 3) := by decide +kernel
theorem dX12_road_135 : decode cX12_road 135 = .ok (.iconst 0, 1) := by decide +kernel
theorem dX12_road_136 : decode cX12_road 136 = .ok (.istore 6, 2) := by decide +kernel
theorem dX12_road_138 : decode cX12_road 138 = .ok (.iinc 7 1, 3) := by decide +kernel
theorem dX12_road_141 : decode cX12_road 141 = .ok (.goto (-89), 3) := by decide +kernel
theorem dX12_road_144 : decode cX12_road 144 = .ok (.iload_n 3, 1) := by decide +kernel
theorem dX12_road_145 : decode cX12_road 145 = .ok (.ifCond .eq 9, 3) := by decide +kernel
theorem dX12_road_148 : decode cX12_road 148 = .ok (.iload 4, 2) := by decide +kernel
theorem dX12_road_150 : decode cX12_road 150 = .ok (.iconst (-1), 1) := by decide +kernel
theorem dX12_road_151 : decode cX12_road 151 = .ok (.if_icmp .ne 8, 3) := by decide +kernel
theorem dX12_road_154 : decode cX12_road 154 = .ok (.iload 4, 2) := by decide +kernel
theorem dX12_road_156 : decode cX12_road 156 = .ok (.goto 5, 3) := by decide +kernel
theorem dX12_road_159 : decode cX12_road 159 = .ok (.iload 5, 2) := by decide +kernel
theorem dX12_road_161 : decode cX12_road 161 = .ok (.ireturn, 1) := by decide +kernel
theorem dX12_common_0 : decode cX12_common 0 = .ok (.iload_n 0, 1) := by decide +kernel
theorem dX12_common_1 : decode cX12_common 1 = .ok (.istore_n 2, 1) := by decide +kernel
theorem dX12_common_2 : decode cX12_common 2 = .ok (.iload_n 1, 1) := by decide +kernel
theorem dX12_common_3 : decode cX12_common 3 = .ok (.istore_n 3, 1) := by decide +kernel
theorem dX12_common_4 : decode cX12_common 4 = .ok (.iload_n 3, 1) := by decide +kernel
theorem dX12_common_5 : decode cX12_common 5 = .ok (.ifCond .eq 16, 3) := by decide +kernel
theorem dX12_common_8 : decode cX12_common 8 = .ok (.iload_n 2, 1) := by decide +kernel
theorem dX12_common_9 : decode cX12_common 9 = .ok (.iload_n 3, 1) := by decide +kernel
theorem dX12_common_10 : decode cX12_common 10 = .ok (.irem, 1) := by decide +kernel
theorem dX12_common_11 : decode cX12_common 11 = .ok (.istore 4, 2) := by decide +kernel
theorem dX12_common_13 : decode cX12_common 13 = .ok (.iload_n 3, 1) := by decide +kernel
theorem dX12_common_14 : decode cX12_common 14 = .ok (.istore_n 2, 1) := by decide +kernel
theorem dX12_common_15 : decode cX12_common 15 = .ok (.iload 4, 2) := by decide +kernel
theorem dX12_common_17 : decode cX12_common 17 = .ok (.istore_n 3, 1) := by decide +kernel
theorem dX12_common_18 : decode cX12_common 18 = .ok (.goto (-14), 3) := by decide +kernel
theorem dX12_common_21 : decode cX12_common 21 = .ok (.iload_n 2, 1) := by decide +kernel
theorem dX12_common_22 : decode cX12_common 22 = .ok (.ireturn, 1) := by decide +kernel
theorem dX12_turns_0 : decode cX12_turns 0 = .ok (.aload_n 0, 1) := by decide +kernel
theorem dX12_turns_1 : decode cX12_turns 1 = .ok (.invokevirtual 64, 3) := by decide +kernel
theorem dX12_turns_4 : decode cX12_turns 4 = .ok (.aload_n 0, 1) := by decide +kernel
theorem dX12_turns_5 : decode cX12_turns 5 = .ok (.invokevirtual 64, 3) := by decide +kernel
theorem dX12_turns_8 : decode cX12_turns 8 = .ok (.iload_n 1, 1) := by decide +kernel
theorem dX12_turns_9 : decode cX12_turns 9 = .ok (.invokestatic 185, 3) := by decide +kernel
theorem dX12_turns_12 : decode cX12_turns 12 = .ok (.idiv, 1) := by decide +kernel
theorem dX12_turns_13 : decode cX12_turns 13 = .ok (.ireturn, 1) := by decide +kernel
theorem dX12_back_0 : decode cX12_back 0 = .ok (.iconst 1, 1) := by decide +kernel
theorem dX12_back_1 : decode cX12_back 1 = .ok (.istore_n 1, 1) := by decide +kernel
theorem dX12_back_2 : decode cX12_back 2 = .ok (.iconst 0, 1) := by decide +kernel
theorem dX12_back_3 : decode cX12_back 3 = .ok (.istore_n 2, 1) := by decide +kernel
theorem dX12_back_4 : decode cX12_back 4 = .ok (.iload_n 2, 1) := by decide +kernel
theorem dX12_back_5 : decode cX12_back 5 = .ok (.iconst 5, 1) := by decide +kernel
theorem dX12_back_6 : decode cX12_back 6 = .ok (.if_icmp .ge 32, 3) := by decide +kernel
theorem dX12_back_9 : decode cX12_back 9 = .ok (.aload_n 0, 1) := by decide +kernel
theorem dX12_back_10 : decode cX12_back 10 = .ok (.aload_n 0, 1) := by decide +kernel
theorem dX12_back_11 : decode cX12_back 11 = .ok (.getfield 7, 3) := by decide +kernel
theorem dX12_back_14 : decode cX12_back 14 = .ok (.iconst 1, 1) := by decide +kernel
theorem dX12_back_15 : decode cX12_back 15 = .ok (.iload_n 2, 1) := by decide +kernel
theorem dX12_back_16 : decode cX12_back 16 = .ok (.iadd, 1) := by decide +kernel
theorem dX12_back_17 : decode cX12_back 17 = .ok (.iaload, 1) := by decide +kernel
theorem dX12_back_18 : decode cX12_back 18 = .ok (.invokevirtual 188, 3) := by decide +kernel
theorem dX12_back_21 : decode cX12_back 21 = .ok (.istore_n 3, 1) := by decide +kernel
theorem dX12_back_22 : decode cX12_back 22 = .ok (.iload_n 1, 1) := by decide +kernel
theorem dX12_back_23 : decode cX12_back 23 = .ok (.iload_n 1, 1) := by decide +kernel
theorem dX12_back_24 : decode cX12_back 24 = .ok (.iload_n 3, 1) := by decide +kernel
theorem dX12_back_25 : decode cX12_back 25 = .ok (.invokestatic 185, 3) := by decide +kernel
theorem dX12_back_28 : decode cX12_back 28 = .ok (.idiv, 1) := by decide +kernel
theorem dX12_back_29 : decode cX12_back 29 = .ok (.iload_n 3, 1) := by decide +kernel
theorem dX12_back_30 : decode cX12_back 30 = .ok (.imul, 1) := by decide +kernel
theorem dX12_back_31 : decode cX12_back 31 = .ok (.istore_n 1, 1) := by decide +kernel
theorem dX12_back_32 : decode cX12_back 32 = .ok (.iinc 2 1, 3) := by decide +kernel
theorem dX12_back_35 : decode cX12_back 35 = .ok (.goto (-31), 3) := by decide +kernel
theorem dX12_back_38 : decode cX12_back 38 = .ok (.iconst 0, 1) := by decide +kernel
theorem dX12_back_39 : decode cX12_back 39 = .ok (.istore_n 2, 1) := by decide +kernel
theorem dX12_back_40 : decode cX12_back 40 = .ok (.iload_n 2, 1) := by decide +kernel
theorem dX12_back_41 : decode cX12_back 41 = .ok (.aload_n 0, 1) := by decide +kernel
theorem dX12_back_42 : decode cX12_back 42 = .ok (.invokevirtual 68, 3) := by decide +kernel
theorem dX12_back_45 : decode cX12_back 45 = .ok (.if_icmp .ge 30, 3) := by decide +kernel
theorem dX12_back_48 : decode cX12_back 48 = .ok (.aload_n 0, 1) := by decide +kernel
theorem dX12_back_49 : decode cX12_back 49 = .ok (.aload_n 0, 1) := by decide +kernel
theorem dX12_back_50 : decode cX12_back 50 = .ok (.iload_n 2, 1) := by decide +kernel
theorem dX12_back_51 : decode cX12_back 51 = .ok (.iconst 3, 1) := by decide +kernel
theorem dX12_back_52 : decode cX12_back 52 = .ok (.invokevirtual 97, 3) := by decide +kernel
theorem dX12_back_55 : decode cX12_back 55 = .ok (.invokevirtual 188, 3) := by decide +kernel
theorem dX12_back_58 : decode cX12_back 58 = .ok (.istore_n 3, 1) := by decide +kernel
theorem dX12_back_59 : decode cX12_back 59 = .ok (.iload_n 1, 1) := by decide +kernel
theorem dX12_back_60 : decode cX12_back 60 = .ok (.iload_n 1, 1) := by decide +kernel
theorem dX12_back_61 : decode cX12_back 61 = .ok (.iload_n 3, 1) := by decide +kernel
theorem dX12_back_62 : decode cX12_back 62 = .ok (.invokestatic 185, 3) := by decide +kernel
theorem dX12_back_65 : decode cX12_back 65 = .ok (.idiv, 1) := by decide +kernel
theorem dX12_back_66 : decode cX12_back 66 = .ok (.iload_n 3, 1) := by decide +kernel
theorem dX12_back_67 : decode cX12_back 67 = .ok (.imul, 1) := by decide +kernel
theorem dX12_back_68 : decode cX12_back 68 = .ok (.istore_n 1, 1) := by decide +kernel
theorem dX12_back_69 : decode cX12_back 69 = .ok (.iinc 2 1, 3) := by decide +kernel
theorem dX12_back_72 : decode cX12_back 72 = .ok (.goto (-32), 3) := by decide +kernel
theorem dX12_back_75 : decode cX12_back 75 = .ok (.iload_n 1, 1) := by decide +kernel
theorem dX12_back_76 : decode cX12_back 76 = .ok (.ireturn, 1) := by decide +kernel
theorem dX12_told_0 : decode cX12_told 0 = .ok (.iload_n 1, 1) := by decide +kernel
theorem dX12_told_1 : decode cX12_told 1 = .ok (.invokestatic 77, 3) := by decide +kernel
theorem dX12_told_4 : decode cX12_told 4 = .ok (.ifCond .eq 15, 3) := by decide +kernel
theorem dX12_told_7 : decode cX12_told 7 = .ok (.iload_n 2, 1) := by decide +kernel
theorem dX12_told_8 : decode cX12_told 8 = .ok (.i2l, 1) := by decide +kernel
theorem dX12_told_9 : decode cX12_told 9 = .ok (.lconst 0, 1) := by decide +kernel
theorem dX12_told_10 : decode cX12_told 10 = .ok (.ldc2_w 191, 3) := by decide +kernel
theorem dX12_told_13 : decode cX12_told 13 = .ok (.invokestatic 60, 3) := by decide +kernel
theorem dX12_told_16 : decode cX12_told 16 = .ok (.ifCond .ne 10, 3) := by decide +kernel
theorem dX12_told_19 : decode cX12_told 19 = .ok (.aload_n 0, 1) := by decide +kernel
theorem dX12_told_20 : decode cX12_told 20 = .ok (.bipush (-2), 2) := by decide +kernel
theorem dX12_told_22 : decode cX12_told 22 = .ok (.invokevirtual 73, 3) := by decide +kernel
theorem dX12_told_25 : decode cX12_told 25 = .ok (.ireturn, 1) := by decide +kernel
theorem dX12_told_26 : decode cX12_told 26 = .ok (.aload_n 0, 1) := by decide +kernel
theorem dX12_told_27 : decode cX12_told 27 = .ok (.getfield 7, 3) := by decide +kernel
theorem dX12_told_30 : decode cX12_told 30 = .ok (.sipush 143, 3) := by decide +kernel
theorem dX12_told_33 : decode cX12_told 33 = .ok (.iload_n 1, 1) := by decide +kernel
theorem dX12_told_34 : decode cX12_told 34 = .ok (.iadd, 1) := by decide +kernel
theorem dX12_told_35 : decode cX12_told 35 = .ok (.iaload, 1) := by decide +kernel
theorem dX12_told_36 : decode cX12_told 36 = .ok (.istore_n 3, 1) := by decide +kernel
theorem dX12_told_37 : decode cX12_told 37 = .ok (.aload_n 0, 1) := by decide +kernel
theorem dX12_told_38 : decode cX12_told 38 = .ok (.getfield 7, 3) := by decide +kernel
theorem dX12_told_41 : decode cX12_told 41 = .ok (.sipush 143, 3) := by decide +kernel
theorem dX12_told_44 : decode cX12_told 44 = .ok (.iload_n 1, 1) := by decide +kernel
theorem dX12_told_45 : decode cX12_told 45 = .ok (.iadd, 1) := by decide +kernel
theorem dX12_told_46 : decode cX12_told 46 = .ok (.iload_n 2, 1) := by decide +kernel
theorem dX12_told_47 : decode cX12_told 47 = .ok (.iastore, 1) := by decide +kernel
theorem dX12_told_48 : decode cX12_told 48 = .ok (.iload_n 3, 1) := by decide +kernel
theorem dX12_told_49 : decode cX12_told 49 = .ok (.ireturn, 1) := by decide +kernel
theorem dX12_isTold_0 : decode cX12_isTold 0 = .ok (.iconst 1, 1) := by decide +kernel
theorem dX12_isTold_1 : decode cX12_isTold 1 = .ok (.istore_n 3, 1) := by decide +kernel
theorem dX12_isTold_2 : decode cX12_isTold 2 = .ok (.iconst 0, 1) := by decide +kernel
theorem dX12_isTold_3 : decode cX12_isTold 3 = .ok (.istore 4, 2) := by decide +kernel
theorem dX12_isTold_5 : decode cX12_isTold 5 = .ok (.iload 4, 2) := by decide +kernel
theorem dX12_isTold_7 : decode cX12_isTold 7 = .ok (.iconst 5, 1) := by decide +kernel
theorem dX12_isTold_8 : decode cX12_isTold 8 = .ok (.if_icmp .ge 52, 3) := by decide +kernel
theorem dX12_isTold_11 : decode cX12_isTold 11 = .ok (.iload_n 3, 1) := by decide +kernel
theorem dX12_isTold_12 : decode cX12_isTold 12 = .ok (.ifCond .eq 40, 3) := by decide +kernel
theorem dX12_isTold_15 : decode cX12_isTold 15 = .ok (.aload_n 0, 1) := by decide +kernel
theorem dX12_isTold_16 : decode cX12_isTold 16 = .ok (.getfield 39, 3) := by decide +kernel
theorem dX12_isTold_19 : decode cX12_isTold 19 = .ok (.iload 4, 2) := by decide +kernel
theorem dX12_isTold_21 : decode cX12_isTold 21 = .ok (.iaload, 1) := by decide +kernel
theorem dX12_isTold_22 : decode cX12_isTold 22 = .ok (.iload 4, 2) := by decide +kernel
theorem dX12_isTold_24 : decode cX12_isTold 24 = .ok (.iload_n 1, 1) := by decide +kernel
theorem dX12_isTold_25 : decode cX12_isTold 25 = .ok (.if_icmp .ne 7, 3) := by decide +kernel
theorem dX12_isTold_28 : decode cX12_isTold 28 = .ok (.iload_n 2, 1) := by decide +kernel
theorem dX12_isTold_29 : decode cX12_isTold 29 = .ok (.goto 4, 3) := by decide +kernel
theorem dX12_isTold_32 : decode cX12_isTold 32 = .ok (.iconst 0, 1) := by decide +kernel
theorem dX12_isTold_33 : decode cX12_isTold 33 = .ok (.isub, 1) := by decide +kernel
theorem dX12_isTold_34 : decode cX12_isTold 34 = .ok (.aload_n 0, 1) := by decide +kernel
theorem dX12_isTold_35 : decode cX12_isTold 35 = .ok (.getfield 7, 3) := by decide +kernel
theorem dX12_isTold_38 : decode cX12_isTold 38 = .ok (.sipush 143, 3) := by decide +kernel
theorem dX12_isTold_41 : decode cX12_isTold 41 = .ok (.iload 4, 2) := by decide +kernel
theorem dX12_isTold_43 : decode cX12_isTold 43 = .ok (.iadd, 1) := by decide +kernel
theorem dX12_isTold_44 : decode cX12_isTold 44 = .ok (.iaload, 1) := by decide +kernel
theorem dX12_isTold_45 : decode cX12_isTold 45 = .ok (.if_icmp .ne 7, 3) := by decide +kernel
theorem dX12_isTold_48 : decode cX12_isTold 48 = .ok (.iconst 1, 1) := by decide +kernel
theorem dX12_isTold_49 : decode cX12_isTold 49 = .ok (.goto 4, 3) := by decide +kernel
theorem dX12_isTold_52 : decode cX12_isTold 52 = .ok (.iconst 0, 1) := by decide +kernel
theorem dX12_isTold_53 : decode cX12_isTold 53 = .ok (.istore_n 3, 1) := by decide +kernel
theorem dX12_isTold_54 : decode cX12_isTold 54 = .ok (.iinc 4 1, 3) := by decide +kernel
theorem dX12_isTold_57 : decode cX12_isTold 57 = .ok (.goto (-52), 3) := by decide +kernel
theorem dX12_isTold_60 : decode cX12_isTold 60 = .ok (.iload_n 3, 1) := by decide +kernel
theorem dX12_isTold_61 : decode cX12_isTold 61 = .ok (.ireturn, 1) := by decide +kernel
theorem dX12_taken_0 : decode cX12_taken 0 = .ok (.iload_n 1, 1) := by decide +kernel
theorem dX12_taken_1 : decode cX12_taken 1 = .ok (.invokestatic 163, 3) := by decide +kernel
theorem dX12_taken_4 : decode cX12_taken 4 = .ok (.ifCond .eq 8, 3) := by decide +kernel
theorem dX12_taken_7 : decode cX12_taken 7 = .ok (.iload_n 2, 1) := by decide +kernel
theorem dX12_taken_8 : decode cX12_taken 8 = .ok (.iconst (-1), 1) := by decide +kernel
theorem dX12_taken_9 : decode cX12_taken 9 = .ok (.if_icmp .ge 10, 3) := by decide +kernel
theorem dX12_taken_12 : decode cX12_taken 12 = .ok (.aload_n 0, 1) := by decide +kernel
theorem dX12_taken_13 : decode cX12_taken 13 = .ok (.bipush (-10), 2) := by decide +kernel
theorem dX12_taken_15 : decode cX12_taken 15 = .ok (.invokevirtual 73, 3) := by decide +kernel
theorem dX12_taken_18 : decode cX12_taken 18 = .ok (.ireturn, 1) := by decide +kernel
theorem dX12_taken_19 : decode cX12_taken 19 = .ok (.aload_n 0, 1) := by decide +kernel
theorem dX12_taken_20 : decode cX12_taken 20 = .ok (.iload_n 1, 1) := by decide +kernel
theorem dX12_taken_21 : decode cX12_taken 21 = .ok (.aload_n 0, 1) := by decide +kernel
theorem dX12_taken_22 : decode cX12_taken 22 = .ok (.invokevirtual 127, 3) := by decide +kernel
theorem dX12_taken_25 : decode cX12_taken 25 = .ok (.invokevirtual 172, 3) := by decide +kernel
theorem dX12_taken_28 : decode cX12_taken 28 = .ok (.istore_n 3, 1) := by decide +kernel
theorem dX12_taken_29 : decode cX12_taken 29 = .ok (.iconst 0, 1) := by decide +kernel
theorem dX12_taken_30 : decode cX12_taken 30 = .ok (.istore 4, 2) := by decide +kernel
theorem dX12_taken_32 : decode cX12_taken 32 = .ok (.iload 4, 2) := by decide +kernel
theorem dX12_taken_34 : decode cX12_taken 34 = .ok (.iconst 5, 1) := by decide +kernel
theorem dX12_taken_35 : decode cX12_taken 35 = .ok (.if_icmp .ge 32, 3) := by decide +kernel
theorem dX12_taken_38 : decode cX12_taken 38 = .ok (.aload_n 0, 1) := by decide +kernel
theorem dX12_taken_39 : decode cX12_taken 39 = .ok (.getfield 39, 3) := by decide +kernel
theorem dX12_taken_42 : decode cX12_taken 42 = .ok (.iload 4, 2) := by decide +kernel
theorem dX12_taken_44 : decode cX12_taken 44 = .ok (.aload_n 0, 1) := by decide +kernel
theorem dX12_taken_45 : decode cX12_taken 45 = .ok (.getfield 27, 3) := by decide +kernel
theorem dX12_taken_48 : decode cX12_taken 48 = .ok (.bipush 24, 2) := by decide +kernel
theorem dX12_taken_50 : decode cX12_taken 50 = .ok (.iload 4, 2) := by decide +kernel
theorem dX12_taken_52 : decode cX12_taken 52 = .ok (.imul, 1) := by decide +kernel
theorem dX12_taken_53 : decode cX12_taken 53 = .ok (.aload_n 0, 1) := by decide +kernel
theorem dX12_taken_54 : decode cX12_taken 54 = .ok (.invokevirtual 64, 3) := by decide +kernel
theorem dX12_taken_57 : decode cX12_taken 57 = .ok (.invokestatic 140, 3) := by decide +kernel
theorem dX12_taken_60 : decode cX12_taken 60 = .ok (.iastore, 1) := by decide +kernel
theorem dX12_taken_61 : decode cX12_taken 61 = .ok (.iinc 4 1, 3) := by decide +kernel
theorem dX12_taken_64 : decode cX12_taken 64 = .ok (.goto (-32), 3) := by decide +kernel
theorem dX12_taken_67 : decode cX12_taken 67 = .ok (.iconst 0, 1) := by decide +kernel
theorem dX12_taken_68 : decode cX12_taken 68 = .ok (.istore 4, 2) := by decide +kernel
theorem dX12_taken_70 : decode cX12_taken 70 = .ok (.bipush (-5), 2) := by decide +kernel
theorem dX12_taken_72 : decode cX12_taken 72 = .ok (.istore 5, 2) := by decide +kernel
theorem dX12_taken_74 : decode cX12_taken 74 = .ok (.iconst 0, 1) := by decide +kernel
theorem dX12_taken_75 : decode cX12_taken 75 = .ok (.istore 6, 2) := by decide +kernel
theorem dX12_taken_77 : decode cX12_taken 77 = .ok (.iload 6, 2) := by decide +kernel
theorem dX12_taken_79 : decode cX12_taken 79 = .ok (.bipush 120, 2) := by decide +kernel
theorem dX12_taken_81 : decode cX12_taken 81 = .ok (.if_icmp .ge 98, 3) := by decide +kernel
theorem dX12_taken_84 : decode cX12_taken 84 = .ok (.aload_n 0, 1) := by decide +kernel
theorem dX12_taken_85 : decode cX12_taken 85 = .ok (.getfield 7, 3) := by decide +kernel
theorem dX12_taken_88 : decode cX12_taken 88 = .ok (.bipush 6, 2) := by decide +kernel
theorem dX12_taken_90 : decode cX12_taken 90 = .ok (.iload 6, 2) := by decide +kernel
theorem dX12_taken_92 : decode cX12_taken 92 = .ok (.iadd, 1) := by decide +kernel
theorem dX12_taken_93 : decode cX12_taken 93 = .ok (.iaload, 1) := by decide +kernel
theorem dX12_taken_94 : decode cX12_taken 94 = .ok (.istore 7, 2) := by decide +kernel
theorem dX12_taken_96 : decode cX12_taken 96 = .ok (.iload 7, 2) := by decide +kernel
theorem dX12_taken_98 : decode cX12_taken 98 = .ok (.ifCond .le 75, 3) := by decide +kernel
theorem dX12_taken_101 : decode cX12_taken 101 = .ok (.aload_n 0, 1) := by decide +kernel
theorem dX12_taken_102 : decode cX12_taken 102 = .ok (.iload 6, 2) := by decide +kernel
theorem dX12_taken_104 : decode cX12_taken 104 = .ok (.bipush 24, 2) := by decide +kernel
theorem dX12_taken_106 : decode cX12_taken 106 = .ok (.idiv, 1) := by decide +kernel
theorem dX12_taken_107 : decode cX12_taken 107 = .ok (.iload 6, 2) := by decide +kernel
theorem dX12_taken_109 : decode cX12_taken 109 = .ok (.bipush 24, 2) := by decide +kernel
theorem dX12_taken_111 : decode cX12_taken 111 = .ok (.irem, 1) := by decide +kernel
theorem dX12_taken_112 : decode cX12_taken 112 = .ok (.iload_n 1, 1) := by decide +kernel
theorem dX12_taken_113 : decode cX12_taken 113 = .ok (.invokevirtual 168, 3) := by decide +kernel
theorem dX12_taken_116 : decode cX12_taken 116 = .ok (.aload_n 0, 1) := by decide +kernel
theorem dX12_taken_117 : decode cX12_taken 117 = .ok (.aload_n 0, 1) := by decide +kernel
theorem dX12_taken_118 : decode cX12_taken 118 = .ok (.getfield 152, 3) := by decide +kernel
theorem dX12_taken_121 : decode cX12_taken 121 = .ok (.invokestatic 77, 3) := by decide +kernel
theorem dX12_taken_124 : decode cX12_taken 124 = .ok (.ifCond .eq 10, 3) := by decide +kernel
theorem dX12_taken_127 : decode cX12_taken 127 = .ok (.aload_n 0, 1) := by decide +kernel
theorem dX12_taken_128 : decode cX12_taken 128 = .ok (.getfield 152, 3) := by decide +kernel
theorem dX12_taken_131 : decode cX12_taken 131 = .ok (.goto 4, 3) := by decide +kernel
theorem dX12_taken_134 : decode cX12_taken 134 = .ok (.iconst (-1), 1) := by decide +kernel
theorem dX12_taken_135 : decode cX12_taken 135 = .ok (.iload 7, 2) := by decide +kernel
theorem dX12_taken_137 : decode cX12_taken 137 = .ok (.invokevirtual 193, 3) := by decide +kernel
theorem dX12_taken_140 : decode cX12_taken 140 = .ok (.ifCond .eq 33, 3) := by decide +kernel
theorem dX12_taken_143 : decode cX12_taken 143 = .ok (.iload 4, 2) := by decide +kernel
theorem dX12_taken_145 : decode cX12_taken 145 = .ok (.iload_n 2, 1) := by decide +kernel
theorem dX12_taken_146 : decode cX12_taken 146 = .ok (.if_icmp .ne 20, 3) := by decide +kernel
theorem dX12_taken_149 : decode cX12_taken 149 = .ok (.bipush 100, 2) := by decide +kernel
theorem dX12_taken_151 : decode cX12_taken 151 = .ok (.iload 6, 2) := by decide +kernel
theorem dX12_taken_153 : decode cX12_taken 153 = .ok (.bipush 24, 2) := by decide +kernel
theorem dX12_taken_155 : decode cX12_taken 155 = .ok (.idiv, 1) := by decide +kernel
theorem dX12_taken_156 : decode cX12_taken 156 = .ok (.imul, 1) := by decide +kernel
theorem dX12_taken_157 : decode cX12_taken 157 = .ok (.iload 6, 2) := by decide +kernel
theorem dX12_taken_159 : decode cX12_taken 159 = .ok (.bipush 24, 2) := by decide +kernel
theorem dX12_taken_161 : decode cX12_taken 161 = .ok (.irem, 1) := by decide +kernel
theorem dX12_taken_162 : decode cX12_taken 162 = .ok (.iadd, 1) := by decide +kernel
theorem dX12_taken_163 : decode cX12_taken 163 = .ok (.goto 5, 3) := by decide +kernel
theorem dX12_taken_166 : decode cX12_taken 166 = .ok (.iload 5, 2) := by decide +kernel
theorem dX12_taken_168 : decode cX12_taken 168 = .ok (.istore 5, 2) := by decide +kernel
theorem dX12_taken_170 : decode cX12_taken 170 = .ok (.iinc 4 1, 3) := by decide +kernel
theorem dX12_taken_173 : decode cX12_taken 173 = .ok (.iinc 6 1, 3) := by decide +kernel
theorem dX12_taken_176 : decode cX12_taken 176 = .ok (.goto (-99), 3) := by decide +kernel
theorem dX12_taken_179 : decode cX12_taken 179 = .ok (.iload_n 2, 1) := by decide +kernel
theorem dX12_taken_180 : decode cX12_taken 180 = .ok (.iconst (-1), 1) := by decide +kernel
theorem dX12_taken_181 : decode cX12_taken 181 = .ok (.if_icmp .ne 8, 3) := by decide +kernel
theorem dX12_taken_184 : decode cX12_taken 184 = .ok (.iload 4, 2) := by decide +kernel
theorem dX12_taken_186 : decode cX12_taken 186 = .ok (.goto 5, 3) := by decide +kernel
theorem dX12_taken_189 : decode cX12_taken 189 = .ok (.iload 5, 2) := by decide +kernel
theorem dX12_taken_191 : decode cX12_taken 191 = .ok (.ireturn, 1) := by decide +kernel
theorem dX12_laneSum_0 : decode cX12_laneSum 0 = .ok (.aload_n 0, 1) := by decide +kernel
theorem dX12_laneSum_1 : decode cX12_laneSum 1 = .ok (.getfield 7, 3) := by decide +kernel
theorem dX12_laneSum_4 : decode cX12_laneSum 4 = .ok (.bipush 6, 2) := by decide +kernel
theorem dX12_laneSum_6 : decode cX12_laneSum 6 = .ok (.bipush 24, 2) := by decide +kernel
theorem dX12_laneSum_8 : decode cX12_laneSum 8 = .ok (.iload_n 1, 1) := by decide +kernel
theorem dX12_laneSum_9 : decode cX12_laneSum 9 = .ok (.imul, 1) := by decide +kernel
theorem dX12_laneSum_10 : decode cX12_laneSum 10 = .ok (.iadd, 1) := by decide +kernel
theorem dX12_laneSum_11 : decode cX12_laneSum 11 = .ok (.aload_n 0, 1) := by decide +kernel
theorem dX12_laneSum_12 : decode cX12_laneSum 12 = .ok (.invokevirtual 64, 3) := by decide +kernel
theorem dX12_laneSum_15 : decode cX12_laneSum 15 = .ok (.invokestatic 140, 3) := by decide +kernel
theorem dX12_laneSum_18 : decode cX12_laneSum 18 = .ok (.ireturn, 1) := by decide +kernel
theorem dX12_game_0 : decode cX12_game 0 = .ok (.iload_n 1, 1) := by decide +kernel
theorem dX12_game_1 : decode cX12_game 1 = .ok (.i2l, 1) := by decide +kernel
theorem dX12_game_2 : decode cX12_game 2 = .ok (.lconst 1, 1) := by decide +kernel
theorem dX12_game_3 : decode cX12_game 3 = .ok (.ldc2_w 196, 3) := by decide +kernel
theorem dX12_game_6 : decode cX12_game 6 = .ok (.invokestatic 60, 3) := by decide +kernel
theorem dX12_game_9 : decode cX12_game 9 = .ok (.ifCond .eq 13, 3) := by decide +kernel
theorem dX12_game_12 : decode cX12_game 12 = .ok (.iload_n 2, 1) := by decide +kernel
theorem dX12_game_13 : decode cX12_game 13 = .ok (.i2l, 1) := by decide +kernel
theorem dX12_game_14 : decode cX12_game 14 = .ok (.lconst 0, 1) := by decide +kernel
theorem dX12_game_15 : decode cX12_game 15 = .ok (.lconst 1, 1) := by decide +kernel
theorem dX12_game_16 : decode cX12_game 16 = .ok (.invokestatic 60, 3) := by decide +kernel
theorem dX12_game_19 : decode cX12_game 19 = .ok (.ifCond .ne 10, 3) := by decide +kernel
theorem dX12_game_22 : decode cX12_game 22 = .ok (.aload_n 0, 1) := by decide +kernel
theorem dX12_game_23 : decode cX12_game 23 = .ok (.ldc 198, 2) := by decide +kernel
theorem dX12_game_25 : decode cX12_game 25 = .ok (.invokevirtual 73, 3) := by decide +kernel
theorem dX12_game_28 : decode cX12_game 28 = .ok (.ireturn, 1) := by decide +kernel
theorem dX12_game_29 : decode cX12_game 29 = .ok (.iconst 0, 1) := by decide +kernel
theorem dX12_game_30 : decode cX12_game 30 = .ok (.istore_n 3, 1) := by decide +kernel
theorem dX12_game_31 : decode cX12_game 31 = .ok (.iconst 0, 1) := by decide +kernel
theorem dX12_game_32 : decode cX12_game 32 = .ok (.istore 4, 2) := by decide +kernel
theorem dX12_game_34 : decode cX12_game 34 = .ok (.iload 4, 2) := by decide +kernel
theorem dX12_game_36 : decode cX12_game 36 = .ok (.iconst 5, 1) := by decide +kernel
theorem dX12_game_37 : decode cX12_game 37 = .ok (.if_icmp .ge 29, 3) := by decide +kernel
theorem dX12_game_40 : decode cX12_game 40 = .ok (.iload_n 3, 1) := by decide +kernel
theorem dX12_game_41 : decode cX12_game 41 = .ok (.aload_n 0, 1) := by decide +kernel
theorem dX12_game_42 : decode cX12_game 42 = .ok (.iload 4, 2) := by decide +kernel
theorem dX12_game_44 : decode cX12_game 44 = .ok (.invokevirtual 199, 3) := by decide +kernel
theorem dX12_game_47 : decode cX12_game 47 = .ok (.ifCond .le 10, 3) := by decide +kernel
theorem dX12_game_50 : decode cX12_game 50 = .ok (.iconst 1, 1) := by decide +kernel
theorem dX12_game_51 : decode cX12_game 51 = .ok (.iload 4, 2) := by decide +kernel
theorem dX12_game_53 : decode cX12_game 53 = .ok (.ishl, 1) := by decide +kernel
theorem dX12_game_54 : decode cX12_game 54 = .ok (.goto 4, 3) := by decide +kernel
theorem dX12_game_57 : decode cX12_game 57 = .ok (.iconst 0, 1) := by decide +kernel
theorem dX12_game_58 : decode cX12_game 58 = .ok (.ior, 1) := by decide +kernel
theorem dX12_game_59 : decode cX12_game 59 = .ok (.istore_n 3, 1) := by decide +kernel
theorem dX12_game_60 : decode cX12_game 60 = .ok (.iinc 4 1, 3) := by decide +kernel
theorem dX12_game_63 : decode cX12_game 63 = .ok (.goto (-29), 3) := by decide +kernel
theorem dX12_game_66 : decode cX12_game 66 = .ok (.iconst (-1), 1) := by decide +kernel
theorem dX12_game_67 : decode cX12_game 67 = .ok (.istore 4, 2) := by decide +kernel
theorem dX12_game_69 : decode cX12_game 69 = .ok (.iconst 0, 1) := by decide +kernel
theorem dX12_game_70 : decode cX12_game 70 = .ok (.istore 5, 2) := by decide +kernel
theorem dX12_game_72 : decode cX12_game 72 = .ok (.iload 5, 2) := by decide +kernel
theorem dX12_game_74 : decode cX12_game 74 = .ok (.bipush 32, 2) := by decide +kernel
theorem dX12_game_76 : decode cX12_game 76 = .ok (.if_icmp .ge 17, 3) := by decide +kernel
theorem dX12_game_79 : decode cX12_game 79 = .ok (.aload_n 0, 1) := by decide +kernel
theorem dX12_game_80 : decode cX12_game 80 = .ok (.getfield 42, 3) := by decide +kernel
theorem dX12_game_83 : decode cX12_game 83 = .ok (.iload 5, 2) := by decide +kernel
theorem dX12_game_85 : decode cX12_game 85 = .ok (.iconst 0, 1) := by decide +kernel
theorem dX12_game_86 : decode cX12_game 86 = .ok (.iastore, 1) := by decide +kernel
theorem dX12_game_87 : decode cX12_game 87 = .ok (.iinc 5 1, 3) := by decide +kernel
theorem dX12_game_90 : decode cX12_game 90 = .ok (.goto (-18), 3) := by decide +kernel
theorem dX12_game_93 : decode cX12_game 93 = .ok (.iconst 1, 1) := by decide +kernel
theorem dX12_game_94 : decode cX12_game 94 = .ok (.istore 5, 2) := by decide +kernel
theorem dX12_game_96 : decode cX12_game 96 = .ok (.iload 5, 2) := by decide +kernel
theorem dX12_game_98 : decode cX12_game 98 = .ok (.iload_n 1, 1) := by decide +kernel
theorem dX12_game_99 : decode cX12_game 99 = .ok (.if_icmp .gt 205, 3) := by decide +kernel
theorem dX12_game_102 : decode cX12_game 102 = .ok (.iconst 0, 1) := by decide +kernel
theorem dX12_game_103 : decode cX12_game 103 = .ok (.istore 6, 2) := by decide +kernel
theorem dX12_game_105 : decode cX12_game 105 = .ok (.iload 6, 2) := by decide +kernel
theorem dX12_game_107 : decode cX12_game 107 = .ok (.bipush 32, 2) := by decide +kernel
theorem dX12_game_109 : decode cX12_game 109 = .ok (.if_icmp .ge 189, 3) := by decide +kernel
theorem dX12_game_112 : decode cX12_game 112 = .ok (.iload 6, 2) := by decide +kernel
theorem dX12_game_114 : decode cX12_game 114 = .ok (.ifCond .ne 19, 3) := by decide +kernel
theorem dX12_game_117 : decode cX12_game 117 = .ok (.aload_n 0, 1) := by decide +kernel
theorem dX12_game_118 : decode cX12_game 118 = .ok (.getfield 42, 3) := by decide +kernel
theorem dX12_game_121 : decode cX12_game 121 = .ok (.bipush 32, 2) := by decide +kernel
theorem dX12_game_123 : decode cX12_game 123 = .ok (.iload 5, 2) := by decide +kernel
theorem dX12_game_125 : decode cX12_game 125 = .ok (.iconst 1, 1) := by decide +kernel
theorem dX12_game_126 : decode cX12_game 126 = .ok (.isub, 1) := by decide +kernel
theorem dX12_game_127 : decode cX12_game 127 = .ok (.imul, 1) := by decide +kernel
theorem dX12_game_128 : decode cX12_game 128 = .ok (.iaload, 1) := by decide +kernel
theorem dX12_game_129 : decode cX12_game 129 = .ok (.ineg, 1) := by decide +kernel
theorem dX12_game_130 : decode cX12_game 130 = .ok (.goto 5, 3) := by decide +kernel
theorem dX12_game_133 : decode cX12_game 133 = .ok (.ldc 202, 2) := by decide +kernel
theorem dX12_game_135 : decode cX12_game 135 = .ok (.istore 7, 2) := by decide +kernel
theorem dX12_game_137 : decode cX12_game 137 = .ok (.iconst (-1), 1) := by decide +kernel
theorem dX12_game_138 : decode cX12_game 138 = .ok (.istore 8, 2) := by decide +kernel
theorem dX12_game_140 : decode cX12_game 140 = .ok (.iconst 0, 1) := by decide +kernel
theorem dX12_game_141 : decode cX12_game 141 = .ok (.istore 9, 2) := by decide +kernel
theorem dX12_game_143 : decode cX12_game 143 = .ok (.iload 9, 2) := by decide +kernel
theorem dX12_game_145 : decode cX12_game 145 = .ok (.iconst 5, 1) := by decide +kernel
theorem dX12_game_146 : decode cX12_game 146 = .ok (.if_icmp .ge 110, 3) := by decide +kernel
theorem dX12_game_149 : decode cX12_game 149 = .ok (.iload 6, 2) := by decide +kernel
theorem dX12_game_151 : decode cX12_game 151 = .ok (.iload 9, 2) := by decide +kernel
theorem dX12_game_153 : decode cX12_game 153 = .ok (.ishr, 1) := by decide +kernel
theorem dX12_game_154 : decode cX12_game 154 = .ok (.iconst 1, 1) := by decide +kernel
theorem dX12_game_155 : decode cX12_game 155 = .ok (.iand, 1) := by decide +kernel
theorem dX12_game_156 : decode cX12_game 156 = .ok (.iconst 1, 1) := by decide +kernel
theorem dX12_game_157 : decode cX12_game 157 = .ok (.if_icmp .ne 7, 3) := by decide +kernel
theorem dX12_game_160 : decode cX12_game 160 = .ok (.iconst 1, 1) := by decide +kernel
theorem dX12_game_161 : decode cX12_game 161 = .ok (.goto 4, 3) := by decide +kernel
theorem dX12_game_164 : decode cX12_game 164 = .ok (.iconst 0, 1) := by decide +kernel
theorem dX12_game_165 : decode cX12_game 165 = .ok (.istore 10, 2) := by decide +kernel
theorem dX12_game_167 : decode cX12_game 167 = .ok (.iload 10, 2) := by decide +kernel
theorem dX12_game_169 : decode cX12_game 169 = .ok (.ifCond .eq 35, 3) := by decide +kernel
theorem dX12_game_172 : decode cX12_game 172 = .ok (.aload_n 0, 1) := by decide +kernel
theorem dX12_game_173 : decode cX12_game 173 = .ok (.iload 9, 2) := by decide +kernel
theorem dX12_game_175 : decode cX12_game 175 = .ok (.invokevirtual 199, 3) := by decide +kernel
theorem dX12_game_178 : decode cX12_game 178 = .ok (.aload_n 0, 1) := by decide +kernel
theorem dX12_game_179 : decode cX12_game 179 = .ok (.getfield 42, 3) := by decide +kernel
theorem dX12_game_182 : decode cX12_game 182 = .ok (.bipush 32, 2) := by decide +kernel
theorem dX12_game_184 : decode cX12_game 184 = .ok (.iload 5, 2) := by decide +kernel
theorem dX12_game_186 : decode cX12_game 186 = .ok (.iconst 1, 1) := by decide +kernel
theorem dX12_game_187 : decode cX12_game 187 = .ok (.isub, 1) := by decide +kernel
theorem dX12_game_188 : decode cX12_game 188 = .ok (.imul, 1) := by decide +kernel
theorem dX12_game_189 : decode cX12_game 189 = .ok (.iload 6, 2) := by decide +kernel
theorem dX12_game_191 : decode cX12_game 191 = .ok (.iconst 1, 1) := by decide +kernel
theorem dX12_game_192 : decode cX12_game 192 = .ok (.iload 9, 2) := by decide +kernel
theorem dX12_game_194 : decode cX12_game 194 = .ok (.ishl, 1) := by decide +kernel
theorem dX12_game_195 : decode cX12_game 195 = .ok (.iconst (-1), 1) := by decide +kernel
theorem dX12_game_196 : decode cX12_game 196 = .ok (.ixor, 1) := by decide +kernel
theorem dX12_game_197 : decode cX12_game 197 = .ok (.iand, 1) := by decide +kernel
theorem dX12_game_198 : decode cX12_game 198 = .ok (.iadd, 1) := by decide +kernel
theorem dX12_game_199 : decode cX12_game 199 = .ok (.iaload, 1) := by decide +kernel
theorem dX12_game_200 : decode cX12_game 200 = .ok (.isub, 1) := by decide +kernel
theorem dX12_game_201 : decode cX12_game 201 = .ok (.goto 5, 3) := by decide +kernel
theorem dX12_game_204 : decode cX12_game 204 = .ok (.ldc 202, 2) := by decide +kernel
theorem dX12_game_206 : decode cX12_game 206 = .ok (.istore 11, 2) := by decide +kernel
theorem dX12_game_208 : decode cX12_game 208 = .ok (.iload 10, 2) := by decide +kernel
theorem dX12_game_210 : decode cX12_game 210 = .ok (.ifCond .eq 15, 3) := by decide +kernel
theorem dX12_game_213 : decode cX12_game 213 = .ok (.iload 11, 2) := by decide +kernel
theorem dX12_game_215 : decode cX12_game 215 = .ok (.iload 7, 2) := by decide +kernel
theorem dX12_game_217 : decode cX12_game 217 = .ok (.if_icmp .le 8, 3) := by decide +kernel
theorem dX12_game_220 : decode cX12_game 220 = .ok (.iload 9, 2) := by decide +kernel
theorem dX12_game_222 : decode cX12_game 222 = .ok (.goto 5, 3) := by decide +kernel
theorem dX12_game_225 : decode cX12_game 225 = .ok (.iload 8, 2) := by decide +kernel
theorem dX12_game_227 : decode cX12_game 227 = .ok (.istore 8, 2) := by decide +kernel
theorem dX12_game_229 : decode cX12_game 229 = .ok (.iload 10, 2) := by decide +kernel
theorem dX12_game_231 : decode cX12_game 231 = .ok (.ifCond .eq 15, 3) := by decide +kernel
theorem dX12_game_234 : decode cX12_game 234 = .ok (.iload 11, 2) := by decide +kernel
theorem dX12_game_236 : decode cX12_game 236 = .ok (.iload 7, 2) := by decide +kernel
theorem dX12_game_238 : decode cX12_game 238 = .ok (.if_icmp .le 8, 3) := by decide +kernel
theorem dX12_game_241 : decode cX12_game 241 = .ok (.iload 11, 2) := by decide +kernel
theorem dX12_game_243 : decode cX12_game 243 = .ok (.goto 5, 3) := by decide +kernel
theorem dX12_game_246 : decode cX12_game 246 = .ok (.iload 7, 2) := by decide +kernel
theorem dX12_game_248 : decode cX12_game 248 = .ok (.istore 7, 2) := by decide +kernel
theorem dX12_game_250 : decode cX12_game 250 = .ok (.iinc 9 1, 3) := by decide +kernel
theorem dX12_game_253 : decode cX12_game 253 = .ok (.goto (-110), 3) := by decide +kernel
theorem dX12_game_256 : decode cX12_game 256 = .ok (.aload_n 0, 1) := by decide +kernel
theorem dX12_game_257 : decode cX12_game 257 = .ok (.getfield 42, 3) := by decide +kernel
theorem dX12_game_260 : decode cX12_game 260 = .ok (.bipush 32, 2) := by decide +kernel
theorem dX12_game_262 : decode cX12_game 262 = .ok (.iload 5, 2) := by decide +kernel
theorem dX12_game_264 : decode cX12_game 264 = .ok (.imul, 1) := by decide +kernel
theorem dX12_game_265 : decode cX12_game 265 = .ok (.iload 6, 2) := by decide +kernel
theorem dX12_game_267 : decode cX12_game 267 = .ok (.iadd, 1) := by decide +kernel
theorem dX12_game_268 : decode cX12_game 268 = .ok (.iload 7, 2) := by decide +kernel
theorem dX12_game_270 : decode cX12_game 270 = .ok (.iastore, 1) := by decide +kernel
theorem dX12_game_271 : decode cX12_game 271 = .ok (.iload 5, 2) := by decide +kernel
theorem dX12_game_273 : decode cX12_game 273 = .ok (.iload_n 1, 1) := by decide +kernel
theorem dX12_game_274 : decode cX12_game 274 = .ok (.if_icmp .ne 14, 3) := by decide +kernel
theorem dX12_game_277 : decode cX12_game 277 = .ok (.iload 6, 2) := by decide +kernel
theorem dX12_game_279 : decode cX12_game 279 = .ok (.iload_n 3, 1) := by decide +kernel
theorem dX12_game_280 : decode cX12_game 280 = .ok (.if_icmp .ne 8, 3) := by decide +kernel
theorem dX12_game_283 : decode cX12_game 283 = .ok (.iload 8, 2) := by decide +kernel
theorem dX12_game_285 : decode cX12_game 285 = .ok (.goto 5, 3) := by decide +kernel
theorem dX12_game_288 : decode cX12_game 288 = .ok (.iload 4, 2) := by decide +kernel
theorem dX12_game_290 : decode cX12_game 290 = .ok (.istore 4, 2) := by decide +kernel
theorem dX12_game_292 : decode cX12_game 292 = .ok (.iinc 6 1, 3) := by decide +kernel
theorem dX12_game_295 : decode cX12_game 295 = .ok (.goto (-190), 3) := by decide +kernel
theorem dX12_game_298 : decode cX12_game 298 = .ok (.iinc 5 1, 3) := by decide +kernel
theorem dX12_game_301 : decode cX12_game 301 = .ok (.goto (-205), 3) := by decide +kernel
theorem dX12_game_304 : decode cX12_game 304 = .ok (.iload_n 2, 1) := by decide +kernel
theorem dX12_game_305 : decode cX12_game 305 = .ok (.ifCond .ne 17, 3) := by decide +kernel
theorem dX12_game_308 : decode cX12_game 308 = .ok (.aload_n 0, 1) := by decide +kernel
theorem dX12_game_309 : decode cX12_game 309 = .ok (.getfield 42, 3) := by decide +kernel
theorem dX12_game_312 : decode cX12_game 312 = .ok (.bipush 32, 2) := by decide +kernel
theorem dX12_game_314 : decode cX12_game 314 = .ok (.iload_n 1, 1) := by decide +kernel
theorem dX12_game_315 : decode cX12_game 315 = .ok (.imul, 1) := by decide +kernel
theorem dX12_game_316 : decode cX12_game 316 = .ok (.iload_n 3, 1) := by decide +kernel
theorem dX12_game_317 : decode cX12_game 317 = .ok (.iadd, 1) := by decide +kernel
theorem dX12_game_318 : decode cX12_game 318 = .ok (.iaload, 1) := by decide +kernel
theorem dX12_game_319 : decode cX12_game 319 = .ok (.goto 5, 3) := by decide +kernel
theorem dX12_game_322 : decode cX12_game 322 = .ok (.iload 4, 2) := by decide +kernel
theorem dX12_game_324 : decode cX12_game 324 = .ok (.ireturn, 1) := by decide +kernel
theorem dX12_factorial_0 : decode cX12_factorial 0 = .ok (.iconst 1, 1) := by decide +kernel
theorem dX12_factorial_1 : decode cX12_factorial 1 = .ok (.istore_n 1, 1) := by decide +kernel
theorem dX12_factorial_2 : decode cX12_factorial 2 = .ok (.iconst 2, 1) := by decide +kernel
theorem dX12_factorial_3 : decode cX12_factorial 3 = .ok (.istore_n 2, 1) := by decide +kernel
theorem dX12_factorial_4 : decode cX12_factorial 4 = .ok (.iload_n 2, 1) := by decide +kernel
theorem dX12_factorial_5 : decode cX12_factorial 5 = .ok (.iload_n 0, 1) := by decide +kernel
theorem dX12_factorial_6 : decode cX12_factorial 6 = .ok (.if_icmp .gt 13, 3) := by decide +kernel
theorem dX12_factorial_9 : decode cX12_factorial 9 = .ok (.iload_n 1, 1) := by decide +kernel
theorem dX12_factorial_10 : decode cX12_factorial 10 = .ok (.iload_n 2, 1) := by decide +kernel
theorem dX12_factorial_11 : decode cX12_factorial 11 = .ok (.imul, 1) := by decide +kernel
theorem dX12_factorial_12 : decode cX12_factorial 12 = .ok (.istore_n 1, 1) := by decide +kernel
theorem dX12_factorial_13 : decode cX12_factorial 13 = .ok (.iinc 2 1, 3) := by decide +kernel
theorem dX12_factorial_16 : decode cX12_factorial 16 = .ok (.goto (-12), 3) := by decide +kernel
theorem dX12_factorial_19 : decode cX12_factorial 19 = .ok (.iload_n 1, 1) := by decide +kernel
theorem dX12_factorial_20 : decode cX12_factorial 20 = .ok (.ireturn, 1) := by decide +kernel
theorem dX12_fee_0 : decode cX12_fee 0 = .ok (.aload_n 0, 1) := by decide +kernel
theorem dX12_fee_1 : decode cX12_fee 1 = .ok (.iload_n 1, 1) := by decide +kernel
theorem dX12_fee_2 : decode cX12_fee 2 = .ok (.invokevirtual 144, 3) := by decide +kernel
theorem dX12_fee_5 : decode cX12_fee 5 = .ok (.ifCond .eq 10, 3) := by decide +kernel
theorem dX12_fee_8 : decode cX12_fee 8 = .ok (.iload_n 2, 1) := by decide +kernel
theorem dX12_fee_9 : decode cX12_fee 9 = .ok (.invokestatic 163, 3) := by decide +kernel
theorem dX12_fee_12 : decode cX12_fee 12 = .ok (.ifCond .ne 10, 3) := by decide +kernel
theorem dX12_fee_15 : decode cX12_fee 15 = .ok (.aload_n 0, 1) := by decide +kernel
theorem dX12_fee_16 : decode cX12_fee 16 = .ok (.bipush (-2), 2) := by decide +kernel
theorem dX12_fee_18 : decode cX12_fee 18 = .ok (.invokevirtual 73, 3) := by decide +kernel
theorem dX12_fee_21 : decode cX12_fee 21 = .ok (.ireturn, 1) := by decide +kernel
theorem dX12_fee_22 : decode cX12_fee 22 = .ok (.iconst 1, 1) := by decide +kernel
theorem dX12_fee_23 : decode cX12_fee 23 = .ok (.iload_n 1, 1) := by decide +kernel
theorem dX12_fee_24 : decode cX12_fee 24 = .ok (.ishl, 1) := by decide +kernel
theorem dX12_fee_25 : decode cX12_fee 25 = .ok (.istore_n 3, 1) := by decide +kernel
theorem dX12_fee_26 : decode cX12_fee 26 = .ok (.lconst 0, 1) := by decide +kernel
theorem dX12_fee_27 : decode cX12_fee 27 = .ok (.lstore 4, 2) := by decide +kernel
theorem dX12_fee_29 : decode cX12_fee 29 = .ok (.iconst 0, 1) := by decide +kernel
theorem dX12_fee_30 : decode cX12_fee 30 = .ok (.istore 6, 2) := by decide +kernel
theorem dX12_fee_32 : decode cX12_fee 32 = .ok (.iload 6, 2) := by decide +kernel
theorem dX12_fee_34 : decode cX12_fee 34 = .ok (.aload_n 0, 1) := by decide +kernel
theorem dX12_fee_35 : decode cX12_fee 35 = .ok (.invokevirtual 127, 3) := by decide +kernel
theorem dX12_fee_38 : decode cX12_fee 38 = .ok (.if_icmp .gt 70, 3) := by decide +kernel
theorem dX12_fee_41 : decode cX12_fee 41 = .ok (.iload 6, 2) := by decide +kernel
theorem dX12_fee_43 : decode cX12_fee 43 = .ok (.iload_n 3, 1) := by decide +kernel
theorem dX12_fee_44 : decode cX12_fee 44 = .ok (.iand, 1) := by decide +kernel
theorem dX12_fee_45 : decode cX12_fee 45 = .ok (.ifCond .ne 57, 3) := by decide +kernel
theorem dX12_fee_48 : decode cX12_fee 48 = .ok (.iload 6, 2) := by decide +kernel
theorem dX12_fee_50 : decode cX12_fee 50 = .ok (.invokestatic 203, 3) := by decide +kernel
theorem dX12_fee_53 : decode cX12_fee 53 = .ok (.invokestatic 206, 3) := by decide +kernel
theorem dX12_fee_56 : decode cX12_fee 56 = .ok (.i2l, 1) := by decide +kernel
theorem dX12_fee_57 : decode cX12_fee 57 = .ok (.aload_n 0, 1) := by decide +kernel
theorem dX12_fee_58 : decode cX12_fee 58 = .ok (.invokevirtual 68, 3) := by decide +kernel
theorem dX12_fee_61 : decode cX12_fee 61 = .ok (.iconst 1, 1) := by decide +kernel
theorem dX12_fee_62 : decode cX12_fee 62 = .ok (.isub, 1) := by decide +kernel
theorem dX12_fee_63 : decode cX12_fee 63 = .ok (.iload 6, 2) := by decide +kernel
theorem dX12_fee_65 : decode cX12_fee 65 = .ok (.invokestatic 203, 3) := by decide +kernel
theorem dX12_fee_68 : decode cX12_fee 68 = .ok (.isub, 1) := by decide +kernel
theorem dX12_fee_69 : decode cX12_fee 69 = .ok (.invokestatic 206, 3) := by decide +kernel
theorem dX12_fee_72 : decode cX12_fee 72 = .ok (.i2l, 1) := by decide +kernel
theorem dX12_fee_73 : decode cX12_fee 73 = .ok (.lmul, 1) := by decide +kernel
theorem dX12_fee_74 : decode cX12_fee 74 = .ok (.lstore 7, 2) := by decide +kernel
theorem dX12_fee_76 : decode cX12_fee 76 = .ok (.lload 4, 2) := by decide +kernel
theorem dX12_fee_78 : decode cX12_fee 78 = .ok (.lload 7, 2) := by decide +kernel
theorem dX12_fee_80 : decode cX12_fee 80 = .ok (.aload_n 0, 1) := by decide +kernel
theorem dX12_fee_81 : decode cX12_fee 81 = .ok (.iload_n 2, 1) := by decide +kernel
theorem dX12_fee_82 : decode cX12_fee 82 = .ok (.iload 6, 2) := by decide +kernel
theorem dX12_fee_84 : decode cX12_fee 84 = .ok (.iload_n 3, 1) := by decide +kernel
theorem dX12_fee_85 : decode cX12_fee 85 = .ok (.ior, 1) := by decide +kernel
theorem dX12_fee_86 : decode cX12_fee 86 = .ok (.invokevirtual 172, 3) := by decide +kernel
theorem dX12_fee_89 : decode cX12_fee 89 = .ok (.aload_n 0, 1) := by decide +kernel
theorem dX12_fee_90 : decode cX12_fee 90 = .ok (.iload_n 2, 1) := by decide +kernel
theorem dX12_fee_91 : decode cX12_fee 91 = .ok (.iload 6, 2) := by decide +kernel
theorem dX12_fee_93 : decode cX12_fee 93 = .ok (.invokevirtual 172, 3) := by decide +kernel
theorem dX12_fee_96 : decode cX12_fee 96 = .ok (.isub, 1) := by decide +kernel
theorem dX12_fee_97 : decode cX12_fee 97 = .ok (.i2l, 1) := by decide +kernel
theorem dX12_fee_98 : decode cX12_fee 98 = .ok (.lmul, 1) := by decide +kernel
theorem dX12_fee_99 : decode cX12_fee 99 = .ok (.ladd, 1) := by decide +kernel
theorem dX12_fee_100 : decode cX12_fee 100 = .ok (.lstore 4, 2) := by decide +kernel
theorem dX12_fee_102 : decode cX12_fee 102 = .ok (.iinc 6 1, 3) := by decide +kernel
theorem dX12_fee_105 : decode cX12_fee 105 = .ok (.goto (-73), 3) := by decide +kernel
theorem dX12_fee_108 : decode cX12_fee 108 = .ok (.aload_n 0, 1) := by decide +kernel
theorem dX12_fee_109 : decode cX12_fee 109 = .ok (.invokevirtual 68, 3) := by decide +kernel
theorem dX12_fee_112 : decode cX12_fee 112 = .ok (.invokestatic 206, 3) := by decide +kernel
theorem dX12_fee_115 : decode cX12_fee 115 = .ok (.istore 6, 2) := by decide +kernel
theorem dX12_fee_117 : decode cX12_fee 117 = .ok (.lload 4, 2) := by decide +kernel
theorem dX12_fee_119 : decode cX12_fee 119 = .ok (.lconst 0, 1) := by decide +kernel
theorem dX12_fee_120 : decode cX12_fee 120 = .ok (.lcmp, 1) := by decide +kernel
theorem dX12_fee_121 : decode cX12_fee 121 = .ok (.ifCond .ge 9, 3) := by decide +kernel
theorem dX12_fee_124 : decode cX12_fee 124 = .ok (.lload 4, 2) := by decide +kernel
theorem dX12_fee_126 : decode cX12_fee 126 = .ok (.lneg, 1) := by decide +kernel
theorem dX12_fee_127 : decode cX12_fee 127 = .ok (.goto 5, 3) := by decide +kernel
theorem dX12_fee_130 : decode cX12_fee 130 = .ok (.lload 4, 2) := by decide +kernel
theorem dX12_fee_132 : decode cX12_fee 132 = .ok (.lstore 7, 2) := by decide +kernel
theorem dX12_fee_134 : decode cX12_fee 134 = .ok (.iload 6, 2) := by decide +kernel
theorem dX12_fee_136 : decode cX12_fee 136 = .ok (.i2l, 1) := by decide +kernel
theorem dX12_fee_137 : decode cX12_fee 137 = .ok (.lstore 9, 2) := by decide +kernel
theorem dX12_fee_139 : decode cX12_fee 139 = .ok (.lload 9, 2) := by decide +kernel
theorem dX12_fee_141 : decode cX12_fee 141 = .ok (.lconst 0, 1) := by decide +kernel
theorem dX12_fee_142 : decode cX12_fee 142 = .ok (.lcmp, 1) := by decide +kernel
theorem dX12_fee_143 : decode cX12_fee 143 = .ok (.ifCond .eq 21, 3) := by decide +kernel
theorem dX12_fee_146 : decode cX12_fee 146 = .ok (.lload 7, 2) := by decide +kernel
theorem dX12_fee_148 : decode cX12_fee 148 = .ok (.lload 9, 2) := by decide +kernel
theorem dX12_fee_150 : decode cX12_fee 150 = .ok (.lrem, 1) := by decide +kernel
theorem dX12_fee_151 : decode cX12_fee 151 = .ok (.lstore 11, 2) := by decide +kernel
theorem dX12_fee_153 : decode cX12_fee 153 = .ok (.lload 9, 2) := by decide +kernel
theorem dX12_fee_155 : decode cX12_fee 155 = .ok (.lstore 7, 2) := by decide +kernel
theorem dX12_fee_157 : decode cX12_fee 157 = .ok (.lload 11, 2) := by decide +kernel
theorem dX12_fee_159 : decode cX12_fee 159 = .ok (.lstore 9, 2) := by decide +kernel
theorem dX12_fee_161 : decode cX12_fee 161 = .ok (.goto (-22), 3) := by decide +kernel
theorem dX12_fee_164 : decode cX12_fee 164 = .ok (.aload_n 0, 1) := by decide +kernel
theorem dX12_fee_165 : decode cX12_fee 165 = .ok (.lload 4, 2) := by decide +kernel
theorem dX12_fee_167 : decode cX12_fee 167 = .ok (.lload 7, 2) := by decide +kernel
theorem dX12_fee_169 : decode cX12_fee 169 = .ok (.ldiv, 1) := by decide +kernel
theorem dX12_fee_170 : decode cX12_fee 170 = .ok (.putfield 209, 3) := by decide +kernel
theorem dX12_fee_173 : decode cX12_fee 173 = .ok (.aload_n 0, 1) := by decide +kernel
theorem dX12_fee_174 : decode cX12_fee 174 = .ok (.iload 6, 2) := by decide +kernel
theorem dX12_fee_176 : decode cX12_fee 176 = .ok (.i2l, 1) := by decide +kernel
theorem dX12_fee_177 : decode cX12_fee 177 = .ok (.lload 7, 2) := by decide +kernel
theorem dX12_fee_179 : decode cX12_fee 179 = .ok (.ldiv, 1) := by decide +kernel
theorem dX12_fee_180 : decode cX12_fee 180 = .ok (.putfield 23, 3) := by decide +kernel
theorem dX12_fee_183 : decode cX12_fee 183 = .ok (.iconst 1, 1) := by decide +kernel
theorem dX12_fee_184 : decode cX12_fee 184 = .ok (.ireturn, 1) := by decide +kernel
theorem dX12_type_0 : decode cX12_type 0 = .ok (.iload_n 3, 1) := by decide +kernel
theorem dX12_type_1 : decode cX12_type 1 = .ok (.i2l, 1) := by decide +kernel
theorem dX12_type_2 : decode cX12_type 2 = .ok (.lconst 1, 1) := by decide +kernel
theorem dX12_type_3 : decode cX12_type 3 = .ok (.ldc2_w 212, 3) := by decide +kernel
theorem dX12_type_6 : decode cX12_type 6 = .ok (.invokestatic 60, 3) := by decide +kernel
theorem dX12_type_9 : decode cX12_type 9 = .ok (.ifCond .ne 10, 3) := by decide +kernel
theorem dX12_type_12 : decode cX12_type 12 = .ok (.aload_n 0, 1) := by decide +kernel
theorem dX12_type_13 : decode cX12_type 13 = .ok (.bipush (-2), 2) := by decide +kernel
theorem dX12_type_15 : decode cX12_type 15 = .ok (.invokevirtual 73, 3) := by decide +kernel
theorem dX12_type_18 : decode cX12_type 18 = .ok (.ireturn, 1) := by decide +kernel
theorem dX12_type_19 : decode cX12_type 19 = .ok (.aload_n 0, 1) := by decide +kernel
theorem dX12_type_20 : decode cX12_type 20 = .ok (.getfield 214, 3) := by decide +kernel
theorem dX12_type_23 : decode cX12_type 23 = .ok (.iload_n 3, 1) := by decide +kernel
theorem dX12_type_24 : decode cX12_type 24 = .ok (.iadd, 1) := by decide +kernel
theorem dX12_type_25 : decode cX12_type 25 = .ok (.sipush 250, 3) := by decide +kernel
theorem dX12_type_28 : decode cX12_type 28 = .ok (.if_icmp .le 8, 3) := by decide +kernel
theorem dX12_type_31 : decode cX12_type 31 = .ok (.aload_n 0, 1) := by decide +kernel
theorem dX12_type_32 : decode cX12_type 32 = .ok (.invokevirtual 90, 3) := by decide +kernel
theorem dX12_type_35 : decode cX12_type 35 = .ok (.ireturn, 1) := by decide +kernel
theorem dX12_type_36 : decode cX12_type 36 = .ok (.iload_n 3, 1) := by decide +kernel
theorem dX12_type_37 : decode cX12_type 37 = .ok (.iconst 1, 1) := by decide +kernel
theorem dX12_type_38 : decode cX12_type 38 = .ok (.isub, 1) := by decide +kernel
theorem dX12_type_39 : decode cX12_type 39 = .ok (.istore 4, 2) := by decide +kernel
theorem dX12_type_41 : decode cX12_type 41 = .ok (.iload 4, 2) := by decide +kernel
theorem dX12_type_43 : decode cX12_type 43 = .ok (.ifCond .lt 40, 3) := by decide +kernel
theorem dX12_type_46 : decode cX12_type 46 = .ok (.aload_n 0, 1) := by decide +kernel
theorem dX12_type_47 : decode cX12_type 47 = .ok (.getfield 45, 3) := by decide +kernel
theorem dX12_type_50 : decode cX12_type 50 = .ok (.aload_n 0, 1) := by decide +kernel
theorem dX12_type_51 : decode cX12_type 51 = .ok (.getfield 214, 3) := by decide +kernel
theorem dX12_type_54 : decode cX12_type 54 = .ok (.lload_n 1, 1) := by decide +kernel
theorem dX12_type_55 : decode cX12_type 55 = .ok (.bipush 8, 2) := by decide +kernel
theorem dX12_type_57 : decode cX12_type 57 = .ok (.iload 4, 2) := by decide +kernel
theorem dX12_type_59 : decode cX12_type 59 = .ok (.imul, 1) := by decide +kernel
theorem dX12_type_60 : decode cX12_type 60 = .ok (.lushr, 1) := by decide +kernel
theorem dX12_type_61 : decode cX12_type 61 = .ok (.ldc2_w 217, 3) := by decide +kernel
theorem dX12_type_64 : decode cX12_type 64 = .ok (.land, 1) := by decide +kernel
theorem dX12_type_65 : decode cX12_type 65 = .ok (.l2i, 1) := by decide +kernel
theorem dX12_type_66 : decode cX12_type 66 = .ok (.iastore, 1) := by decide +kernel
theorem dX12_type_67 : decode cX12_type 67 = .ok (.aload_n 0, 1) := by decide +kernel
theorem dX12_type_68 : decode cX12_type 68 = .ok (.dup, 1) := by decide +kernel
theorem dX12_type_69 : decode cX12_type 69 = .ok (.getfield 214, 3) := by decide +kernel
theorem dX12_type_72 : decode cX12_type 72 = .ok (.iconst 1, 1) := by decide +kernel
theorem dX12_type_73 : decode cX12_type 73 = .ok (.iadd, 1) := by decide +kernel
theorem dX12_type_74 : decode cX12_type 74 = .ok (.putfield 214, 3) := by decide +kernel
theorem dX12_type_77 : decode cX12_type 77 = .ok (.iinc 4 (-1), 3) := by decide +kernel
theorem dX12_type_80 : decode cX12_type 80 = .ok (.goto (-39), 3) := by decide +kernel
theorem dX12_type_83 : decode cX12_type 83 = .ok (.aload_n 0, 1) := by decide +kernel
theorem dX12_type_84 : decode cX12_type 84 = .ok (.getfield 214, 3) := by decide +kernel
theorem dX12_type_87 : decode cX12_type 87 = .ok (.ireturn, 1) := by decide +kernel
theorem dX12_clear_0 : decode cX12_clear 0 = .ok (.aload_n 0, 1) := by decide +kernel
theorem dX12_clear_1 : decode cX12_clear 1 = .ok (.getfield 214, 3) := by decide +kernel
theorem dX12_clear_4 : decode cX12_clear 4 = .ok (.istore_n 1, 1) := by decide +kernel
theorem dX12_clear_5 : decode cX12_clear 5 = .ok (.aload_n 0, 1) := by decide +kernel
theorem dX12_clear_6 : decode cX12_clear 6 = .ok (.iconst 0, 1) := by decide +kernel
theorem dX12_clear_7 : decode cX12_clear 7 = .ok (.putfield 214, 3) := by decide +kernel
theorem dX12_clear_10 : decode cX12_clear 10 = .ok (.iload_n 1, 1) := by decide +kernel
theorem dX12_clear_11 : decode cX12_clear 11 = .ok (.ireturn, 1) := by decide +kernel
theorem dX12_isSmall_0 : decode cX12_isSmall 0 = .ok (.iload_n 0, 1) := by decide +kernel
theorem dX12_isSmall_1 : decode cX12_isSmall 1 = .ok (.i2l, 1) := by decide +kernel
theorem dX12_isSmall_2 : decode cX12_isSmall 2 = .ok (.ldc2_w 219, 3) := by decide +kernel
theorem dX12_isSmall_5 : decode cX12_isSmall 5 = .ok (.ldc2_w 221, 3) := by decide +kernel
theorem dX12_isSmall_8 : decode cX12_isSmall 8 = .ok (.invokestatic 60, 3) := by decide +kernel
theorem dX12_isSmall_11 : decode cX12_isSmall 11 = .ok (.ireturn, 1) := by decide +kernel
theorem dX12_isFigure_0 : decode cX12_isFigure 0 = .ok (.iload_n 0, 1) := by decide +kernel
theorem dX12_isFigure_1 : decode cX12_isFigure 1 = .ok (.i2l, 1) := by decide +kernel
theorem dX12_isFigure_2 : decode cX12_isFigure 2 = .ok (.ldc2_w 223, 3) := by decide +kernel
theorem dX12_isFigure_5 : decode cX12_isFigure 5 = .ok (.ldc2_w 225, 3) := by decide +kernel
theorem dX12_isFigure_8 : decode cX12_isFigure 8 = .ok (.invokestatic 60, 3) := by decide +kernel
theorem dX12_isFigure_11 : decode cX12_isFigure 11 = .ok (.ireturn, 1) := by decide +kernel
theorem dX12_look_0 : decode cX12_look 0 = .ok (.aload_n 0, 1) := by decide +kernel
theorem dX12_look_1 : decode cX12_look 1 = .ok (.iload_n 1, 1) := by decide +kernel
theorem dX12_look_2 : decode cX12_look 2 = .ok (.putfield 227, 3) := by decide +kernel
theorem dX12_look_5 : decode cX12_look 5 = .ok (.aload_n 0, 1) := by decide +kernel
theorem dX12_look_6 : decode cX12_look 6 = .ok (.getfield 227, 3) := by decide +kernel
theorem dX12_look_9 : decode cX12_look 9 = .ok (.aload_n 0, 1) := by decide +kernel
theorem dX12_look_10 : decode cX12_look 10 = .ok (.getfield 214, 3) := by decide +kernel
theorem dX12_look_13 : decode cX12_look 13 = .ok (.if_icmp .ge 30, 3) := by decide +kernel
theorem dX12_look_16 : decode cX12_look 16 = .ok (.aload_n 0, 1) := by decide +kernel
theorem dX12_look_17 : decode cX12_look 17 = .ok (.getfield 45, 3) := by decide +kernel
theorem dX12_look_20 : decode cX12_look 20 = .ok (.aload_n 0, 1) := by decide +kernel
theorem dX12_look_21 : decode cX12_look 21 = .ok (.getfield 227, 3) := by decide +kernel
theorem dX12_look_24 : decode cX12_look 24 = .ok (.iaload, 1) := by decide +kernel
theorem dX12_look_25 : decode cX12_look 25 = .ok (.bipush 32, 2) := by decide +kernel
theorem dX12_look_27 : decode cX12_look 27 = .ok (.if_icmp .ne 16, 3) := by decide +kernel
theorem dX12_look_30 : decode cX12_look 30 = .ok (.aload_n 0, 1) := by decide +kernel
theorem dX12_look_31 : decode cX12_look 31 = .ok (.dup, 1) := by decide +kernel
theorem dX12_look_32 : decode cX12_look 32 = .ok (.getfield 227, 3) := by decide +kernel
theorem dX12_look_35 : decode cX12_look 35 = .ok (.iconst 1, 1) := by decide +kernel
theorem dX12_look_36 : decode cX12_look 36 = .ok (.iadd, 1) := by decide +kernel
theorem dX12_look_37 : decode cX12_look 37 = .ok (.putfield 227, 3) := by decide +kernel
theorem dX12_look_40 : decode cX12_look 40 = .ok (.goto (-35), 3) := by decide +kernel
theorem dX12_look_43 : decode cX12_look 43 = .ok (.aload_n 0, 1) := by decide +kernel
theorem dX12_look_44 : decode cX12_look 44 = .ok (.iconst 0, 1) := by decide +kernel
theorem dX12_look_45 : decode cX12_look 45 = .ok (.putfield 230, 3) := by decide +kernel
theorem dX12_look_48 : decode cX12_look 48 = .ok (.aload_n 0, 1) := by decide +kernel
theorem dX12_look_49 : decode cX12_look 49 = .ok (.iconst 0, 1) := by decide +kernel
theorem dX12_look_50 : decode cX12_look 50 = .ok (.putfield 233, 3) := by decide +kernel
theorem dX12_look_53 : decode cX12_look 53 = .ok (.aload_n 0, 1) := by decide +kernel
theorem dX12_look_54 : decode cX12_look 54 = .ok (.iconst 0, 1) := by decide +kernel
theorem dX12_look_55 : decode cX12_look 55 = .ok (.putfield 236, 3) := by decide +kernel
theorem dX12_look_58 : decode cX12_look 58 = .ok (.aload_n 0, 1) := by decide +kernel
theorem dX12_look_59 : decode cX12_look 59 = .ok (.getfield 227, 3) := by decide +kernel
theorem dX12_look_62 : decode cX12_look 62 = .ok (.aload_n 0, 1) := by decide +kernel
theorem dX12_look_63 : decode cX12_look 63 = .ok (.getfield 214, 3) := by decide +kernel
theorem dX12_look_66 : decode cX12_look 66 = .ok (.if_icmp .ne 4, 3) := by decide +kernel
theorem dX12_look_69 : decode cX12_look 69 = .ok (.return_, 1) := by decide +kernel
theorem dX12_look_70 : decode cX12_look 70 = .ok (.aload_n 0, 1) := by decide +kernel
theorem dX12_look_71 : decode cX12_look 71 = .ok (.getfield 45, 3) := by decide +kernel
theorem dX12_look_74 : decode cX12_look 74 = .ok (.aload_n 0, 1) := by decide +kernel
theorem dX12_look_75 : decode cX12_look 75 = .ok (.getfield 227, 3) := by decide +kernel
theorem dX12_look_78 : decode cX12_look 78 = .ok (.iaload, 1) := by decide +kernel
theorem dX12_look_79 : decode cX12_look 79 = .ok (.istore_n 2, 1) := by decide +kernel
theorem dX12_look_80 : decode cX12_look 80 = .ok (.aload_n 0, 1) := by decide +kernel
theorem dX12_look_81 : decode cX12_look 81 = .ok (.iload_n 2, 1) := by decide +kernel
theorem dX12_look_82 : decode cX12_look 82 = .ok (.invokestatic 239, 3) := by decide +kernel
theorem dX12_look_85 : decode cX12_look 85 = .ok (.ifCond .eq 7, 3) := by decide +kernel
theorem dX12_look_88 : decode cX12_look 88 = .ok (.iconst 1, 1) := by decide +kernel
theorem dX12_look_89 : decode cX12_look 89 = .ok (.goto 25, 3) := by decide +kernel
theorem dX12_look_92 : decode cX12_look 92 = .ok (.iload_n 2, 1) := by decide +kernel
theorem dX12_look_93 : decode cX12_look 93 = .ok (.invokestatic 242, 3) := by decide +kernel
theorem dX12_look_96 : decode cX12_look 96 = .ok (.ifCond .eq 7, 3) := by decide +kernel
theorem dX12_look_99 : decode cX12_look 99 = .ok (.iconst 2, 1) := by decide +kernel
theorem dX12_look_100 : decode cX12_look 100 = .ok (.goto 14, 3) := by decide +kernel
theorem dX12_look_103 : decode cX12_look 103 = .ok (.iload_n 2, 1) := by decide +kernel
theorem dX12_look_104 : decode cX12_look 104 = .ok (.bipush 59, 2) := by decide +kernel
theorem dX12_look_106 : decode cX12_look 106 = .ok (.if_icmp .ne 7, 3) := by decide +kernel
theorem dX12_look_109 : decode cX12_look 109 = .ok (.iconst 3, 1) := by decide +kernel
theorem dX12_look_110 : decode cX12_look 110 = .ok (.goto 4, 3) := by decide +kernel
theorem dX12_look_113 : decode cX12_look 113 = .ok (.iconst 4, 1) := by decide +kernel
theorem dX12_look_114 : decode cX12_look 114 = .ok (.putfield 233, 3) := by decide +kernel
theorem dX12_look_117 : decode cX12_look 117 = .ok (.aload_n 0, 1) := by decide +kernel
theorem dX12_look_118 : decode cX12_look 118 = .ok (.iconst 1, 1) := by decide +kernel
theorem dX12_look_119 : decode cX12_look 119 = .ok (.putfield 230, 3) := by decide +kernel
theorem dX12_look_122 : decode cX12_look 122 = .ok (.aload_n 0, 1) := by decide +kernel
theorem dX12_look_123 : decode cX12_look 123 = .ok (.getfield 233, 3) := by decide +kernel
theorem dX12_look_126 : decode cX12_look 126 = .ok (.iconst 3, 1) := by decide +kernel
theorem dX12_look_127 : decode cX12_look 127 = .ok (.if_icmp .ge 7, 3) := by decide +kernel
theorem dX12_look_130 : decode cX12_look 130 = .ok (.iconst 1, 1) := by decide +kernel
theorem dX12_look_131 : decode cX12_look 131 = .ok (.goto 4, 3) := by decide +kernel
theorem dX12_look_134 : decode cX12_look 134 = .ok (.iconst 0, 1) := by decide +kernel
theorem dX12_look_135 : decode cX12_look 135 = .ok (.istore_n 3, 1) := by decide +kernel
theorem dX12_look_136 : decode cX12_look 136 = .ok (.iload_n 3, 1) := by decide +kernel
theorem dX12_look_137 : decode cX12_look 137 = .ok (.ifCond .eq 78, 3) := by decide +kernel
theorem dX12_look_140 : decode cX12_look 140 = .ok (.aload_n 0, 1) := by decide +kernel
theorem dX12_look_141 : decode cX12_look 141 = .ok (.getfield 227, 3) := by decide +kernel
