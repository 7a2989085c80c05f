theorem dX12_waysSplit_44 : decode cX12_waysSplit 44 = .ok (.lreturn, 1) := by decide +kernel
theorem dX12_best_0 : decode cX12_best 0 = .ok (.iload_n 1, 1) := by decide +kernel
theorem dX12_best_1 : decode cX12_best 1 = .ok (.iconst (-1), 1) := by decide +kernel
theorem dX12_best_2 : decode cX12_best 2 = .ok (.if_icmp .eq 8, 3) := by decide +kernel
theorem dX12_best_5 : decode cX12_best 5 = .ok (.iload_n 2, 1) := by decide +kernel
theorem dX12_best_6 : decode cX12_best 6 = .ok (.iconst (-1), 1) := by decide +kernel
theorem dX12_best_7 : decode cX12_best 7 = .ok (.if_icmp .ne 9, 3) := by decide +kernel
theorem dX12_best_10 : decode cX12_best 10 = .ok (.iload_n 1, 1) := by decide +kernel
theorem dX12_best_11 : decode cX12_best 11 = .ok (.iload_n 2, 1) := by decide +kernel
theorem dX12_best_12 : decode cX12_best 12 = .ok (.invokestatic 327, 3) := by decide +kernel
theorem dX12_best_15 : decode cX12_best 15 = .ok (.ireturn, 1) := by decide +kernel
theorem dX12_best_16 : decode cX12_best 16 = .ok (.iload_n 3, 1) := by decide +kernel
theorem dX12_best_17 : decode cX12_best 17 = .ok (.ifCond .eq 11, 3) := by decide +kernel
theorem dX12_best_20 : decode cX12_best 20 = .ok (.iload_n 1, 1) := by decide +kernel
theorem dX12_best_21 : decode cX12_best 21 = .ok (.iload_n 2, 1) := by decide +kernel
theorem dX12_best_22 : decode cX12_best 22 = .ok (.invokestatic 327, 3) := by decide +kernel
theorem dX12_best_25 : decode cX12_best 25 = .ok (.goto 8, 3) := by decide +kernel
theorem dX12_best_28 : decode cX12_best 28 = .ok (.iload_n 1, 1) := by decide +kernel
theorem dX12_best_29 : decode cX12_best 29 = .ok (.iload_n 2, 1) := by decide +kernel
theorem dX12_best_30 : decode cX12_best 30 = .ok (.invokestatic 330, 3) := by decide +kernel
theorem dX12_best_33 : decode cX12_best 33 = .ok (.ireturn, 1) := by decide +kernel
theorem dX12_both_0 : decode cX12_both 0 = .ok (.iload_n 0, 1) := by decide +kernel
theorem dX12_both_1 : decode cX12_both 1 = .ok (.iconst (-1), 1) := by decide +kernel
theorem dX12_both_2 : decode cX12_both 2 = .ok (.if_icmp .eq 8, 3) := by decide +kernel
theorem dX12_both_5 : decode cX12_both 5 = .ok (.iload_n 1, 1) := by decide +kernel
theorem dX12_both_6 : decode cX12_both 6 = .ok (.iconst (-1), 1) := by decide +kernel
theorem dX12_both_7 : decode cX12_both 7 = .ok (.if_icmp .ne 7, 3) := by decide +kernel
theorem dX12_both_10 : decode cX12_both 10 = .ok (.iconst (-1), 1) := by decide +kernel
theorem dX12_both_11 : decode cX12_both 11 = .ok (.goto 6, 3) := by decide +kernel
theorem dX12_both_14 : decode cX12_both 14 = .ok (.iload_n 0, 1) := by decide +kernel
theorem dX12_both_15 : decode cX12_both 15 = .ok (.iload_n 1, 1) := by decide +kernel
theorem dX12_both_16 : decode cX12_both 16 = .ok (.iadd, 1) := by decide +kernel
theorem dX12_both_17 : decode cX12_both 17 = .ok (.ireturn, 1) := by decide +kernel
theorem dX12_stepsIn_0 : decode cX12_stepsIn 0 = .ok (.aload_n 0, 1) := by decide +kernel
theorem dX12_stepsIn_1 : decode cX12_stepsIn 1 = .ok (.iload_n 1, 1) := by decide +kernel
theorem dX12_stepsIn_2 : decode cX12_stepsIn 2 = .ok (.iload_n 2, 1) := by decide +kernel
theorem dX12_stepsIn_3 : decode cX12_stepsIn 3 = .ok (.iload_n 3, 1) := by decide +kernel
theorem dX12_stepsIn_4 : decode cX12_stepsIn 4 = .ok (.iload 4, 2) := by decide +kernel
theorem dX12_stepsIn_6 : decode cX12_stepsIn 6 = .ok (.iload 5, 2) := by decide +kernel
theorem dX12_stepsIn_8 : decode cX12_stepsIn 8 = .ok (.iload 6, 2) := by decide +kernel
theorem dX12_stepsIn_10 : decode cX12_stepsIn 10 = .ok (.invokevirtual 292, 3) := by decide +kernel
theorem dX12_stepsIn_13 : decode cX12_stepsIn 13 = .ok (.lconst 0, 1) := by decide +kernel
theorem dX12_stepsIn_14 : decode cX12_stepsIn 14 = .ok (.lcmp, 1) := by decide +kernel
theorem dX12_stepsIn_15 : decode cX12_stepsIn 15 = .ok (.ifCond .ne 5, 3) := by decide +kernel
theorem dX12_stepsIn_18 : decode cX12_stepsIn 18 = .ok (.iconst (-1), 1) := by decide +kernel
theorem dX12_stepsIn_19 : decode cX12_stepsIn 19 = .ok (.ireturn, 1) := by decide +kernel
theorem dX12_stepsIn_20 : decode cX12_stepsIn 20 = .ok (.iload_n 1, 1) := by decide +kernel
theorem dX12_stepsIn_21 : decode cX12_stepsIn 21 = .ok (.iload_n 2, 1) := by decide +kernel
theorem dX12_stepsIn_22 : decode cX12_stepsIn 22 = .ok (.aload_n 0, 1) := by decide +kernel
theorem dX12_stepsIn_23 : decode cX12_stepsIn 23 = .ok (.iload_n 3, 1) := by decide +kernel
theorem dX12_stepsIn_24 : decode cX12_stepsIn 24 = .ok (.iload 4, 2) := by decide +kernel
theorem dX12_stepsIn_26 : decode cX12_stepsIn 26 = .ok (.iload 5, 2) := by decide +kernel
theorem dX12_stepsIn_28 : decode cX12_stepsIn 28 = .ok (.iload 6, 2) := by decide +kernel
theorem dX12_stepsIn_30 : decode cX12_stepsIn 30 = .ok (.invokevirtual 278, 3) := by decide +kernel
theorem dX12_stepsIn_33 : decode cX12_stepsIn 33 = .ok (.invokestatic 281, 3) := by decide +kernel
theorem dX12_stepsIn_36 : decode cX12_stepsIn 36 = .ok (.istore 8, 2) := by decide +kernel
theorem dX12_stepsIn_38 : decode cX12_stepsIn 38 = .ok (.iload 7, 2) := by decide +kernel
theorem dX12_stepsIn_40 : decode cX12_stepsIn 40 = .ok (.ifCond .eq 10, 3) := by decide +kernel
theorem dX12_stepsIn_43 : decode cX12_stepsIn 43 = .ok (.aload_n 0, 1) := by decide +kernel
theorem dX12_stepsIn_44 : decode cX12_stepsIn 44 = .ok (.getfield 208, 3) := by decide +kernel
theorem dX12_stepsIn_47 : decode cX12_stepsIn 47 = .ok (.goto 7, 3) := by decide +kernel
theorem dX12_stepsIn_50 : decode cX12_stepsIn 50 = .ok (.aload_n 0, 1) := by decide +kernel
theorem dX12_stepsIn_51 : decode cX12_stepsIn 51 = .ok (.getfield 205, 3) := by decide +kernel
theorem dX12_stepsIn_54 : decode cX12_stepsIn 54 = .ok (.astore 9, 2) := by decide +kernel
theorem dX12_stepsIn_56 : decode cX12_stepsIn 56 = .ok (.aload 9, 2) := by decide +kernel
theorem dX12_stepsIn_58 : decode cX12_stepsIn 58 = .ok (.iload 8, 2) := by decide +kernel
theorem dX12_stepsIn_60 : decode cX12_stepsIn 60 = .ok (.iaload, 1) := by decide +kernel
theorem dX12_stepsIn_61 : decode cX12_stepsIn 61 = .ok (.bipush (-9), 2) := by decide +kernel
theorem dX12_stepsIn_63 : decode cX12_stepsIn 63 = .ok (.if_icmp .ne 53, 3) := by decide +kernel
theorem dX12_stepsIn_66 : decode cX12_stepsIn 66 = .ok (.aload 9, 2) := by decide +kernel
theorem dX12_stepsIn_68 : decode cX12_stepsIn 68 = .ok (.iload 8, 2) := by decide +kernel
theorem dX12_stepsIn_70 : decode cX12_stepsIn 70 = .ok (.iload_n 1, 1) := by decide +kernel
theorem dX12_stepsIn_71 : decode cX12_stepsIn 71 = .ok (.iconst 1, 1) := by decide +kernel
theorem dX12_stepsIn_72 : decode cX12_stepsIn 72 = .ok (.if_icmp .ne 29, 3) := by decide +kernel
theorem dX12_stepsIn_75 : decode cX12_stepsIn 75 = .ok (.aload_n 0, 1) := by decide +kernel
theorem dX12_stepsIn_76 : decode cX12_stepsIn 76 = .ok (.getfield 98, 3) := by decide +kernel
theorem dX12_stepsIn_79 : decode cX12_stepsIn 79 = .ok (.iload_n 2, 1) := by decide +kernel
theorem dX12_stepsIn_80 : decode cX12_stepsIn 80 = .ok (.iaload, 1) := by decide +kernel
theorem dX12_stepsIn_81 : decode cX12_stepsIn 81 = .ok (.ifCond .ne 20, 3) := by decide +kernel
theorem dX12_stepsIn_84 : decode cX12_stepsIn 84 = .ok (.aload_n 0, 1) := by decide +kernel
theorem dX12_stepsIn_85 : decode cX12_stepsIn 85 = .ok (.iload_n 2, 1) := by decide +kernel
theorem dX12_stepsIn_86 : decode cX12_stepsIn 86 = .ok (.iload_n 3, 1) := by decide +kernel
theorem dX12_stepsIn_87 : decode cX12_stepsIn 87 = .ok (.iload 4, 2) := by decide +kernel
theorem dX12_stepsIn_89 : decode cX12_stepsIn 89 = .ok (.iload 5, 2) := by decide +kernel
theorem dX12_stepsIn_91 : decode cX12_stepsIn 91 = .ok (.iload 6, 2) := by decide +kernel
theorem dX12_stepsIn_93 : decode cX12_stepsIn 93 = .ok (.iload 7, 2) := by decide +kernel
theorem dX12_stepsIn_95 : decode cX12_stepsIn 95 = .ok (.invokevirtual 332, 3) := by decide +kernel
theorem dX12_stepsIn_98 : decode cX12_stepsIn 98 = .ok (.goto 17, 3) := by decide +kernel
theorem dX12_stepsIn_101 : decode cX12_stepsIn 101 = .ok (.aload_n 0, 1) := by decide +kernel
theorem dX12_stepsIn_102 : decode cX12_stepsIn 102 = .ok (.iload_n 2, 1) := by decide +kernel
theorem dX12_stepsIn_103 : decode cX12_stepsIn 103 = .ok (.iload_n 3, 1) := by decide +kernel
theorem dX12_stepsIn_104 : decode cX12_stepsIn 104 = .ok (.iload 4, 2) := by decide +kernel
theorem dX12_stepsIn_106 : decode cX12_stepsIn 106 = .ok (.iload 5, 2) := by decide +kernel
theorem dX12_stepsIn_108 : decode cX12_stepsIn 108 = .ok (.iload 6, 2) := by decide +kernel
theorem dX12_stepsIn_110 : decode cX12_stepsIn 110 = .ok (.iload 7, 2) := by decide +kernel
theorem dX12_stepsIn_112 : decode cX12_stepsIn 112 = .ok (.invokevirtual 336, 3) := by decide +kernel
theorem dX12_stepsIn_115 : decode cX12_stepsIn 115 = .ok (.iastore, 1) := by decide +kernel
theorem dX12_stepsIn_116 : decode cX12_stepsIn 116 = .ok (.aload 9, 2) := by decide +kernel
theorem dX12_stepsIn_118 : decode cX12_stepsIn 118 = .ok (.iload 8, 2) := by decide +kernel
theorem dX12_stepsIn_120 : decode cX12_stepsIn 120 = .ok (.iaload, 1) := by decide +kernel
theorem dX12_stepsIn_121 : decode cX12_stepsIn 121 = .ok (.ireturn, 1) := by decide +kernel
theorem dX12_stepsAbove_0 : decode cX12_stepsAbove 0 = .ok (.aload_n 0, 1) := by decide +kernel
theorem dX12_stepsAbove_1 : decode cX12_stepsAbove 1 = .ok (.getfield 104, 3) := by decide +kernel
theorem dX12_stepsAbove_4 : decode cX12_stepsAbove 4 = .ok (.iload_n 1, 1) := by decide +kernel
theorem dX12_stepsAbove_5 : decode cX12_stepsAbove 5 = .ok (.iaload, 1) := by decide +kernel
theorem dX12_stepsAbove_6 : decode cX12_stepsAbove 6 = .ok (.iconst 2, 1) := by decide +kernel
theorem dX12_stepsAbove_7 : decode cX12_stepsAbove 7 = .ok (.if_icmp .ne 7, 3) := by decide +kernel
theorem dX12_stepsAbove_10 : decode cX12_stepsAbove 10 = .ok (.iconst (-1), 1) := by decide +kernel
theorem dX12_stepsAbove_11 : decode cX12_stepsAbove 11 = .ok (.goto 17, 3) := by decide +kernel
theorem dX12_stepsAbove_14 : decode cX12_stepsAbove 14 = .ok (.aload_n 0, 1) := by decide +kernel
theorem dX12_stepsAbove_15 : decode cX12_stepsAbove 15 = .ok (.iconst 0, 1) := by decide +kernel
theorem dX12_stepsAbove_16 : decode cX12_stepsAbove 16 = .ok (.iload_n 1, 1) := by decide +kernel
theorem dX12_stepsAbove_17 : decode cX12_stepsAbove 17 = .ok (.iload_n 2, 1) := by decide +kernel
theorem dX12_stepsAbove_18 : decode cX12_stepsAbove 18 = .ok (.iload_n 3, 1) := by decide +kernel
theorem dX12_stepsAbove_19 : decode cX12_stepsAbove 19 = .ok (.iload 4, 2) := by decide +kernel
theorem dX12_stepsAbove_21 : decode cX12_stepsAbove 21 = .ok (.iload 5, 2) := by decide +kernel
theorem dX12_stepsAbove_23 : decode cX12_stepsAbove 23 = .ok (.iload 6, 2) := by decide +kernel
theorem dX12_stepsAbove_25 : decode cX12_stepsAbove 25 = .ok (.invokevirtual 339, 3) := by decide +kernel
theorem dX12_stepsAbove_28 : decode cX12_stepsAbove 28 = .ok (.istore 7, 2) := by decide +kernel
theorem dX12_stepsAbove_30 : decode cX12_stepsAbove 30 = .ok (.iconst 0, 1) := by decide +kernel
theorem dX12_stepsAbove_31 : decode cX12_stepsAbove 31 = .ok (.istore 8, 2) := by decide +kernel
theorem dX12_stepsAbove_33 : decode cX12_stepsAbove 33 = .ok (.iload 8, 2) := by decide +kernel
theorem dX12_stepsAbove_35 : decode cX12_stepsAbove 35 = .ok (.aload_n 0, 1) := by decide +kernel
theorem dX12_stepsAbove_36 : decode cX12_stepsAbove 36 = .ok (.getfield 11, 3) := by decide +kernel
theorem dX12_stepsAbove_39 : decode cX12_stepsAbove 39 = .ok (.if_icmp .ge 166, 3) := by decide +kernel
theorem dX12_stepsAbove_42 : decode cX12_stepsAbove 42 = .ok (.aload_n 0, 1) := by decide +kernel
theorem dX12_stepsAbove_43 : decode cX12_stepsAbove 43 = .ok (.getfield 104, 3) := by decide +kernel
theorem dX12_stepsAbove_46 : decode cX12_stepsAbove 46 = .ok (.iload_n 1, 1) := by decide +kernel
theorem dX12_stepsAbove_47 : decode cX12_stepsAbove 47 = .ok (.iaload, 1) := by decide +kernel
theorem dX12_stepsAbove_48 : decode cX12_stepsAbove 48 = .ok (.iconst 1, 1) := by decide +kernel
theorem dX12_stepsAbove_49 : decode cX12_stepsAbove 49 = .ok (.if_icmp .eq 156, 3) := by decide +kernel
theorem dX12_stepsAbove_52 : decode cX12_stepsAbove 52 = .ok (.aload_n 0, 1) := by decide +kernel
theorem dX12_stepsAbove_53 : decode cX12_stepsAbove 53 = .ok (.iload 8, 2) := by decide +kernel
theorem dX12_stepsAbove_55 : decode cX12_stepsAbove 55 = .ok (.aload_n 0, 1) := by decide +kernel
theorem dX12_stepsAbove_56 : decode cX12_stepsAbove 56 = .ok (.getfield 101, 3) := by decide +kernel
theorem dX12_stepsAbove_59 : decode cX12_stepsAbove 59 = .ok (.iload_n 1, 1) := by decide +kernel
theorem dX12_stepsAbove_60 : decode cX12_stepsAbove 60 = .ok (.iaload, 1) := by decide +kernel
theorem dX12_stepsAbove_61 : decode cX12_stepsAbove 61 = .ok (.iconst 1, 1) := by decide +kernel
theorem dX12_stepsAbove_62 : decode cX12_stepsAbove 62 = .ok (.invokevirtual 296, 3) := by decide +kernel
theorem dX12_stepsAbove_65 : decode cX12_stepsAbove 65 = .ok (.ifCond .ne 6, 3) := by decide +kernel
theorem dX12_stepsAbove_68 : decode cX12_stepsAbove 68 = .ok (.goto 131, 3) := by decide +kernel
theorem dX12_stepsAbove_71 : decode cX12_stepsAbove 71 = .ok (.iload_n 2, 1) := by decide +kernel
theorem dX12_stepsAbove_72 : decode cX12_stepsAbove 72 = .ok (.istore 9, 2) := by decide +kernel
theorem dX12_stepsAbove_74 : decode cX12_stepsAbove 74 = .ok (.iload 9, 2) := by decide +kernel
theorem dX12_stepsAbove_76 : decode cX12_stepsAbove 76 = .ok (.iload 4, 2) := by decide +kernel
theorem dX12_stepsAbove_78 : decode cX12_stepsAbove 78 = .ok (.iconst (-1), 1) := by decide +kernel
theorem dX12_stepsAbove_79 : decode cX12_stepsAbove 79 = .ok (.if_icmp .ne 7, 3) := by decide +kernel
theorem dX12_stepsAbove_82 : decode cX12_stepsAbove 82 = .ok (.iload_n 3, 1) := by decide +kernel
theorem dX12_stepsAbove_83 : decode cX12_stepsAbove 83 = .ok (.goto 5, 3) := by decide +kernel
theorem dX12_stepsAbove_86 : decode cX12_stepsAbove 86 = .ok (.iload 4, 2) := by decide +kernel
theorem dX12_stepsAbove_88 : decode cX12_stepsAbove 88 = .ok (.if_icmp .gt 111, 3) := by decide +kernel
theorem dX12_stepsAbove_91 : decode cX12_stepsAbove 91 = .ok (.iload 4, 2) := by decide +kernel
theorem dX12_stepsAbove_93 : decode cX12_stepsAbove 93 = .ok (.iconst (-1), 1) := by decide +kernel
theorem dX12_stepsAbove_94 : decode cX12_stepsAbove 94 = .ok (.if_icmp .ne 8, 3) := by decide +kernel
theorem dX12_stepsAbove_97 : decode cX12_stepsAbove 97 = .ok (.iload 9, 2) := by decide +kernel
theorem dX12_stepsAbove_99 : decode cX12_stepsAbove 99 = .ok (.goto 5, 3) := by decide +kernel
theorem dX12_stepsAbove_102 : decode cX12_stepsAbove 102 = .ok (.iload 5, 2) := by decide +kernel
theorem dX12_stepsAbove_104 : decode cX12_stepsAbove 104 = .ok (.istore 10, 2) := by decide +kernel
theorem dX12_stepsAbove_106 : decode cX12_stepsAbove 106 = .ok (.iload 10, 2) := by decide +kernel
theorem dX12_stepsAbove_108 : decode cX12_stepsAbove 108 = .ok (.iload_n 3, 1) := by decide +kernel
theorem dX12_stepsAbove_109 : decode cX12_stepsAbove 109 = .ok (.if_icmp .gt 84, 3) := by decide +kernel
theorem dX12_stepsAbove_112 : decode cX12_stepsAbove 112 = .ok (.aload_n 0, 1) := by decide +kernel
theorem dX12_stepsAbove_113 : decode cX12_stepsAbove 113 = .ok (.iload_n 1, 1) := by decide +kernel
theorem dX12_stepsAbove_114 : decode cX12_stepsAbove 114 = .ok (.iload 8, 2) := by decide +kernel
theorem dX12_stepsAbove_116 : decode cX12_stepsAbove 116 = .ok (.iload 9, 2) := by decide +kernel
theorem dX12_stepsAbove_118 : decode cX12_stepsAbove 118 = .ok (.iload 10, 2) := by decide +kernel
theorem dX12_stepsAbove_120 : decode cX12_stepsAbove 120 = .ok (.iload_n 2, 1) := by decide +kernel
theorem dX12_stepsAbove_121 : decode cX12_stepsAbove 121 = .ok (.iload_n 3, 1) := by decide +kernel
theorem dX12_stepsAbove_122 : decode cX12_stepsAbove 122 = .ok (.iload 4, 2) := by decide +kernel
theorem dX12_stepsAbove_124 : decode cX12_stepsAbove 124 = .ok (.iload 5, 2) := by decide +kernel
theorem dX12_stepsAbove_126 : decode cX12_stepsAbove 126 = .ok (.invokevirtual 300, 3) := by decide +kernel
theorem dX12_stepsAbove_129 : decode cX12_stepsAbove 129 = .ok (.lconst 0, 1) := by decide +kernel
theorem dX12_stepsAbove_130 : decode cX12_stepsAbove 130 = .ok (.lcmp, 1) := by decide +kernel
theorem dX12_stepsAbove_131 : decode cX12_stepsAbove 131 = .ok (.ifCond .ne 6, 3) := by decide +kernel
theorem dX12_stepsAbove_134 : decode cX12_stepsAbove 134 = .ok (.goto 53, 3) := by decide +kernel
theorem dX12_stepsAbove_137 : decode cX12_stepsAbove 137 = .ok (.aload_n 0, 1) := by decide +kernel
theorem dX12_stepsAbove_138 : decode cX12_stepsAbove 138 = .ok (.iload 7, 2) := by decide +kernel
theorem dX12_stepsAbove_140 : decode cX12_stepsAbove 140 = .ok (.iconst 1, 1) := by decide +kernel
theorem dX12_stepsAbove_141 : decode cX12_stepsAbove 141 = .ok (.aload_n 0, 1) := by decide +kernel
theorem dX12_stepsAbove_142 : decode cX12_stepsAbove 142 = .ok (.iconst 1, 1) := by decide +kernel
theorem dX12_stepsAbove_143 : decode cX12_stepsAbove 143 = .ok (.aload_n 0, 1) := by decide +kernel
theorem dX12_stepsAbove_144 : decode cX12_stepsAbove 144 = .ok (.iload 8, 2) := by decide +kernel
theorem dX12_stepsAbove_146 : decode cX12_stepsAbove 146 = .ok (.invokevirtual 268, 3) := by decide +kernel
theorem dX12_stepsAbove_149 : decode cX12_stepsAbove 149 = .ok (.iload_n 2, 1) := by decide +kernel
theorem dX12_stepsAbove_150 : decode cX12_stepsAbove 150 = .ok (.iload_n 3, 1) := by decide +kernel
theorem dX12_stepsAbove_151 : decode cX12_stepsAbove 151 = .ok (.iload 9, 2) := by decide +kernel
theorem dX12_stepsAbove_153 : decode cX12_stepsAbove 153 = .ok (.iload 10, 2) := by decide +kernel
theorem dX12_stepsAbove_155 : decode cX12_stepsAbove 155 = .ok (.iload 6, 2) := by decide +kernel
theorem dX12_stepsAbove_157 : decode cX12_stepsAbove 157 = .ok (.invokevirtual 339, 3) := by decide +kernel
theorem dX12_stepsAbove_160 : decode cX12_stepsAbove 160 = .ok (.iadd, 1) := by decide +kernel
theorem dX12_stepsAbove_161 : decode cX12_stepsAbove 161 = .ok (.aload_n 0, 1) := by decide +kernel
theorem dX12_stepsAbove_162 : decode cX12_stepsAbove 162 = .ok (.iconst 0, 1) := by decide +kernel
theorem dX12_stepsAbove_163 : decode cX12_stepsAbove 163 = .ok (.iload_n 1, 1) := by decide +kernel
theorem dX12_stepsAbove_164 : decode cX12_stepsAbove 164 = .ok (.iload 9, 2) := by decide +kernel
theorem dX12_stepsAbove_166 : decode cX12_stepsAbove 166 = .ok (.iload 10, 2) := by decide +kernel
theorem dX12_stepsAbove_168 : decode cX12_stepsAbove 168 = .ok (.iload 4, 2) := by decide +kernel
theorem dX12_stepsAbove_170 : decode cX12_stepsAbove 170 = .ok (.iload 5, 2) := by decide +kernel
theorem dX12_stepsAbove_172 : decode cX12_stepsAbove 172 = .ok (.iload 6, 2) := by decide +kernel
theorem dX12_stepsAbove_174 : decode cX12_stepsAbove 174 = .ok (.invokevirtual 339, 3) := by decide +kernel
theorem dX12_stepsAbove_177 : decode cX12_stepsAbove 177 = .ok (.invokestatic 343, 3) := by decide +kernel
theorem dX12_stepsAbove_180 : decode cX12_stepsAbove 180 = .ok (.iload 6, 2) := by decide +kernel
theorem dX12_stepsAbove_182 : decode cX12_stepsAbove 182 = .ok (.invokevirtual 346, 3) := by decide +kernel
theorem dX12_stepsAbove_185 : decode cX12_stepsAbove 185 = .ok (.istore 7, 2) := by decide +kernel
theorem dX12_stepsAbove_187 : decode cX12_stepsAbove 187 = .ok (.iinc 10 1, 3) := by decide +kernel
theorem dX12_stepsAbove_190 : decode cX12_stepsAbove 190 = .ok (.goto (-84), 3) := by decide +kernel
theorem dX12_stepsAbove_193 : decode cX12_stepsAbove 193 = .ok (.iinc 9 1, 3) := by decide +kernel
theorem dX12_stepsAbove_196 : decode cX12_stepsAbove 196 = .ok (.goto (-122), 3) := by decide +kernel
theorem dX12_stepsAbove_199 : decode cX12_stepsAbove 199 = .ok (.iinc 8 1, 3) := by decide +kernel
theorem dX12_stepsAbove_202 : decode cX12_stepsAbove 202 = .ok (.goto (-169), 3) := by decide +kernel
theorem dX12_stepsAbove_205 : decode cX12_stepsAbove 205 = .ok (.iload 7, 2) := by decide +kernel
theorem dX12_stepsAbove_207 : decode cX12_stepsAbove 207 = .ok (.ireturn, 1) := by decide +kernel
theorem dX12_stepsBelow_0 : decode cX12_stepsBelow 0 = .ok (.aload_n 0, 1) := by decide +kernel
theorem dX12_stepsBelow_1 : decode cX12_stepsBelow 1 = .ok (.getfield 98, 3) := by decide +kernel
theorem dX12_stepsBelow_4 : decode cX12_stepsBelow 4 = .ok (.iload_n 1, 1) := by decide +kernel
theorem dX12_stepsBelow_5 : decode cX12_stepsBelow 5 = .ok (.iaload, 1) := by decide +kernel
theorem dX12_stepsBelow_6 : decode cX12_stepsBelow 6 = .ok (.iconst 4, 1) := by decide +kernel
theorem dX12_stepsBelow_7 : decode cX12_stepsBelow 7 = .ok (.if_icmp .ne 82, 3) := by decide +kernel
theorem dX12_stepsBelow_10 : decode cX12_stepsBelow 10 = .ok (.iconst (-1), 1) := by decide +kernel
theorem dX12_stepsBelow_11 : decode cX12_stepsBelow 11 = .ok (.istore 7, 2) := by decide +kernel
theorem dX12_stepsBelow_13 : decode cX12_stepsBelow 13 = .ok (.iconst 0, 1) := by decide +kernel
theorem dX12_stepsBelow_14 : decode cX12_stepsBelow 14 = .ok (.istore 8, 2) := by decide +kernel
theorem dX12_stepsBelow_16 : decode cX12_stepsBelow 16 = .ok (.iload 8, 2) := by decide +kernel
theorem dX12_stepsBelow_18 : decode cX12_stepsBelow 18 = .ok (.aload_n 0, 1) := by decide +kernel
theorem dX12_stepsBelow_19 : decode cX12_stepsBelow 19 = .ok (.getfield 11, 3) := by decide +kernel
theorem dX12_stepsBelow_22 : decode cX12_stepsBelow 22 = .ok (.if_icmp .ge 64, 3) := by decide +kernel
theorem dX12_stepsBelow_25 : decode cX12_stepsBelow 25 = .ok (.aload_n 0, 1) := by decide +kernel
theorem dX12_stepsBelow_26 : decode cX12_stepsBelow 26 = .ok (.iload 8, 2) := by decide +kernel
theorem dX12_stepsBelow_28 : decode cX12_stepsBelow 28 = .ok (.aload_n 0, 1) := by decide +kernel
theorem dX12_stepsBelow_29 : decode cX12_stepsBelow 29 = .ok (.getfield 101, 3) := by decide +kernel
theorem dX12_stepsBelow_32 : decode cX12_stepsBelow 32 = .ok (.iload_n 1, 1) := by decide +kernel
theorem dX12_stepsBelow_33 : decode cX12_stepsBelow 33 = .ok (.iaload, 1) := by decide +kernel
theorem dX12_stepsBelow_34 : decode cX12_stepsBelow 34 = .ok (.iconst 0, 1) := by decide +kernel
theorem dX12_stepsBelow_35 : decode cX12_stepsBelow 35 = .ok (.invokevirtual 296, 3) := by decide +kernel
theorem dX12_stepsBelow_38 : decode cX12_stepsBelow 38 = .ok (.ifCond .eq 23, 3) := by decide +kernel
theorem dX12_stepsBelow_41 : decode cX12_stepsBelow 41 = .ok (.aload_n 0, 1) := by decide +kernel
theorem dX12_stepsBelow_42 : decode cX12_stepsBelow 42 = .ok (.iconst 1, 1) := by decide +kernel
theorem dX12_stepsBelow_43 : decode cX12_stepsBelow 43 = .ok (.aload_n 0, 1) := by decide +kernel
theorem dX12_stepsBelow_44 : decode cX12_stepsBelow 44 = .ok (.iload 8, 2) := by decide +kernel
theorem dX12_stepsBelow_46 : decode cX12_stepsBelow 46 = .ok (.invokevirtual 268, 3) := by decide +kernel
theorem dX12_stepsBelow_49 : decode cX12_stepsBelow 49 = .ok (.iload_n 2, 1) := by decide +kernel
theorem dX12_stepsBelow_50 : decode cX12_stepsBelow 50 = .ok (.iload_n 3, 1) := by decide +kernel
theorem dX12_stepsBelow_51 : decode cX12_stepsBelow 51 = .ok (.iconst (-1), 1) := by decide +kernel
theorem dX12_stepsBelow_52 : decode cX12_stepsBelow 52 = .ok (.iconst (-1), 1) := by decide +kernel
theorem dX12_stepsBelow_53 : decode cX12_stepsBelow 53 = .ok (.iload 6, 2) := by decide +kernel
theorem dX12_stepsBelow_55 : decode cX12_stepsBelow 55 = .ok (.invokevirtual 339, 3) := by decide +kernel
theorem dX12_stepsBelow_58 : decode cX12_stepsBelow 58 = .ok (.goto 4, 3) := by decide +kernel
theorem dX12_stepsBelow_61 : decode cX12_stepsBelow 61 = .ok (.iconst (-1), 1) := by decide +kernel
theorem dX12_stepsBelow_62 : decode cX12_stepsBelow 62 = .ok (.istore 9, 2) := by decide +kernel
theorem dX12_stepsBelow_64 : decode cX12_stepsBelow 64 = .ok (.aload_n 0, 1) := by decide +kernel
theorem dX12_stepsBelow_65 : decode cX12_stepsBelow 65 = .ok (.iload 7, 2) := by decide +kernel
theorem dX12_stepsBelow_67 : decode cX12_stepsBelow 67 = .ok (.iload 9, 2) := by decide +kernel
theorem dX12_stepsBelow_69 : decode cX12_stepsBelow 69 = .ok (.iconst 1, 1) := by decide +kernel
theorem dX12_stepsBelow_70 : decode cX12_stepsBelow 70 = .ok (.invokestatic 343, 3) := by decide +kernel
theorem dX12_stepsBelow_73 : decode cX12_stepsBelow 73 = .ok (.iload 6, 2) := by decide +kernel
theorem dX12_stepsBelow_75 : decode cX12_stepsBelow 75 = .ok (.invokevirtual 346, 3) := by decide +kernel
theorem dX12_stepsBelow_78 : decode cX12_stepsBelow 78 = .ok (.istore 7, 2) := by decide +kernel
theorem dX12_stepsBelow_80 : decode cX12_stepsBelow 80 = .ok (.iinc 8 1, 3) := by decide +kernel
theorem dX12_stepsBelow_83 : decode cX12_stepsBelow 83 = .ok (.goto (-67), 3) := by decide +kernel
theorem dX12_stepsBelow_86 : decode cX12_stepsBelow 86 = .ok (.iload 7, 2) := by decide +kernel
theorem dX12_stepsBelow_88 : decode cX12_stepsBelow 88 = .ok (.ireturn, 1) := by decide +kernel
theorem dX12_stepsBelow_89 : decode cX12_stepsBelow 89 = .ok (.aload_n 0, 1) := by decide +kernel
theorem dX12_stepsBelow_90 : decode cX12_stepsBelow 90 = .ok (.getfield 98, 3) := by decide +kernel
theorem dX12_stepsBelow_93 : decode cX12_stepsBelow 93 = .ok (.iload_n 1, 1) := by decide +kernel
theorem dX12_stepsBelow_94 : decode cX12_stepsBelow 94 = .ok (.iaload, 1) := by decide +kernel
theorem dX12_stepsBelow_95 : decode cX12_stepsBelow 95 = .ok (.ifCond .eq 5, 3) := by decide +kernel
theorem dX12_stepsBelow_98 : decode cX12_stepsBelow 98 = .ok (.iconst 0, 1) := by decide +kernel
theorem dX12_stepsBelow_99 : decode cX12_stepsBelow 99 = .ok (.ireturn, 1) := by decide +kernel
theorem dX12_stepsBelow_100 : decode cX12_stepsBelow 100 = .ok (.aload_n 0, 1) := by decide +kernel
theorem dX12_stepsBelow_101 : decode cX12_stepsBelow 101 = .ok (.getfield 110, 3) := by decide +kernel
theorem dX12_stepsBelow_104 : decode cX12_stepsBelow 104 = .ok (.iload_n 1, 1) := by decide +kernel
theorem dX12_stepsBelow_105 : decode cX12_stepsBelow 105 = .ok (.iaload, 1) := by decide +kernel
theorem dX12_stepsBelow_106 : decode cX12_stepsBelow 106 = .ok (.iconst (-1), 1) := by decide +kernel
theorem dX12_stepsBelow_107 : decode cX12_stepsBelow 107 = .ok (.if_icmp .ne 23, 3) := by decide +kernel
theorem dX12_stepsBelow_110 : decode cX12_stepsBelow 110 = .ok (.aload_n 0, 1) := by decide +kernel
theorem dX12_stepsBelow_111 : decode cX12_stepsBelow 111 = .ok (.iconst 1, 1) := by decide +kernel
theorem dX12_stepsBelow_112 : decode cX12_stepsBelow 112 = .ok (.aload_n 0, 1) := by decide +kernel
theorem dX12_stepsBelow_113 : decode cX12_stepsBelow 113 = .ok (.getfield 107, 3) := by decide +kernel
theorem dX12_stepsBelow_116 : decode cX12_stepsBelow 116 = .ok (.iload_n 1, 1) := by decide +kernel
theorem dX12_stepsBelow_117 : decode cX12_stepsBelow 117 = .ok (.iaload, 1) := by decide +kernel
theorem dX12_stepsBelow_118 : decode cX12_stepsBelow 118 = .ok (.iload_n 2, 1) := by decide +kernel
theorem dX12_stepsBelow_119 : decode cX12_stepsBelow 119 = .ok (.iload_n 3, 1) := by decide +kernel
theorem dX12_stepsBelow_120 : decode cX12_stepsBelow 120 = .ok (.iload 4, 2) := by decide +kernel
theorem dX12_stepsBelow_122 : decode cX12_stepsBelow 122 = .ok (.iload 5, 2) := by decide +kernel
theorem dX12_stepsBelow_124 : decode cX12_stepsBelow 124 = .ok (.iload 6, 2) := by decide +kernel
theorem dX12_stepsBelow_126 : decode cX12_stepsBelow 126 = .ok (.invokevirtual 339, 3) := by decide +kernel
theorem dX12_stepsBelow_129 : decode cX12_stepsBelow 129 = .ok (.ireturn, 1) := by decide +kernel
theorem dX12_stepsBelow_130 : decode cX12_stepsBelow 130 = .ok (.iconst (-1), 1) := by decide +kernel
theorem dX12_stepsBelow_131 : decode cX12_stepsBelow 131 = .ok (.istore 7, 2) := by decide +kernel
theorem dX12_stepsBelow_133 : decode cX12_stepsBelow 133 = .ok (.iload_n 2, 1) := by decide +kernel
theorem dX12_stepsBelow_134 : decode cX12_stepsBelow 134 = .ok (.istore 8, 2) := by decide +kernel
theorem dX12_stepsBelow_136 : decode cX12_stepsBelow 136 = .ok (.iload 8, 2) := by decide +kernel
theorem dX12_stepsBelow_138 : decode cX12_stepsBelow 138 = .ok (.iload_n 3, 1) := by decide +kernel
theorem dX12_stepsBelow_139 : decode cX12_stepsBelow 139 = .ok (.if_icmp .gt 145, 3) := by decide +kernel
theorem dX12_stepsBelow_142 : decode cX12_stepsBelow 142 = .ok (.aload_n 0, 1) := by decide +kernel
theorem dX12_stepsBelow_143 : decode cX12_stepsBelow 143 = .ok (.iload_n 1, 1) := by decide +kernel
theorem dX12_stepsBelow_144 : decode cX12_stepsBelow 144 = .ok (.iload_n 2, 1) := by decide +kernel
theorem dX12_stepsBelow_145 : decode cX12_stepsBelow 145 = .ok (.iload 8, 2) := by decide +kernel
theorem dX12_stepsBelow_147 : decode cX12_stepsBelow 147 = .ok (.iload_n 3, 1) := by decide +kernel
theorem dX12_stepsBelow_148 : decode cX12_stepsBelow 148 = .ok (.iload 4, 2) := by decide +kernel
theorem dX12_stepsBelow_150 : decode cX12_stepsBelow 150 = .ok (.iload 5, 2) := by decide +kernel
theorem dX12_stepsBelow_152 : decode cX12_stepsBelow 152 = .ok (.invokevirtual 314, 3) := by decide +kernel
theorem dX12_stepsBelow_155 : decode cX12_stepsBelow 155 = .ok (.lconst 0, 1) := by decide +kernel
theorem dX12_stepsBelow_156 : decode cX12_stepsBelow 156 = .ok (.lcmp, 1) := by decide +kernel
theorem dX12_stepsBelow_157 : decode cX12_stepsBelow 157 = .ok (.ifCond .ne 6, 3) := by decide +kernel
theorem dX12_stepsBelow_160 : decode cX12_stepsBelow 160 = .ok (.goto 118, 3) := by decide +kernel
theorem dX12_stepsBelow_163 : decode cX12_stepsBelow 163 = .ok (.aload_n 0, 1) := by decide +kernel
theorem dX12_stepsBelow_164 : decode cX12_stepsBelow 164 = .ok (.getfield 167, 3) := by decide +kernel
theorem dX12_stepsBelow_167 : decode cX12_stepsBelow 167 = .ok (.aload_n 0, 1) := by decide +kernel
theorem dX12_stepsBelow_168 : decode cX12_stepsBelow 168 = .ok (.getfield 107, 3) := by decide +kernel
theorem dX12_stepsBelow_171 : decode cX12_stepsBelow 171 = .ok (.iload_n 1, 1) := by decide +kernel
theorem dX12_stepsBelow_172 : decode cX12_stepsBelow 172 = .ok (.iaload, 1) := by decide +kernel
theorem dX12_stepsBelow_173 : decode cX12_stepsBelow 173 = .ok (.baload, 1) := by decide +kernel
theorem dX12_stepsBelow_174 : decode cX12_stepsBelow 174 = .ok (.istore 9, 2) := by decide +kernel
theorem dX12_stepsBelow_176 : decode cX12_stepsBelow 176 = .ok (.aload_n 0, 1) := by decide +kernel
theorem dX12_stepsBelow_177 : decode cX12_stepsBelow 177 = .ok (.getfield 167, 3) := by decide +kernel
theorem dX12_stepsBelow_180 : decode cX12_stepsBelow 180 = .ok (.aload_n 0, 1) := by decide +kernel
theorem dX12_stepsBelow_181 : decode cX12_stepsBelow 181 = .ok (.getfield 110, 3) := by decide +kernel
theorem dX12_stepsBelow_184 : decode cX12_stepsBelow 184 = .ok (.iload_n 1, 1) := by decide +kernel
theorem dX12_stepsBelow_185 : decode cX12_stepsBelow 185 = .ok (.iaload, 1) := by decide +kernel
theorem dX12_stepsBelow_186 : decode cX12_stepsBelow 186 = .ok (.baload, 1) := by decide +kernel
theorem dX12_stepsBelow_187 : decode cX12_stepsBelow 187 = .ok (.istore 10, 2) := by decide +kernel
theorem dX12_stepsBelow_189 : decode cX12_stepsBelow 189 = .ok (.aload_n 0, 1) := by decide +kernel
theorem dX12_stepsBelow_190 : decode cX12_stepsBelow 190 = .ok (.iload 7, 2) := by decide +kernel
theorem dX12_stepsBelow_192 : decode cX12_stepsBelow 192 = .ok (.aload_n 0, 1) := by decide +kernel
theorem dX12_stepsBelow_193 : decode cX12_stepsBelow 193 = .ok (.iconst 1, 1) := by decide +kernel
theorem dX12_stepsBelow_194 : decode cX12_stepsBelow 194 = .ok (.aload_n 0, 1) := by decide +kernel
theorem dX12_stepsBelow_195 : decode cX12_stepsBelow 195 = .ok (.getfield 107, 3) := by decide +kernel
theorem dX12_stepsBelow_198 : decode cX12_stepsBelow 198 = .ok (.iload_n 1, 1) := by decide +kernel
theorem dX12_stepsBelow_199 : decode cX12_stepsBelow 199 = .ok (.iaload, 1) := by decide +kernel
theorem dX12_stepsBelow_200 : decode cX12_stepsBelow 200 = .ok (.iload_n 2, 1) := by decide +kernel
theorem dX12_stepsBelow_201 : decode cX12_stepsBelow 201 = .ok (.iload 8, 2) := by decide +kernel
theorem dX12_stepsBelow_203 : decode cX12_stepsBelow 203 = .ok (.iload 9, 2) := by decide +kernel
theorem dX12_stepsBelow_205 : decode cX12_stepsBelow 205 = .ok (.ifCond .eq 8, 3) := by decide +kernel
theorem dX12_stepsBelow_208 : decode cX12_stepsBelow 208 = .ok (.iload 4, 2) := by decide +kernel
theorem dX12_stepsBelow_210 : decode cX12_stepsBelow 210 = .ok (.goto 4, 3) := by decide +kernel
theorem dX12_stepsBelow_213 : decode cX12_stepsBelow 213 = .ok (.iconst (-1), 1) := by decide +kernel
theorem dX12_stepsBelow_214 : decode cX12_stepsBelow 214 = .ok (.iload 9, 2) := by decide +kernel
theorem dX12_stepsBelow_216 : decode cX12_stepsBelow 216 = .ok (.ifCond .eq 8, 3) := by decide +kernel
theorem dX12_stepsBelow_219 : decode cX12_stepsBelow 219 = .ok (.iload 5, 2) := by decide +kernel
theorem dX12_stepsBelow_221 : decode cX12_stepsBelow 221 = .ok (.goto 4, 3) := by decide +kernel
theorem dX12_stepsBelow_224 : decode cX12_stepsBelow 224 = .ok (.iconst (-1), 1) := by decide +kernel
theorem dX12_stepsBelow_225 : decode cX12_stepsBelow 225 = .ok (.iload 6, 2) := by decide +kernel
theorem dX12_stepsBelow_227 : decode cX12_stepsBelow 227 = .ok (.invokevirtual 339, 3) := by decide +kernel
theorem dX12_stepsBelow_230 : decode cX12_stepsBelow 230 = .ok (.aload_n 0, 1) := by decide +kernel
theorem dX12_stepsBelow_231 : decode cX12_stepsBelow 231 = .ok (.iconst 1, 1) := by decide +kernel
theorem dX12_stepsBelow_232 : decode cX12_stepsBelow 232 = .ok (.aload_n 0, 1) := by decide +kernel
theorem dX12_stepsBelow_233 : decode cX12_stepsBelow 233 = .ok (.getfield 110, 3) := by decide +kernel
theorem dX12_stepsBelow_236 : decode cX12_stepsBelow 236 = .ok (.iload_n 1, 1) := by decide +kernel
theorem dX12_stepsBelow_237 : decode cX12_stepsBelow 237 = .ok (.iaload, 1) := by decide +kernel
theorem dX12_stepsBelow_238 : decode cX12_stepsBelow 238 = .ok (.iload 8, 2) := by decide +kernel
theorem dX12_stepsBelow_240 : decode cX12_stepsBelow 240 = .ok (.iload_n 3, 1) := by decide +kernel
theorem dX12_stepsBelow_241 : decode cX12_stepsBelow 241 = .ok (.iload 10, 2) := by decide +kernel
theorem dX12_stepsBelow_243 : decode cX12_stepsBelow 243 = .ok (.ifCond .eq 8, 3) := by decide +kernel
theorem dX12_stepsBelow_246 : decode cX12_stepsBelow 246 = .ok (.iload 4, 2) := by decide +kernel
theorem dX12_stepsBelow_248 : decode cX12_stepsBelow 248 = .ok (.goto 4, 3) := by decide +kernel
theorem dX12_stepsBelow_251 : decode cX12_stepsBelow 251 = .ok (.iconst (-1), 1) := by decide +kernel
theorem dX12_stepsBelow_252 : decode cX12_stepsBelow 252 = .ok (.iload 10, 2) := by decide +kernel
theorem dX12_stepsBelow_254 : decode cX12_stepsBelow 254 = .ok (.ifCond .eq 8, 3) := by decide +kernel
theorem dX12_stepsBelow_257 : decode cX12_stepsBelow 257 = .ok (.iload 5, 2) := by decide +kernel
theorem dX12_stepsBelow_259 : decode cX12_stepsBelow 259 = .ok (.goto 4, 3) := by decide +kernel
theorem dX12_stepsBelow_262 : decode cX12_stepsBelow 262 = .ok (.iconst (-1), 1) := by decide +kernel
theorem dX12_stepsBelow_263 : decode cX12_stepsBelow 263 = .ok (.iload 6, 2) := by decide +kernel
theorem dX12_stepsBelow_265 : decode cX12_stepsBelow 265 = .ok (.invokevirtual 339, 3) := by decide +kernel
theorem dX12_stepsBelow_268 : decode cX12_stepsBelow 268 = .ok (.invokestatic 343, 3) := by decide +kernel
theorem dX12_stepsBelow_271 : decode cX12_stepsBelow 271 = .ok (.iload 6, 2) := by decide +kernel
theorem dX12_stepsBelow_273 : decode cX12_stepsBelow 273 = .ok (.invokevirtual 346, 3) := by decide +kernel
theorem dX12_stepsBelow_276 : decode cX12_stepsBelow 276 = .ok (.istore 7, 2) := by decide +kernel
theorem dX12_stepsBelow_278 : decode cX12_stepsBelow 278 = .ok (.iinc 8 1, 3) := by decide +kernel
theorem dX12_stepsBelow_281 : decode cX12_stepsBelow 281 = .ok (.goto (-145), 3) := by decide +kernel
theorem dX12_stepsBelow_284 : decode cX12_stepsBelow 284 = .ok (.iload 7, 2) := by decide +kernel
theorem dX12_stepsBelow_286 : decode cX12_stepsBelow 286 = .ok (.ireturn, 1) := by decide +kernel
theorem dX12_bitsOf_0 : decode cX12_bitsOf 0 = .ok (.iconst 0, 1) := by decide +kernel
theorem dX12_bitsOf_1 : decode cX12_bitsOf 1 = .ok (.istore_n 2, 1) := by decide +kernel
theorem dX12_bitsOf_2 : decode cX12_bitsOf 2 = .ok (.iconst 0, 1) := by decide +kernel
theorem dX12_bitsOf_3 : decode cX12_bitsOf 3 = .ok (.istore_n 3, 1) := by decide +kernel
theorem dX12_bitsOf_4 : decode cX12_bitsOf 4 = .ok (.iload_n 3, 1) := by decide +kernel
theorem dX12_bitsOf_5 : decode cX12_bitsOf 5 = .ok (.aload_n 0, 1) := by decide +kernel
theorem dX12_bitsOf_6 : decode cX12_bitsOf 6 = .ok (.getfield 11, 3) := by decide +kernel
theorem dX12_bitsOf_9 : decode cX12_bitsOf 9 = .ok (.if_icmp .ge 28, 3) := by decide +kernel
theorem dX12_bitsOf_12 : decode cX12_bitsOf 12 = .ok (.iload_n 2, 1) := by decide +kernel
theorem dX12_bitsOf_13 : decode cX12_bitsOf 13 = .ok (.aload_n 0, 1) := by decide +kernel
theorem dX12_bitsOf_14 : decode cX12_bitsOf 14 = .ok (.iload_n 3, 1) := by decide +kernel
theorem dX12_bitsOf_15 : decode cX12_bitsOf 15 = .ok (.invokevirtual 265, 3) := by decide +kernel
theorem dX12_bitsOf_18 : decode cX12_bitsOf 18 = .ok (.iload_n 1, 1) := by decide +kernel
theorem dX12_bitsOf_19 : decode cX12_bitsOf 19 = .ok (.if_icmp .ne 9, 3) := by decide +kernel
theorem dX12_bitsOf_22 : decode cX12_bitsOf 22 = .ok (.iconst 1, 1) := by decide +kernel
theorem dX12_bitsOf_23 : decode cX12_bitsOf 23 = .ok (.iload_n 3, 1) := by decide +kernel
theorem dX12_bitsOf_24 : decode cX12_bitsOf 24 = .ok (.ishl, 1) := by decide +kernel
theorem dX12_bitsOf_25 : decode cX12_bitsOf 25 = .ok (.goto 4, 3) := by decide +kernel
theorem dX12_bitsOf_28 : decode cX12_bitsOf 28 = .ok (.iconst 0, 1) := by decide +kernel
theorem dX12_bitsOf_29 : decode cX12_bitsOf 29 = .ok (.ior, 1) := by decide +kernel
theorem dX12_bitsOf_30 : decode cX12_bitsOf 30 = .ok (.istore_n 2, 1) := by decide +kernel
theorem dX12_bitsOf_31 : decode cX12_bitsOf 31 = .ok (.iinc 3 1, 3) := by decide +kernel
theorem dX12_bitsOf_34 : decode cX12_bitsOf 34 = .ok (.goto (-30), 3) := by decide +kernel
theorem dX12_bitsOf_37 : decode cX12_bitsOf 37 = .ok (.iload_n 2, 1) := by decide +kernel
theorem dX12_bitsOf_38 : decode cX12_bitsOf 38 = .ok (.ireturn, 1) := by decide +kernel
theorem dX12_lettersOfAll_0 : decode cX12_lettersOfAll 0 = .ok (.iconst 0, 1) := by decide +kernel
theorem dX12_lettersOfAll_1 : decode cX12_lettersOfAll 1 = .ok (.istore_n 1, 1) := by decide +kernel
theorem dX12_lettersOfAll_2 : decode cX12_lettersOfAll 2 = .ok (.iconst 0, 1) := by decide +kernel
theorem dX12_lettersOfAll_3 : decode cX12_lettersOfAll 3 = .ok (.istore_n 2, 1) := by decide +kernel
theorem dX12_lettersOfAll_4 : decode cX12_lettersOfAll 4 = .ok (.iload_n 2, 1) := by decide +kernel
theorem dX12_lettersOfAll_5 : decode cX12_lettersOfAll 5 = .ok (.aload_n 0, 1) := by decide +kernel
theorem dX12_lettersOfAll_6 : decode cX12_lettersOfAll 6 = .ok (.getfield 149, 3) := by decide +kernel
theorem dX12_lettersOfAll_9 : decode cX12_lettersOfAll 9 = .ok (.if_icmp .ge 34, 3) := by decide +kernel
theorem dX12_lettersOfAll_12 : decode cX12_lettersOfAll 12 = .ok (.iload_n 1, 1) := by decide +kernel
theorem dX12_lettersOfAll_13 : decode cX12_lettersOfAll 13 = .ok (.aload_n 0, 1) := by decide +kernel
theorem dX12_lettersOfAll_14 : decode cX12_lettersOfAll 14 = .ok (.getfield 98, 3) := by decide +kernel
theorem dX12_lettersOfAll_17 : decode cX12_lettersOfAll 17 = .ok (.iload_n 2, 1) := by decide +kernel
theorem dX12_lettersOfAll_18 : decode cX12_lettersOfAll 18 = .ok (.iaload, 1) := by decide +kernel
theorem dX12_lettersOfAll_19 : decode cX12_lettersOfAll 19 = .ok (.iconst 1, 1) := by decide +kernel
theorem dX12_lettersOfAll_20 : decode cX12_lettersOfAll 20 = .ok (.if_icmp .ne 14, 3) := by decide +kernel
theorem dX12_lettersOfAll_23 : decode cX12_lettersOfAll 23 = .ok (.iconst 1, 1) := by decide +kernel
theorem dX12_lettersOfAll_24 : decode cX12_lettersOfAll 24 = .ok (.aload_n 0, 1) := by decide +kernel
theorem dX12_lettersOfAll_25 : decode cX12_lettersOfAll 25 = .ok (.getfield 101, 3) := by decide +kernel
theorem dX12_lettersOfAll_28 : decode cX12_lettersOfAll 28 = .ok (.iload_n 2, 1) := by decide +kernel
theorem dX12_lettersOfAll_29 : decode cX12_lettersOfAll 29 = .ok (.iaload, 1) := by decide +kernel
theorem dX12_lettersOfAll_30 : decode cX12_lettersOfAll 30 = .ok (.ishl, 1) := by decide +kernel
theorem dX12_lettersOfAll_31 : decode cX12_lettersOfAll 31 = .ok (.goto 4, 3) := by decide +kernel
theorem dX12_lettersOfAll_34 : decode cX12_lettersOfAll 34 = .ok (.iconst 0, 1) := by decide +kernel
theorem dX12_lettersOfAll_35 : decode cX12_lettersOfAll 35 = .ok (.ior, 1) := by decide +kernel
theorem dX12_lettersOfAll_36 : decode cX12_lettersOfAll 36 = .ok (.istore_n 1, 1) := by decide +kernel
theorem dX12_lettersOfAll_37 : decode cX12_lettersOfAll 37 = .ok (.iinc 2 1, 3) := by decide +kernel
theorem dX12_lettersOfAll_40 : decode cX12_lettersOfAll 40 = .ok (.goto (-36), 3) := by decide +kernel
theorem dX12_lettersOfAll_43 : decode cX12_lettersOfAll 43 = .ok (.iload_n 1, 1) := by decide +kernel
theorem dX12_lettersOfAll_44 : decode cX12_lettersOfAll 44 = .ok (.ireturn, 1) := by decide +kernel
theorem dX12_start_0 : decode cX12_start 0 = .ok (.aload_n 0, 1) := by decide +kernel
theorem dX12_start_1 : decode cX12_start 1 = .ok (.getfield 11, 3) := by decide +kernel
theorem dX12_start_4 : decode cX12_start 4 = .ok (.ifCond .ne 7, 3) := by decide +kernel
theorem dX12_start_7 : decode cX12_start 7 = .ok (.iconst (-1), 1) := by decide +kernel
theorem dX12_start_8 : decode cX12_start 8 = .ok (.goto 9, 3) := by decide +kernel
theorem dX12_start_11 : decode cX12_start 11 = .ok (.aload_n 0, 1) := by decide +kernel
theorem dX12_start_12 : decode cX12_start 12 = .ok (.getfield 101, 3) := by decide +kernel
theorem dX12_start_15 : decode cX12_start 15 = .ok (.iconst 0, 1) := by decide +kernel
theorem dX12_start_16 : decode cX12_start 16 = .ok (.iaload, 1) := by decide +kernel
theorem dX12_start_17 : decode cX12_start 17 = .ok (.ireturn, 1) := by decide +kernel
theorem dX12_count_0 : decode cX12_count 0 = .ok (.iload_n 1, 1) := by decide +kernel
theorem dX12_count_1 : decode cX12_count 1 = .ok (.tableswitch 107 0 9 #[55, 60, 65, 70, 76, 82, 87, 92, 97, 102], 55) := by decide +kernel
theorem dX12_count_56 : decode cX12_count 56 = .ok (.aload_n 0, 1) := by decide +kernel
theorem dX12_count_57 : decode cX12_count 57 = .ok (.getfield 11, 3) := by decide +kernel
theorem dX12_count_60 : decode cX12_count 60 = .ok (.ireturn, 1) := by decide +kernel
theorem dX12_count_61 : decode cX12_count 61 = .ok (.aload_n 0, 1) := by decide +kernel
theorem dX12_count_62 : decode cX12_count 62 = .ok (.getfield 149, 3) := by decide +kernel
theorem dX12_count_65 : decode cX12_count 65 = .ok (.ireturn, 1) := by decide +kernel
theorem dX12_count_66 : decode cX12_count 66 = .ok (.aload_n 0, 1) := by decide +kernel
theorem dX12_count_67 : decode cX12_count 67 = .ok (.getfield 171, 3) := by decide +kernel
theorem dX12_count_70 : decode cX12_count 70 = .ok (.ireturn, 1) := by decide +kernel
theorem dX12_count_71 : decode cX12_count 71 = .ok (.aload_n 0, 1) := by decide +kernel
theorem dX12_count_72 : decode cX12_count 72 = .ok (.iconst 0, 1) := by decide +kernel
theorem dX12_count_73 : decode cX12_count 73 = .ok (.invokevirtual 350, 3) := by decide +kernel
theorem dX12_count_76 : decode cX12_count 76 = .ok (.ireturn, 1) := by decide +kernel
theorem dX12_count_77 : decode cX12_count 77 = .ok (.aload_n 0, 1) := by decide +kernel
theorem dX12_count_78 : decode cX12_count 78 = .ok (.iconst 1, 1) := by decide +kernel
theorem dX12_count_79 : decode cX12_count 79 = .ok (.invokevirtual 350, 3) := by decide +kernel
theorem dX12_count_82 : decode cX12_count 82 = .ok (.ireturn, 1) := by decide +kernel
theorem dX12_count_83 : decode cX12_count 83 = .ok (.aload_n 0, 1) := by decide +kernel
theorem dX12_count_84 : decode cX12_count 84 = .ok (.getfield 26, 3) := by decide +kernel
theorem dX12_count_87 : decode cX12_count 87 = .ok (.ireturn, 1) := by decide +kernel
theorem dX12_count_88 : decode cX12_count 88 = .ok (.aload_n 0, 1) := by decide +kernel
theorem dX12_count_89 : decode cX12_count 89 = .ok (.invokevirtual 354, 3) := by decide +kernel
theorem dX12_count_92 : decode cX12_count 92 = .ok (.ireturn, 1) := by decide +kernel
theorem dX12_count_93 : decode cX12_count 93 = .ok (.aload_n 0, 1) := by decide +kernel
theorem dX12_count_94 : decode cX12_count 94 = .ok (.invokevirtual 358, 3) := by decide +kernel
theorem dX12_count_97 : decode cX12_count 97 = .ok (.ireturn, 1) := by decide +kernel
theorem dX12_count_98 : decode cX12_count 98 = .ok (.aload_n 0, 1) := by decide +kernel
theorem dX12_count_99 : decode cX12_count 99 = .ok (.getfield 32, 3) := by decide +kernel
theorem dX12_count_102 : decode cX12_count 102 = .ok (.ireturn, 1) := by decide +kernel
theorem dX12_count_103 : decode cX12_count 103 = .ok (.aload_n 0, 1) := by decide +kernel
theorem dX12_count_104 : decode cX12_count 104 = .ok (.getfield 361, 3) := by decide +kernel
theorem dX12_count_107 : decode cX12_count 107 = .ok (.ireturn, 1) := by decide +kernel
theorem dX12_count_108 : decode cX12_count 108 = .ok (.iconst (-1), 1) := by decide +kernel
theorem dX12_count_109 : decode cX12_count 109 = .ok (.ireturn, 1) := by decide +kernel
theorem dX12_tree_0 : decode cX12_tree 0 = .ok (.aload_n 0, 1) := by decide +kernel
theorem dX12_tree_1 : decode cX12_tree 1 = .ok (.iload_n 1, 1) := by decide +kernel
theorem dX12_tree_2 : decode cX12_tree 2 = .ok (.invokevirtual 18, 3) := by decide +kernel
theorem dX12_tree_5 : decode cX12_tree 5 = .ok (.ifCond .ne 6, 3) := by decide +kernel
theorem dX12_tree_8 : decode cX12_tree 8 = .ok (.bipush (-2), 2) := by decide +kernel
theorem dX12_tree_10 : decode cX12_tree 10 = .ok (.ireturn, 1) := by decide +kernel
theorem dX12_tree_11 : decode cX12_tree 11 = .ok (.iload_n 2, 1) := by decide +kernel
theorem dX12_tree_12 : decode cX12_tree 12 = .ok (.tableswitch 92 0 5 #[40, 54, 60, 71, 78, 85], 40) := by decide +kernel
theorem dX12_tree_52 : decode cX12_tree 52 = .ok (.aload_n 0, 1) := by decide +kernel
theorem dX12_tree_53 : decode cX12_tree 53 = .ok (.iload_n 1, 1) := by decide +kernel
theorem dX12_tree_54 : decode cX12_tree 54 = .ok (.invokevirtual 265, 3) := by decide +kernel
theorem dX12_tree_57 : decode cX12_tree 57 = .ok (.ifCond .eq 7, 3) := by decide +kernel
theorem dX12_tree_60 : decode cX12_tree 60 = .ok (.iconst 1, 1) := by decide +kernel
theorem dX12_tree_61 : decode cX12_tree 61 = .ok (.goto 4, 3) := by decide +kernel
theorem dX12_tree_64 : decode cX12_tree 64 = .ok (.iconst 0, 1) := by decide +kernel
theorem dX12_tree_65 : decode cX12_tree 65 = .ok (.ireturn, 1) := by decide +kernel
theorem dX12_tree_66 : decode cX12_tree 66 = .ok (.aload_n 0, 1) := by decide +kernel
theorem dX12_tree_67 : decode cX12_tree 67 = .ok (.iload_n 1, 1) := by decide +kernel
theorem dX12_tree_68 : decode cX12_tree 68 = .ok (.invokevirtual 22, 3) := by decide +kernel
theorem dX12_tree_71 : decode cX12_tree 71 = .ok (.ireturn, 1) := by decide +kernel
theorem dX12_tree_72 : decode cX12_tree 72 = .ok (.aload_n 0, 1) := by decide +kernel
theorem dX12_tree_73 : decode cX12_tree 73 = .ok (.getfield 101, 3) := by decide +kernel
theorem dX12_tree_76 : decode cX12_tree 76 = .ok (.aload_n 0, 1) := by decide +kernel
theorem dX12_tree_77 : decode cX12_tree 77 = .ok (.iload_n 1, 1) := by decide +kernel
theorem dX12_tree_78 : decode cX12_tree 78 = .ok (.invokevirtual 268, 3) := by decide +kernel
theorem dX12_tree_81 : decode cX12_tree 81 = .ok (.iaload, 1) := by decide +kernel
theorem dX12_tree_82 : decode cX12_tree 82 = .ok (.ireturn, 1) := by decide +kernel
theorem dX12_tree_83 : decode cX12_tree 83 = .ok (.aload_n 0, 1) := by decide +kernel
theorem dX12_tree_84 : decode cX12_tree 84 = .ok (.getfield 29, 3) := by decide +kernel
theorem dX12_tree_87 : decode cX12_tree 87 = .ok (.iload_n 1, 1) := by decide +kernel
theorem dX12_tree_88 : decode cX12_tree 88 = .ok (.iaload, 1) := by decide +kernel
theorem dX12_tree_89 : decode cX12_tree 89 = .ok (.ireturn, 1) := by decide +kernel
theorem dX12_tree_90 : decode cX12_tree 90 = .ok (.aload_n 0, 1) := by decide +kernel
theorem dX12_tree_91 : decode cX12_tree 91 = .ok (.getfield 155, 3) := by decide +kernel
theorem dX12_tree_94 : decode cX12_tree 94 = .ok (.iload_n 1, 1) := by decide +kernel
theorem dX12_tree_95 : decode cX12_tree 95 = .ok (.iaload, 1) := by decide +kernel
theorem dX12_tree_96 : decode cX12_tree 96 = .ok (.ireturn, 1) := by decide +kernel
theorem dX12_tree_97 : decode cX12_tree 97 = .ok (.aload_n 0, 1) := by decide +kernel
theorem dX12_tree_98 : decode cX12_tree 98 = .ok (.getfield 158, 3) := by decide +kernel
theorem dX12_tree_101 : decode cX12_tree 101 = .ok (.iload_n 1, 1) := by decide +kernel
theorem dX12_tree_102 : decode cX12_tree 102 = .ok (.iaload, 1) := by decide +kernel
theorem dX12_tree_103 : decode cX12_tree 103 = .ok (.ireturn, 1) := by decide +kernel
theorem dX12_tree_104 : decode cX12_tree 104 = .ok (.bipush (-2), 2) := by decide +kernel
theorem dX12_tree_106 : decode cX12_tree 106 = .ok (.ireturn, 1) := by decide +kernel
theorem dX12_own_0 : decode cX12_own 0 = .ok (.iload_n 2, 1) := by decide +kernel
theorem dX12_own_1 : decode cX12_own 1 = .ok (.iconst (-1), 1) := by decide +kernel
theorem dX12_own_2 : decode cX12_own 2 = .ok (.if_icmp .ne 7, 3) := by decide +kernel
theorem dX12_own_5 : decode cX12_own 5 = .ok (.iconst (-1), 1) := by decide +kernel
theorem dX12_own_6 : decode cX12_own 6 = .ok (.goto 11, 3) := by decide +kernel
theorem dX12_own_9 : decode cX12_own 9 = .ok (.iload_n 2, 1) := by decide +kernel
theorem dX12_own_10 : decode cX12_own 10 = .ok (.aload_n 0, 1) := by decide +kernel
theorem dX12_own_11 : decode cX12_own 11 = .ok (.getfield 7, 3) := by decide +kernel
theorem dX12_own_14 : decode cX12_own 14 = .ok (.iload_n 1, 1) := by decide +kernel
theorem dX12_own_15 : decode cX12_own 15 = .ok (.iaload, 1) := by decide +kernel
theorem dX12_own_16 : decode cX12_own 16 = .ok (.isub, 1) := by decide +kernel
theorem dX12_own_17 : decode cX12_own 17 = .ok (.ireturn, 1) := by decide +kernel
theorem dX12_node_0 : decode cX12_node 0 = .ok (.aload_n 0, 1) := by decide +kernel
theorem dX12_node_1 : decode cX12_node 1 = .ok (.iload_n 1, 1) := by decide +kernel
theorem dX12_node_2 : decode cX12_node 2 = .ok (.iload_n 2, 1) := by decide +kernel
theorem dX12_node_3 : decode cX12_node 3 = .ok (.invokevirtual 364, 3) := by decide +kernel
theorem dX12_node_6 : decode cX12_node 6 = .ok (.ifCond .ne 6, 3) := by decide +kernel
theorem dX12_node_9 : decode cX12_node 9 = .ok (.bipush (-2), 2) := by decide +kernel
theorem dX12_node_11 : decode cX12_node 11 = .ok (.ireturn, 1) := by decide +kernel
theorem dX12_node_12 : decode cX12_node 12 = .ok (.aload_n 0, 1) := by decide +kernel
theorem dX12_node_13 : decode cX12_node 13 = .ok (.getfield 7, 3) := by decide +kernel
theorem dX12_node_16 : decode cX12_node 16 = .ok (.iload_n 1, 1) := by decide +kernel
theorem dX12_node_17 : decode cX12_node 17 = .ok (.iaload, 1) := by decide +kernel
theorem dX12_node_18 : decode cX12_node 18 = .ok (.iload_n 2, 1) := by decide +kernel
theorem dX12_node_19 : decode cX12_node 19 = .ok (.iadd, 1) := by decide +kernel
theorem dX12_node_20 : decode cX12_node 20 = .ok (.istore 4, 2) := by decide +kernel
theorem dX12_node_22 : decode cX12_node 22 = .ok (.iload_n 3, 1) := by decide +kernel
theorem dX12_node_23 : decode cX12_node 23 = .ok (.tableswitch 120 0 6 #[41, 49, 57, 65, 78, 91, 104], 41) := by decide +kernel
theorem dX12_node_64 : decode cX12_node 64 = .ok (.aload_n 0, 1) := by decide +kernel
theorem dX12_node_65 : decode cX12_node 65 = .ok (.getfield 98, 3) := by decide +kernel
theorem dX12_node_68 : decode cX12_node 68 = .ok (.iload 4, 2) := by decide +kernel
theorem dX12_node_70 : decode cX12_node 70 = .ok (.iaload, 1) := by decide +kernel
theorem dX12_node_71 : decode cX12_node 71 = .ok (.ireturn, 1) := by decide +kernel
theorem dX12_node_72 : decode cX12_node 72 = .ok (.aload_n 0, 1) := by decide +kernel
theorem dX12_node_73 : decode cX12_node 73 = .ok (.getfield 101, 3) := by decide +kernel
theorem dX12_node_76 : decode cX12_node 76 = .ok (.iload 4, 2) := by decide +kernel
theorem dX12_node_78 : decode cX12_node 78 = .ok (.iaload, 1) := by decide +kernel
theorem dX12_node_79 : decode cX12_node 79 = .ok (.ireturn, 1) := by decide +kernel
theorem dX12_node_80 : decode cX12_node 80 = .ok (.aload_n 0, 1) := by decide +kernel
theorem dX12_node_81 : decode cX12_node 81 = .ok (.getfield 104, 3) := by decide +kernel
theorem dX12_node_84 : decode cX12_node 84 = .ok (.iload 4, 2) := by decide +kernel
theorem dX12_node_86 : decode cX12_node 86 = .ok (.iaload, 1) := by decide +kernel
theorem dX12_node_87 : decode cX12_node 87 = .ok (.ireturn, 1) := by decide +kernel
theorem dX12_node_88 : decode cX12_node 88 = .ok (.aload_n 0, 1) := by decide +kernel
theorem dX12_node_89 : decode cX12_node 89 = .ok (.iload_n 1, 1) := by decide +kernel
theorem dX12_node_90 : decode cX12_node 90 = .ok (.aload_n 0, 1) := by decide +kernel
theorem dX12_node_91 : decode cX12_node 91 = .ok (.getfield 107, 3) := by decide +kernel
theorem dX12_node_94 : decode cX12_node 94 = .ok (.iload 4, 2) := by decide +kernel
theorem dX12_node_96 : decode cX12_node 96 = .ok (.iaload, 1) := by decide +kernel
theorem dX12_node_97 : decode cX12_node 97 = .ok (.invokevirtual 368, 3) := by decide +kernel
theorem dX12_node_100 : decode cX12_node 100 = .ok (.ireturn, 1) := by decide +kernel
theorem dX12_node_101 : decode cX12_node 101 = .ok (.aload_n 0, 1) := by decide +kernel
theorem dX12_node_102 : decode cX12_node 102 = .ok (.iload_n 1, 1) := by decide +kernel
theorem dX12_node_103 : decode cX12_node 103 = .ok (.aload_n 0, 1) := by decide +kernel
theorem dX12_node_104 : decode cX12_node 104 = .ok (.getfield 110, 3) := by decide +kernel
theorem dX12_node_107 : decode cX12_node 107 = .ok (.iload 4, 2) := by decide +kernel
theorem dX12_node_109 : decode cX12_node 109 = .ok (.iaload, 1) := by decide +kernel
theorem dX12_node_110 : decode cX12_node 110 = .ok (.invokevirtual 368, 3) := by decide +kernel
theorem dX12_node_113 : decode cX12_node 113 = .ok (.ireturn, 1) := by decide +kernel
theorem dX12_node_114 : decode cX12_node 114 = .ok (.aload_n 0, 1) := by decide +kernel
theorem dX12_node_115 : decode cX12_node 115 = .ok (.iload_n 1, 1) := by decide +kernel
theorem dX12_node_116 : decode cX12_node 116 = .ok (.aload_n 0, 1) := by decide +kernel
theorem dX12_node_117 : decode cX12_node 117 = .ok (.getfield 113, 3) := by decide +kernel
theorem dX12_node_120 : decode cX12_node 120 = .ok (.iload 4, 2) := by decide +kernel
theorem dX12_node_122 : decode cX12_node 122 = .ok (.iaload, 1) := by decide +kernel
theorem dX12_node_123 : decode cX12_node 123 = .ok (.invokevirtual 368, 3) := by decide +kernel
theorem dX12_node_126 : decode cX12_node 126 = .ok (.ireturn, 1) := by decide +kernel
theorem dX12_node_127 : decode cX12_node 127 = .ok (.aload_n 0, 1) := by decide +kernel
theorem dX12_node_128 : decode cX12_node 128 = .ok (.getfield 167, 3) := by decide +kernel
theorem dX12_node_131 : decode cX12_node 131 = .ok (.iload 4, 2) := by decide +kernel
theorem dX12_node_133 : decode cX12_node 133 = .ok (.baload, 1) := by decide +kernel
theorem dX12_node_134 : decode cX12_node 134 = .ok (.ifCond .eq 7, 3) := by decide +kernel
theorem dX12_node_137 : decode cX12_node 137 = .ok (.iconst 1, 1) := by decide +kernel
theorem dX12_node_138 : decode cX12_node 138 = .ok (.goto 4, 3) := by decide +kernel
theorem dX12_node_141 : decode cX12_node 141 = .ok (.iconst 0, 1) := by decide +kernel
theorem dX12_node_142 : decode cX12_node 142 = .ok (.ireturn, 1) := by decide +kernel
theorem dX12_node_143 : decode cX12_node 143 = .ok (.bipush (-2), 2) := by decide +kernel
theorem dX12_node_145 : decode cX12_node 145 = .ok (.ireturn, 1) := by decide +kernel
theorem dX12_out_0 : decode cX12_out 0 = .ok (.aload_n 0, 1) := by decide +kernel
theorem dX12_out_1 : decode cX12_out 1 = .ok (.iload_n 1, 1) := by decide +kernel
theorem dX12_out_2 : decode cX12_out 2 = .ok (.invokevirtual 18, 3) := by decide +kernel
theorem dX12_out_5 : decode cX12_out 5 = .ok (.ifCond .eq 13, 3) := by decide +kernel
theorem dX12_out_8 : decode cX12_out 8 = .ok (.iload_n 2, 1) := by decide +kernel
theorem dX12_out_9 : decode cX12_out 9 = .ok (.i2l, 1) := by decide +kernel
theorem dX12_out_10 : decode cX12_out 10 = .ok (.lconst 0, 1) := by decide +kernel
theorem dX12_out_11 : decode cX12_out 11 = .ok (.lconst 1, 1) := by decide +kernel
theorem dX12_out_12 : decode cX12_out 12 = .ok (.invokestatic 14, 3) := by decide +kernel
theorem dX12_out_15 : decode cX12_out 15 = .ok (.ifCond .ne 6, 3) := by decide +kernel
theorem dX12_out_18 : decode cX12_out 18 = .ok (.bipush (-2), 2) := by decide +kernel
theorem dX12_out_20 : decode cX12_out 20 = .ok (.ireturn, 1) := by decide +kernel
theorem dX12_out_21 : decode cX12_out 21 = .ok (.aload_n 0, 1) := by decide +kernel
theorem dX12_out_22 : decode cX12_out 22 = .ok (.getfield 26, 3) := by decide +kernel
theorem dX12_out_25 : decode cX12_out 25 = .ok (.istore_n 3, 1) := by decide +kernel
theorem dX12_out_26 : decode cX12_out 26 = .ok (.aload_n 0, 1) := by decide +kernel
theorem dX12_out_27 : decode cX12_out 27 = .ok (.iload_n 2, 1) := by decide +kernel
theorem dX12_out_28 : decode cX12_out 28 = .ok (.iconst 1, 1) := by decide +kernel
theorem dX12_out_29 : decode cX12_out 29 = .ok (.if_icmp .ne 14, 3) := by decide +kernel
theorem dX12_out_32 : decode cX12_out 32 = .ok (.aload_n 0, 1) := by decide +kernel
theorem dX12_out_33 : decode cX12_out 33 = .ok (.getfield 26, 3) := by decide +kernel
theorem dX12_out_36 : decode cX12_out 36 = .ok (.iconst 1, 1) := by decide +kernel
theorem dX12_out_37 : decode cX12_out 37 = .ok (.iload_n 1, 1) := by decide +kernel
theorem dX12_out_38 : decode cX12_out 38 = .ok (.ishl, 1) := by decide +kernel
theorem dX12_out_39 : decode cX12_out 39 = .ok (.ior, 1) := by decide +kernel
theorem dX12_out_40 : decode cX12_out 40 = .ok (.goto 13, 3) := by decide +kernel
theorem dX12_out_43 : decode cX12_out 43 = .ok (.aload_n 0, 1) := by decide +kernel
theorem dX12_out_44 : decode cX12_out 44 = .ok (.getfield 26, 3) := by decide +kernel
theorem dX12_out_47 : decode cX12_out 47 = .ok (.iconst 1, 1) := by decide +kernel
theorem dX12_out_48 : decode cX12_out 48 = .ok (.iload_n 1, 1) := by decide +kernel
theorem dX12_out_49 : decode cX12_out 49 = .ok (.ishl, 1) := by decide +kernel
theorem dX12_out_50 : decode cX12_out 50 = .ok (.iconst (-1), 1) := by decide +kernel
theorem dX12_out_51 : decode cX12_out 51 = .ok (.ixor, 1) := by decide +kernel
theorem dX12_out_52 : decode cX12_out 52 = .ok (.iand, 1) := by decide +kernel
theorem dX12_out_53 : decode cX12_out 53 = .ok (.putfield 26, 3) := by decide +kernel
theorem dX12_out_56 : decode cX12_out 56 = .ok (.iload_n 3, 1) := by decide +kernel
theorem dX12_out_57 : decode cX12_out 57 = .ok (.aload_n 0, 1) := by decide +kernel
theorem dX12_out_58 : decode cX12_out 58 = .ok (.getfield 26, 3) := by decide +kernel
theorem dX12_out_61 : decode cX12_out 61 = .ok (.if_icmp .ne 7, 3) := by decide +kernel
theorem dX12_out_64 : decode cX12_out 64 = .ok (.iconst 0, 1) := by decide +kernel
theorem dX12_out_65 : decode cX12_out 65 = .ok (.goto 4, 3) := by decide +kernel
theorem dX12_out_68 : decode cX12_out 68 = .ok (.iconst 1, 1) := by decide +kernel
theorem dX12_out_69 : decode cX12_out 69 = .ok (.ireturn, 1) := by decide +kernel
theorem dX12_marks_0 : decode cX12_marks 0 = .ok (.aload_n 0, 1) := by decide +kernel
theorem dX12_marks_1 : decode cX12_marks 1 = .ok (.iload_n 1, 1) := by decide +kernel
theorem dX12_marks_2 : decode cX12_marks 2 = .ok (.iload_n 2, 1) := by decide +kernel
theorem dX12_marks_3 : decode cX12_marks 3 = .ok (.invokevirtual 364, 3) := by decide +kernel
theorem dX12_marks_6 : decode cX12_marks 6 = .ok (.ifCond .eq 31, 3) := by decide +kernel
theorem dX12_marks_9 : decode cX12_marks 9 = .ok (.iload_n 3, 1) := by decide +kernel
theorem dX12_marks_10 : decode cX12_marks 10 = .ok (.i2l, 1) := by decide +kernel
theorem dX12_marks_11 : decode cX12_marks 11 = .ok (.lconst 0, 1) := by decide +kernel
theorem dX12_marks_12 : decode cX12_marks 12 = .ok (.ldc2_w 371, 3) := by decide +kernel
theorem dX12_marks_15 : decode cX12_marks 15 = .ok (.invokestatic 14, 3) := by decide +kernel
theorem dX12_marks_18 : decode cX12_marks 18 = .ok (.ifCond .eq 19, 3) := by decide +kernel
theorem dX12_marks_21 : decode cX12_marks 21 = .ok (.aload_n 0, 1) := by decide +kernel
theorem dX12_marks_22 : decode cX12_marks 22 = .ok (.getfield 98, 3) := by decide +kernel
theorem dX12_marks_25 : decode cX12_marks 25 = .ok (.aload_n 0, 1) := by decide +kernel
theorem dX12_marks_26 : decode cX12_marks 26 = .ok (.getfield 7, 3) := by decide +kernel
theorem dX12_marks_29 : decode cX12_marks 29 = .ok (.iload_n 1, 1) := by decide +kernel
theorem dX12_marks_30 : decode cX12_marks 30 = .ok (.iaload, 1) := by decide +kernel
theorem dX12_marks_31 : decode cX12_marks 31 = .ok (.iload_n 2, 1) := by decide +kernel
theorem dX12_marks_32 : decode cX12_marks 32 = .ok (.iadd, 1) := by decide +kernel
theorem dX12_marks_33 : decode cX12_marks 33 = .ok (.iaload, 1) := by decide +kernel
theorem dX12_marks_34 : decode cX12_marks 34 = .ok (.ifCond .eq 6, 3) := by decide +kernel
theorem dX12_marks_37 : decode cX12_marks 37 = .ok (.bipush (-2), 2) := by decide +kernel
theorem dX12_marks_39 : decode cX12_marks 39 = .ok (.ireturn, 1) := by decide +kernel
theorem dX12_marks_40 : decode cX12_marks 40 = .ok (.aload_n 0, 1) := by decide +kernel
theorem dX12_marks_41 : decode cX12_marks 41 = .ok (.getfield 104, 3) := by decide +kernel
theorem dX12_marks_44 : decode cX12_marks 44 = .ok (.aload_n 0, 1) := by decide +kernel
theorem dX12_marks_45 : decode cX12_marks 45 = .ok (.getfield 7, 3) := by decide +kernel
theorem dX12_marks_48 : decode cX12_marks 48 = .ok (.iload_n 1, 1) := by decide +kernel
theorem dX12_marks_49 : decode cX12_marks 49 = .ok (.iaload, 1) := by decide +kernel
theorem dX12_marks_50 : decode cX12_marks 50 = .ok (.iload_n 2, 1) := by decide +kernel
theorem dX12_marks_51 : decode cX12_marks 51 = .ok (.iadd, 1) := by decide +kernel
theorem dX12_marks_52 : decode cX12_marks 52 = .ok (.iaload, 1) := by decide +kernel
theorem dX12_marks_53 : decode cX12_marks 53 = .ok (.istore 4, 2) := by decide +kernel
theorem dX12_marks_55 : decode cX12_marks 55 = .ok (.aload_n 0, 1) := by decide +kernel
theorem dX12_marks_56 : decode cX12_marks 56 = .ok (.getfield 104, 3) := by decide +kernel
theorem dX12_marks_59 : decode cX12_marks 59 = .ok (.aload_n 0, 1) := by decide +kernel
theorem dX12_marks_60 : decode cX12_marks 60 = .ok (.getfield 7, 3) := by decide +kernel
theorem dX12_marks_63 : decode cX12_marks 63 = .ok (.iload_n 1, 1) := by decide +kernel
theorem dX12_marks_64 : decode cX12_marks 64 = .ok (.iaload, 1) := by decide +kernel
theorem dX12_marks_65 : decode cX12_marks 65 = .ok (.iload_n 2, 1) := by decide +kernel
theorem dX12_marks_66 : decode cX12_marks 66 = .ok (.iadd, 1) := by decide +kernel
theorem dX12_marks_67 : decode cX12_marks 67 = .ok (.iload_n 3, 1) := by decide +kernel
theorem dX12_marks_68 : decode cX12_marks 68 = .ok (.iastore, 1) := by decide +kernel
theorem dX12_marks_69 : decode cX12_marks 69 = .ok (.iload 4, 2) := by decide +kernel
theorem dX12_marks_71 : decode cX12_marks 71 = .ok (.ireturn, 1) := by decide +kernel
theorem dX12_toldAs_0 : decode cX12_toldAs 0 = .ok (.lload_n 0, 1) := by decide +kernel
theorem dX12_toldAs_1 : decode cX12_toldAs 1 = .ok (.ldc2_w 263, 3) := by decide +kernel
theorem dX12_toldAs_4 : decode cX12_toldAs 4 = .ok (.lcmp, 1) := by decide +kernel
theorem dX12_toldAs_5 : decode cX12_toldAs 5 = .ok (.ifCond .le 9, 3) := by decide +kernel
theorem dX12_toldAs_8 : decode cX12_toldAs 8 = .ok (.ldc2_w 373, 3) := by decide +kernel
theorem dX12_toldAs_11 : decode cX12_toldAs 11 = .ok (.goto 4, 3) := by decide +kernel
theorem dX12_toldAs_14 : decode cX12_toldAs 14 = .ok (.lload_n 0, 1) := by decide +kernel
theorem dX12_toldAs_15 : decode cX12_toldAs 15 = .ok (.lreturn, 1) := by decide +kernel
theorem dX12_isSpan_0 : decode cX12_isSpan 0 = .ok (.iload_n 1, 1) := by decide +kernel
theorem dX12_isSpan_1 : decode cX12_isSpan 1 = .ok (.ifCond .lt 20, 3) := by decide +kernel
theorem dX12_isSpan_4 : decode cX12_isSpan 4 = .ok (.iload_n 1, 1) := by decide +kernel
theorem dX12_isSpan_5 : decode cX12_isSpan 5 = .ok (.iload_n 2, 1) := by decide +kernel
theorem dX12_isSpan_6 : decode cX12_isSpan 6 = .ok (.if_icmp .gt 15, 3) := by decide +kernel
theorem dX12_isSpan_9 : decode cX12_isSpan 9 = .ok (.iload_n 2, 1) := by decide +kernel
theorem dX12_isSpan_10 : decode cX12_isSpan 10 = .ok (.aload_n 0, 1) := by decide +kernel
theorem dX12_isSpan_11 : decode cX12_isSpan 11 = .ok (.getfield 171, 3) := by decide +kernel
theorem dX12_isSpan_14 : decode cX12_isSpan 14 = .ok (.if_icmp .gt 7, 3) := by decide +kernel
theorem dX12_isSpan_17 : decode cX12_isSpan 17 = .ok (.iconst 1, 1) := by decide +kernel
theorem dX12_isSpan_18 : decode cX12_isSpan 18 = .ok (.goto 4, 3) := by decide +kernel
theorem dX12_isSpan_21 : decode cX12_isSpan 21 = .ok (.iconst 0, 1) := by decide +kernel
theorem dX12_isSpan_22 : decode cX12_isSpan 22 = .ok (.ireturn, 1) := by decide +kernel
theorem dX12_isGap_0 : decode cX12_isGap 0 = .ok (.aload_n 0, 1) := by decide +kernel
theorem dX12_isGap_1 : decode cX12_isGap 1 = .ok (.iload_n 1, 1) := by decide +kernel
theorem dX12_isGap_2 : decode cX12_isGap 2 = .ok (.iload_n 2, 1) := by decide +kernel
theorem dX12_isGap_3 : decode cX12_isGap 3 = .ok (.invokevirtual 375, 3) := by decide +kernel
theorem dX12_isGap_6 : decode cX12_isGap 6 = .ok (.ifCond .eq 24, 3) := by decide +kernel
theorem dX12_isGap_9 : decode cX12_isGap 9 = .ok (.iload_n 1, 1) := by decide +kernel
theorem dX12_isGap_10 : decode cX12_isGap 10 = .ok (.iload_n 3, 1) := by decide +kernel
theorem dX12_isGap_11 : decode cX12_isGap 11 = .ok (.if_icmp .gt 19, 3) := by decide +kernel
theorem dX12_isGap_14 : decode cX12_isGap 14 = .ok (.iload_n 3, 1) := by decide +kernel
theorem dX12_isGap_15 : decode cX12_isGap 15 = .ok (.iload 4, 2) := by decide +kernel
theorem dX12_isGap_17 : decode cX12_isGap 17 = .ok (.if_icmp .gt 13, 3) := by decide +kernel
theorem dX12_isGap_20 : decode cX12_isGap 20 = .ok (.iload 4, 2) := by decide +kernel
theorem dX12_isGap_22 : decode cX12_isGap 22 = .ok (.iload_n 2, 1) := by decide +kernel
theorem dX12_isGap_23 : decode cX12_isGap 23 = .ok (.if_icmp .gt 7, 3) := by decide +kernel
theorem dX12_isGap_26 : decode cX12_isGap 26 = .ok (.iconst 1, 1) := by decide +kernel
theorem dX12_isGap_27 : decode cX12_isGap 27 = .ok (.goto 4, 3) := by decide +kernel
theorem dX12_isGap_30 : decode cX12_isGap 30 = .ok (.iconst 0, 1) := by decide +kernel
theorem dX12_isGap_31 : decode cX12_isGap 31 = .ok (.ireturn, 1) := by decide +kernel
theorem dX12_over_0 : decode cX12_over 0 = .ok (.aload_n 0, 1) := by decide +kernel
theorem dX12_over_1 : decode cX12_over 1 = .ok (.iload_n 1, 1) := by decide +kernel
theorem dX12_over_2 : decode cX12_over 2 = .ok (.iload_n 2, 1) := by decide +kernel
theorem dX12_over_3 : decode cX12_over 3 = .ok (.invokevirtual 364, 3) := by decide +kernel
theorem dX12_over_6 : decode cX12_over 6 = .ok (.ifCond .eq 13, 3) := by decide +kernel
theorem dX12_over_9 : decode cX12_over 9 = .ok (.iload_n 3, 1) := by decide +kernel
theorem dX12_over_10 : decode cX12_over 10 = .ok (.i2l, 1) := by decide +kernel
theorem dX12_over_11 : decode cX12_over 11 = .ok (.lconst 0, 1) := by decide +kernel
theorem dX12_over_12 : decode cX12_over 12 = .ok (.lconst 1, 1) := by decide +kernel
theorem dX12_over_13 : decode cX12_over 13 = .ok (.invokestatic 14, 3) := by decide +kernel
theorem dX12_over_16 : decode cX12_over 16 = .ok (.ifCond .ne 7, 3) := by decide +kernel
theorem dX12_over_19 : decode cX12_over 19 = .ok (.ldc2_w 378, 3) := by decide +kernel
theorem dX12_over_22 : decode cX12_over 22 = .ok (.lreturn, 1) := by decide +kernel
theorem dX12_over_23 : decode cX12_over 23 = .ok (.aload_n 0, 1) := by decide +kernel
theorem dX12_over_24 : decode cX12_over 24 = .ok (.getfield 167, 3) := by decide +kernel
theorem dX12_over_27 : decode cX12_over 27 = .ok (.aload_n 0, 1) := by decide +kernel
theorem dX12_over_28 : decode cX12_over 28 = .ok (.getfield 7, 3) := by decide +kernel
theorem dX12_over_31 : decode cX12_over 31 = .ok (.iload_n 1, 1) := by decide +kernel
theorem dX12_over_32 : decode cX12_over 32 = .ok (.iaload, 1) := by decide +kernel
theorem dX12_over_33 : decode cX12_over 33 = .ok (.iload_n 2, 1) := by decide +kernel
theorem dX12_over_34 : decode cX12_over 34 = .ok (.iadd, 1) := by decide +kernel
theorem dX12_over_35 : decode cX12_over 35 = .ok (.baload, 1) := by decide +kernel
theorem dX12_over_36 : decode cX12_over 36 = .ok (.ifCond .eq 18, 3) := by decide +kernel
theorem dX12_over_39 : decode cX12_over 39 = .ok (.aload_n 0, 1) := by decide +kernel
theorem dX12_over_40 : decode cX12_over 40 = .ok (.iload 4, 2) := by decide +kernel
theorem dX12_over_42 : decode cX12_over 42 = .ok (.iload 5, 2) := by decide +kernel
theorem dX12_over_44 : decode cX12_over 44 = .ok (.iload 6, 2) := by decide +kernel
theorem dX12_over_46 : decode cX12_over 46 = .ok (.iload 7, 2) := by decide +kernel
theorem dX12_over_48 : decode cX12_over 48 = .ok (.invokevirtual 380, 3) := by decide +kernel
theorem dX12_over_51 : decode cX12_over 51 = .ok (.goto 31, 3) := by decide +kernel
theorem dX12_over_54 : decode cX12_over 54 = .ok (.aload_n 0, 1) := by decide +kernel
theorem dX12_over_55 : decode cX12_over 55 = .ok (.iload 4, 2) := by decide +kernel
theorem dX12_over_57 : decode cX12_over 57 = .ok (.iload 5, 2) := by decide +kernel
theorem dX12_over_59 : decode cX12_over 59 = .ok (.invokevirtual 375, 3) := by decide +kernel
theorem dX12_over_62 : decode cX12_over 62 = .ok (.ifCond .eq 19, 3) := by decide +kernel
theorem dX12_over_65 : decode cX12_over 65 = .ok (.iload 6, 2) := by decide +kernel
theorem dX12_over_67 : decode cX12_over 67 = .ok (.iconst (-1), 1) := by decide +kernel
theorem dX12_over_68 : decode cX12_over 68 = .ok (.if_icmp .ne 13, 3) := by decide +kernel
theorem dX12_over_71 : decode cX12_over 71 = .ok (.iload 7, 2) := by decide +kernel
theorem dX12_over_73 : decode cX12_over 73 = .ok (.iconst (-1), 1) := by decide +kernel
theorem dX12_over_74 : decode cX12_over 74 = .ok (.if_icmp .ne 7, 3) := by decide +kernel
theorem dX12_over_77 : decode cX12_over 77 = .ok (.iconst 1, 1) := by decide +kernel
theorem dX12_over_78 : decode cX12_over 78 = .ok (.goto 4, 3) := by decide +kernel
theorem dX12_over_81 : decode cX12_over 81 = .ok (.iconst 0, 1) := by decide +kernel
theorem dX12_over_82 : decode cX12_over 82 = .ok (.istore 8, 2) := by decide +kernel
theorem dX12_over_84 : decode cX12_over 84 = .ok (.iload 8, 2) := by decide +kernel
theorem dX12_over_86 : decode cX12_over 86 = .ok (.ifCond .ne 7, 3) := by decide +kernel
theorem dX12_over_89 : decode cX12_over 89 = .ok (.ldc2_w 378, 3) := by decide +kernel
theorem dX12_over_92 : decode cX12_over 92 = .ok (.lreturn, 1) := by decide +kernel
theorem dX12_over_93 : decode cX12_over 93 = .ok (.aload_n 0, 1) := by decide +kernel
theorem dX12_over_94 : decode cX12_over 94 = .ok (.iload_n 1, 1) := by decide +kernel
theorem dX12_over_95 : decode cX12_over 95 = .ok (.invokevirtual 384, 3) := by decide +kernel
theorem dX12_over_98 : decode cX12_over 98 = .ok (.ifCond .eq 5, 3) := by decide +kernel
theorem dX12_over_101 : decode cX12_over 101 = .ok (.lconst 0, 1) := by decide +kernel
theorem dX12_over_102 : decode cX12_over 102 = .ok (.lreturn, 1) := by decide +kernel
theorem dX12_over_103 : decode cX12_over 103 = .ok (.aload_n 0, 1) := by decide +kernel
theorem dX12_over_104 : decode cX12_over 104 = .ok (.iconst 0, 1) := by decide +kernel
theorem dX12_over_105 : decode cX12_over 105 = .ok (.invokevirtual 387, 3) := by decide +kernel
theorem dX12_over_108 : decode cX12_over 108 = .ok (.aload_n 0, 1) := by decide +kernel
theorem dX12_over_109 : decode cX12_over 109 = .ok (.iload_n 3, 1) := by decide +kernel
theorem dX12_over_110 : decode cX12_over 110 = .ok (.aload_n 0, 1) := by decide +kernel
theorem dX12_over_111 : decode cX12_over 111 = .ok (.getfield 7, 3) := by decide +kernel
theorem dX12_over_114 : decode cX12_over 114 = .ok (.iload_n 1, 1) := by decide +kernel
theorem dX12_over_115 : decode cX12_over 115 = .ok (.iaload, 1) := by decide +kernel
theorem dX12_over_116 : decode cX12_over 116 = .ok (.iload_n 2, 1) := by decide +kernel
theorem dX12_over_117 : decode cX12_over 117 = .ok (.iadd, 1) := by decide +kernel
theorem dX12_over_118 : decode cX12_over 118 = .ok (.iload 4, 2) := by decide +kernel
theorem dX12_over_120 : decode cX12_over 120 = .ok (.iload 5, 2) := by decide +kernel
theorem dX12_over_122 : decode cX12_over 122 = .ok (.iload 6, 2) := by decide +kernel
theorem dX12_over_124 : decode cX12_over 124 = .ok (.iload 7, 2) := by decide +kernel
theorem dX12_over_126 : decode cX12_over 126 = .ok (.invokevirtual 292, 3) := by decide +kernel
theorem dX12_over_129 : decode cX12_over 129 = .ok (.invokestatic 390, 3) := by decide +kernel
theorem dX12_over_132 : decode cX12_over 132 = .ok (.lreturn, 1) := by decide +kernel
theorem dX12_items_0 : decode cX12_items 0 = .ok (.iload_n 1, 1) := by decide +kernel
theorem dX12_items_1 : decode cX12_items 1 = .ok (.i2l, 1) := by decide +kernel
theorem dX12_items_2 : decode cX12_items 2 = .ok (.lconst 0, 1) := by decide +kernel
theorem dX12_items_3 : decode cX12_items 3 = .ok (.lconst 1, 1) := by decide +kernel
theorem dX12_items_4 : decode cX12_items 4 = .ok (.invokestatic 14, 3) := by decide +kernel
theorem dX12_items_7 : decode cX12_items 7 = .ok (.ifCond .ne 6, 3) := by decide +kernel
theorem dX12_items_10 : decode cX12_items 10 = .ok (.bipush (-2), 2) := by decide +kernel
theorem dX12_items_12 : decode cX12_items 12 = .ok (.ireturn, 1) := by decide +kernel
theorem dX12_items_13 : decode cX12_items 13 = .ok (.aload_n 0, 1) := by decide +kernel
theorem dX12_items_14 : decode cX12_items 14 = .ok (.iconst 0, 1) := by decide +kernel
theorem dX12_items_15 : decode cX12_items 15 = .ok (.invokevirtual 387, 3) := by decide +kernel
theorem dX12_items_18 : decode cX12_items 18 = .ok (.iconst 0, 1) := by decide +kernel
theorem dX12_items_19 : decode cX12_items 19 = .ok (.istore_n 2, 1) := by decide +kernel
theorem dX12_items_20 : decode cX12_items 20 = .ok (.iconst 0, 1) := by decide +kernel
theorem dX12_items_21 : decode cX12_items 21 = .ok (.istore_n 3, 1) := by decide +kernel
theorem dX12_items_22 : decode cX12_items 22 = .ok (.iload_n 3, 1) := by decide +kernel
theorem dX12_items_23 : decode cX12_items 23 = .ok (.aload_n 0, 1) := by decide +kernel
theorem dX12_items_24 : decode cX12_items 24 = .ok (.getfield 149, 3) := by decide +kernel
theorem dX12_items_27 : decode cX12_items 27 = .ok (.if_icmp .ge 131, 3) := by decide +kernel
theorem dX12_items_30 : decode cX12_items 30 = .ok (.aload_n 0, 1) := by decide +kernel
theorem dX12_items_31 : decode cX12_items 31 = .ok (.aload_n 0, 1) := by decide +kernel
theorem dX12_items_32 : decode cX12_items 32 = .ok (.getfield 161, 3) := by decide +kernel
theorem dX12_items_35 : decode cX12_items 35 = .ok (.iload_n 3, 1) := by decide +kernel
theorem dX12_items_36 : decode cX12_items 36 = .ok (.iaload, 1) := by decide +kernel
theorem dX12_items_37 : decode cX12_items 37 = .ok (.invokevirtual 384, 3) := by decide +kernel
theorem dX12_items_40 : decode cX12_items 40 = .ok (.ifCond .eq 6, 3) := by decide +kernel
theorem dX12_items_43 : decode cX12_items 43 = .ok (.goto 109, 3) := by decide +kernel
theorem dX12_items_46 : decode cX12_items 46 = .ok (.iconst 0, 1) := by decide +kernel
theorem dX12_items_47 : decode cX12_items 47 = .ok (.istore 4, 2) := by decide +kernel
theorem dX12_items_49 : decode cX12_items 49 = .ok (.iload 4, 2) := by decide +kernel
theorem dX12_items_51 : decode cX12_items 51 = .ok (.sipush 540, 3) := by decide +kernel
theorem dX12_items_54 : decode cX12_items 54 = .ok (.if_icmp .ge 98, 3) := by decide +kernel
theorem dX12_items_57 : decode cX12_items 57 = .ok (.aload_n 0, 1) := by decide +kernel
theorem dX12_items_58 : decode cX12_items 58 = .ok (.getfield 191, 3) := by decide +kernel
theorem dX12_items_61 : decode cX12_items 61 = .ok (.iload 4, 2) := by decide +kernel
theorem dX12_items_63 : decode cX12_items 63 = .ok (.iaload, 1) := by decide +kernel
theorem dX12_items_64 : decode cX12_items 64 = .ok (.aload_n 0, 1) := by decide +kernel
theorem dX12_items_65 : decode cX12_items 65 = .ok (.getfield 171, 3) := by decide +kernel
theorem dX12_items_68 : decode cX12_items 68 = .ok (.if_icmp .gt 78, 3) := by decide +kernel
theorem dX12_items_71 : decode cX12_items 71 = .ok (.aload_n 0, 1) := by decide +kernel
theorem dX12_items_72 : decode cX12_items 72 = .ok (.getfield 167, 3) := by decide +kernel
theorem dX12_items_75 : decode cX12_items 75 = .ok (.iload_n 3, 1) := by decide +kernel
theorem dX12_items_76 : decode cX12_items 76 = .ok (.baload, 1) := by decide +kernel
theorem dX12_items_77 : decode cX12_items 77 = .ok (.aload_n 0, 1) := by decide +kernel
theorem dX12_items_78 : decode cX12_items 78 = .ok (.getfield 194, 3) := by decide +kernel
theorem dX12_items_81 : decode cX12_items 81 = .ok (.iload 4, 2) := by decide +kernel
theorem dX12_items_83 : decode cX12_items 83 = .ok (.iaload, 1) := by decide +kernel
theorem dX12_items_84 : decode cX12_items 84 = .ok (.iconst (-1), 1) := by decide +kernel
theorem dX12_items_85 : decode cX12_items 85 = .ok (.if_icmp .eq 7, 3) := by decide +kernel
theorem dX12_items_88 : decode cX12_items 88 = .ok (.iconst 1, 1) := by decide +kernel
theorem dX12_items_89 : decode cX12_items 89 = .ok (.goto 4, 3) := by decide +kernel
theorem dX12_items_92 : decode cX12_items 92 = .ok (.iconst 0, 1) := by decide +kernel
theorem dX12_items_93 : decode cX12_items 93 = .ok (.if_icmp .eq 6, 3) := by decide +kernel
theorem dX12_items_96 : decode cX12_items 96 = .ok (.goto 50, 3) := by decide +kernel
theorem dX12_items_99 : decode cX12_items 99 = .ok (.iload_n 2, 1) := by decide +kernel
theorem dX12_items_100 : decode cX12_items 100 = .ok (.aload_n 0, 1) := by decide +kernel
theorem dX12_items_101 : decode cX12_items 101 = .ok (.iload_n 1, 1) := by decide +kernel
theorem dX12_items_102 : decode cX12_items 102 = .ok (.iload_n 3, 1) := by decide +kernel
theorem dX12_items_103 : decode cX12_items 103 = .ok (.aload_n 0, 1) := by decide +kernel
theorem dX12_items_104 : decode cX12_items 104 = .ok (.getfield 188, 3) := by decide +kernel
theorem dX12_items_107 : decode cX12_items 107 = .ok (.iload 4, 2) := by decide +kernel
theorem dX12_items_109 : decode cX12_items 109 = .ok (.iaload, 1) := by decide +kernel
theorem dX12_items_110 : decode cX12_items 110 = .ok (.aload_n 0, 1) := by decide +kernel
theorem dX12_items_111 : decode cX12_items 111 = .ok (.getfield 191, 3) := by decide +kernel
theorem dX12_items_114 : decode cX12_items 114 = .ok (.iload 4, 2) := by decide +kernel
theorem dX12_items_116 : decode cX12_items 116 = .ok (.iaload, 1) := by decide +kernel
theorem dX12_items_117 : decode cX12_items 117 = .ok (.aload_n 0, 1) := by decide +kernel
theorem dX12_items_118 : decode cX12_items 118 = .ok (.getfield 194, 3) := by decide +kernel
theorem dX12_items_121 : decode cX12_items 121 = .ok (.iload 4, 2) := by decide +kernel
theorem dX12_items_123 : decode cX12_items 123 = .ok (.iaload, 1) := by decide +kernel
theorem dX12_items_124 : decode cX12_items 124 = .ok (.aload_n 0, 1) := by decide +kernel
theorem dX12_items_125 : decode cX12_items 125 = .ok (.getfield 197, 3) := by decide +kernel
theorem dX12_items_128 : decode cX12_items 128 = .ok (.iload 4, 2) := by decide +kernel
theorem dX12_items_130 : decode cX12_items 130 = .ok (.iaload, 1) := by decide +kernel
theorem dX12_items_131 : decode cX12_items 131 = .ok (.invokevirtual 292, 3) := by decide +kernel
theorem dX12_items_134 : decode cX12_items 134 = .ok (.lconst 0, 1) := by decide +kernel
theorem dX12_items_135 : decode cX12_items 135 = .ok (.lcmp, 1) := by decide +kernel
theorem dX12_items_136 : decode cX12_items 136 = .ok (.ifCond .le 7, 3) := by decide +kernel
theorem dX12_items_139 : decode cX12_items 139 = .ok (.iconst 1, 1) := by decide +kernel
theorem dX12_items_140 : decode cX12_items 140 = .ok (.goto 4, 3) := by decide +kernel
theorem dX12_items_143 : decode cX12_items 143 = .ok (.iconst 0, 1) := by decide +kernel
theorem dX12_items_144 : decode cX12_items 144 = .ok (.iadd, 1) := by decide +kernel
theorem dX12_items_145 : decode cX12_items 145 = .ok (.istore_n 2, 1) := by decide +kernel
theorem dX12_items_146 : decode cX12_items 146 = .ok (.iinc 4 1, 3) := by decide +kernel
theorem dX12_items_149 : decode cX12_items 149 = .ok (.goto (-100), 3) := by decide +kernel
theorem dX12_items_152 : decode cX12_items 152 = .ok (.iinc 3 1, 3) := by decide +kernel
theorem dX12_items_155 : decode cX12_items 155 = .ok (.goto (-133), 3) := by decide +kernel
theorem dX12_items_158 : decode cX12_items 158 = .ok (.iload_n 2, 1) := by decide +kernel
theorem dX12_items_159 : decode cX12_items 159 = .ok (.ireturn, 1) := by decide +kernel
theorem dX12_treesOver_0 : decode cX12_treesOver 0 = .ok (.aload_n 0, 1) := by decide +kernel
theorem dX12_treesOver_1 : decode cX12_treesOver 1 = .ok (.iconst 0, 1) := by decide +kernel
theorem dX12_treesOver_2 : decode cX12_treesOver 2 = .ok (.invokevirtual 387, 3) := by decide +kernel
theorem dX12_treesOver_5 : decode cX12_treesOver 5 = .ok (.iconst 0, 1) := by decide +kernel
theorem dX12_treesOver_6 : decode cX12_treesOver 6 = .ok (.istore 5, 2) := by decide +kernel
theorem dX12_treesOver_8 : decode cX12_treesOver 8 = .ok (.iconst 0, 1) := by decide +kernel
theorem dX12_treesOver_9 : decode cX12_treesOver 9 = .ok (.istore 6, 2) := by decide +kernel
theorem dX12_treesOver_11 : decode cX12_treesOver 11 = .ok (.iload 6, 2) := by decide +kernel
theorem dX12_treesOver_13 : decode cX12_treesOver 13 = .ok (.aload_n 0, 1) := by decide +kernel
theorem dX12_treesOver_14 : decode cX12_treesOver 14 = .ok (.getfield 11, 3) := by decide +kernel
theorem dX12_treesOver_17 : decode cX12_treesOver 17 = .ok (.if_icmp .ge 67, 3) := by decide +kernel
theorem dX12_treesOver_20 : decode cX12_treesOver 20 = .ok (.aload_n 0, 1) := by decide +kernel
theorem dX12_treesOver_21 : decode cX12_treesOver 21 = .ok (.iload 6, 2) := by decide +kernel
theorem dX12_treesOver_23 : decode cX12_treesOver 23 = .ok (.invokevirtual 265, 3) := by decide +kernel
theorem dX12_treesOver_26 : decode cX12_treesOver 26 = .ok (.iload_n 3, 1) := by decide +kernel
theorem dX12_treesOver_27 : decode cX12_treesOver 27 = .ok (.iconst (-1), 1) := by decide +kernel
theorem dX12_treesOver_28 : decode cX12_treesOver 28 = .ok (.if_icmp .eq 7, 3) := by decide +kernel
theorem dX12_treesOver_31 : decode cX12_treesOver 31 = .ok (.iconst 1, 1) := by decide +kernel
theorem dX12_treesOver_32 : decode cX12_treesOver 32 = .ok (.goto 4, 3) := by decide +kernel
theorem dX12_treesOver_35 : decode cX12_treesOver 35 = .ok (.iconst 0, 1) := by decide +kernel
theorem dX12_treesOver_36 : decode cX12_treesOver 36 = .ok (.if_icmp .ne 42, 3) := by decide +kernel
theorem dX12_treesOver_39 : decode cX12_treesOver 39 = .ok (.aload_n 0, 1) := by decide +kernel
theorem dX12_treesOver_40 : decode cX12_treesOver 40 = .ok (.iload 6, 2) := by decide +kernel
theorem dX12_treesOver_42 : decode cX12_treesOver 42 = .ok (.invokevirtual 384, 3) := by decide +kernel
theorem dX12_treesOver_45 : decode cX12_treesOver 45 = .ok (.ifCond .ne 33, 3) := by decide +kernel
theorem dX12_treesOver_48 : decode cX12_treesOver 48 = .ok (.aload_n 0, 1) := by decide +kernel
theorem dX12_treesOver_49 : decode cX12_treesOver 49 = .ok (.iconst 1, 1) := by decide +kernel
theorem dX12_treesOver_50 : decode cX12_treesOver 50 = .ok (.aload_n 0, 1) := by decide +kernel
theorem dX12_treesOver_51 : decode cX12_treesOver 51 = .ok (.iload 6, 2) := by decide +kernel
theorem dX12_treesOver_53 : decode cX12_treesOver 53 = .ok (.invokevirtual 268, 3) := by decide +kernel
theorem dX12_treesOver_56 : decode cX12_treesOver 56 = .ok (.iload_n 1, 1) := by decide +kernel
theorem dX12_treesOver_57 : decode cX12_treesOver 57 = .ok (.iload_n 2, 1) := by decide +kernel
theorem dX12_treesOver_58 : decode cX12_treesOver 58 = .ok (.iload_n 3, 1) := by decide +kernel
theorem dX12_treesOver_59 : decode cX12_treesOver 59 = .ok (.iload 4, 2) := by decide +kernel
theorem dX12_treesOver_61 : decode cX12_treesOver 61 = .ok (.invokevirtual 292, 3) := by decide +kernel
theorem dX12_treesOver_64 : decode cX12_treesOver 64 = .ok (.lconst 0, 1) := by decide +kernel
theorem dX12_treesOver_65 : decode cX12_treesOver 65 = .ok (.lcmp, 1) := by decide +kernel
theorem dX12_treesOver_66 : decode cX12_treesOver 66 = .ok (.ifCond .le 12, 3) := by decide +kernel
theorem dX12_treesOver_69 : decode cX12_treesOver 69 = .ok (.iload 5, 2) := by decide +kernel
theorem dX12_treesOver_71 : decode cX12_treesOver 71 = .ok (.iconst 1, 1) := by decide +kernel
theorem dX12_treesOver_72 : decode cX12_treesOver 72 = .ok (.iload 6, 2) := by decide +kernel
theorem dX12_treesOver_74 : decode cX12_treesOver 74 = .ok (.ishl, 1) := by decide +kernel
theorem dX12_treesOver_75 : decode cX12_treesOver 75 = .ok (.ior, 1) := by decide +kernel
theorem dX12_treesOver_76 : decode cX12_treesOver 76 = .ok (.istore 5, 2) := by decide +kernel
theorem dX12_treesOver_78 : decode cX12_treesOver 78 = .ok (.iinc 6 1, 3) := by decide +kernel
theorem dX12_treesOver_81 : decode cX12_treesOver 81 = .ok (.goto (-70), 3) := by decide +kernel
theorem dX12_treesOver_84 : decode cX12_treesOver 84 = .ok (.iload 5, 2) := by decide +kernel
theorem dX12_treesOver_86 : decode cX12_treesOver 86 = .ok (.ireturn, 1) := by decide +kernel
theorem dX12_spans_0 : decode cX12_spans 0 = .ok (.aload_n 0, 1) := by decide +kernel
theorem dX12_spans_1 : decode cX12_spans 1 = .ok (.iload_n 1, 1) := by decide +kernel
theorem dX12_spans_2 : decode cX12_spans 2 = .ok (.iload_n 2, 1) := by decide +kernel
theorem dX12_spans_3 : decode cX12_spans 3 = .ok (.invokevirtual 375, 3) := by decide +kernel
theorem dX12_spans_6 : decode cX12_spans 6 = .ok (.ifCond .eq 14, 3) := by decide +kernel
theorem dX12_spans_9 : decode cX12_spans 9 = .ok (.aload_n 0, 1) := by decide +kernel
theorem dX12_spans_10 : decode cX12_spans 10 = .ok (.iload_n 1, 1) := by decide +kernel
theorem dX12_spans_11 : decode cX12_spans 11 = .ok (.iload_n 2, 1) := by decide +kernel
theorem dX12_spans_12 : decode cX12_spans 12 = .ok (.iconst (-1), 1) := by decide +kernel
theorem dX12_spans_13 : decode cX12_spans 13 = .ok (.iconst (-1), 1) := by decide +kernel
theorem dX12_spans_14 : decode cX12_spans 14 = .ok (.invokevirtual 394, 3) := by decide +kernel
theorem dX12_spans_17 : decode cX12_spans 17 = .ok (.goto 5, 3) := by decide +kernel
theorem dX12_spans_20 : decode cX12_spans 20 = .ok (.bipush (-2), 2) := by decide +kernel
theorem dX12_spans_22 : decode cX12_spans 22 = .ok (.ireturn, 1) := by decide +kernel
theorem dX12_around_0 : decode cX12_around 0 = .ok (.aload_n 0, 1) := by decide +kernel
theorem dX12_around_1 : decode cX12_around 1 = .ok (.iload_n 1, 1) := by decide +kernel
theorem dX12_around_2 : decode cX12_around 2 = .ok (.iload_n 2, 1) := by decide +kernel
theorem dX12_around_3 : decode cX12_around 3 = .ok (.iload_n 3, 1) := by decide +kernel
theorem dX12_around_4 : decode cX12_around 4 = .ok (.iload 4, 2) := by decide +kernel
theorem dX12_around_6 : decode cX12_around 6 = .ok (.invokevirtual 380, 3) := by decide +kernel
theorem dX12_around_9 : decode cX12_around 9 = .ok (.ifCond .eq 15, 3) := by decide +kernel
theorem dX12_around_12 : decode cX12_around 12 = .ok (.aload_n 0, 1) := by decide +kernel
theorem dX12_around_13 : decode cX12_around 13 = .ok (.iload_n 1, 1) := by decide +kernel
theorem dX12_around_14 : decode cX12_around 14 = .ok (.iload_n 2, 1) := by decide +kernel
theorem dX12_around_15 : decode cX12_around 15 = .ok (.iload_n 3, 1) := by decide +kernel
theorem dX12_around_16 : decode cX12_around 16 = .ok (.iload 4, 2) := by decide +kernel
theorem dX12_around_18 : decode cX12_around 18 = .ok (.invokevirtual 394, 3) := by decide +kernel
theorem dX12_around_21 : decode cX12_around 21 = .ok (.goto 5, 3) := by decide +kernel
theorem dX12_around_24 : decode cX12_around 24 = .ok (.bipush (-2), 2) := by decide +kernel
theorem dX12_around_26 : decode cX12_around 26 = .ok (.ireturn, 1) := by decide +kernel
theorem dX12_waysOfAll_0 : decode cX12_waysOfAll 0 = .ok (.lconst 0, 1) := by decide +kernel
theorem dX12_waysOfAll_1 : decode cX12_waysOfAll 1 = .ok (.lstore_n 2, 1) := by decide +kernel
theorem dX12_waysOfAll_2 : decode cX12_waysOfAll 2 = .ok (.iconst 0, 1) := by decide +kernel
theorem dX12_waysOfAll_3 : decode cX12_waysOfAll 3 = .ok (.istore 4, 2) := by decide +kernel
theorem dX12_waysOfAll_5 : decode cX12_waysOfAll 5 = .ok (.iload 4, 2) := by decide +kernel
theorem dX12_waysOfAll_7 : decode cX12_waysOfAll 7 = .ok (.aload_n 0, 1) := by decide +kernel
theorem dX12_waysOfAll_8 : decode cX12_waysOfAll 8 = .ok (.getfield 11, 3) := by decide +kernel
theorem dX12_waysOfAll_11 : decode cX12_waysOfAll 11 = .ok (.if_icmp .ge 43, 3) := by decide +kernel
theorem dX12_waysOfAll_14 : decode cX12_waysOfAll 14 = .ok (.aload_n 0, 1) := by decide +kernel
theorem dX12_waysOfAll_15 : decode cX12_waysOfAll 15 = .ok (.iload 4, 2) := by decide +kernel
theorem dX12_waysOfAll_17 : decode cX12_waysOfAll 17 = .ok (.aload_n 0, 1) := by decide +kernel
theorem dX12_waysOfAll_18 : decode cX12_waysOfAll 18 = .ok (.invokevirtual 354, 3) := by decide +kernel
theorem dX12_waysOfAll_21 : decode cX12_waysOfAll 21 = .ok (.iconst 0, 1) := by decide +kernel
theorem dX12_waysOfAll_22 : decode cX12_waysOfAll 22 = .ok (.invokevirtual 296, 3) := by decide +kernel
theorem dX12_waysOfAll_25 : decode cX12_waysOfAll 25 = .ok (.ifCond .eq 23, 3) := by decide +kernel
theorem dX12_waysOfAll_28 : decode cX12_waysOfAll 28 = .ok (.lload_n 2, 1) := by decide +kernel
theorem dX12_waysOfAll_29 : decode cX12_waysOfAll 29 = .ok (.aload_n 0, 1) := by decide +kernel
theorem dX12_waysOfAll_30 : decode cX12_waysOfAll 30 = .ok (.iconst 1, 1) := by decide +kernel
theorem dX12_waysOfAll_31 : decode cX12_waysOfAll 31 = .ok (.aload_n 0, 1) := by decide +kernel
theorem dX12_waysOfAll_32 : decode cX12_waysOfAll 32 = .ok (.iload 4, 2) := by decide +kernel
theorem dX12_waysOfAll_34 : decode cX12_waysOfAll 34 = .ok (.invokevirtual 268, 3) := by decide +kernel
theorem dX12_waysOfAll_37 : decode cX12_waysOfAll 37 = .ok (.iconst 0, 1) := by decide +kernel
theorem dX12_waysOfAll_38 : decode cX12_waysOfAll 38 = .ok (.iload_n 1, 1) := by decide +kernel
theorem dX12_waysOfAll_39 : decode cX12_waysOfAll 39 = .ok (.iconst (-1), 1) := by decide +kernel
theorem dX12_waysOfAll_40 : decode cX12_waysOfAll 40 = .ok (.iconst (-1), 1) := by decide +kernel
theorem dX12_waysOfAll_41 : decode cX12_waysOfAll 41 = .ok (.invokevirtual 292, 3) := by decide +kernel
theorem dX12_waysOfAll_44 : decode cX12_waysOfAll 44 = .ok (.invokestatic 304, 3) := by decide +kernel
theorem dX12_waysOfAll_47 : decode cX12_waysOfAll 47 = .ok (.lstore_n 2, 1) := by decide +kernel
theorem dX12_waysOfAll_48 : decode cX12_waysOfAll 48 = .ok (.iinc 4 1, 3) := by decide +kernel
theorem dX12_waysOfAll_51 : decode cX12_waysOfAll 51 = .ok (.goto (-46), 3) := by decide +kernel
theorem dX12_waysOfAll_54 : decode cX12_waysOfAll 54 = .ok (.lload_n 2, 1) := by decide +kernel
theorem dX12_waysOfAll_55 : decode cX12_waysOfAll 55 = .ok (.lreturn, 1) := by decide +kernel
theorem dX12_reads_0 : decode cX12_reads 0 = .ok (.aload_n 0, 1) := by decide +kernel
theorem dX12_reads_1 : decode cX12_reads 1 = .ok (.iconst 0, 1) := by decide +kernel
theorem dX12_reads_2 : decode cX12_reads 2 = .ok (.invokevirtual 387, 3) := by decide +kernel
theorem dX12_reads_5 : decode cX12_reads 5 = .ok (.aload_n 0, 1) := by decide +kernel
theorem dX12_reads_6 : decode cX12_reads 6 = .ok (.aload_n 0, 1) := by decide +kernel
theorem dX12_reads_7 : decode cX12_reads 7 = .ok (.getfield 249, 3) := by decide +kernel
theorem dX12_reads_10 : decode cX12_reads 10 = .ok (.invokevirtual 397, 3) := by decide +kernel
theorem dX12_reads_13 : decode cX12_reads 13 = .ok (.lconst 0, 1) := by decide +kernel
theorem dX12_reads_14 : decode cX12_reads 14 = .ok (.lcmp, 1) := by decide +kernel
theorem dX12_reads_15 : decode cX12_reads 15 = .ok (.ifCond .le 7, 3) := by decide +kernel
theorem dX12_reads_18 : decode cX12_reads 18 = .ok (.iconst 1, 1) := by decide +kernel
theorem dX12_reads_19 : decode cX12_reads 19 = .ok (.goto 4, 3) := by decide +kernel
theorem dX12_reads_22 : decode cX12_reads 22 = .ok (.iconst 0, 1) := by decide +kernel
theorem dX12_reads_23 : decode cX12_reads 23 = .ok (.ireturn, 1) := by decide +kernel
theorem dX12_heads_0 : decode cX12_heads 0 = .ok (.aload_n 0, 1) := by decide +kernel
theorem dX12_heads_1 : decode cX12_heads 1 = .ok (.iconst 0, 1) := by decide +kernel
theorem dX12_heads_2 : decode cX12_heads 2 = .ok (.invokevirtual 387, 3) := by decide +kernel
theorem dX12_heads_5 : decode cX12_heads 5 = .ok (.iconst 0, 1) := by decide +kernel
theorem dX12_heads_6 : decode cX12_heads 6 = .ok (.istore_n 1, 1) := by decide +kernel
theorem dX12_heads_7 : decode cX12_heads 7 = .ok (.iconst 0, 1) := by decide +kernel
theorem dX12_heads_8 : decode cX12_heads 8 = .ok (.istore_n 2, 1) := by decide +kernel
theorem dX12_heads_9 : decode cX12_heads 9 = .ok (.iload_n 2, 1) := by decide +kernel
theorem dX12_heads_10 : decode cX12_heads 10 = .ok (.aload_n 0, 1) := by decide +kernel
theorem dX12_heads_11 : decode cX12_heads 11 = .ok (.getfield 249, 3) := by decide +kernel
theorem dX12_heads_14 : decode cX12_heads 14 = .ok (.if_icmp .gt 29, 3) := by decide +kernel
theorem dX12_heads_17 : decode cX12_heads 17 = .ok (.iload_n 1, 1) := by decide +kernel
theorem dX12_heads_18 : decode cX12_heads 18 = .ok (.aload_n 0, 1) := by decide +kernel
theorem dX12_heads_19 : decode cX12_heads 19 = .ok (.iload_n 2, 1) := by decide +kernel
theorem dX12_heads_20 : decode cX12_heads 20 = .ok (.invokevirtual 397, 3) := by decide +kernel
theorem dX12_heads_23 : decode cX12_heads 23 = .ok (.lconst 0, 1) := by decide +kernel
theorem dX12_heads_24 : decode cX12_heads 24 = .ok (.lcmp, 1) := by decide +kernel
theorem dX12_heads_25 : decode cX12_heads 25 = .ok (.ifCond .le 9, 3) := by decide +kernel
theorem dX12_heads_28 : decode cX12_heads 28 = .ok (.iconst 1, 1) := by decide +kernel
theorem dX12_heads_29 : decode cX12_heads 29 = .ok (.iload_n 2, 1) := by decide +kernel
theorem dX12_heads_30 : decode cX12_heads 30 = .ok (.ishl, 1) := by decide +kernel
theorem dX12_heads_31 : decode cX12_heads 31 = .ok (.goto 4, 3) := by decide +kernel
theorem dX12_heads_34 : decode cX12_heads 34 = .ok (.iconst 0, 1) := by decide +kernel
theorem dX12_heads_35 : decode cX12_heads 35 = .ok (.ior, 1) := by decide +kernel
theorem dX12_heads_36 : decode cX12_heads 36 = .ok (.istore_n 1, 1) := by decide +kernel
theorem dX12_heads_37 : decode cX12_heads 37 = .ok (.iinc 2 1, 3) := by decide +kernel
theorem dX12_heads_40 : decode cX12_heads 40 = .ok (.goto (-31), 3) := by decide +kernel
theorem dX12_heads_43 : decode cX12_heads 43 = .ok (.iload_n 1, 1) := by decide +kernel
theorem dX12_heads_44 : decode cX12_heads 44 = .ok (.ireturn, 1) := by decide +kernel
theorem dX12_ways_0 : decode cX12_ways 0 = .ok (.aload_n 0, 1) := by decide +kernel
theorem dX12_ways_1 : decode cX12_ways 1 = .ok (.iconst 0, 1) := by decide +kernel
theorem dX12_ways_2 : decode cX12_ways 2 = .ok (.invokevirtual 387, 3) := by decide +kernel
theorem dX12_ways_5 : decode cX12_ways 5 = .ok (.aload_n 0, 1) := by decide +kernel
theorem dX12_ways_6 : decode cX12_ways 6 = .ok (.aload_n 0, 1) := by decide +kernel
theorem dX12_ways_7 : decode cX12_ways 7 = .ok (.getfield 249, 3) := by decide +kernel
theorem dX12_ways_10 : decode cX12_ways 10 = .ok (.invokevirtual 397, 3) := by decide +kernel
theorem dX12_ways_13 : decode cX12_ways 13 = .ok (.invokestatic 390, 3) := by decide +kernel
theorem dX12_ways_16 : decode cX12_ways 16 = .ok (.lreturn, 1) := by decide +kernel
theorem dX12_without_0 : decode cX12_without 0 = .ok (.aload_n 0, 1) := by decide +kernel
theorem dX12_without_1 : decode cX12_without 1 = .ok (.iload_n 1, 1) := by decide +kernel
theorem dX12_without_2 : decode cX12_without 2 = .ok (.invokevirtual 18, 3) := by decide +kernel
theorem dX12_without_5 : decode cX12_without 5 = .ok (.ifCond .ne 7, 3) := by decide +kernel
theorem dX12_without_8 : decode cX12_without 8 = .ok (.ldc2_w 378, 3) := by decide +kernel
theorem dX12_without_11 : decode cX12_without 11 = .ok (.lreturn, 1) := by decide +kernel
theorem dX12_without_12 : decode cX12_without 12 = .ok (.aload_n 0, 1) := by decide +kernel
theorem dX12_without_13 : decode cX12_without 13 = .ok (.iconst 1, 1) := by decide +kernel
theorem dX12_without_14 : decode cX12_without 14 = .ok (.iload_n 1, 1) := by decide +kernel
theorem dX12_without_15 : decode cX12_without 15 = .ok (.ishl, 1) := by decide +kernel
theorem dX12_without_16 : decode cX12_without 16 = .ok (.invokevirtual 387, 3) := by decide +kernel
theorem dX12_without_19 : decode cX12_without 19 = .ok (.aload_n 0, 1) := by decide +kernel
theorem dX12_without_20 : decode cX12_without 20 = .ok (.aload_n 0, 1) := by decide +kernel
theorem dX12_without_21 : decode cX12_without 21 = .ok (.getfield 249, 3) := by decide +kernel
theorem dX12_without_24 : decode cX12_without 24 = .ok (.invokevirtual 397, 3) := by decide +kernel
theorem dX12_without_27 : decode cX12_without 27 = .ok (.invokestatic 390, 3) := by decide +kernel
theorem dX12_without_30 : decode cX12_without 30 = .ok (.lreturn, 1) := by decide +kernel
theorem dX12_lengths_0 : decode cX12_lengths 0 = .ok (.iload_n 1, 1) := by decide +kernel
theorem dX12_lengths_1 : decode cX12_lengths 1 = .ok (.i2l, 1) := by decide +kernel
theorem dX12_lengths_2 : decode cX12_lengths 2 = .ok (.lconst 0, 1) := by decide +kernel
theorem dX12_lengths_3 : decode cX12_lengths 3 = .ok (.lconst 1, 1) := by decide +kernel
theorem dX12_lengths_4 : decode cX12_lengths 4 = .ok (.invokestatic 14, 3) := by decide +kernel
theorem dX12_lengths_7 : decode cX12_lengths 7 = .ok (.ifCond .ne 6, 3) := by decide +kernel
theorem dX12_lengths_10 : decode cX12_lengths 10 = .ok (.bipush (-2), 2) := by decide +kernel
theorem dX12_lengths_12 : decode cX12_lengths 12 = .ok (.ireturn, 1) := by decide +kernel
theorem dX12_lengths_13 : decode cX12_lengths 13 = .ok (.aload_n 0, 1) := by decide +kernel
theorem dX12_lengths_14 : decode cX12_lengths 14 = .ok (.iconst 0, 1) := by decide +kernel
theorem dX12_lengths_15 : decode cX12_lengths 15 = .ok (.invokevirtual 387, 3) := by decide +kernel
theorem dX12_lengths_18 : decode cX12_lengths 18 = .ok (.iconst (-1), 1) := by decide +kernel
theorem dX12_lengths_19 : decode cX12_lengths 19 = .ok (.istore_n 2, 1) := by decide +kernel
theorem dX12_lengths_20 : decode cX12_lengths 20 = .ok (.iconst 0, 1) := by decide +kernel
theorem dX12_lengths_21 : decode cX12_lengths 21 = .ok (.istore_n 3, 1) := by decide +kernel
theorem dX12_lengths_22 : decode cX12_lengths 22 = .ok (.iload_n 3, 1) := by decide +kernel
theorem dX12_lengths_23 : decode cX12_lengths 23 = .ok (.aload_n 0, 1) := by decide +kernel
theorem dX12_lengths_24 : decode cX12_lengths 24 = .ok (.getfield 11, 3) := by decide +kernel
theorem dX12_lengths_27 : decode cX12_lengths 27 = .ok (.if_icmp .ge 69, 3) := by decide +kernel
theorem dX12_lengths_30 : decode cX12_lengths 30 = .ok (.aload_n 0, 1) := by decide +kernel
theorem dX12_lengths_31 : decode cX12_lengths 31 = .ok (.iload_n 3, 1) := by decide +kernel
theorem dX12_lengths_32 : decode cX12_lengths 32 = .ok (.aload_n 0, 1) := by decide +kernel
theorem dX12_lengths_33 : decode cX12_lengths 33 = .ok (.invokevirtual 354, 3) := by decide +kernel
theorem dX12_lengths_36 : decode cX12_lengths 36 = .ok (.iconst 0, 1) := by decide +kernel
theorem dX12_lengths_37 : decode cX12_lengths 37 = .ok (.invokevirtual 296, 3) := by decide +kernel
theorem dX12_lengths_40 : decode cX12_lengths 40 = .ok (.ifCond .eq 50, 3) := by decide +kernel
theorem dX12_lengths_43 : decode cX12_lengths 43 = .ok (.aload_n 0, 1) := by decide +kernel
theorem dX12_lengths_44 : decode cX12_lengths 44 = .ok (.iload_n 2, 1) := by decide +kernel
theorem dX12_lengths_45 : decode cX12_lengths 45 = .ok (.aload_n 0, 1) := by decide +kernel
theorem dX12_lengths_46 : decode cX12_lengths 46 = .ok (.iconst 1, 1) := by decide +kernel
theorem dX12_lengths_47 : decode cX12_lengths 47 = .ok (.aload_n 0, 1) := by decide +kernel
theorem dX12_lengths_48 : decode cX12_lengths 48 = .ok (.iload_n 3, 1) := by decide +kernel
theorem dX12_lengths_49 : decode cX12_lengths 49 = .ok (.invokevirtual 268, 3) := by decide +kernel
theorem dX12_lengths_52 : decode cX12_lengths 52 = .ok (.iconst 0, 1) := by decide +kernel
theorem dX12_lengths_53 : decode cX12_lengths 53 = .ok (.aload_n 0, 1) := by decide +kernel
theorem dX12_lengths_54 : decode cX12_lengths 54 = .ok (.getfield 249, 3) := by decide +kernel
theorem dX12_lengths_57 : decode cX12_lengths 57 = .ok (.iconst (-1), 1) := by decide +kernel
theorem dX12_lengths_58 : decode cX12_lengths 58 = .ok (.iconst (-1), 1) := by decide +kernel
theorem dX12_lengths_59 : decode cX12_lengths 59 = .ok (.iload_n 1, 1) := by decide +kernel
theorem dX12_lengths_60 : decode cX12_lengths 60 = .ok (.iconst 1, 1) := by decide +kernel
theorem dX12_lengths_61 : decode cX12_lengths 61 = .ok (.if_icmp .ne 7, 3) := by decide +kernel
theorem dX12_lengths_64 : decode cX12_lengths 64 = .ok (.iconst 1, 1) := by decide +kernel
theorem dX12_lengths_65 : decode cX12_lengths 65 = .ok (.goto 4, 3) := by decide +kernel
theorem dX12_lengths_68 : decode cX12_lengths 68 = .ok (.iconst 0, 1) := by decide +kernel
theorem dX12_lengths_69 : decode cX12_lengths 69 = .ok (.invokevirtual 339, 3) := by decide +kernel
theorem dX12_lengths_72 : decode cX12_lengths 72 = .ok (.iconst 1, 1) := by decide +kernel
theorem dX12_lengths_73 : decode cX12_lengths 73 = .ok (.invokestatic 343, 3) := by decide +kernel
theorem dX12_lengths_76 : decode cX12_lengths 76 = .ok (.iload_n 1, 1) := by decide +kernel
theorem dX12_lengths_77 : decode cX12_lengths 77 = .ok (.iconst 1, 1) := by decide +kernel
theorem dX12_lengths_78 : decode cX12_lengths 78 = .ok (.if_icmp .ne 7, 3) := by decide +kernel
theorem dX12_lengths_81 : decode cX12_lengths 81 = .ok (.iconst 1, 1) := by decide +kernel
theorem dX12_lengths_82 : decode cX12_lengths 82 = .ok (.goto 4, 3) := by decide +kernel
theorem dX12_lengths_85 : decode cX12_lengths 85 = .ok (.iconst 0, 1) := by decide +kernel
theorem dX12_lengths_86 : decode cX12_lengths 86 = .ok (.invokevirtual 346, 3) := by decide +kernel
theorem dX12_lengths_89 : decode cX12_lengths 89 = .ok (.istore_n 2, 1) := by decide +kernel
theorem dX12_lengths_90 : decode cX12_lengths 90 = .ok (.iinc 3 1, 3) := by decide +kernel
theorem dX12_lengths_93 : decode cX12_lengths 93 = .ok (.goto (-71), 3) := by decide +kernel
theorem dX12_lengths_96 : decode cX12_lengths 96 = .ok (.iload_n 2, 1) := by decide +kernel
theorem dX12_lengths_97 : decode cX12_lengths 97 = .ok (.ireturn, 1) := by decide +kernel
theorem dX12_meets_0 : decode cX12_meets 0 = .ok (.aload_n 0, 1) := by decide +kernel
theorem dX12_meets_1 : decode cX12_meets 1 = .ok (.iload_n 1, 1) := by decide +kernel
theorem dX12_meets_2 : decode cX12_meets 2 = .ok (.iload_n 2, 1) := by decide +kernel
theorem dX12_meets_3 : decode cX12_meets 3 = .ok (.iload_n 3, 1) := by decide +kernel
theorem dX12_meets_4 : decode cX12_meets 4 = .ok (.iload 4, 2) := by decide +kernel
theorem dX12_meets_6 : decode cX12_meets 6 = .ok (.iload 5, 2) := by decide +kernel
theorem dX12_meets_8 : decode cX12_meets 8 = .ok (.iload 6, 2) := by decide +kernel
theorem dX12_meets_10 : decode cX12_meets 10 = .ok (.invokevirtual 292, 3) := by decide +kernel
theorem dX12_meets_13 : decode cX12_meets 13 = .ok (.lconst 0, 1) := by decide +kernel
theorem dX12_meets_14 : decode cX12_meets 14 = .ok (.lcmp, 1) := by decide +kernel
theorem dX12_meets_15 : decode cX12_meets 15 = .ok (.ifCond .ne 4, 3) := by decide +kernel
theorem dX12_meets_18 : decode cX12_meets 18 = .ok (.return_, 1) := by decide +kernel
theorem dX12_meets_19 : decode cX12_meets 19 = .ok (.iload_n 1, 1) := by decide +kernel
theorem dX12_meets_20 : decode cX12_meets 20 = .ok (.iload_n 2, 1) := by decide +kernel
theorem dX12_meets_21 : decode cX12_meets 21 = .ok (.aload_n 0, 1) := by decide +kernel
theorem dX12_meets_22 : decode cX12_meets 22 = .ok (.iload_n 3, 1) := by decide +kernel
theorem dX12_meets_23 : decode cX12_meets 23 = .ok (.iload 4, 2) := by decide +kernel
theorem dX12_meets_25 : decode cX12_meets 25 = .ok (.iload 5, 2) := by decide +kernel
theorem dX12_meets_27 : decode cX12_meets 27 = .ok (.iload 6, 2) := by decide +kernel
theorem dX12_meets_29 : decode cX12_meets 29 = .ok (.invokevirtual 278, 3) := by decide +kernel
theorem dX12_meets_32 : decode cX12_meets 32 = .ok (.invokestatic 281, 3) := by decide +kernel
theorem dX12_meets_35 : decode cX12_meets 35 = .ok (.istore 7, 2) := by decide +kernel
theorem dX12_meets_37 : decode cX12_meets 37 = .ok (.aload_n 0, 1) := by decide +kernel
theorem dX12_meets_38 : decode cX12_meets 38 = .ok (.getfield 211, 3) := by decide +kernel
theorem dX12_meets_41 : decode cX12_meets 41 = .ok (.iload 7, 2) := by decide +kernel
theorem dX12_meets_43 : decode cX12_meets 43 = .ok (.baload, 1) := by decide +kernel
theorem dX12_meets_44 : decode cX12_meets 44 = .ok (.ifCond .eq 4, 3) := by decide +kernel
theorem dX12_meets_47 : decode cX12_meets 47 = .ok (.return_, 1) := by decide +kernel
theorem dX12_meets_48 : decode cX12_meets 48 = .ok (.aload_n 0, 1) := by decide +kernel
theorem dX12_meets_49 : decode cX12_meets 49 = .ok (.getfield 211, 3) := by decide +kernel
theorem dX12_meets_52 : decode cX12_meets 52 = .ok (.iload 7, 2) := by decide +kernel
theorem dX12_meets_54 : decode cX12_meets 54 = .ok (.iconst 1, 1) := by decide +kernel
theorem dX12_meets_55 : decode cX12_meets 55 = .ok (.bastore, 1) := by decide +kernel
theorem dX12_meets_56 : decode cX12_meets 56 = .ok (.iload_n 1, 1) := by decide +kernel
theorem dX12_meets_57 : decode cX12_meets 57 = .ok (.iconst 1, 1) := by decide +kernel
theorem dX12_meets_58 : decode cX12_meets 58 = .ok (.if_icmp .ne 27, 3) := by decide +kernel
theorem dX12_meets_61 : decode cX12_meets 61 = .ok (.aload_n 0, 1) := by decide +kernel
theorem dX12_meets_62 : decode cX12_meets 62 = .ok (.getfield 98, 3) := by decide +kernel
theorem dX12_meets_65 : decode cX12_meets 65 = .ok (.iload_n 2, 1) := by decide +kernel
theorem dX12_meets_66 : decode cX12_meets 66 = .ok (.iaload, 1) := by decide +kernel
theorem dX12_meets_67 : decode cX12_meets 67 = .ok (.ifCond .ne 18, 3) := by decide +kernel
theorem dX12_meets_70 : decode cX12_meets 70 = .ok (.aload_n 0, 1) := by decide +kernel
theorem dX12_meets_71 : decode cX12_meets 71 = .ok (.iload_n 2, 1) := by decide +kernel
theorem dX12_meets_72 : decode cX12_meets 72 = .ok (.iload_n 3, 1) := by decide +kernel
theorem dX12_meets_73 : decode cX12_meets 73 = .ok (.iload 4, 2) := by decide +kernel
theorem dX12_meets_75 : decode cX12_meets 75 = .ok (.iload 5, 2) := by decide +kernel
theorem dX12_meets_77 : decode cX12_meets 77 = .ok (.iload 6, 2) := by decide +kernel
theorem dX12_meets_79 : decode cX12_meets 79 = .ok (.invokevirtual 401, 3) := by decide +kernel
theorem dX12_meets_82 : decode cX12_meets 82 = .ok (.goto 15, 3) := by decide +kernel
theorem dX12_meets_85 : decode cX12_meets 85 = .ok (.aload_n 0, 1) := by decide +kernel
theorem dX12_meets_86 : decode cX12_meets 86 = .ok (.iload_n 2, 1) := by decide +kernel
theorem dX12_meets_87 : decode cX12_meets 87 = .ok (.iload_n 3, 1) := by decide +kernel
theorem dX12_meets_88 : decode cX12_meets 88 = .ok (.iload 4, 2) := by decide +kernel
theorem dX12_meets_90 : decode cX12_meets 90 = .ok (.iload 5, 2) := by decide +kernel
theorem dX12_meets_92 : decode cX12_meets 92 = .ok (.iload 6, 2) := by decide +kernel
theorem dX12_meets_94 : decode cX12_meets 94 = .ok (.invokevirtual 405, 3) := by decide +kernel
theorem dX12_meets_97 : decode cX12_meets 97 = .ok (.return_, 1) := by decide +kernel
theorem dX12_meetsAbove_0 : decode cX12_meetsAbove 0 = .ok (.aload_n 0, 1) := by decide +kernel
theorem dX12_meetsAbove_1 : decode cX12_meetsAbove 1 = .ok (.getfield 104, 3) := by decide +kernel
theorem dX12_meetsAbove_4 : decode cX12_meetsAbove 4 = .ok (.iload_n 1, 1) := by decide +kernel
theorem dX12_meetsAbove_5 : decode cX12_meetsAbove 5 = .ok (.iaload, 1) := by decide +kernel
theorem dX12_meetsAbove_6 : decode cX12_meetsAbove 6 = .ok (.iconst 2, 1) := by decide +kernel
theorem dX12_meetsAbove_7 : decode cX12_meetsAbove 7 = .ok (.if_icmp .eq 15, 3) := by decide +kernel
theorem dX12_meetsAbove_10 : decode cX12_meetsAbove 10 = .ok (.aload_n 0, 1) := by decide +kernel
theorem dX12_meetsAbove_11 : decode cX12_meetsAbove 11 = .ok (.iconst 0, 1) := by decide +kernel
theorem dX12_meetsAbove_12 : decode cX12_meetsAbove 12 = .ok (.iload_n 1, 1) := by decide +kernel
theorem dX12_meetsAbove_13 : decode cX12_meetsAbove 13 = .ok (.iload_n 2, 1) := by decide +kernel
theorem dX12_meetsAbove_14 : decode cX12_meetsAbove 14 = .ok (.iload_n 3, 1) := by decide +kernel
theorem dX12_meetsAbove_15 : decode cX12_meetsAbove 15 = .ok (.iload 4, 2) := by decide +kernel
theorem dX12_meetsAbove_17 : decode cX12_meetsAbove 17 = .ok (.iload 5, 2) := by decide +kernel
theorem dX12_meetsAbove_19 : decode cX12_meetsAbove 19 = .ok (.invokevirtual 408, 3) := by decide +kernel
theorem dX12_meetsAbove_22 : decode cX12_meetsAbove 22 = .ok (.iconst 0, 1) := by decide +kernel
theorem dX12_meetsAbove_23 : decode cX12_meetsAbove 23 = .ok (.istore 6, 2) := by decide +kernel
theorem dX12_meetsAbove_25 : decode cX12_meetsAbove 25 = .ok (.iload 6, 2) := by decide +kernel
theorem dX12_meetsAbove_27 : decode cX12_meetsAbove 27 = .ok (.aload_n 0, 1) := by decide +kernel
theorem dX12_meetsAbove_28 : decode cX12_meetsAbove 28 = .ok (.getfield 11, 3) := by decide +kernel
theorem dX12_meetsAbove_31 : decode cX12_meetsAbove 31 = .ok (.if_icmp .ge 160, 3) := by decide +kernel
theorem dX12_meetsAbove_34 : decode cX12_meetsAbove 34 = .ok (.aload_n 0, 1) := by decide +kernel
theorem dX12_meetsAbove_35 : decode cX12_meetsAbove 35 = .ok (.getfield 104, 3) := by decide +kernel
theorem dX12_meetsAbove_38 : decode cX12_meetsAbove 38 = .ok (.iload_n 1, 1) := by decide +kernel
theorem dX12_meetsAbove_39 : decode cX12_meetsAbove 39 = .ok (.iaload, 1) := by decide +kernel
theorem dX12_meetsAbove_40 : decode cX12_meetsAbove 40 = .ok (.iconst 1, 1) := by decide +kernel
theorem dX12_meetsAbove_41 : decode cX12_meetsAbove 41 = .ok (.if_icmp .eq 150, 3) := by decide +kernel
theorem dX12_meetsAbove_44 : decode cX12_meetsAbove 44 = .ok (.aload_n 0, 1) := by decide +kernel
theorem dX12_meetsAbove_45 : decode cX12_meetsAbove 45 = .ok (.iload 6, 2) := by decide +kernel
theorem dX12_meetsAbove_47 : decode cX12_meetsAbove 47 = .ok (.aload_n 0, 1) := by decide +kernel
theorem dX12_meetsAbove_48 : decode cX12_meetsAbove 48 = .ok (.getfield 101, 3) := by decide +kernel
theorem dX12_meetsAbove_51 : decode cX12_meetsAbove 51 = .ok (.iload_n 1, 1) := by decide +kernel
theorem dX12_meetsAbove_52 : decode cX12_meetsAbove 52 = .ok (.iaload, 1) := by decide +kernel
theorem dX12_meetsAbove_53 : decode cX12_meetsAbove 53 = .ok (.iconst 1, 1) := by decide +kernel
theorem dX12_meetsAbove_54 : decode cX12_meetsAbove 54 = .ok (.invokevirtual 296, 3) := by decide +kernel
theorem dX12_meetsAbove_57 : decode cX12_meetsAbove 57 = .ok (.ifCond .ne 6, 3) := by decide +kernel
theorem dX12_meetsAbove_60 : decode cX12_meetsAbove 60 = .ok (.goto 125, 3) := by decide +kernel
theorem dX12_meetsAbove_63 : decode cX12_meetsAbove 63 = .ok (.iload_n 2, 1) := by decide +kernel
theorem dX12_meetsAbove_64 : decode cX12_meetsAbove 64 = .ok (.istore 7, 2) := by decide +kernel
theorem dX12_meetsAbove_66 : decode cX12_meetsAbove 66 = .ok (.iload 7, 2) := by decide +kernel
theorem dX12_meetsAbove_68 : decode cX12_meetsAbove 68 = .ok (.iload 4, 2) := by decide +kernel
theorem dX12_meetsAbove_70 : decode cX12_meetsAbove 70 = .ok (.iconst (-1), 1) := by decide +kernel
theorem dX12_meetsAbove_71 : decode cX12_meetsAbove 71 = .ok (.if_icmp .ne 7, 3) := by decide +kernel
theorem dX12_meetsAbove_74 : decode cX12_meetsAbove 74 = .ok (.iload_n 3, 1) := by decide +kernel
theorem dX12_meetsAbove_75 : decode cX12_meetsAbove 75 = .ok (.goto 5, 3) := by decide +kernel
theorem dX12_meetsAbove_78 : decode cX12_meetsAbove 78 = .ok (.iload 4, 2) := by decide +kernel
theorem dX12_meetsAbove_80 : decode cX12_meetsAbove 80 = .ok (.if_icmp .gt 105, 3) := by decide +kernel
theorem dX12_meetsAbove_83 : decode cX12_meetsAbove 83 = .ok (.iload 4, 2) := by decide +kernel
theorem dX12_meetsAbove_85 : decode cX12_meetsAbove 85 = .ok (.iconst (-1), 1) := by decide +kernel
theorem dX12_meetsAbove_86 : decode cX12_meetsAbove 86 = .ok (.if_icmp .ne 8, 3) := by decide +kernel
theorem dX12_meetsAbove_89 : decode cX12_meetsAbove 89 = .ok (.iload 7, 2) := by decide +kernel
theorem dX12_meetsAbove_91 : decode cX12_meetsAbove 91 = .ok (.goto 5, 3) := by decide +kernel
theorem dX12_meetsAbove_94 : decode cX12_meetsAbove 94 = .ok (.iload 5, 2) := by decide +kernel
theorem dX12_meetsAbove_96 : decode cX12_meetsAbove 96 = .ok (.istore 8, 2) := by decide +kernel
theorem dX12_meetsAbove_98 : decode cX12_meetsAbove 98 = .ok (.iload 8, 2) := by decide +kernel
theorem dX12_meetsAbove_100 : decode cX12_meetsAbove 100 = .ok (.iload_n 3, 1) := by decide +kernel
theorem dX12_meetsAbove_101 : decode cX12_meetsAbove 101 = .ok (.if_icmp .gt 78, 3) := by decide +kernel
theorem dX12_meetsAbove_104 : decode cX12_meetsAbove 104 = .ok (.aload_n 0, 1) := by decide +kernel
theorem dX12_meetsAbove_105 : decode cX12_meetsAbove 105 = .ok (.iload_n 1, 1) := by decide +kernel
theorem dX12_meetsAbove_106 : decode cX12_meetsAbove 106 = .ok (.iload 6, 2) := by decide +kernel
theorem dX12_meetsAbove_108 : decode cX12_meetsAbove 108 = .ok (.iload 7, 2) := by decide +kernel
theorem dX12_meetsAbove_110 : decode cX12_meetsAbove 110 = .ok (.iload 8, 2) := by decide +kernel
theorem dX12_meetsAbove_112 : decode cX12_meetsAbove 112 = .ok (.iload_n 2, 1) := by decide +kernel
theorem dX12_meetsAbove_113 : decode cX12_meetsAbove 113 = .ok (.iload_n 3, 1) := by decide +kernel
theorem dX12_meetsAbove_114 : decode cX12_meetsAbove 114 = .ok (.iload 4, 2) := by decide +kernel
theorem dX12_meetsAbove_116 : decode cX12_meetsAbove 116 = .ok (.iload 5, 2) := by decide +kernel
theorem dX12_meetsAbove_118 : decode cX12_meetsAbove 118 = .ok (.invokevirtual 300, 3) := by decide +kernel
theorem dX12_meetsAbove_121 : decode cX12_meetsAbove 121 = .ok (.lconst 0, 1) := by decide +kernel
theorem dX12_meetsAbove_122 : decode cX12_meetsAbove 122 = .ok (.lcmp, 1) := by decide +kernel
theorem dX12_meetsAbove_123 : decode cX12_meetsAbove 123 = .ok (.ifCond .ne 6, 3) := by decide +kernel
theorem dX12_meetsAbove_126 : decode cX12_meetsAbove 126 = .ok (.goto 47, 3) := by decide +kernel
theorem dX12_meetsAbove_129 : decode cX12_meetsAbove 129 = .ok (.aload_n 0, 1) := by decide +kernel
theorem dX12_meetsAbove_130 : decode cX12_meetsAbove 130 = .ok (.dup, 1) := by decide +kernel
theorem dX12_meetsAbove_131 : decode cX12_meetsAbove 131 = .ok (.getfield 412, 3) := by decide +kernel
theorem dX12_meetsAbove_134 : decode cX12_meetsAbove 134 = .ok (.iconst 1, 1) := by decide +kernel
theorem dX12_meetsAbove_135 : decode cX12_meetsAbove 135 = .ok (.iload 6, 2) := by decide +kernel
theorem dX12_meetsAbove_137 : decode cX12_meetsAbove 137 = .ok (.ishl, 1) := by decide +kernel
theorem dX12_meetsAbove_138 : decode cX12_meetsAbove 138 = .ok (.ior, 1) := by decide +kernel
theorem dX12_meetsAbove_139 : decode cX12_meetsAbove 139 = .ok (.putfield 412, 3) := by decide +kernel
theorem dX12_meetsAbove_142 : decode cX12_meetsAbove 142 = .ok (.aload_n 0, 1) := by decide +kernel
theorem dX12_meetsAbove_143 : decode cX12_meetsAbove 143 = .ok (.iconst 1, 1) := by decide +kernel
theorem dX12_meetsAbove_144 : decode cX12_meetsAbove 144 = .ok (.aload_n 0, 1) := by decide +kernel
theorem dX12_meetsAbove_145 : decode cX12_meetsAbove 145 = .ok (.iload 6, 2) := by decide +kernel
theorem dX12_meetsAbove_147 : decode cX12_meetsAbove 147 = .ok (.invokevirtual 268, 3) := by decide +kernel
theorem dX12_meetsAbove_150 : decode cX12_meetsAbove 150 = .ok (.iload_n 2, 1) := by decide +kernel
theorem dX12_meetsAbove_151 : decode cX12_meetsAbove 151 = .ok (.iload_n 3, 1) := by decide +kernel
theorem dX12_meetsAbove_152 : decode cX12_meetsAbove 152 = .ok (.iload 7, 2) := by decide +kernel
theorem dX12_meetsAbove_154 : decode cX12_meetsAbove 154 = .ok (.iload 8, 2) := by decide +kernel
theorem dX12_meetsAbove_156 : decode cX12_meetsAbove 156 = .ok (.invokevirtual 408, 3) := by decide +kernel
theorem dX12_meetsAbove_159 : decode cX12_meetsAbove 159 = .ok (.aload_n 0, 1) := by decide +kernel
theorem dX12_meetsAbove_160 : decode cX12_meetsAbove 160 = .ok (.iconst 0, 1) := by decide +kernel
theorem dX12_meetsAbove_161 : decode cX12_meetsAbove 161 = .ok (.iload_n 1, 1) := by decide +kernel
theorem dX12_meetsAbove_162 : decode cX12_meetsAbove 162 = .ok (.iload 7, 2) := by decide +kernel
theorem dX12_meetsAbove_164 : decode cX12_meetsAbove 164 = .ok (.iload 8, 2) := by decide +kernel
theorem dX12_meetsAbove_166 : decode cX12_meetsAbove 166 = .ok (.iload 4, 2) := by decide +kernel
theorem dX12_meetsAbove_168 : decode cX12_meetsAbove 168 = .ok (.iload 5, 2) := by decide +kernel
theorem dX12_meetsAbove_170 : decode cX12_meetsAbove 170 = .ok (.invokevirtual 408, 3) := by decide +kernel
theorem dX12_meetsAbove_173 : decode cX12_meetsAbove 173 = .ok (.iinc 8 1, 3) := by decide +kernel
theorem dX12_meetsAbove_176 : decode cX12_meetsAbove 176 = .ok (.goto (-78), 3) := by decide +kernel
theorem dX12_meetsAbove_179 : decode cX12_meetsAbove 179 = .ok (.iinc 7 1, 3) := by decide +kernel
theorem dX12_meetsAbove_182 : decode cX12_meetsAbove 182 = .ok (.goto (-116), 3) := by decide +kernel
theorem dX12_meetsAbove_185 : decode cX12_meetsAbove 185 = .ok (.iinc 6 1, 3) := by decide +kernel
theorem dX12_meetsAbove_188 : decode cX12_meetsAbove 188 = .ok (.goto (-163), 3) := by decide +kernel
theorem dX12_meetsAbove_191 : decode cX12_meetsAbove 191 = .ok (.return_, 1) := by decide +kernel
theorem dX12_meetsHost_0 : decode cX12_meetsHost 0 = .ok (.aload_n 0, 1) := by decide +kernel
theorem dX12_meetsHost_1 : decode cX12_meetsHost 1 = .ok (.iconst 1, 1) := by decide +kernel
theorem dX12_meetsHost_2 : decode cX12_meetsHost 2 = .ok (.aload_n 0, 1) := by decide +kernel
theorem dX12_meetsHost_3 : decode cX12_meetsHost 3 = .ok (.iload_n 1, 1) := by decide +kernel
theorem dX12_meetsHost_4 : decode cX12_meetsHost 4 = .ok (.invokevirtual 268, 3) := by decide +kernel
theorem dX12_meetsHost_7 : decode cX12_meetsHost 7 = .ok (.iload_n 2, 1) := by decide +kernel
theorem dX12_meetsHost_8 : decode cX12_meetsHost 8 = .ok (.iload_n 3, 1) := by decide +kernel
theorem dX12_meetsHost_9 : decode cX12_meetsHost 9 = .ok (.iconst (-1), 1) := by decide +kernel
theorem dX12_meetsHost_10 : decode cX12_meetsHost 10 = .ok (.iconst (-1), 1) := by decide +kernel
theorem dX12_meetsHost_11 : decode cX12_meetsHost 11 = .ok (.invokevirtual 292, 3) := by decide +kernel
theorem dX12_meetsHost_14 : decode cX12_meetsHost 14 = .ok (.lconst 0, 1) := by decide +kernel
theorem dX12_meetsHost_15 : decode cX12_meetsHost 15 = .ok (.lcmp, 1) := by decide +kernel
theorem dX12_meetsHost_16 : decode cX12_meetsHost 16 = .ok (.ifCond .ne 4, 3) := by decide +kernel
theorem dX12_meetsHost_19 : decode cX12_meetsHost 19 = .ok (.return_, 1) := by decide +kernel
theorem dX12_meetsHost_20 : decode cX12_meetsHost 20 = .ok (.aload_n 0, 1) := by decide +kernel
theorem dX12_meetsHost_21 : decode cX12_meetsHost 21 = .ok (.dup, 1) := by decide +kernel
theorem dX12_meetsHost_22 : decode cX12_meetsHost 22 = .ok (.getfield 412, 3) := by decide +kernel
theorem dX12_meetsHost_25 : decode cX12_meetsHost 25 = .ok (.iconst 1, 1) := by decide +kernel
theorem dX12_meetsHost_26 : decode cX12_meetsHost 26 = .ok (.iload_n 1, 1) := by decide +kernel
theorem dX12_meetsHost_27 : decode cX12_meetsHost 27 = .ok (.ishl, 1) := by decide +kernel
theorem dX12_meetsHost_28 : decode cX12_meetsHost 28 = .ok (.ior, 1) := by decide +kernel
theorem dX12_meetsHost_29 : decode cX12_meetsHost 29 = .ok (.putfield 412, 3) := by decide +kernel
theorem dX12_meetsHost_32 : decode cX12_meetsHost 32 = .ok (.aload_n 0, 1) := by decide +kernel
theorem dX12_meetsHost_33 : decode cX12_meetsHost 33 = .ok (.iconst 1, 1) := by decide +kernel
theorem dX12_meetsHost_34 : decode cX12_meetsHost 34 = .ok (.aload_n 0, 1) := by decide +kernel
theorem dX12_meetsHost_35 : decode cX12_meetsHost 35 = .ok (.iload_n 1, 1) := by decide +kernel
theorem dX12_meetsHost_36 : decode cX12_meetsHost 36 = .ok (.invokevirtual 268, 3) := by decide +kernel
theorem dX12_meetsHost_39 : decode cX12_meetsHost 39 = .ok (.iload_n 2, 1) := by decide +kernel
theorem dX12_meetsHost_40 : decode cX12_meetsHost 40 = .ok (.iload_n 3, 1) := by decide +kernel
theorem dX12_meetsHost_41 : decode cX12_meetsHost 41 = .ok (.iconst (-1), 1) := by decide +kernel
theorem dX12_meetsHost_42 : decode cX12_meetsHost 42 = .ok (.iconst (-1), 1) := by decide +kernel
theorem dX12_meetsHost_43 : decode cX12_meetsHost 43 = .ok (.invokevirtual 408, 3) := by decide +kernel
theorem dX12_meetsHost_46 : decode cX12_meetsHost 46 = .ok (.return_, 1) := by decide +kernel
theorem dX12_meetsBelow_0 : decode cX12_meetsBelow 0 = .ok (.aload_n 0, 1) := by decide +kernel
theorem dX12_meetsBelow_1 : decode cX12_meetsBelow 1 = .ok (.getfield 98, 3) := by decide +kernel
theorem dX12_meetsBelow_4 : decode cX12_meetsBelow 4 = .ok (.iload_n 1, 1) := by decide +kernel
theorem dX12_meetsBelow_5 : decode cX12_meetsBelow 5 = .ok (.iaload, 1) := by decide +kernel
theorem dX12_meetsBelow_6 : decode cX12_meetsBelow 6 = .ok (.iconst 4, 1) := by decide +kernel
theorem dX12_meetsBelow_7 : decode cX12_meetsBelow 7 = .ok (.if_icmp .ne 46, 3) := by decide +kernel
theorem dX12_meetsBelow_10 : decode cX12_meetsBelow 10 = .ok (.iconst 0, 1) := by decide +kernel
theorem dX12_meetsBelow_11 : decode cX12_meetsBelow 11 = .ok (.istore 6, 2) := by decide +kernel
theorem dX12_meetsBelow_13 : decode cX12_meetsBelow 13 = .ok (.iload 6, 2) := by decide +kernel
theorem dX12_meetsBelow_15 : decode cX12_meetsBelow 15 = .ok (.aload_n 0, 1) := by decide +kernel
theorem dX12_meetsBelow_16 : decode cX12_meetsBelow 16 = .ok (.getfield 11, 3) := by decide +kernel
theorem dX12_meetsBelow_19 : decode cX12_meetsBelow 19 = .ok (.if_icmp .ge 33, 3) := by decide +kernel
theorem dX12_meetsBelow_22 : decode cX12_meetsBelow 22 = .ok (.aload_n 0, 1) := by decide +kernel
theorem dX12_meetsBelow_23 : decode cX12_meetsBelow 23 = .ok (.iload 6, 2) := by decide +kernel
theorem dX12_meetsBelow_25 : decode cX12_meetsBelow 25 = .ok (.aload_n 0, 1) := by decide +kernel
theorem dX12_meetsBelow_26 : decode cX12_meetsBelow 26 = .ok (.getfield 101, 3) := by decide +kernel
theorem dX12_meetsBelow_29 : decode cX12_meetsBelow 29 = .ok (.iload_n 1, 1) := by decide +kernel
theorem dX12_meetsBelow_30 : decode cX12_meetsBelow 30 = .ok (.iaload, 1) := by decide +kernel
theorem dX12_meetsBelow_31 : decode cX12_meetsBelow 31 = .ok (.iconst 0, 1) := by decide +kernel
theorem dX12_meetsBelow_32 : decode cX12_meetsBelow 32 = .ok (.invokevirtual 296, 3) := by decide +kernel
theorem dX12_meetsBelow_35 : decode cX12_meetsBelow 35 = .ok (.ifCond .eq 11, 3) := by decide +kernel
theorem dX12_meetsBelow_38 : decode cX12_meetsBelow 38 = .ok (.aload_n 0, 1) := by decide +kernel
theorem dX12_meetsBelow_39 : decode cX12_meetsBelow 39 = .ok (.iload 6, 2) := by decide +kernel
theorem dX12_meetsBelow_41 : decode cX12_meetsBelow 41 = .ok (.iload_n 2, 1) := by decide +kernel
theorem dX12_meetsBelow_42 : decode cX12_meetsBelow 42 = .ok (.iload_n 3, 1) := by decide +kernel
theorem dX12_meetsBelow_43 : decode cX12_meetsBelow 43 = .ok (.invokevirtual 415, 3) := by decide +kernel
theorem dX12_meetsBelow_46 : decode cX12_meetsBelow 46 = .ok (.iinc 6 1, 3) := by decide +kernel
theorem dX12_meetsBelow_49 : decode cX12_meetsBelow 49 = .ok (.goto (-36), 3) := by decide +kernel
theorem dX12_meetsBelow_52 : decode cX12_meetsBelow 52 = .ok (.return_, 1) := by decide +kernel
theorem dX12_meetsBelow_53 : decode cX12_meetsBelow 53 = .ok (.aload_n 0, 1) := by decide +kernel
theorem dX12_meetsBelow_54 : decode cX12_meetsBelow 54 = .ok (.getfield 98, 3) := by decide +kernel
theorem dX12_meetsBelow_57 : decode cX12_meetsBelow 57 = .ok (.iload_n 1, 1) := by decide +kernel
theorem dX12_meetsBelow_58 : decode cX12_meetsBelow 58 = .ok (.iaload, 1) := by decide +kernel
theorem dX12_meetsBelow_59 : decode cX12_meetsBelow 59 = .ok (.ifCond .eq 4, 3) := by decide +kernel
theorem dX12_meetsBelow_62 : decode cX12_meetsBelow 62 = .ok (.return_, 1) := by decide +kernel
theorem dX12_meetsBelow_63 : decode cX12_meetsBelow 63 = .ok (.aload_n 0, 1) := by decide +kernel
theorem dX12_meetsBelow_64 : decode cX12_meetsBelow 64 = .ok (.getfield 110, 3) := by decide +kernel
theorem dX12_meetsBelow_67 : decode cX12_meetsBelow 67 = .ok (.iload_n 1, 1) := by decide +kernel
theorem dX12_meetsBelow_68 : decode cX12_meetsBelow 68 = .ok (.iaload, 1) := by decide +kernel
theorem dX12_meetsBelow_69 : decode cX12_meetsBelow 69 = .ok (.iconst (-1), 1) := by decide +kernel
theorem dX12_meetsBelow_70 : decode cX12_meetsBelow 70 = .ok (.if_icmp .ne 21, 3) := by decide +kernel
theorem dX12_meetsBelow_73 : decode cX12_meetsBelow 73 = .ok (.aload_n 0, 1) := by decide +kernel
theorem dX12_meetsBelow_74 : decode cX12_meetsBelow 74 = .ok (.iconst 1, 1) := by decide +kernel
theorem dX12_meetsBelow_75 : decode cX12_meetsBelow 75 = .ok (.aload_n 0, 1) := by decide +kernel
theorem dX12_meetsBelow_76 : decode cX12_meetsBelow 76 = .ok (.getfield 107, 3) := by decide +kernel
theorem dX12_meetsBelow_79 : decode cX12_meetsBelow 79 = .ok (.iload_n 1, 1) := by decide +kernel
theorem dX12_meetsBelow_80 : decode cX12_meetsBelow 80 = .ok (.iaload, 1) := by decide +kernel
theorem dX12_meetsBelow_81 : decode cX12_meetsBelow 81 = .ok (.iload_n 2, 1) := by decide +kernel
theorem dX12_meetsBelow_82 : decode cX12_meetsBelow 82 = .ok (.iload_n 3, 1) := by decide +kernel
theorem dX12_meetsBelow_83 : decode cX12_meetsBelow 83 = .ok (.iload 4, 2) := by decide +kernel
theorem dX12_meetsBelow_85 : decode cX12_meetsBelow 85 = .ok (.iload 5, 2) := by decide +kernel
theorem dX12_meetsBelow_87 : decode cX12_meetsBelow 87 = .ok (.invokevirtual 408, 3) := by decide +kernel
theorem dX12_meetsBelow_90 : decode cX12_meetsBelow 90 = .ok (.return_, 1) := by decide +kernel
theorem dX12_meetsBelow_91 : decode cX12_meetsBelow 91 = .ok (.aload_n 0, 1) := by decide +kernel
theorem dX12_meetsBelow_92 : decode cX12_meetsBelow 92 = .ok (.getfield 167, 3) := by decide +kernel
theorem dX12_meetsBelow_95 : decode cX12_meetsBelow 95 = .ok (.aload_n 0, 1) := by decide +kernel
theorem dX12_meetsBelow_96 : decode cX12_meetsBelow 96 = .ok (.getfield 107, 3) := by decide +kernel
theorem dX12_meetsBelow_99 : decode cX12_meetsBelow 99 = .ok (.iload_n 1, 1) := by decide +kernel
theorem dX12_meetsBelow_100 : decode cX12_meetsBelow 100 = .ok (.iaload, 1) := by decide +kernel
theorem dX12_meetsBelow_101 : decode cX12_meetsBelow 101 = .ok (.baload, 1) := by decide +kernel
theorem dX12_meetsBelow_102 : decode cX12_meetsBelow 102 = .ok (.istore 6, 2) := by decide +kernel
theorem dX12_meetsBelow_104 : decode cX12_meetsBelow 104 = .ok (.aload_n 0, 1) := by decide +kernel
theorem dX12_meetsBelow_105 : decode cX12_meetsBelow 105 = .ok (.getfield 167, 3) := by decide +kernel
theorem dX12_meetsBelow_108 : decode cX12_meetsBelow 108 = .ok (.aload_n 0, 1) := by decide +kernel
theorem dX12_meetsBelow_109 : decode cX12_meetsBelow 109 = .ok (.getfield 110, 3) := by decide +kernel
theorem dX12_meetsBelow_112 : decode cX12_meetsBelow 112 = .ok (.iload_n 1, 1) := by decide +kernel
theorem dX12_meetsBelow_113 : decode cX12_meetsBelow 113 = .ok (.iaload, 1) := by decide +kernel
theorem dX12_meetsBelow_114 : decode cX12_meetsBelow 114 = .ok (.baload, 1) := by decide +kernel
theorem dX12_meetsBelow_115 : decode cX12_meetsBelow 115 = .ok (.istore 7, 2) := by decide +kernel
theorem dX12_meetsBelow_117 : decode cX12_meetsBelow 117 = .ok (.iload_n 2, 1) := by decide +kernel
theorem dX12_meetsBelow_118 : decode cX12_meetsBelow 118 = .ok (.istore 8, 2) := by decide +kernel
theorem dX12_meetsBelow_120 : decode cX12_meetsBelow 120 = .ok (.iload 8, 2) := by decide +kernel
theorem dX12_meetsBelow_122 : decode cX12_meetsBelow 122 = .ok (.iload_n 3, 1) := by decide +kernel
theorem dX12_meetsBelow_123 : decode cX12_meetsBelow 123 = .ok (.if_icmp .gt 102, 3) := by decide +kernel
theorem dX12_meetsBelow_126 : decode cX12_meetsBelow 126 = .ok (.aload_n 0, 1) := by decide +kernel
theorem dX12_meetsBelow_127 : decode cX12_meetsBelow 127 = .ok (.iload_n 1, 1) := by decide +kernel
theorem dX12_meetsBelow_128 : decode cX12_meetsBelow 128 = .ok (.iload_n 2, 1) := by decide +kernel
theorem dX12_meetsBelow_129 : decode cX12_meetsBelow 129 = .ok (.iload 8, 2) := by decide +kernel
theorem dX12_meetsBelow_131 : decode cX12_meetsBelow 131 = .ok (.iload_n 3, 1) := by decide +kernel
theorem dX12_meetsBelow_132 : decode cX12_meetsBelow 132 = .ok (.iload 4, 2) := by decide +kernel
theorem dX12_meetsBelow_134 : decode cX12_meetsBelow 134 = .ok (.iload 5, 2) := by decide +kernel
theorem dX12_meetsBelow_136 : decode cX12_meetsBelow 136 = .ok (.invokevirtual 314, 3) := by decide +kernel
theorem dX12_meetsBelow_139 : decode cX12_meetsBelow 139 = .ok (.lconst 0, 1) := by decide +kernel
theorem dX12_meetsBelow_140 : decode cX12_meetsBelow 140 = .ok (.lcmp, 1) := by decide +kernel
theorem dX12_meetsBelow_141 : decode cX12_meetsBelow 141 = .ok (.ifCond .ne 6, 3) := by decide +kernel
theorem dX12_meetsBelow_144 : decode cX12_meetsBelow 144 = .ok (.goto 75, 3) := by decide +kernel
theorem dX12_meetsBelow_147 : decode cX12_meetsBelow 147 = .ok (.aload_n 0, 1) := by decide +kernel
theorem dX12_meetsBelow_148 : decode cX12_meetsBelow 148 = .ok (.iconst 1, 1) := by decide +kernel
theorem dX12_meetsBelow_149 : decode cX12_meetsBelow 149 = .ok (.aload_n 0, 1) := by decide +kernel
theorem dX12_meetsBelow_150 : decode cX12_meetsBelow 150 = .ok (.getfield 107, 3) := by decide +kernel
theorem dX12_meetsBelow_153 : decode cX12_meetsBelow 153 = .ok (.iload_n 1, 1) := by decide +kernel
theorem dX12_meetsBelow_154 : decode cX12_meetsBelow 154 = .ok (.iaload, 1) := by decide +kernel
theorem dX12_meetsBelow_155 : decode cX12_meetsBelow 155 = .ok (.iload_n 2, 1) := by decide +kernel
theorem dX12_meetsBelow_156 : decode cX12_meetsBelow 156 = .ok (.iload 8, 2) := by decide +kernel
theorem dX12_meetsBelow_158 : decode cX12_meetsBelow 158 = .ok (.iload 6, 2) := by decide +kernel
theorem dX12_meetsBelow_160 : decode cX12_meetsBelow 160 = .ok (.ifCond .eq 8, 3) := by decide +kernel
theorem dX12_meetsBelow_163 : decode cX12_meetsBelow 163 = .ok (.iload 4, 2) := by decide +kernel
theorem dX12_meetsBelow_165 : decode cX12_meetsBelow 165 = .ok (.goto 4, 3) := by decide +kernel
theorem dX12_meetsBelow_168 : decode cX12_meetsBelow 168 = .ok (.iconst (-1), 1) := by decide +kernel
theorem dX12_meetsBelow_169 : decode cX12_meetsBelow 169 = .ok (.iload 6, 2) := by decide +kernel
theorem dX12_meetsBelow_171 : decode cX12_meetsBelow 171 = .ok (.ifCond .eq 8, 3) := by decide +kernel
theorem dX12_meetsBelow_174 : decode cX12_meetsBelow 174 = .ok (.iload 5, 2) := by decide +kernel
theorem dX12_meetsBelow_176 : decode cX12_meetsBelow 176 = .ok (.goto 4, 3) := by decide +kernel
theorem dX12_meetsBelow_179 : decode cX12_meetsBelow 179 = .ok (.iconst (-1), 1) := by decide +kernel
theorem dX12_meetsBelow_180 : decode cX12_meetsBelow 180 = .ok (.invokevirtual 408, 3) := by decide +kernel
theorem dX12_meetsBelow_183 : decode cX12_meetsBelow 183 = .ok (.aload_n 0, 1) := by decide +kernel
theorem dX12_meetsBelow_184 : decode cX12_meetsBelow 184 = .ok (.iconst 1, 1) := by decide +kernel
theorem dX12_meetsBelow_185 : decode cX12_meetsBelow 185 = .ok (.aload_n 0, 1) := by decide +kernel
theorem dX12_meetsBelow_186 : decode cX12_meetsBelow 186 = .ok (.getfield 110, 3) := by decide +kernel
theorem dX12_meetsBelow_189 : decode cX12_meetsBelow 189 = .ok (.iload_n 1, 1) := by decide +kernel
theorem dX12_meetsBelow_190 : decode cX12_meetsBelow 190 = .ok (.iaload, 1) := by decide +kernel
theorem dX12_meetsBelow_191 : decode cX12_meetsBelow 191 = .ok (.iload 8, 2) := by decide +kernel
theorem dX12_meetsBelow_193 : decode cX12_meetsBelow 193 = .ok (.iload_n 3, 1) := by decide +kernel
theorem dX12_meetsBelow_194 : decode cX12_meetsBelow 194 = .ok (.iload 7, 2) := by decide +kernel
theorem dX12_meetsBelow_196 : decode cX12_meetsBelow 196 = .ok (.ifCond .eq 8, 3) := by decide +kernel
theorem dX12_meetsBelow_199 : decode cX12_meetsBelow 199 = .ok (.iload 4, 2) := by decide +kernel
theorem dX12_meetsBelow_201 : decode cX12_meetsBelow 201 = .ok (.goto 4, 3) := by decide +kernel
theorem dX12_meetsBelow_204 : decode cX12_meetsBelow 204 = .ok (.iconst (-1), 1) := by decide +kernel
theorem dX12_meetsBelow_205 : decode cX12_meetsBelow 205 = .ok (.iload 7, 2) := by decide +kernel
theorem dX12_meetsBelow_207 : decode cX12_meetsBelow 207 = .ok (.ifCond .eq 8, 3) := by decide +kernel
theorem dX12_meetsBelow_210 : decode cX12_meetsBelow 210 = .ok (.iload 5, 2) := by decide +kernel
theorem dX12_meetsBelow_212 : decode cX12_meetsBelow 212 = .ok (.goto 4, 3) := by decide +kernel
theorem dX12_meetsBelow_215 : decode cX12_meetsBelow 215 = .ok (.iconst (-1), 1) := by decide +kernel
theorem dX12_meetsBelow_216 : decode cX12_meetsBelow 216 = .ok (.invokevirtual 408, 3) := by decide +kernel
theorem dX12_meetsBelow_219 : decode cX12_meetsBelow 219 = .ok (.iinc 8 1, 3) := by decide +kernel
theorem dX12_meetsBelow_222 : decode cX12_meetsBelow 222 = .ok (.goto (-102), 3) := by decide +kernel
theorem dX12_meetsBelow_225 : decode cX12_meetsBelow 225 = .ok (.return_, 1) := by decide +kernel
theorem dX12_used_0 : decode cX12_used 0 = .ok (.iload_n 1, 1) := by decide +kernel
theorem dX12_used_1 : decode cX12_used 1 = .ok (.i2l, 1) := by decide +kernel
theorem dX12_used_2 : decode cX12_used 2 = .ok (.lconst 0, 1) := by decide +kernel
theorem dX12_used_3 : decode cX12_used 3 = .ok (.lconst 1, 1) := by decide +kernel
theorem dX12_used_4 : decode cX12_used 4 = .ok (.invokestatic 14, 3) := by decide +kernel
theorem dX12_used_7 : decode cX12_used 7 = .ok (.ifCond .ne 6, 3) := by decide +kernel
theorem dX12_used_10 : decode cX12_used 10 = .ok (.bipush (-2), 2) := by decide +kernel
theorem dX12_used_12 : decode cX12_used 12 = .ok (.ireturn, 1) := by decide +kernel
theorem dX12_used_13 : decode cX12_used 13 = .ok (.aload_n 0, 1) := by decide +kernel
theorem dX12_used_14 : decode cX12_used 14 = .ok (.iconst 0, 1) := by decide +kernel
theorem dX12_used_15 : decode cX12_used 15 = .ok (.invokevirtual 387, 3) := by decide +kernel
theorem dX12_used_18 : decode cX12_used 18 = .ok (.aload_n 0, 1) := by decide +kernel
theorem dX12_used_19 : decode cX12_used 19 = .ok (.aload_n 0, 1) := by decide +kernel
theorem dX12_used_20 : decode cX12_used 20 = .ok (.getfield 249, 3) := by decide +kernel
theorem dX12_used_23 : decode cX12_used 23 = .ok (.invokevirtual 397, 3) := by decide +kernel
theorem dX12_used_26 : decode cX12_used 26 = .ok (.lconst 0, 1) := by decide +kernel
theorem dX12_used_27 : decode cX12_used 27 = .ok (.lcmp, 1) := by decide +kernel
theorem dX12_used_28 : decode cX12_used 28 = .ok (.ifCond .le 7, 3) := by decide +kernel
theorem dX12_used_31 : decode cX12_used 31 = .ok (.iconst 1, 1) := by decide +kernel
theorem dX12_used_32 : decode cX12_used 32 = .ok (.goto 4, 3) := by decide +kernel
theorem dX12_used_35 : decode cX12_used 35 = .ok (.iconst 0, 1) := by decide +kernel
theorem dX12_used_36 : decode cX12_used 36 = .ok (.istore_n 2, 1) := by decide +kernel
theorem dX12_used_37 : decode cX12_used 37 = .ok (.aload_n 0, 1) := by decide +kernel
theorem dX12_used_38 : decode cX12_used 38 = .ok (.iconst 0, 1) := by decide +kernel
theorem dX12_used_39 : decode cX12_used 39 = .ok (.putfield 412, 3) := by decide +kernel
theorem dX12_used_42 : decode cX12_used 42 = .ok (.iconst 0, 1) := by decide +kernel
theorem dX12_used_43 : decode cX12_used 43 = .ok (.istore_n 3, 1) := by decide +kernel
theorem dX12_used_44 : decode cX12_used 44 = .ok (.iload_n 3, 1) := by decide +kernel
theorem dX12_used_45 : decode cX12_used 45 = .ok (.aload_n 0, 1) := by decide +kernel
theorem dX12_used_46 : decode cX12_used 46 = .ok (.getfield 11, 3) := by decide +kernel
theorem dX12_used_49 : decode cX12_used 49 = .ok (.if_icmp .ge 32, 3) := by decide +kernel
theorem dX12_used_52 : decode cX12_used 52 = .ok (.aload_n 0, 1) := by decide +kernel
theorem dX12_used_53 : decode cX12_used 53 = .ok (.iload_n 3, 1) := by decide +kernel
theorem dX12_used_54 : decode cX12_used 54 = .ok (.aload_n 0, 1) := by decide +kernel
theorem dX12_used_55 : decode cX12_used 55 = .ok (.invokevirtual 354, 3) := by decide +kernel
theorem dX12_used_58 : decode cX12_used 58 = .ok (.iconst 0, 1) := by decide +kernel
theorem dX12_used_59 : decode cX12_used 59 = .ok (.invokevirtual 296, 3) := by decide +kernel
theorem dX12_used_62 : decode cX12_used 62 = .ok (.ifCond .eq 13, 3) := by decide +kernel
theorem dX12_used_65 : decode cX12_used 65 = .ok (.aload_n 0, 1) := by decide +kernel
theorem dX12_used_66 : decode cX12_used 66 = .ok (.iload_n 3, 1) := by decide +kernel
theorem dX12_used_67 : decode cX12_used 67 = .ok (.iconst 0, 1) := by decide +kernel
theorem dX12_used_68 : decode cX12_used 68 = .ok (.aload_n 0, 1) := by decide +kernel
theorem dX12_used_69 : decode cX12_used 69 = .ok (.getfield 249, 3) := by decide +kernel
theorem dX12_used_72 : decode cX12_used 72 = .ok (.invokevirtual 415, 3) := by decide +kernel
theorem dX12_used_75 : decode cX12_used 75 = .ok (.iinc 3 1, 3) := by decide +kernel
theorem dX12_used_78 : decode cX12_used 78 = .ok (.goto (-34), 3) := by decide +kernel
theorem dX12_used_81 : decode cX12_used 81 = .ok (.iload_n 1, 1) := by decide +kernel
theorem dX12_used_82 : decode cX12_used 82 = .ok (.ifCond .eq 7, 3) := by decide +kernel
theorem dX12_used_85 : decode cX12_used 85 = .ok (.iload_n 2, 1) := by decide +kernel
theorem dX12_used_86 : decode cX12_used 86 = .ok (.ifCond .ne 8, 3) := by decide +kernel
theorem dX12_used_89 : decode cX12_used 89 = .ok (.aload_n 0, 1) := by decide +kernel
theorem dX12_used_90 : decode cX12_used 90 = .ok (.getfield 412, 3) := by decide +kernel
theorem dX12_used_93 : decode cX12_used 93 = .ok (.ireturn, 1) := by decide +kernel
theorem dX12_used_94 : decode cX12_used 94 = .ok (.iconst 0, 1) := by decide +kernel
theorem dX12_used_95 : decode cX12_used 95 = .ok (.istore_n 3, 1) := by decide +kernel
theorem dX12_used_96 : decode cX12_used 96 = .ok (.iconst 0, 1) := by decide +kernel
theorem dX12_used_97 : decode cX12_used 97 = .ok (.istore 4, 2) := by decide +kernel
theorem dX12_used_99 : decode cX12_used 99 = .ok (.iload 4, 2) := by decide +kernel
theorem dX12_used_101 : decode cX12_used 101 = .ok (.aload_n 0, 1) := by decide +kernel
theorem dX12_used_102 : decode cX12_used 102 = .ok (.getfield 11, 3) := by decide +kernel
theorem dX12_used_105 : decode cX12_used 105 = .ok (.if_icmp .ge 31, 3) := by decide +kernel
theorem dX12_used_108 : decode cX12_used 108 = .ok (.iload_n 3, 1) := by decide +kernel
theorem dX12_used_109 : decode cX12_used 109 = .ok (.aload_n 0, 1) := by decide +kernel
theorem dX12_used_110 : decode cX12_used 110 = .ok (.iload 4, 2) := by decide +kernel
theorem dX12_used_112 : decode cX12_used 112 = .ok (.invokevirtual 419, 3) := by decide +kernel
theorem dX12_used_115 : decode cX12_used 115 = .ok (.lconst 0, 1) := by decide +kernel
theorem dX12_used_116 : decode cX12_used 116 = .ok (.lcmp, 1) := by decide +kernel
theorem dX12_used_117 : decode cX12_used 117 = .ok (.ifCond .ne 10, 3) := by decide +kernel
theorem dX12_used_120 : decode cX12_used 120 = .ok (.iconst 1, 1) := by decide +kernel
theorem dX12_used_121 : decode cX12_used 121 = .ok (.iload 4, 2) := by decide +kernel
theorem dX12_used_123 : decode cX12_used 123 = .ok (.ishl, 1) := by decide +kernel
theorem dX12_used_124 : decode cX12_used 124 = .ok (.goto 4, 3) := by decide +kernel
theorem dX12_used_127 : decode cX12_used 127 = .ok (.iconst 0, 1) := by decide +kernel
theorem dX12_used_128 : decode cX12_used 128 = .ok (.ior, 1) := by decide +kernel
theorem dX12_used_129 : decode cX12_used 129 = .ok (.istore_n 3, 1) := by decide +kernel
theorem dX12_used_130 : decode cX12_used 130 = .ok (.iinc 4 1, 3) := by decide +kernel
theorem dX12_used_133 : decode cX12_used 133 = .ok (.goto (-34), 3) := by decide +kernel
theorem dX12_used_136 : decode cX12_used 136 = .ok (.iload_n 3, 1) := by decide +kernel
theorem dX12_used_137 : decode cX12_used 137 = .ok (.ireturn, 1) := by decide +kernel
theorem dX12_readsRow_0 : decode cX12_readsRow 0 = .ok (.aload_n 0, 1) := by decide +kernel
theorem dX12_readsRow_1 : decode cX12_readsRow 1 = .ok (.invokevirtual 244, 3) := by decide +kernel
theorem dX12_readsRow_4 : decode cX12_readsRow 4 = .ok (.aload_n 0, 1) := by decide +kernel
theorem dX12_readsRow_5 : decode cX12_readsRow 5 = .ok (.aload_n 0, 1) := by decide +kernel
theorem dX12_readsRow_6 : decode cX12_readsRow 6 = .ok (.getfield 26, 3) := by decide +kernel
theorem dX12_readsRow_9 : decode cX12_readsRow 9 = .ok (.putfield 252, 3) := by decide +kernel
theorem dX12_readsRow_12 : decode cX12_readsRow 12 = .ok (.aload_n 0, 1) := by decide +kernel
theorem dX12_readsRow_13 : decode cX12_readsRow 13 = .ok (.aload_n 0, 1) := by decide +kernel
theorem dX12_readsRow_14 : decode cX12_readsRow 14 = .ok (.getfield 249, 3) := by decide +kernel
theorem dX12_readsRow_17 : decode cX12_readsRow 17 = .ok (.invokevirtual 397, 3) := by decide +kernel
theorem dX12_readsRow_20 : decode cX12_readsRow 20 = .ok (.lconst 0, 1) := by decide +kernel
theorem dX12_readsRow_21 : decode cX12_readsRow 21 = .ok (.lcmp, 1) := by decide +kernel
theorem dX12_readsRow_22 : decode cX12_readsRow 22 = .ok (.ifCond .le 7, 3) := by decide +kernel
theorem dX12_readsRow_25 : decode cX12_readsRow 25 = .ok (.iconst 1, 1) := by decide +kernel
theorem dX12_readsRow_26 : decode cX12_readsRow 26 = .ok (.goto 4, 3) := by decide +kernel
theorem dX12_readsRow_29 : decode cX12_readsRow 29 = .ok (.iconst 0, 1) := by decide +kernel
theorem dX12_readsRow_30 : decode cX12_readsRow 30 = .ok (.ireturn, 1) := by decide +kernel
theorem dX12_mendsUpTo_0 : decode cX12_mendsUpTo 0 = .ok (.iconst 0, 1) := by decide +kernel
theorem dX12_mendsUpTo_1 : decode cX12_mendsUpTo 1 = .ok (.istore_n 2, 1) := by decide +kernel
theorem dX12_mendsUpTo_2 : decode cX12_mendsUpTo 2 = .ok (.aload_n 0, 1) := by decide +kernel
theorem dX12_mendsUpTo_3 : decode cX12_mendsUpTo 3 = .ok (.invokevirtual 358, 3) := by decide +kernel
theorem dX12_mendsUpTo_6 : decode cX12_mendsUpTo 6 = .ok (.istore_n 3, 1) := by decide +kernel
theorem dX12_mendsUpTo_7 : decode cX12_mendsUpTo 7 = .ok (.iconst 0, 1) := by decide +kernel
theorem dX12_mendsUpTo_8 : decode cX12_mendsUpTo 8 = .ok (.istore 4, 2) := by decide +kernel
theorem dX12_mendsUpTo_10 : decode cX12_mendsUpTo 10 = .ok (.iload 4, 2) := by decide +kernel
theorem dX12_mendsUpTo_12 : decode cX12_mendsUpTo 12 = .ok (.aload_n 0, 1) := by decide +kernel
theorem dX12_mendsUpTo_13 : decode cX12_mendsUpTo 13 = .ok (.getfield 171, 3) := by decide +kernel
theorem dX12_mendsUpTo_16 : decode cX12_mendsUpTo 16 = .ok (.if_icmp .ge 97, 3) := by decide +kernel
theorem dX12_mendsUpTo_19 : decode cX12_mendsUpTo 19 = .ok (.iconst 0, 1) := by decide +kernel
theorem dX12_mendsUpTo_20 : decode cX12_mendsUpTo 20 = .ok (.istore 5, 2) := by decide +kernel
theorem dX12_mendsUpTo_22 : decode cX12_mendsUpTo 22 = .ok (.iload 5, 2) := by decide +kernel
theorem dX12_mendsUpTo_24 : decode cX12_mendsUpTo 24 = .ok (.bipush 26, 2) := by decide +kernel
theorem dX12_mendsUpTo_26 : decode cX12_mendsUpTo 26 = .ok (.if_icmp .ge 81, 3) := by decide +kernel
theorem dX12_mendsUpTo_29 : decode cX12_mendsUpTo 29 = .ok (.iload_n 3, 1) := by decide +kernel
theorem dX12_mendsUpTo_30 : decode cX12_mendsUpTo 30 = .ok (.iload 5, 2) := by decide +kernel
theorem dX12_mendsUpTo_32 : decode cX12_mendsUpTo 32 = .ok (.ishr, 1) := by decide +kernel
theorem dX12_mendsUpTo_33 : decode cX12_mendsUpTo 33 = .ok (.iconst 1, 1) := by decide +kernel
theorem dX12_mendsUpTo_34 : decode cX12_mendsUpTo 34 = .ok (.iand, 1) := by decide +kernel
theorem dX12_mendsUpTo_35 : decode cX12_mendsUpTo 35 = .ok (.ifCond .eq 66, 3) := by decide +kernel
theorem dX12_mendsUpTo_38 : decode cX12_mendsUpTo 38 = .ok (.iload 5, 2) := by decide +kernel
theorem dX12_mendsUpTo_40 : decode cX12_mendsUpTo 40 = .ok (.aload_n 0, 1) := by decide +kernel
theorem dX12_mendsUpTo_41 : decode cX12_mendsUpTo 41 = .ok (.getfield 174, 3) := by decide +kernel
theorem dX12_mendsUpTo_44 : decode cX12_mendsUpTo 44 = .ok (.iload 4, 2) := by decide +kernel
theorem dX12_mendsUpTo_46 : decode cX12_mendsUpTo 46 = .ok (.iaload, 1) := by decide +kernel
theorem dX12_mendsUpTo_47 : decode cX12_mendsUpTo 47 = .ok (.if_icmp .ne 6, 3) := by decide +kernel
theorem dX12_mendsUpTo_50 : decode cX12_mendsUpTo 50 = .ok (.goto 51, 3) := by decide +kernel
theorem dX12_mendsUpTo_53 : decode cX12_mendsUpTo 53 = .ok (.aload_n 0, 1) := by decide +kernel
theorem dX12_mendsUpTo_54 : decode cX12_mendsUpTo 54 = .ok (.iconst 0, 1) := by decide +kernel
theorem dX12_mendsUpTo_55 : decode cX12_mendsUpTo 55 = .ok (.invokevirtual 387, 3) := by decide +kernel
theorem dX12_mendsUpTo_58 : decode cX12_mendsUpTo 58 = .ok (.aload_n 0, 1) := by decide +kernel
theorem dX12_mendsUpTo_59 : decode cX12_mendsUpTo 59 = .ok (.getfield 182, 3) := by decide +kernel
theorem dX12_mendsUpTo_62 : decode cX12_mendsUpTo 62 = .ok (.iload 4, 2) := by decide +kernel
theorem dX12_mendsUpTo_64 : decode cX12_mendsUpTo 64 = .ok (.iload 5, 2) := by decide +kernel
theorem dX12_mendsUpTo_66 : decode cX12_mendsUpTo 66 = .ok (.iastore, 1) := by decide +kernel
theorem dX12_mendsUpTo_67 : decode cX12_mendsUpTo 67 = .ok (.aload_n 0, 1) := by decide +kernel
theorem dX12_mendsUpTo_68 : decode cX12_mendsUpTo 68 = .ok (.invokevirtual 422, 3) := by decide +kernel
theorem dX12_mendsUpTo_71 : decode cX12_mendsUpTo 71 = .ok (.ifCond .ne 6, 3) := by decide +kernel
theorem dX12_mendsUpTo_74 : decode cX12_mendsUpTo 74 = .ok (.goto 27, 3) := by decide +kernel
theorem dX12_mendsUpTo_77 : decode cX12_mendsUpTo 77 = .ok (.aload_n 0, 1) := by decide +kernel
theorem dX12_mendsUpTo_78 : decode cX12_mendsUpTo 78 = .ok (.bipush 100, 2) := by decide +kernel
theorem dX12_mendsUpTo_80 : decode cX12_mendsUpTo 80 = .ok (.iload 4, 2) := by decide +kernel
theorem dX12_mendsUpTo_82 : decode cX12_mendsUpTo 82 = .ok (.imul, 1) := by decide +kernel
theorem dX12_mendsUpTo_83 : decode cX12_mendsUpTo 83 = .ok (.iload 5, 2) := by decide +kernel
theorem dX12_mendsUpTo_85 : decode cX12_mendsUpTo 85 = .ok (.iadd, 1) := by decide +kernel
theorem dX12_mendsUpTo_86 : decode cX12_mendsUpTo 86 = .ok (.putfield 425, 3) := by decide +kernel
theorem dX12_mendsUpTo_89 : decode cX12_mendsUpTo 89 = .ok (.iinc 2 1, 3) := by decide +kernel
theorem dX12_mendsUpTo_92 : decode cX12_mendsUpTo 92 = .ok (.iload_n 2, 1) := by decide +kernel
theorem dX12_mendsUpTo_93 : decode cX12_mendsUpTo 93 = .ok (.iconst 1, 1) := by decide +kernel
theorem dX12_mendsUpTo_94 : decode cX12_mendsUpTo 94 = .ok (.isub, 1) := by decide +kernel
theorem dX12_mendsUpTo_95 : decode cX12_mendsUpTo 95 = .ok (.iload_n 1, 1) := by decide +kernel
theorem dX12_mendsUpTo_96 : decode cX12_mendsUpTo 96 = .ok (.if_icmp .ne 5, 3) := by decide +kernel
theorem dX12_mendsUpTo_99 : decode cX12_mendsUpTo 99 = .ok (.iload_n 2, 1) := by decide +kernel
theorem dX12_mendsUpTo_100 : decode cX12_mendsUpTo 100 = .ok (.ireturn, 1) := by decide +kernel
theorem dX12_mendsUpTo_101 : decode cX12_mendsUpTo 101 = .ok (.iinc 5 1, 3) := by decide +kernel
theorem dX12_mendsUpTo_104 : decode cX12_mendsUpTo 104 = .ok (.goto (-82), 3) := by decide +kernel
theorem dX12_mendsUpTo_107 : decode cX12_mendsUpTo 107 = .ok (.iinc 4 1, 3) := by decide +kernel
theorem dX12_mendsUpTo_110 : decode cX12_mendsUpTo 110 = .ok (.goto (-100), 3) := by decide +kernel
theorem dX12_mendsUpTo_113 : decode cX12_mendsUpTo 113 = .ok (.iload_n 2, 1) := by decide +kernel
theorem dX12_mendsUpTo_114 : decode cX12_mendsUpTo 114 = .ok (.ireturn, 1) := by decide +kernel
theorem dX12_mends_0 : decode cX12_mends 0 = .ok (.aload_n 0, 1) := by decide +kernel
theorem dX12_mends_1 : decode cX12_mends 1 = .ok (.iconst (-1), 1) := by decide +kernel
