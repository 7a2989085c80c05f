theorem dX12_readBranch_76 : decode cX12_readBranch 76 = .ok (.getfield 104, 3) := by decide +kernel
theorem dX12_readBranch_79 : decode cX12_readBranch 79 = .ok (.iload_n 3, 1) := by decide +kernel
theorem dX12_readBranch_80 : decode cX12_readBranch 80 = .ok (.aload_n 0, 1) := by decide +kernel
theorem dX12_readBranch_81 : decode cX12_readBranch 81 = .ok (.getfield 58, 3) := by decide +kernel
theorem dX12_readBranch_84 : decode cX12_readBranch 84 = .ok (.bipush 33, 2) := by decide +kernel
theorem dX12_readBranch_86 : decode cX12_readBranch 86 = .ok (.if_icmp .ne 7, 3) := by decide +kernel
theorem dX12_readBranch_89 : decode cX12_readBranch 89 = .ok (.iconst 1, 1) := by decide +kernel
theorem dX12_readBranch_90 : decode cX12_readBranch 90 = .ok (.goto 4, 3) := by decide +kernel
theorem dX12_readBranch_93 : decode cX12_readBranch 93 = .ok (.iconst 2, 1) := by decide +kernel
theorem dX12_readBranch_94 : decode cX12_readBranch 94 = .ok (.iastore, 1) := by decide +kernel
theorem dX12_readBranch_95 : decode cX12_readBranch 95 = .ok (.aload_n 0, 1) := by decide +kernel
theorem dX12_readBranch_96 : decode cX12_readBranch 96 = .ok (.invokevirtual 89, 3) := by decide +kernel
theorem dX12_readBranch_99 : decode cX12_readBranch 99 = .ok (.aload_n 0, 1) := by decide +kernel
theorem dX12_readBranch_100 : decode cX12_readBranch 100 = .ok (.iload_n 3, 1) := by decide +kernel
theorem dX12_readBranch_101 : decode cX12_readBranch 101 = .ok (.invokevirtual 120, 3) := by decide +kernel
theorem dX12_readBranch_104 : decode cX12_readBranch 104 = .ok (.istore 4, 2) := by decide +kernel
theorem dX12_readBranch_106 : decode cX12_readBranch 106 = .ok (.aload_n 0, 1) := by decide +kernel
theorem dX12_readBranch_107 : decode cX12_readBranch 107 = .ok (.invokevirtual 75, 3) := by decide +kernel
theorem dX12_readBranch_110 : decode cX12_readBranch 110 = .ok (.ifCond .eq 20, 3) := by decide +kernel
theorem dX12_readBranch_113 : decode cX12_readBranch 113 = .ok (.aload_n 0, 1) := by decide +kernel
theorem dX12_readBranch_114 : decode cX12_readBranch 114 = .ok (.bipush 41, 2) := by decide +kernel
theorem dX12_readBranch_116 : decode cX12_readBranch 116 = .ok (.invokevirtual 82, 3) := by decide +kernel
theorem dX12_readBranch_119 : decode cX12_readBranch 119 = .ok (.ifCond .ne 11, 3) := by decide +kernel
theorem dX12_readBranch_122 : decode cX12_readBranch 122 = .ok (.aload_n 0, 1) := by decide +kernel
theorem dX12_readBranch_123 : decode cX12_readBranch 123 = .ok (.iload_n 3, 1) := by decide +kernel
theorem dX12_readBranch_124 : decode cX12_readBranch 124 = .ok (.invokevirtual 120, 3) := by decide +kernel
theorem dX12_readBranch_127 : decode cX12_readBranch 127 = .ok (.goto 4, 3) := by decide +kernel
theorem dX12_readBranch_130 : decode cX12_readBranch 130 = .ok (.iconst (-1), 1) := by decide +kernel
theorem dX12_readBranch_131 : decode cX12_readBranch 131 = .ok (.istore 5, 2) := by decide +kernel
theorem dX12_readBranch_133 : decode cX12_readBranch 133 = .ok (.aload_n 0, 1) := by decide +kernel
theorem dX12_readBranch_134 : decode cX12_readBranch 134 = .ok (.invokevirtual 75, 3) := by decide +kernel
theorem dX12_readBranch_137 : decode cX12_readBranch 137 = .ok (.ifCond .ne 5, 3) := by decide +kernel
theorem dX12_readBranch_140 : decode cX12_readBranch 140 = .ok (.iload_n 3, 1) := by decide +kernel
theorem dX12_readBranch_141 : decode cX12_readBranch 141 = .ok (.ireturn, 1) := by decide +kernel
theorem dX12_readBranch_142 : decode cX12_readBranch 142 = .ok (.aload_n 0, 1) := by decide +kernel
theorem dX12_readBranch_143 : decode cX12_readBranch 143 = .ok (.getfield 107, 3) := by decide +kernel
theorem dX12_readBranch_146 : decode cX12_readBranch 146 = .ok (.iload_n 3, 1) := by decide +kernel
theorem dX12_readBranch_147 : decode cX12_readBranch 147 = .ok (.iload 4, 2) := by decide +kernel
theorem dX12_readBranch_149 : decode cX12_readBranch 149 = .ok (.iastore, 1) := by decide +kernel
theorem dX12_readBranch_150 : decode cX12_readBranch 150 = .ok (.aload_n 0, 1) := by decide +kernel
theorem dX12_readBranch_151 : decode cX12_readBranch 151 = .ok (.getfield 110, 3) := by decide +kernel
theorem dX12_readBranch_154 : decode cX12_readBranch 154 = .ok (.iload_n 3, 1) := by decide +kernel
theorem dX12_readBranch_155 : decode cX12_readBranch 155 = .ok (.iload 5, 2) := by decide +kernel
theorem dX12_readBranch_157 : decode cX12_readBranch 157 = .ok (.iastore, 1) := by decide +kernel
theorem dX12_readBranch_158 : decode cX12_readBranch 158 = .ok (.iload_n 3, 1) := by decide +kernel
theorem dX12_readBranch_159 : decode cX12_readBranch 159 = .ok (.ireturn, 1) := by decide +kernel
theorem dX12_readChild_0 : decode cX12_readChild 0 = .ok (.aload_n 0, 1) := by decide +kernel
theorem dX12_readChild_1 : decode cX12_readChild 1 = .ok (.invokevirtual 75, 3) := by decide +kernel
theorem dX12_readChild_4 : decode cX12_readChild 4 = .ok (.ifCond .ne 6, 3) := by decide +kernel
theorem dX12_readChild_7 : decode cX12_readChild 7 = .ok (.bipush 40, 2) := by decide +kernel
theorem dX12_readChild_9 : decode cX12_readChild 9 = .ok (.ireturn, 1) := by decide +kernel
theorem dX12_readChild_10 : decode cX12_readChild 10 = .ok (.aload_n 0, 1) := by decide +kernel
theorem dX12_readChild_11 : decode cX12_readChild 11 = .ok (.getfield 51, 3) := by decide +kernel
theorem dX12_readChild_14 : decode cX12_readChild 14 = .ok (.istore_n 2, 1) := by decide +kernel
theorem dX12_readChild_15 : decode cX12_readChild 15 = .ok (.aload_n 0, 1) := by decide +kernel
theorem dX12_readChild_16 : decode cX12_readChild 16 = .ok (.getfield 61, 3) := by decide +kernel
theorem dX12_readChild_19 : decode cX12_readChild 19 = .ok (.iconst 3, 1) := by decide +kernel
theorem dX12_readChild_20 : decode cX12_readChild 20 = .ok (.if_icmp .eq 12, 3) := by decide +kernel
theorem dX12_readChild_23 : decode cX12_readChild 23 = .ok (.aload_n 0, 1) := by decide +kernel
theorem dX12_readChild_24 : decode cX12_readChild 24 = .ok (.bipush 46, 2) := by decide +kernel
theorem dX12_readChild_26 : decode cX12_readChild 26 = .ok (.invokevirtual 82, 3) := by decide +kernel
theorem dX12_readChild_29 : decode cX12_readChild 29 = .ok (.ifCond .eq 52, 3) := by decide +kernel
theorem dX12_readChild_32 : decode cX12_readChild 32 = .ok (.aload_n 0, 1) := by decide +kernel
theorem dX12_readChild_33 : decode cX12_readChild 33 = .ok (.aload_n 0, 1) := by decide +kernel
theorem dX12_readChild_34 : decode cX12_readChild 34 = .ok (.getfield 61, 3) := by decide +kernel
theorem dX12_readChild_37 : decode cX12_readChild 37 = .ok (.iconst 3, 1) := by decide +kernel
theorem dX12_readChild_38 : decode cX12_readChild 38 = .ok (.if_icmp .ne 7, 3) := by decide +kernel
theorem dX12_readChild_41 : decode cX12_readChild 41 = .ok (.iconst 1, 1) := by decide +kernel
theorem dX12_readChild_42 : decode cX12_readChild 42 = .ok (.goto 4, 3) := by decide +kernel
theorem dX12_readChild_45 : decode cX12_readChild 45 = .ok (.iconst 2, 1) := by decide +kernel
theorem dX12_readChild_46 : decode cX12_readChild 46 = .ok (.aload_n 0, 1) := by decide +kernel
theorem dX12_readChild_47 : decode cX12_readChild 47 = .ok (.getfield 61, 3) := by decide +kernel
theorem dX12_readChild_50 : decode cX12_readChild 50 = .ok (.iconst 3, 1) := by decide +kernel
theorem dX12_readChild_51 : decode cX12_readChild 51 = .ok (.if_icmp .ne 10, 3) := by decide +kernel
theorem dX12_readChild_54 : decode cX12_readChild 54 = .ok (.aload_n 0, 1) := by decide +kernel
theorem dX12_readChild_55 : decode cX12_readChild 55 = .ok (.getfield 58, 3) := by decide +kernel
theorem dX12_readChild_58 : decode cX12_readChild 58 = .ok (.goto 4, 3) := by decide +kernel
theorem dX12_readChild_61 : decode cX12_readChild 61 = .ok (.iconst (-1), 1) := by decide +kernel
theorem dX12_readChild_62 : decode cX12_readChild 62 = .ok (.iload_n 1, 1) := by decide +kernel
theorem dX12_readChild_63 : decode cX12_readChild 63 = .ok (.iload_n 2, 1) := by decide +kernel
theorem dX12_readChild_64 : decode cX12_readChild 64 = .ok (.invokevirtual 116, 3) := by decide +kernel
theorem dX12_readChild_67 : decode cX12_readChild 67 = .ok (.istore_n 3, 1) := by decide +kernel
theorem dX12_readChild_68 : decode cX12_readChild 68 = .ok (.aload_n 0, 1) := by decide +kernel
theorem dX12_readChild_69 : decode cX12_readChild 69 = .ok (.invokevirtual 75, 3) := by decide +kernel
theorem dX12_readChild_72 : decode cX12_readChild 72 = .ok (.ifCond .eq 7, 3) := by decide +kernel
theorem dX12_readChild_75 : decode cX12_readChild 75 = .ok (.aload_n 0, 1) := by decide +kernel
theorem dX12_readChild_76 : decode cX12_readChild 76 = .ok (.invokevirtual 89, 3) := by decide +kernel
theorem dX12_readChild_79 : decode cX12_readChild 79 = .ok (.iload_n 3, 1) := by decide +kernel
theorem dX12_readChild_80 : decode cX12_readChild 80 = .ok (.ireturn, 1) := by decide +kernel
theorem dX12_readChild_81 : decode cX12_readChild 81 = .ok (.aload_n 0, 1) := by decide +kernel
theorem dX12_readChild_82 : decode cX12_readChild 82 = .ok (.bipush 40, 2) := by decide +kernel
theorem dX12_readChild_84 : decode cX12_readChild 84 = .ok (.invokevirtual 82, 3) := by decide +kernel
theorem dX12_readChild_87 : decode cX12_readChild 87 = .ok (.ifCond .eq 21, 3) := by decide +kernel
theorem dX12_readChild_90 : decode cX12_readChild 90 = .ok (.aload_n 0, 1) := by decide +kernel
theorem dX12_readChild_91 : decode cX12_readChild 91 = .ok (.invokevirtual 89, 3) := by decide +kernel
theorem dX12_readChild_94 : decode cX12_readChild 94 = .ok (.aload_n 0, 1) := by decide +kernel
theorem dX12_readChild_95 : decode cX12_readChild 95 = .ok (.iload_n 1, 1) := by decide +kernel
theorem dX12_readChild_96 : decode cX12_readChild 96 = .ok (.invokevirtual 123, 3) := by decide +kernel
theorem dX12_readChild_99 : decode cX12_readChild 99 = .ok (.istore_n 3, 1) := by decide +kernel
theorem dX12_readChild_100 : decode cX12_readChild 100 = .ok (.aload_n 0, 1) := by decide +kernel
theorem dX12_readChild_101 : decode cX12_readChild 101 = .ok (.bipush 41, 2) := by decide +kernel
theorem dX12_readChild_103 : decode cX12_readChild 103 = .ok (.invokevirtual 126, 3) := by decide +kernel
theorem dX12_readChild_106 : decode cX12_readChild 106 = .ok (.iload_n 3, 1) := by decide +kernel
theorem dX12_readChild_107 : decode cX12_readChild 107 = .ok (.ireturn, 1) := by decide +kernel
theorem dX12_readChild_108 : decode cX12_readChild 108 = .ok (.aload_n 0, 1) := by decide +kernel
theorem dX12_readChild_109 : decode cX12_readChild 109 = .ok (.getfield 61, 3) := by decide +kernel
theorem dX12_readChild_112 : decode cX12_readChild 112 = .ok (.iconst 2, 1) := by decide +kernel
theorem dX12_readChild_113 : decode cX12_readChild 113 = .ok (.if_icmp .ne 10, 3) := by decide +kernel
theorem dX12_readChild_116 : decode cX12_readChild 116 = .ok (.aload_n 0, 1) := by decide +kernel
theorem dX12_readChild_117 : decode cX12_readChild 117 = .ok (.iload_n 1, 1) := by decide +kernel
theorem dX12_readChild_118 : decode cX12_readChild 118 = .ok (.iload_n 2, 1) := by decide +kernel
theorem dX12_readChild_119 : decode cX12_readChild 119 = .ok (.invokevirtual 130, 3) := by decide +kernel
theorem dX12_readChild_122 : decode cX12_readChild 122 = .ok (.ireturn, 1) := by decide +kernel
theorem dX12_readChild_123 : decode cX12_readChild 123 = .ok (.aload_n 0, 1) := by decide +kernel
theorem dX12_readChild_124 : decode cX12_readChild 124 = .ok (.iconst 1, 1) := by decide +kernel
theorem dX12_readChild_125 : decode cX12_readChild 125 = .ok (.aload_n 0, 1) := by decide +kernel
theorem dX12_readChild_126 : decode cX12_readChild 126 = .ok (.getfield 51, 3) := by decide +kernel
theorem dX12_readChild_129 : decode cX12_readChild 129 = .ok (.invokevirtual 85, 3) := by decide +kernel
theorem dX12_readChild_132 : decode cX12_readChild 132 = .ok (.bipush 40, 2) := by decide +kernel
theorem dX12_readChild_134 : decode cX12_readChild 134 = .ok (.ireturn, 1) := by decide +kernel
theorem dX12_readMarked_0 : decode cX12_readMarked 0 = .ok (.aload_n 0, 1) := by decide +kernel
theorem dX12_readMarked_1 : decode cX12_readMarked 1 = .ok (.getfield 58, 3) := by decide +kernel
theorem dX12_readMarked_4 : decode cX12_readMarked 4 = .ok (.istore_n 3, 1) := by decide +kernel
theorem dX12_readMarked_5 : decode cX12_readMarked 5 = .ok (.aload_n 0, 1) := by decide +kernel
theorem dX12_readMarked_6 : decode cX12_readMarked 6 = .ok (.invokevirtual 89, 3) := by decide +kernel
theorem dX12_readMarked_9 : decode cX12_readMarked 9 = .ok (.aload_n 0, 1) := by decide +kernel
theorem dX12_readMarked_10 : decode cX12_readMarked 10 = .ok (.bipush 42, 2) := by decide +kernel
theorem dX12_readMarked_12 : decode cX12_readMarked 12 = .ok (.invokevirtual 82, 3) := by decide +kernel
theorem dX12_readMarked_15 : decode cX12_readMarked 15 = .ok (.istore 4, 2) := by decide +kernel
theorem dX12_readMarked_17 : decode cX12_readMarked 17 = .ok (.iload 4, 2) := by decide +kernel
theorem dX12_readMarked_19 : decode cX12_readMarked 19 = .ok (.ifCond .eq 33, 3) := by decide +kernel
theorem dX12_readMarked_22 : decode cX12_readMarked 22 = .ok (.aload_n 0, 1) := by decide +kernel
theorem dX12_readMarked_23 : decode cX12_readMarked 23 = .ok (.getfield 134, 3) := by decide +kernel
theorem dX12_readMarked_26 : decode cX12_readMarked 26 = .ok (.iconst (-1), 1) := by decide +kernel
theorem dX12_readMarked_27 : decode cX12_readMarked 27 = .ok (.if_icmp .ne 19, 3) := by decide +kernel
theorem dX12_readMarked_30 : decode cX12_readMarked 30 = .ok (.iload_n 3, 1) := by decide +kernel
theorem dX12_readMarked_31 : decode cX12_readMarked 31 = .ok (.aload_n 0, 1) := by decide +kernel
theorem dX12_readMarked_32 : decode cX12_readMarked 32 = .ok (.getfield 101, 3) := by decide +kernel
theorem dX12_readMarked_35 : decode cX12_readMarked 35 = .ok (.bipush 40, 2) := by decide +kernel
theorem dX12_readMarked_37 : decode cX12_readMarked 37 = .ok (.aload_n 0, 1) := by decide +kernel
theorem dX12_readMarked_38 : decode cX12_readMarked 38 = .ok (.getfield 95, 3) := by decide +kernel
theorem dX12_readMarked_41 : decode cX12_readMarked 41 = .ok (.iadd, 1) := by decide +kernel
theorem dX12_readMarked_42 : decode cX12_readMarked 42 = .ok (.iaload, 1) := by decide +kernel
theorem dX12_readMarked_43 : decode cX12_readMarked 43 = .ok (.if_icmp .eq 9, 3) := by decide +kernel
theorem dX12_readMarked_46 : decode cX12_readMarked 46 = .ok (.aload_n 0, 1) := by decide +kernel
theorem dX12_readMarked_47 : decode cX12_readMarked 47 = .ok (.iconst 2, 1) := by decide +kernel
theorem dX12_readMarked_48 : decode cX12_readMarked 48 = .ok (.iload_n 2, 1) := by decide +kernel
theorem dX12_readMarked_49 : decode cX12_readMarked 49 = .ok (.invokevirtual 85, 3) := by decide +kernel
theorem dX12_readMarked_52 : decode cX12_readMarked 52 = .ok (.aload_n 0, 1) := by decide +kernel
theorem dX12_readMarked_53 : decode cX12_readMarked 53 = .ok (.iload 4, 2) := by decide +kernel
theorem dX12_readMarked_55 : decode cX12_readMarked 55 = .ok (.ifCond .eq 7, 3) := by decide +kernel
theorem dX12_readMarked_58 : decode cX12_readMarked 58 = .ok (.iconst 3, 1) := by decide +kernel
theorem dX12_readMarked_59 : decode cX12_readMarked 59 = .ok (.goto 4, 3) := by decide +kernel
theorem dX12_readMarked_62 : decode cX12_readMarked 62 = .ok (.iconst 4, 1) := by decide +kernel
theorem dX12_readMarked_63 : decode cX12_readMarked 63 = .ok (.iload_n 3, 1) := by decide +kernel
theorem dX12_readMarked_64 : decode cX12_readMarked 64 = .ok (.iload_n 1, 1) := by decide +kernel
theorem dX12_readMarked_65 : decode cX12_readMarked 65 = .ok (.iload_n 2, 1) := by decide +kernel
theorem dX12_readMarked_66 : decode cX12_readMarked 66 = .ok (.invokevirtual 116, 3) := by decide +kernel
theorem dX12_readMarked_69 : decode cX12_readMarked 69 = .ok (.istore 5, 2) := by decide +kernel
theorem dX12_readMarked_71 : decode cX12_readMarked 71 = .ok (.aload_n 0, 1) := by decide +kernel
theorem dX12_readMarked_72 : decode cX12_readMarked 72 = .ok (.invokevirtual 75, 3) := by decide +kernel
theorem dX12_readMarked_75 : decode cX12_readMarked 75 = .ok (.ifCond .eq 26, 3) := by decide +kernel
theorem dX12_readMarked_78 : decode cX12_readMarked 78 = .ok (.iload 4, 2) := by decide +kernel
theorem dX12_readMarked_80 : decode cX12_readMarked 80 = .ok (.ifCond .ne 21, 3) := by decide +kernel
theorem dX12_readMarked_83 : decode cX12_readMarked 83 = .ok (.aload_n 0, 1) := by decide +kernel
theorem dX12_readMarked_84 : decode cX12_readMarked 84 = .ok (.bipush 94, 2) := by decide +kernel
theorem dX12_readMarked_86 : decode cX12_readMarked 86 = .ok (.invokevirtual 82, 3) := by decide +kernel
theorem dX12_readMarked_89 : decode cX12_readMarked 89 = .ok (.ifCond .ne 12, 3) := by decide +kernel
theorem dX12_readMarked_92 : decode cX12_readMarked 92 = .ok (.aload_n 0, 1) := by decide +kernel
theorem dX12_readMarked_93 : decode cX12_readMarked 93 = .ok (.iconst 1, 1) := by decide +kernel
theorem dX12_readMarked_94 : decode cX12_readMarked 94 = .ok (.aload_n 0, 1) := by decide +kernel
theorem dX12_readMarked_95 : decode cX12_readMarked 95 = .ok (.getfield 51, 3) := by decide +kernel
theorem dX12_readMarked_98 : decode cX12_readMarked 98 = .ok (.invokevirtual 85, 3) := by decide +kernel
theorem dX12_readMarked_101 : decode cX12_readMarked 101 = .ok (.aload_n 0, 1) := by decide +kernel
theorem dX12_readMarked_102 : decode cX12_readMarked 102 = .ok (.invokevirtual 75, 3) := by decide +kernel
theorem dX12_readMarked_105 : decode cX12_readMarked 105 = .ok (.ifCond .ne 6, 3) := by decide +kernel
theorem dX12_readMarked_108 : decode cX12_readMarked 108 = .ok (.iload 5, 2) := by decide +kernel
theorem dX12_readMarked_110 : decode cX12_readMarked 110 = .ok (.ireturn, 1) := by decide +kernel
theorem dX12_readMarked_111 : decode cX12_readMarked 111 = .ok (.iload 4, 2) := by decide +kernel
theorem dX12_readMarked_113 : decode cX12_readMarked 113 = .ok (.ifCond .eq 9, 3) := by decide +kernel
theorem dX12_readMarked_116 : decode cX12_readMarked 116 = .ok (.aload_n 0, 1) := by decide +kernel
theorem dX12_readMarked_117 : decode cX12_readMarked 117 = .ok (.iload 5, 2) := by decide +kernel
theorem dX12_readMarked_119 : decode cX12_readMarked 119 = .ok (.putfield 134, 3) := by decide +kernel
theorem dX12_readMarked_122 : decode cX12_readMarked 122 = .ok (.aload_n 0, 1) := by decide +kernel
theorem dX12_readMarked_123 : decode cX12_readMarked 123 = .ok (.invokevirtual 89, 3) := by decide +kernel
theorem dX12_readMarked_126 : decode cX12_readMarked 126 = .ok (.iload 5, 2) := by decide +kernel
theorem dX12_readMarked_128 : decode cX12_readMarked 128 = .ok (.ireturn, 1) := by decide +kernel
theorem dX12_readTree_0 : decode cX12_readTree 0 = .ok (.aload_n 0, 1) := by decide +kernel
theorem dX12_readTree_1 : decode cX12_readTree 1 = .ok (.getfield 137, 3) := by decide +kernel
theorem dX12_readTree_4 : decode cX12_readTree 4 = .ok (.bipush 8, 2) := by decide +kernel
theorem dX12_readTree_6 : decode cX12_readTree 6 = .ok (.if_icmp .ne 12, 3) := by decide +kernel
theorem dX12_readTree_9 : decode cX12_readTree 9 = .ok (.aload_n 0, 1) := by decide +kernel
theorem dX12_readTree_10 : decode cX12_readTree 10 = .ok (.iconst 3, 1) := by decide +kernel
theorem dX12_readTree_11 : decode cX12_readTree 11 = .ok (.aload_n 0, 1) := by decide +kernel
theorem dX12_readTree_12 : decode cX12_readTree 12 = .ok (.getfield 51, 3) := by decide +kernel
theorem dX12_readTree_15 : decode cX12_readTree 15 = .ok (.invokevirtual 85, 3) := by decide +kernel
theorem dX12_readTree_18 : decode cX12_readTree 18 = .ok (.aload_n 0, 1) := by decide +kernel
theorem dX12_readTree_19 : decode cX12_readTree 19 = .ok (.invokevirtual 75, 3) := by decide +kernel
theorem dX12_readTree_22 : decode cX12_readTree 22 = .ok (.ifCond .ne 4, 3) := by decide +kernel
theorem dX12_readTree_25 : decode cX12_readTree 25 = .ok (.return_, 1) := by decide +kernel
theorem dX12_readTree_26 : decode cX12_readTree 26 = .ok (.aload_n 0, 1) := by decide +kernel
theorem dX12_readTree_27 : decode cX12_readTree 27 = .ok (.aload_n 0, 1) := by decide +kernel
theorem dX12_readTree_28 : decode cX12_readTree 28 = .ok (.getfield 92, 3) := by decide +kernel
theorem dX12_readTree_31 : decode cX12_readTree 31 = .ok (.putfield 95, 3) := by decide +kernel
theorem dX12_readTree_34 : decode cX12_readTree 34 = .ok (.aload_n 0, 1) := by decide +kernel
theorem dX12_readTree_35 : decode cX12_readTree 35 = .ok (.iconst (-1), 1) := by decide +kernel
theorem dX12_readTree_36 : decode cX12_readTree 36 = .ok (.putfield 134, 3) := by decide +kernel
theorem dX12_readTree_39 : decode cX12_readTree 39 = .ok (.aload_n 0, 1) := by decide +kernel
theorem dX12_readTree_40 : decode cX12_readTree 40 = .ok (.invokevirtual 89, 3) := by decide +kernel
theorem dX12_readTree_43 : decode cX12_readTree 43 = .ok (.aload_n 0, 1) := by decide +kernel
theorem dX12_readTree_44 : decode cX12_readTree 44 = .ok (.bipush 40, 2) := by decide +kernel
theorem dX12_readTree_46 : decode cX12_readTree 46 = .ok (.invokevirtual 126, 3) := by decide +kernel
theorem dX12_readTree_49 : decode cX12_readTree 49 = .ok (.aload_n 0, 1) := by decide +kernel
theorem dX12_readTree_50 : decode cX12_readTree 50 = .ok (.invokevirtual 75, 3) := by decide +kernel
theorem dX12_readTree_53 : decode cX12_readTree 53 = .ok (.ifCond .eq 9, 3) := by decide +kernel
theorem dX12_readTree_56 : decode cX12_readTree 56 = .ok (.aload_n 0, 1) := by decide +kernel
theorem dX12_readTree_57 : decode cX12_readTree 57 = .ok (.iconst (-1), 1) := by decide +kernel
theorem dX12_readTree_58 : decode cX12_readTree 58 = .ok (.invokevirtual 123, 3) := by decide +kernel
theorem dX12_readTree_61 : decode cX12_readTree 61 = .ok (.pop, 1) := by decide +kernel
theorem dX12_readTree_62 : decode cX12_readTree 62 = .ok (.aload_n 0, 1) := by decide +kernel
theorem dX12_readTree_63 : decode cX12_readTree 63 = .ok (.invokevirtual 75, 3) := by decide +kernel
theorem dX12_readTree_66 : decode cX12_readTree 66 = .ok (.ifCond .eq 28, 3) := by decide +kernel
theorem dX12_readTree_69 : decode cX12_readTree 69 = .ok (.aload_n 0, 1) := by decide +kernel
theorem dX12_readTree_70 : decode cX12_readTree 70 = .ok (.bipush 41, 2) := by decide +kernel
theorem dX12_readTree_72 : decode cX12_readTree 72 = .ok (.invokevirtual 82, 3) := by decide +kernel
theorem dX12_readTree_75 : decode cX12_readTree 75 = .ok (.ifCond .eq 19, 3) := by decide +kernel
theorem dX12_readTree_78 : decode cX12_readTree 78 = .ok (.aload_n 0, 1) := by decide +kernel
theorem dX12_readTree_79 : decode cX12_readTree 79 = .ok (.invokevirtual 140, 3) := by decide +kernel
theorem dX12_readTree_82 : decode cX12_readTree 82 = .ok (.ifCond .ne 12, 3) := by decide +kernel
theorem dX12_readTree_85 : decode cX12_readTree 85 = .ok (.aload_n 0, 1) := by decide +kernel
theorem dX12_readTree_86 : decode cX12_readTree 86 = .ok (.iconst 4, 1) := by decide +kernel
theorem dX12_readTree_87 : decode cX12_readTree 87 = .ok (.aload_n 0, 1) := by decide +kernel
theorem dX12_readTree_88 : decode cX12_readTree 88 = .ok (.getfield 51, 3) := by decide +kernel
theorem dX12_readTree_91 : decode cX12_readTree 91 = .ok (.invokevirtual 85, 3) := by decide +kernel
theorem dX12_readTree_94 : decode cX12_readTree 94 = .ok (.aload_n 0, 1) := by decide +kernel
theorem dX12_readTree_95 : decode cX12_readTree 95 = .ok (.bipush 41, 2) := by decide +kernel
theorem dX12_readTree_97 : decode cX12_readTree 97 = .ok (.invokevirtual 126, 3) := by decide +kernel
theorem dX12_readTree_100 : decode cX12_readTree 100 = .ok (.aload_n 0, 1) := by decide +kernel
theorem dX12_readTree_101 : decode cX12_readTree 101 = .ok (.invokevirtual 75, 3) := by decide +kernel
theorem dX12_readTree_104 : decode cX12_readTree 104 = .ok (.ifCond .eq 21, 3) := by decide +kernel
theorem dX12_readTree_107 : decode cX12_readTree 107 = .ok (.aload_n 0, 1) := by decide +kernel
theorem dX12_readTree_108 : decode cX12_readTree 108 = .ok (.bipush 59, 2) := by decide +kernel
theorem dX12_readTree_110 : decode cX12_readTree 110 = .ok (.invokevirtual 82, 3) := by decide +kernel
theorem dX12_readTree_113 : decode cX12_readTree 113 = .ok (.ifCond .ne 12, 3) := by decide +kernel
theorem dX12_readTree_116 : decode cX12_readTree 116 = .ok (.aload_n 0, 1) := by decide +kernel
theorem dX12_readTree_117 : decode cX12_readTree 117 = .ok (.iconst 1, 1) := by decide +kernel
theorem dX12_readTree_118 : decode cX12_readTree 118 = .ok (.aload_n 0, 1) := by decide +kernel
theorem dX12_readTree_119 : decode cX12_readTree 119 = .ok (.getfield 51, 3) := by decide +kernel
theorem dX12_readTree_122 : decode cX12_readTree 122 = .ok (.invokevirtual 85, 3) := by decide +kernel
theorem dX12_readTree_125 : decode cX12_readTree 125 = .ok (.aload_n 0, 1) := by decide +kernel
theorem dX12_readTree_126 : decode cX12_readTree 126 = .ok (.getfield 7, 3) := by decide +kernel
theorem dX12_readTree_129 : decode cX12_readTree 129 = .ok (.bipush 9, 2) := by decide +kernel
theorem dX12_readTree_131 : decode cX12_readTree 131 = .ok (.aload_n 0, 1) := by decide +kernel
theorem dX12_readTree_132 : decode cX12_readTree 132 = .ok (.getfield 137, 3) := by decide +kernel
theorem dX12_readTree_135 : decode cX12_readTree 135 = .ok (.iadd, 1) := by decide +kernel
theorem dX12_readTree_136 : decode cX12_readTree 136 = .ok (.aload_n 0, 1) := by decide +kernel
theorem dX12_readTree_137 : decode cX12_readTree 137 = .ok (.getfield 95, 3) := by decide +kernel
theorem dX12_readTree_140 : decode cX12_readTree 140 = .ok (.iastore, 1) := by decide +kernel
theorem dX12_readTree_141 : decode cX12_readTree 141 = .ok (.aload_n 0, 1) := by decide +kernel
theorem dX12_readTree_142 : decode cX12_readTree 142 = .ok (.dup, 1) := by decide +kernel
theorem dX12_readTree_143 : decode cX12_readTree 143 = .ok (.getfield 137, 3) := by decide +kernel
theorem dX12_readTree_146 : decode cX12_readTree 146 = .ok (.iconst 1, 1) := by decide +kernel
theorem dX12_readTree_147 : decode cX12_readTree 147 = .ok (.iadd, 1) := by decide +kernel
theorem dX12_readTree_148 : decode cX12_readTree 148 = .ok (.putfield 137, 3) := by decide +kernel
theorem dX12_readTree_151 : decode cX12_readTree 151 = .ok (.return_, 1) := by decide +kernel
theorem dX12_isLettered_0 : decode cX12_isLettered 0 = .ok (.iconst 0, 1) := by decide +kernel
theorem dX12_isLettered_1 : decode cX12_isLettered 1 = .ok (.istore_n 1, 1) := by decide +kernel
theorem dX12_isLettered_2 : decode cX12_isLettered 2 = .ok (.bipush 40, 2) := by decide +kernel
theorem dX12_isLettered_4 : decode cX12_isLettered 4 = .ok (.aload_n 0, 1) := by decide +kernel
theorem dX12_isLettered_5 : decode cX12_isLettered 5 = .ok (.getfield 95, 3) := by decide +kernel
theorem dX12_isLettered_8 : decode cX12_isLettered 8 = .ok (.iadd, 1) := by decide +kernel
theorem dX12_isLettered_9 : decode cX12_isLettered 9 = .ok (.istore_n 2, 1) := by decide +kernel
theorem dX12_isLettered_10 : decode cX12_isLettered 10 = .ok (.iload_n 2, 1) := by decide +kernel
theorem dX12_isLettered_11 : decode cX12_isLettered 11 = .ok (.bipush 40, 2) := by decide +kernel
theorem dX12_isLettered_13 : decode cX12_isLettered 13 = .ok (.aload_n 0, 1) := by decide +kernel
theorem dX12_isLettered_14 : decode cX12_isLettered 14 = .ok (.getfield 92, 3) := by decide +kernel
theorem dX12_isLettered_17 : decode cX12_isLettered 17 = .ok (.iadd, 1) := by decide +kernel
theorem dX12_isLettered_18 : decode cX12_isLettered 18 = .ok (.if_icmp .ge 51, 3) := by decide +kernel
theorem dX12_isLettered_21 : decode cX12_isLettered 21 = .ok (.aload_n 0, 1) := by decide +kernel
theorem dX12_isLettered_22 : decode cX12_isLettered 22 = .ok (.getfield 98, 3) := by decide +kernel
theorem dX12_isLettered_25 : decode cX12_isLettered 25 = .ok (.iload_n 2, 1) := by decide +kernel
theorem dX12_isLettered_26 : decode cX12_isLettered 26 = .ok (.iaload, 1) := by decide +kernel
theorem dX12_isLettered_27 : decode cX12_isLettered 27 = .ok (.iconst 1, 1) := by decide +kernel
theorem dX12_isLettered_28 : decode cX12_isLettered 28 = .ok (.if_icmp .ne 5, 3) := by decide +kernel
theorem dX12_isLettered_31 : decode cX12_isLettered 31 = .ok (.iconst 1, 1) := by decide +kernel
theorem dX12_isLettered_32 : decode cX12_isLettered 32 = .ok (.ireturn, 1) := by decide +kernel
theorem dX12_isLettered_33 : decode cX12_isLettered 33 = .ok (.iload_n 1, 1) := by decide +kernel
theorem dX12_isLettered_34 : decode cX12_isLettered 34 = .ok (.ifCond .ne 23, 3) := by decide +kernel
theorem dX12_isLettered_37 : decode cX12_isLettered 37 = .ok (.aload_n 0, 1) := by decide +kernel
theorem dX12_isLettered_38 : decode cX12_isLettered 38 = .ok (.getfield 98, 3) := by decide +kernel
theorem dX12_isLettered_41 : decode cX12_isLettered 41 = .ok (.iload_n 2, 1) := by decide +kernel
theorem dX12_isLettered_42 : decode cX12_isLettered 42 = .ok (.iaload, 1) := by decide +kernel
theorem dX12_isLettered_43 : decode cX12_isLettered 43 = .ok (.iconst 3, 1) := by decide +kernel
theorem dX12_isLettered_44 : decode cX12_isLettered 44 = .ok (.if_icmp .eq 13, 3) := by decide +kernel
theorem dX12_isLettered_47 : decode cX12_isLettered 47 = .ok (.aload_n 0, 1) := by decide +kernel
theorem dX12_isLettered_48 : decode cX12_isLettered 48 = .ok (.getfield 98, 3) := by decide +kernel
theorem dX12_isLettered_51 : decode cX12_isLettered 51 = .ok (.iload_n 2, 1) := by decide +kernel
theorem dX12_isLettered_52 : decode cX12_isLettered 52 = .ok (.iaload, 1) := by decide +kernel
theorem dX12_isLettered_53 : decode cX12_isLettered 53 = .ok (.iconst 4, 1) := by decide +kernel
theorem dX12_isLettered_54 : decode cX12_isLettered 54 = .ok (.if_icmp .ne 7, 3) := by decide +kernel
theorem dX12_isLettered_57 : decode cX12_isLettered 57 = .ok (.iconst 1, 1) := by decide +kernel
theorem dX12_isLettered_58 : decode cX12_isLettered 58 = .ok (.goto 4, 3) := by decide +kernel
theorem dX12_isLettered_61 : decode cX12_isLettered 61 = .ok (.iconst 0, 1) := by decide +kernel
theorem dX12_isLettered_62 : decode cX12_isLettered 62 = .ok (.istore_n 1, 1) := by decide +kernel
theorem dX12_isLettered_63 : decode cX12_isLettered 63 = .ok (.iinc 2 1, 3) := by decide +kernel
theorem dX12_isLettered_66 : decode cX12_isLettered 66 = .ok (.goto (-56), 3) := by decide +kernel
theorem dX12_isLettered_69 : decode cX12_isLettered 69 = .ok (.iload_n 1, 1) := by decide +kernel
theorem dX12_isLettered_70 : decode cX12_isLettered 70 = .ok (.ifCond .ne 7, 3) := by decide +kernel
theorem dX12_isLettered_73 : decode cX12_isLettered 73 = .ok (.iconst 1, 1) := by decide +kernel
theorem dX12_isLettered_74 : decode cX12_isLettered 74 = .ok (.goto 4, 3) := by decide +kernel
theorem dX12_isLettered_77 : decode cX12_isLettered 77 = .ok (.iconst 0, 1) := by decide +kernel
theorem dX12_isLettered_78 : decode cX12_isLettered 78 = .ok (.ireturn, 1) := by decide +kernel
theorem dX12_grammar_0 : decode cX12_grammar 0 = .ok (.aload_n 0, 1) := by decide +kernel
theorem dX12_grammar_1 : decode cX12_grammar 1 = .ok (.aload_n 0, 1) := by decide +kernel
theorem dX12_grammar_2 : decode cX12_grammar 2 = .ok (.getfield 32, 3) := by decide +kernel
theorem dX12_grammar_5 : decode cX12_grammar 5 = .ok (.putfield 42, 3) := by decide +kernel
theorem dX12_grammar_8 : decode cX12_grammar 8 = .ok (.aload_n 0, 1) := by decide +kernel
theorem dX12_grammar_9 : decode cX12_grammar 9 = .ok (.iconst 0, 1) := by decide +kernel
theorem dX12_grammar_10 : decode cX12_grammar 10 = .ok (.putfield 32, 3) := by decide +kernel
theorem dX12_grammar_13 : decode cX12_grammar 13 = .ok (.aload_n 0, 1) := by decide +kernel
theorem dX12_grammar_14 : decode cX12_grammar 14 = .ok (.iconst 0, 1) := by decide +kernel
theorem dX12_grammar_15 : decode cX12_grammar 15 = .ok (.putfield 45, 3) := by decide +kernel
theorem dX12_grammar_18 : decode cX12_grammar 18 = .ok (.aload_n 0, 1) := by decide +kernel
theorem dX12_grammar_19 : decode cX12_grammar 19 = .ok (.iconst 0, 1) := by decide +kernel
theorem dX12_grammar_20 : decode cX12_grammar 20 = .ok (.putfield 72, 3) := by decide +kernel
theorem dX12_grammar_23 : decode cX12_grammar 23 = .ok (.aload_n 0, 1) := by decide +kernel
theorem dX12_grammar_24 : decode cX12_grammar 24 = .ok (.iconst (-1), 1) := by decide +kernel
theorem dX12_grammar_25 : decode cX12_grammar 25 = .ok (.putfield 79, 3) := by decide +kernel
theorem dX12_grammar_28 : decode cX12_grammar 28 = .ok (.aload_n 0, 1) := by decide +kernel
theorem dX12_grammar_29 : decode cX12_grammar 29 = .ok (.iconst 0, 1) := by decide +kernel
theorem dX12_grammar_30 : decode cX12_grammar 30 = .ok (.putfield 137, 3) := by decide +kernel
theorem dX12_grammar_33 : decode cX12_grammar 33 = .ok (.aload_n 0, 1) := by decide +kernel
theorem dX12_grammar_34 : decode cX12_grammar 34 = .ok (.iconst 0, 1) := by decide +kernel
theorem dX12_grammar_35 : decode cX12_grammar 35 = .ok (.putfield 92, 3) := by decide +kernel
theorem dX12_grammar_38 : decode cX12_grammar 38 = .ok (.aload_n 0, 1) := by decide +kernel
theorem dX12_grammar_39 : decode cX12_grammar 39 = .ok (.invokevirtual 143, 3) := by decide +kernel
theorem dX12_grammar_42 : decode cX12_grammar 42 = .ok (.aload_n 0, 1) := by decide +kernel
theorem dX12_grammar_43 : decode cX12_grammar 43 = .ok (.invokevirtual 75, 3) := by decide +kernel
theorem dX12_grammar_46 : decode cX12_grammar 46 = .ok (.ifCond .eq 45, 3) := by decide +kernel
theorem dX12_grammar_49 : decode cX12_grammar 49 = .ok (.aload_n 0, 1) := by decide +kernel
theorem dX12_grammar_50 : decode cX12_grammar 50 = .ok (.getfield 61, 3) := by decide +kernel
theorem dX12_grammar_53 : decode cX12_grammar 53 = .ok (.ifCond .eq 38, 3) := by decide +kernel
theorem dX12_grammar_56 : decode cX12_grammar 56 = .ok (.aload_n 0, 1) := by decide +kernel
theorem dX12_grammar_57 : decode cX12_grammar 57 = .ok (.getfield 61, 3) := by decide +kernel
theorem dX12_grammar_60 : decode cX12_grammar 60 = .ok (.iconst 1, 1) := by decide +kernel
theorem dX12_grammar_61 : decode cX12_grammar 61 = .ok (.if_icmp .eq 12, 3) := by decide +kernel
theorem dX12_grammar_64 : decode cX12_grammar 64 = .ok (.aload_n 0, 1) := by decide +kernel
theorem dX12_grammar_65 : decode cX12_grammar 65 = .ok (.iconst 1, 1) := by decide +kernel
theorem dX12_grammar_66 : decode cX12_grammar 66 = .ok (.aload_n 0, 1) := by decide +kernel
theorem dX12_grammar_67 : decode cX12_grammar 67 = .ok (.getfield 51, 3) := by decide +kernel
theorem dX12_grammar_70 : decode cX12_grammar 70 = .ok (.invokevirtual 85, 3) := by decide +kernel
theorem dX12_grammar_73 : decode cX12_grammar 73 = .ok (.aload_n 0, 1) := by decide +kernel
theorem dX12_grammar_74 : decode cX12_grammar 74 = .ok (.invokevirtual 146, 3) := by decide +kernel
theorem dX12_grammar_77 : decode cX12_grammar 77 = .ok (.aload_n 0, 1) := by decide +kernel
theorem dX12_grammar_78 : decode cX12_grammar 78 = .ok (.invokevirtual 75, 3) := by decide +kernel
theorem dX12_grammar_81 : decode cX12_grammar 81 = .ok (.ifCond .eq (-39), 3) := by decide +kernel
theorem dX12_grammar_84 : decode cX12_grammar 84 = .ok (.aload_n 0, 1) := by decide +kernel
theorem dX12_grammar_85 : decode cX12_grammar 85 = .ok (.invokevirtual 143, 3) := by decide +kernel
theorem dX12_grammar_88 : decode cX12_grammar 88 = .ok (.goto (-46), 3) := by decide +kernel
theorem dX12_grammar_91 : decode cX12_grammar 91 = .ok (.aload_n 0, 1) := by decide +kernel
theorem dX12_grammar_92 : decode cX12_grammar 92 = .ok (.invokevirtual 75, 3) := by decide +kernel
theorem dX12_grammar_95 : decode cX12_grammar 95 = .ok (.ifCond .ne 6, 3) := by decide +kernel
theorem dX12_grammar_98 : decode cX12_grammar 98 = .ok (.bipush (-4), 2) := by decide +kernel
theorem dX12_grammar_100 : decode cX12_grammar 100 = .ok (.ireturn, 1) := by decide +kernel
theorem dX12_grammar_101 : decode cX12_grammar 101 = .ok (.aload_n 0, 1) := by decide +kernel
theorem dX12_grammar_102 : decode cX12_grammar 102 = .ok (.aload_n 0, 1) := by decide +kernel
theorem dX12_grammar_103 : decode cX12_grammar 103 = .ok (.getfield 137, 3) := by decide +kernel
theorem dX12_grammar_106 : decode cX12_grammar 106 = .ok (.putfield 11, 3) := by decide +kernel
theorem dX12_grammar_109 : decode cX12_grammar 109 = .ok (.aload_n 0, 1) := by decide +kernel
theorem dX12_grammar_110 : decode cX12_grammar 110 = .ok (.aload_n 0, 1) := by decide +kernel
theorem dX12_grammar_111 : decode cX12_grammar 111 = .ok (.getfield 92, 3) := by decide +kernel
theorem dX12_grammar_114 : decode cX12_grammar 114 = .ok (.putfield 149, 3) := by decide +kernel
theorem dX12_grammar_117 : decode cX12_grammar 117 = .ok (.aload_n 0, 1) := by decide +kernel
theorem dX12_grammar_118 : decode cX12_grammar 118 = .ok (.iconst 0, 1) := by decide +kernel
theorem dX12_grammar_119 : decode cX12_grammar 119 = .ok (.putfield 26, 3) := by decide +kernel
theorem dX12_grammar_122 : decode cX12_grammar 122 = .ok (.iconst 0, 1) := by decide +kernel
theorem dX12_grammar_123 : decode cX12_grammar 123 = .ok (.istore_n 1, 1) := by decide +kernel
theorem dX12_grammar_124 : decode cX12_grammar 124 = .ok (.iload_n 1, 1) := by decide +kernel
theorem dX12_grammar_125 : decode cX12_grammar 125 = .ok (.aload_n 0, 1) := by decide +kernel
theorem dX12_grammar_126 : decode cX12_grammar 126 = .ok (.getfield 11, 3) := by decide +kernel
theorem dX12_grammar_129 : decode cX12_grammar 129 = .ok (.if_icmp .ge 24, 3) := by decide +kernel
theorem dX12_grammar_132 : decode cX12_grammar 132 = .ok (.aload_n 0, 1) := by decide +kernel
theorem dX12_grammar_133 : decode cX12_grammar 133 = .ok (.getfield 7, 3) := by decide +kernel
theorem dX12_grammar_136 : decode cX12_grammar 136 = .ok (.iload_n 1, 1) := by decide +kernel
theorem dX12_grammar_137 : decode cX12_grammar 137 = .ok (.aload_n 0, 1) := by decide +kernel
theorem dX12_grammar_138 : decode cX12_grammar 138 = .ok (.getfield 7, 3) := by decide +kernel
theorem dX12_grammar_141 : decode cX12_grammar 141 = .ok (.bipush 9, 2) := by decide +kernel
theorem dX12_grammar_143 : decode cX12_grammar 143 = .ok (.iload_n 1, 1) := by decide +kernel
theorem dX12_grammar_144 : decode cX12_grammar 144 = .ok (.iadd, 1) := by decide +kernel
theorem dX12_grammar_145 : decode cX12_grammar 145 = .ok (.iaload, 1) := by decide +kernel
theorem dX12_grammar_146 : decode cX12_grammar 146 = .ok (.iastore, 1) := by decide +kernel
theorem dX12_grammar_147 : decode cX12_grammar 147 = .ok (.iinc 1 1, 3) := by decide +kernel
theorem dX12_grammar_150 : decode cX12_grammar 150 = .ok (.goto (-26), 3) := by decide +kernel
theorem dX12_grammar_153 : decode cX12_grammar 153 = .ok (.aload_n 0, 1) := by decide +kernel
theorem dX12_grammar_154 : decode cX12_grammar 154 = .ok (.getfield 7, 3) := by decide +kernel
theorem dX12_grammar_157 : decode cX12_grammar 157 = .ok (.aload_n 0, 1) := by decide +kernel
theorem dX12_grammar_158 : decode cX12_grammar 158 = .ok (.getfield 11, 3) := by decide +kernel
theorem dX12_grammar_161 : decode cX12_grammar 161 = .ok (.aload_n 0, 1) := by decide +kernel
theorem dX12_grammar_162 : decode cX12_grammar 162 = .ok (.getfield 149, 3) := by decide +kernel
theorem dX12_grammar_165 : decode cX12_grammar 165 = .ok (.iastore, 1) := by decide +kernel
theorem dX12_grammar_166 : decode cX12_grammar 166 = .ok (.iconst 0, 1) := by decide +kernel
theorem dX12_grammar_167 : decode cX12_grammar 167 = .ok (.istore_n 1, 1) := by decide +kernel
theorem dX12_grammar_168 : decode cX12_grammar 168 = .ok (.iload_n 1, 1) := by decide +kernel
theorem dX12_grammar_169 : decode cX12_grammar 169 = .ok (.aload_n 0, 1) := by decide +kernel
theorem dX12_grammar_170 : decode cX12_grammar 170 = .ok (.getfield 149, 3) := by decide +kernel
theorem dX12_grammar_173 : decode cX12_grammar 173 = .ok (.if_icmp .ge 159, 3) := by decide +kernel
theorem dX12_grammar_176 : decode cX12_grammar 176 = .ok (.aload_n 0, 1) := by decide +kernel
theorem dX12_grammar_177 : decode cX12_grammar 177 = .ok (.getfield 98, 3) := by decide +kernel
theorem dX12_grammar_180 : decode cX12_grammar 180 = .ok (.iload_n 1, 1) := by decide +kernel
theorem dX12_grammar_181 : decode cX12_grammar 181 = .ok (.aload_n 0, 1) := by decide +kernel
theorem dX12_grammar_182 : decode cX12_grammar 182 = .ok (.getfield 98, 3) := by decide +kernel
theorem dX12_grammar_185 : decode cX12_grammar 185 = .ok (.bipush 40, 2) := by decide +kernel
theorem dX12_grammar_187 : decode cX12_grammar 187 = .ok (.iload_n 1, 1) := by decide +kernel
theorem dX12_grammar_188 : decode cX12_grammar 188 = .ok (.iadd, 1) := by decide +kernel
theorem dX12_grammar_189 : decode cX12_grammar 189 = .ok (.iaload, 1) := by decide +kernel
theorem dX12_grammar_190 : decode cX12_grammar 190 = .ok (.iastore, 1) := by decide +kernel
theorem dX12_grammar_191 : decode cX12_grammar 191 = .ok (.aload_n 0, 1) := by decide +kernel
theorem dX12_grammar_192 : decode cX12_grammar 192 = .ok (.getfield 101, 3) := by decide +kernel
theorem dX12_grammar_195 : decode cX12_grammar 195 = .ok (.iload_n 1, 1) := by decide +kernel
theorem dX12_grammar_196 : decode cX12_grammar 196 = .ok (.aload_n 0, 1) := by decide +kernel
theorem dX12_grammar_197 : decode cX12_grammar 197 = .ok (.getfield 101, 3) := by decide +kernel
theorem dX12_grammar_200 : decode cX12_grammar 200 = .ok (.bipush 40, 2) := by decide +kernel
theorem dX12_grammar_202 : decode cX12_grammar 202 = .ok (.iload_n 1, 1) := by decide +kernel
theorem dX12_grammar_203 : decode cX12_grammar 203 = .ok (.iadd, 1) := by decide +kernel
theorem dX12_grammar_204 : decode cX12_grammar 204 = .ok (.iaload, 1) := by decide +kernel
theorem dX12_grammar_205 : decode cX12_grammar 205 = .ok (.iastore, 1) := by decide +kernel
theorem dX12_grammar_206 : decode cX12_grammar 206 = .ok (.aload_n 0, 1) := by decide +kernel
theorem dX12_grammar_207 : decode cX12_grammar 207 = .ok (.getfield 104, 3) := by decide +kernel
theorem dX12_grammar_210 : decode cX12_grammar 210 = .ok (.iload_n 1, 1) := by decide +kernel
theorem dX12_grammar_211 : decode cX12_grammar 211 = .ok (.aload_n 0, 1) := by decide +kernel
theorem dX12_grammar_212 : decode cX12_grammar 212 = .ok (.getfield 104, 3) := by decide +kernel
theorem dX12_grammar_215 : decode cX12_grammar 215 = .ok (.bipush 40, 2) := by decide +kernel
theorem dX12_grammar_217 : decode cX12_grammar 217 = .ok (.iload_n 1, 1) := by decide +kernel
theorem dX12_grammar_218 : decode cX12_grammar 218 = .ok (.iadd, 1) := by decide +kernel
theorem dX12_grammar_219 : decode cX12_grammar 219 = .ok (.iaload, 1) := by decide +kernel
theorem dX12_grammar_220 : decode cX12_grammar 220 = .ok (.iastore, 1) := by decide +kernel
theorem dX12_grammar_221 : decode cX12_grammar 221 = .ok (.aload_n 0, 1) := by decide +kernel
theorem dX12_grammar_222 : decode cX12_grammar 222 = .ok (.getfield 107, 3) := by decide +kernel
theorem dX12_grammar_225 : decode cX12_grammar 225 = .ok (.iload_n 1, 1) := by decide +kernel
theorem dX12_grammar_226 : decode cX12_grammar 226 = .ok (.aload_n 0, 1) := by decide +kernel
theorem dX12_grammar_227 : decode cX12_grammar 227 = .ok (.getfield 107, 3) := by decide +kernel
theorem dX12_grammar_230 : decode cX12_grammar 230 = .ok (.bipush 40, 2) := by decide +kernel
theorem dX12_grammar_232 : decode cX12_grammar 232 = .ok (.iload_n 1, 1) := by decide +kernel
theorem dX12_grammar_233 : decode cX12_grammar 233 = .ok (.iadd, 1) := by decide +kernel
theorem dX12_grammar_234 : decode cX12_grammar 234 = .ok (.iaload, 1) := by decide +kernel
theorem dX12_grammar_235 : decode cX12_grammar 235 = .ok (.iconst (-1), 1) := by decide +kernel
theorem dX12_grammar_236 : decode cX12_grammar 236 = .ok (.if_icmp .ne 7, 3) := by decide +kernel
theorem dX12_grammar_239 : decode cX12_grammar 239 = .ok (.iconst (-1), 1) := by decide +kernel
theorem dX12_grammar_240 : decode cX12_grammar 240 = .ok (.goto 15, 3) := by decide +kernel
theorem dX12_grammar_243 : decode cX12_grammar 243 = .ok (.aload_n 0, 1) := by decide +kernel
theorem dX12_grammar_244 : decode cX12_grammar 244 = .ok (.getfield 107, 3) := by decide +kernel
theorem dX12_grammar_247 : decode cX12_grammar 247 = .ok (.bipush 40, 2) := by decide +kernel
theorem dX12_grammar_249 : decode cX12_grammar 249 = .ok (.iload_n 1, 1) := by decide +kernel
theorem dX12_grammar_250 : decode cX12_grammar 250 = .ok (.iadd, 1) := by decide +kernel
theorem dX12_grammar_251 : decode cX12_grammar 251 = .ok (.iaload, 1) := by decide +kernel
theorem dX12_grammar_252 : decode cX12_grammar 252 = .ok (.bipush 40, 2) := by decide +kernel
theorem dX12_grammar_254 : decode cX12_grammar 254 = .ok (.isub, 1) := by decide +kernel
theorem dX12_grammar_255 : decode cX12_grammar 255 = .ok (.iastore, 1) := by decide +kernel
theorem dX12_grammar_256 : decode cX12_grammar 256 = .ok (.aload_n 0, 1) := by decide +kernel
theorem dX12_grammar_257 : decode cX12_grammar 257 = .ok (.getfield 110, 3) := by decide +kernel
theorem dX12_grammar_260 : decode cX12_grammar 260 = .ok (.iload_n 1, 1) := by decide +kernel
theorem dX12_grammar_261 : decode cX12_grammar 261 = .ok (.aload_n 0, 1) := by decide +kernel
theorem dX12_grammar_262 : decode cX12_grammar 262 = .ok (.getfield 110, 3) := by decide +kernel
theorem dX12_grammar_265 : decode cX12_grammar 265 = .ok (.bipush 40, 2) := by decide +kernel
theorem dX12_grammar_267 : decode cX12_grammar 267 = .ok (.iload_n 1, 1) := by decide +kernel
theorem dX12_grammar_268 : decode cX12_grammar 268 = .ok (.iadd, 1) := by decide +kernel
theorem dX12_grammar_269 : decode cX12_grammar 269 = .ok (.iaload, 1) := by decide +kernel
theorem dX12_grammar_270 : decode cX12_grammar 270 = .ok (.iconst (-1), 1) := by decide +kernel
theorem dX12_grammar_271 : decode cX12_grammar 271 = .ok (.if_icmp .ne 7, 3) := by decide +kernel
theorem dX12_grammar_274 : decode cX12_grammar 274 = .ok (.iconst (-1), 1) := by decide +kernel
theorem dX12_grammar_275 : decode cX12_grammar 275 = .ok (.goto 15, 3) := by decide +kernel
theorem dX12_grammar_278 : decode cX12_grammar 278 = .ok (.aload_n 0, 1) := by decide +kernel
theorem dX12_grammar_279 : decode cX12_grammar 279 = .ok (.getfield 110, 3) := by decide +kernel
theorem dX12_grammar_282 : decode cX12_grammar 282 = .ok (.bipush 40, 2) := by decide +kernel
theorem dX12_grammar_284 : decode cX12_grammar 284 = .ok (.iload_n 1, 1) := by decide +kernel
theorem dX12_grammar_285 : decode cX12_grammar 285 = .ok (.iadd, 1) := by decide +kernel
theorem dX12_grammar_286 : decode cX12_grammar 286 = .ok (.iaload, 1) := by decide +kernel
theorem dX12_grammar_287 : decode cX12_grammar 287 = .ok (.bipush 40, 2) := by decide +kernel
theorem dX12_grammar_289 : decode cX12_grammar 289 = .ok (.isub, 1) := by decide +kernel
theorem dX12_grammar_290 : decode cX12_grammar 290 = .ok (.iastore, 1) := by decide +kernel
theorem dX12_grammar_291 : decode cX12_grammar 291 = .ok (.aload_n 0, 1) := by decide +kernel
theorem dX12_grammar_292 : decode cX12_grammar 292 = .ok (.getfield 113, 3) := by decide +kernel
theorem dX12_grammar_295 : decode cX12_grammar 295 = .ok (.iload_n 1, 1) := by decide +kernel
theorem dX12_grammar_296 : decode cX12_grammar 296 = .ok (.aload_n 0, 1) := by decide +kernel
theorem dX12_grammar_297 : decode cX12_grammar 297 = .ok (.getfield 113, 3) := by decide +kernel
theorem dX12_grammar_300 : decode cX12_grammar 300 = .ok (.bipush 40, 2) := by decide +kernel
theorem dX12_grammar_302 : decode cX12_grammar 302 = .ok (.iload_n 1, 1) := by decide +kernel
theorem dX12_grammar_303 : decode cX12_grammar 303 = .ok (.iadd, 1) := by decide +kernel
theorem dX12_grammar_304 : decode cX12_grammar 304 = .ok (.iaload, 1) := by decide +kernel
theorem dX12_grammar_305 : decode cX12_grammar 305 = .ok (.iconst (-1), 1) := by decide +kernel
theorem dX12_grammar_306 : decode cX12_grammar 306 = .ok (.if_icmp .ne 7, 3) := by decide +kernel
theorem dX12_grammar_309 : decode cX12_grammar 309 = .ok (.iconst (-1), 1) := by decide +kernel
theorem dX12_grammar_310 : decode cX12_grammar 310 = .ok (.goto 15, 3) := by decide +kernel
theorem dX12_grammar_313 : decode cX12_grammar 313 = .ok (.aload_n 0, 1) := by decide +kernel
theorem dX12_grammar_314 : decode cX12_grammar 314 = .ok (.getfield 113, 3) := by decide +kernel
theorem dX12_grammar_317 : decode cX12_grammar 317 = .ok (.bipush 40, 2) := by decide +kernel
theorem dX12_grammar_319 : decode cX12_grammar 319 = .ok (.iload_n 1, 1) := by decide +kernel
theorem dX12_grammar_320 : decode cX12_grammar 320 = .ok (.iadd, 1) := by decide +kernel
theorem dX12_grammar_321 : decode cX12_grammar 321 = .ok (.iaload, 1) := by decide +kernel
theorem dX12_grammar_322 : decode cX12_grammar 322 = .ok (.bipush 40, 2) := by decide +kernel
theorem dX12_grammar_324 : decode cX12_grammar 324 = .ok (.isub, 1) := by decide +kernel
theorem dX12_grammar_325 : decode cX12_grammar 325 = .ok (.iastore, 1) := by decide +kernel
theorem dX12_grammar_326 : decode cX12_grammar 326 = .ok (.iinc 1 1, 3) := by decide +kernel
theorem dX12_grammar_329 : decode cX12_grammar 329 = .ok (.goto (-161), 3) := by decide +kernel
theorem dX12_grammar_332 : decode cX12_grammar 332 = .ok (.iconst 0, 1) := by decide +kernel
theorem dX12_grammar_333 : decode cX12_grammar 333 = .ok (.istore_n 1, 1) := by decide +kernel
theorem dX12_grammar_334 : decode cX12_grammar 334 = .ok (.iload_n 1, 1) := by decide +kernel
theorem dX12_grammar_335 : decode cX12_grammar 335 = .ok (.aload_n 0, 1) := by decide +kernel
theorem dX12_grammar_336 : decode cX12_grammar 336 = .ok (.getfield 11, 3) := by decide +kernel
theorem dX12_grammar_339 : decode cX12_grammar 339 = .ok (.if_icmp .ge 14, 3) := by decide +kernel
theorem dX12_grammar_342 : decode cX12_grammar 342 = .ok (.aload_n 0, 1) := by decide +kernel
theorem dX12_grammar_343 : decode cX12_grammar 343 = .ok (.iload_n 1, 1) := by decide +kernel
theorem dX12_grammar_344 : decode cX12_grammar 344 = .ok (.invokevirtual 152, 3) := by decide +kernel
theorem dX12_grammar_347 : decode cX12_grammar 347 = .ok (.iinc 1 1, 3) := by decide +kernel
theorem dX12_grammar_350 : decode cX12_grammar 350 = .ok (.goto (-16), 3) := by decide +kernel
theorem dX12_grammar_353 : decode cX12_grammar 353 = .ok (.aload_n 0, 1) := by decide +kernel
theorem dX12_grammar_354 : decode cX12_grammar 354 = .ok (.getfield 11, 3) := by decide +kernel
theorem dX12_grammar_357 : decode cX12_grammar 357 = .ok (.ireturn, 1) := by decide +kernel
theorem dX12_laysTree_0 : decode cX12_laysTree 0 = .ok (.aload_n 0, 1) := by decide +kernel
theorem dX12_laysTree_1 : decode cX12_laysTree 1 = .ok (.getfield 29, 3) := by decide +kernel
theorem dX12_laysTree_4 : decode cX12_laysTree 4 = .ok (.iload_n 1, 1) := by decide +kernel
theorem dX12_laysTree_5 : decode cX12_laysTree 5 = .ok (.iconst (-1), 1) := by decide +kernel
theorem dX12_laysTree_6 : decode cX12_laysTree 6 = .ok (.iastore, 1) := by decide +kernel
theorem dX12_laysTree_7 : decode cX12_laysTree 7 = .ok (.aload_n 0, 1) := by decide +kernel
theorem dX12_laysTree_8 : decode cX12_laysTree 8 = .ok (.getfield 155, 3) := by decide +kernel
theorem dX12_laysTree_11 : decode cX12_laysTree 11 = .ok (.iload_n 1, 1) := by decide +kernel
theorem dX12_laysTree_12 : decode cX12_laysTree 12 = .ok (.iconst (-1), 1) := by decide +kernel
theorem dX12_laysTree_13 : decode cX12_laysTree 13 = .ok (.iastore, 1) := by decide +kernel
theorem dX12_laysTree_14 : decode cX12_laysTree 14 = .ok (.aload_n 0, 1) := by decide +kernel
theorem dX12_laysTree_15 : decode cX12_laysTree 15 = .ok (.getfield 158, 3) := by decide +kernel
theorem dX12_laysTree_18 : decode cX12_laysTree 18 = .ok (.iload_n 1, 1) := by decide +kernel
theorem dX12_laysTree_19 : decode cX12_laysTree 19 = .ok (.iconst 0, 1) := by decide +kernel
theorem dX12_laysTree_20 : decode cX12_laysTree 20 = .ok (.iastore, 1) := by decide +kernel
theorem dX12_laysTree_21 : decode cX12_laysTree 21 = .ok (.aload_n 0, 1) := by decide +kernel
theorem dX12_laysTree_22 : decode cX12_laysTree 22 = .ok (.getfield 7, 3) := by decide +kernel
theorem dX12_laysTree_25 : decode cX12_laysTree 25 = .ok (.iload_n 1, 1) := by decide +kernel
theorem dX12_laysTree_26 : decode cX12_laysTree 26 = .ok (.iconst 1, 1) := by decide +kernel
theorem dX12_laysTree_27 : decode cX12_laysTree 27 = .ok (.iadd, 1) := by decide +kernel
theorem dX12_laysTree_28 : decode cX12_laysTree 28 = .ok (.iaload, 1) := by decide +kernel
theorem dX12_laysTree_29 : decode cX12_laysTree 29 = .ok (.iconst 1, 1) := by decide +kernel
theorem dX12_laysTree_30 : decode cX12_laysTree 30 = .ok (.isub, 1) := by decide +kernel
theorem dX12_laysTree_31 : decode cX12_laysTree 31 = .ok (.istore_n 2, 1) := by decide +kernel
theorem dX12_laysTree_32 : decode cX12_laysTree 32 = .ok (.iload_n 2, 1) := by decide +kernel
theorem dX12_laysTree_33 : decode cX12_laysTree 33 = .ok (.aload_n 0, 1) := by decide +kernel
theorem dX12_laysTree_34 : decode cX12_laysTree 34 = .ok (.getfield 7, 3) := by decide +kernel
theorem dX12_laysTree_37 : decode cX12_laysTree 37 = .ok (.iload_n 1, 1) := by decide +kernel
theorem dX12_laysTree_38 : decode cX12_laysTree 38 = .ok (.iaload, 1) := by decide +kernel
theorem dX12_laysTree_39 : decode cX12_laysTree 39 = .ok (.if_icmp .lt 219, 3) := by decide +kernel
theorem dX12_laysTree_42 : decode cX12_laysTree 42 = .ok (.aload_n 0, 1) := by decide +kernel
theorem dX12_laysTree_43 : decode cX12_laysTree 43 = .ok (.getfield 161, 3) := by decide +kernel
theorem dX12_laysTree_46 : decode cX12_laysTree 46 = .ok (.iload_n 2, 1) := by decide +kernel
theorem dX12_laysTree_47 : decode cX12_laysTree 47 = .ok (.iload_n 1, 1) := by decide +kernel
theorem dX12_laysTree_48 : decode cX12_laysTree 48 = .ok (.iastore, 1) := by decide +kernel
theorem dX12_laysTree_49 : decode cX12_laysTree 49 = .ok (.aload_n 0, 1) := by decide +kernel
theorem dX12_laysTree_50 : decode cX12_laysTree 50 = .ok (.getfield 164, 3) := by decide +kernel
theorem dX12_laysTree_53 : decode cX12_laysTree 53 = .ok (.iload_n 2, 1) := by decide +kernel
theorem dX12_laysTree_54 : decode cX12_laysTree 54 = .ok (.aload_n 0, 1) := by decide +kernel
theorem dX12_laysTree_55 : decode cX12_laysTree 55 = .ok (.getfield 98, 3) := by decide +kernel
theorem dX12_laysTree_58 : decode cX12_laysTree 58 = .ok (.iload_n 2, 1) := by decide +kernel
theorem dX12_laysTree_59 : decode cX12_laysTree 59 = .ok (.iaload, 1) := by decide +kernel
theorem dX12_laysTree_60 : decode cX12_laysTree 60 = .ok (.iconst 1, 1) := by decide +kernel
theorem dX12_laysTree_61 : decode cX12_laysTree 61 = .ok (.if_icmp .ne 7, 3) := by decide +kernel
theorem dX12_laysTree_64 : decode cX12_laysTree 64 = .ok (.iconst 1, 1) := by decide +kernel
theorem dX12_laysTree_65 : decode cX12_laysTree 65 = .ok (.goto 4, 3) := by decide +kernel
theorem dX12_laysTree_68 : decode cX12_laysTree 68 = .ok (.iconst 0, 1) := by decide +kernel
theorem dX12_laysTree_69 : decode cX12_laysTree 69 = .ok (.iastore, 1) := by decide +kernel
theorem dX12_laysTree_70 : decode cX12_laysTree 70 = .ok (.aload_n 0, 1) := by decide +kernel
theorem dX12_laysTree_71 : decode cX12_laysTree 71 = .ok (.getfield 167, 3) := by decide +kernel
theorem dX12_laysTree_74 : decode cX12_laysTree 74 = .ok (.iload_n 2, 1) := by decide +kernel
theorem dX12_laysTree_75 : decode cX12_laysTree 75 = .ok (.aload_n 0, 1) := by decide +kernel
theorem dX12_laysTree_76 : decode cX12_laysTree 76 = .ok (.getfield 98, 3) := by decide +kernel
theorem dX12_laysTree_79 : decode cX12_laysTree 79 = .ok (.iload_n 2, 1) := by decide +kernel
theorem dX12_laysTree_80 : decode cX12_laysTree 80 = .ok (.iaload, 1) := by decide +kernel
theorem dX12_laysTree_81 : decode cX12_laysTree 81 = .ok (.iconst 3, 1) := by decide +kernel
theorem dX12_laysTree_82 : decode cX12_laysTree 82 = .ok (.if_icmp .ne 7, 3) := by decide +kernel
theorem dX12_laysTree_85 : decode cX12_laysTree 85 = .ok (.iconst 1, 1) := by decide +kernel
theorem dX12_laysTree_86 : decode cX12_laysTree 86 = .ok (.goto 4, 3) := by decide +kernel
theorem dX12_laysTree_89 : decode cX12_laysTree 89 = .ok (.iconst 0, 1) := by decide +kernel
theorem dX12_laysTree_90 : decode cX12_laysTree 90 = .ok (.bastore, 1) := by decide +kernel
theorem dX12_laysTree_91 : decode cX12_laysTree 91 = .ok (.iconst 0, 1) := by decide +kernel
theorem dX12_laysTree_92 : decode cX12_laysTree 92 = .ok (.istore_n 3, 1) := by decide +kernel
theorem dX12_laysTree_93 : decode cX12_laysTree 93 = .ok (.iload_n 3, 1) := by decide +kernel
theorem dX12_laysTree_94 : decode cX12_laysTree 94 = .ok (.iconst 2, 1) := by decide +kernel
theorem dX12_laysTree_95 : decode cX12_laysTree 95 = .ok (.if_icmp .ge 85, 3) := by decide +kernel
theorem dX12_laysTree_98 : decode cX12_laysTree 98 = .ok (.iload_n 3, 1) := by decide +kernel
theorem dX12_laysTree_99 : decode cX12_laysTree 99 = .ok (.ifCond .ne 12, 3) := by decide +kernel
theorem dX12_laysTree_102 : decode cX12_laysTree 102 = .ok (.aload_n 0, 1) := by decide +kernel
theorem dX12_laysTree_103 : decode cX12_laysTree 103 = .ok (.getfield 107, 3) := by decide +kernel
theorem dX12_laysTree_106 : decode cX12_laysTree 106 = .ok (.iload_n 2, 1) := by decide +kernel
theorem dX12_laysTree_107 : decode cX12_laysTree 107 = .ok (.iaload, 1) := by decide +kernel
theorem dX12_laysTree_108 : decode cX12_laysTree 108 = .ok (.goto 9, 3) := by decide +kernel
theorem dX12_laysTree_111 : decode cX12_laysTree 111 = .ok (.aload_n 0, 1) := by decide +kernel
theorem dX12_laysTree_112 : decode cX12_laysTree 112 = .ok (.getfield 110, 3) := by decide +kernel
theorem dX12_laysTree_115 : decode cX12_laysTree 115 = .ok (.iload_n 2, 1) := by decide +kernel
theorem dX12_laysTree_116 : decode cX12_laysTree 116 = .ok (.iaload, 1) := by decide +kernel
theorem dX12_laysTree_117 : decode cX12_laysTree 117 = .ok (.istore 4, 2) := by decide +kernel
theorem dX12_laysTree_119 : decode cX12_laysTree 119 = .ok (.iload 4, 2) := by decide +kernel
theorem dX12_laysTree_121 : decode cX12_laysTree 121 = .ok (.iconst (-1), 1) := by decide +kernel
theorem dX12_laysTree_122 : decode cX12_laysTree 122 = .ok (.if_icmp .ne 6, 3) := by decide +kernel
theorem dX12_laysTree_125 : decode cX12_laysTree 125 = .ok (.goto 49, 3) := by decide +kernel
theorem dX12_laysTree_128 : decode cX12_laysTree 128 = .ok (.aload_n 0, 1) := by decide +kernel
theorem dX12_laysTree_129 : decode cX12_laysTree 129 = .ok (.getfield 164, 3) := by decide +kernel
theorem dX12_laysTree_132 : decode cX12_laysTree 132 = .ok (.iload_n 2, 1) := by decide +kernel
theorem dX12_laysTree_133 : decode cX12_laysTree 133 = .ok (.dup2, 1) := by decide +kernel
theorem dX12_laysTree_134 : decode cX12_laysTree 134 = .ok (.iaload, 1) := by decide +kernel
theorem dX12_laysTree_135 : decode cX12_laysTree 135 = .ok (.aload_n 0, 1) := by decide +kernel
theorem dX12_laysTree_136 : decode cX12_laysTree 136 = .ok (.getfield 164, 3) := by decide +kernel
theorem dX12_laysTree_139 : decode cX12_laysTree 139 = .ok (.iload 4, 2) := by decide +kernel
theorem dX12_laysTree_141 : decode cX12_laysTree 141 = .ok (.iaload, 1) := by decide +kernel
theorem dX12_laysTree_142 : decode cX12_laysTree 142 = .ok (.iadd, 1) := by decide +kernel
theorem dX12_laysTree_143 : decode cX12_laysTree 143 = .ok (.iastore, 1) := by decide +kernel
theorem dX12_laysTree_144 : decode cX12_laysTree 144 = .ok (.aload_n 0, 1) := by decide +kernel
theorem dX12_laysTree_145 : decode cX12_laysTree 145 = .ok (.getfield 167, 3) := by decide +kernel
theorem dX12_laysTree_148 : decode cX12_laysTree 148 = .ok (.iload_n 2, 1) := by decide +kernel
theorem dX12_laysTree_149 : decode cX12_laysTree 149 = .ok (.aload_n 0, 1) := by decide +kernel
theorem dX12_laysTree_150 : decode cX12_laysTree 150 = .ok (.getfield 167, 3) := by decide +kernel
theorem dX12_laysTree_153 : decode cX12_laysTree 153 = .ok (.iload_n 2, 1) := by decide +kernel
theorem dX12_laysTree_154 : decode cX12_laysTree 154 = .ok (.baload, 1) := by decide +kernel
theorem dX12_laysTree_155 : decode cX12_laysTree 155 = .ok (.ifCond .ne 13, 3) := by decide +kernel
theorem dX12_laysTree_158 : decode cX12_laysTree 158 = .ok (.aload_n 0, 1) := by decide +kernel
theorem dX12_laysTree_159 : decode cX12_laysTree 159 = .ok (.getfield 167, 3) := by decide +kernel
theorem dX12_laysTree_162 : decode cX12_laysTree 162 = .ok (.iload 4, 2) := by decide +kernel
theorem dX12_laysTree_164 : decode cX12_laysTree 164 = .ok (.baload, 1) := by decide +kernel
theorem dX12_laysTree_165 : decode cX12_laysTree 165 = .ok (.ifCond .eq 7, 3) := by decide +kernel
theorem dX12_laysTree_168 : decode cX12_laysTree 168 = .ok (.iconst 1, 1) := by decide +kernel
theorem dX12_laysTree_169 : decode cX12_laysTree 169 = .ok (.goto 4, 3) := by decide +kernel
theorem dX12_laysTree_172 : decode cX12_laysTree 172 = .ok (.iconst 0, 1) := by decide +kernel
theorem dX12_laysTree_173 : decode cX12_laysTree 173 = .ok (.bastore, 1) := by decide +kernel
theorem dX12_laysTree_174 : decode cX12_laysTree 174 = .ok (.iinc 3 1, 3) := by decide +kernel
theorem dX12_laysTree_177 : decode cX12_laysTree 177 = .ok (.goto (-84), 3) := by decide +kernel
theorem dX12_laysTree_180 : decode cX12_laysTree 180 = .ok (.aload_n 0, 1) := by decide +kernel
theorem dX12_laysTree_181 : decode cX12_laysTree 181 = .ok (.getfield 98, 3) := by decide +kernel
theorem dX12_laysTree_184 : decode cX12_laysTree 184 = .ok (.iload_n 2, 1) := by decide +kernel
theorem dX12_laysTree_185 : decode cX12_laysTree 185 = .ok (.iaload, 1) := by decide +kernel
theorem dX12_laysTree_186 : decode cX12_laysTree 186 = .ok (.iconst 3, 1) := by decide +kernel
theorem dX12_laysTree_187 : decode cX12_laysTree 187 = .ok (.if_icmp .ne 17, 3) := by decide +kernel
theorem dX12_laysTree_190 : decode cX12_laysTree 190 = .ok (.aload_n 0, 1) := by decide +kernel
theorem dX12_laysTree_191 : decode cX12_laysTree 191 = .ok (.getfield 29, 3) := by decide +kernel
theorem dX12_laysTree_194 : decode cX12_laysTree 194 = .ok (.iload_n 1, 1) := by decide +kernel
theorem dX12_laysTree_195 : decode cX12_laysTree 195 = .ok (.iload_n 2, 1) := by decide +kernel
theorem dX12_laysTree_196 : decode cX12_laysTree 196 = .ok (.aload_n 0, 1) := by decide +kernel
theorem dX12_laysTree_197 : decode cX12_laysTree 197 = .ok (.getfield 7, 3) := by decide +kernel
theorem dX12_laysTree_200 : decode cX12_laysTree 200 = .ok (.iload_n 1, 1) := by decide +kernel
theorem dX12_laysTree_201 : decode cX12_laysTree 201 = .ok (.iaload, 1) := by decide +kernel
theorem dX12_laysTree_202 : decode cX12_laysTree 202 = .ok (.isub, 1) := by decide +kernel
theorem dX12_laysTree_203 : decode cX12_laysTree 203 = .ok (.iastore, 1) := by decide +kernel
theorem dX12_laysTree_204 : decode cX12_laysTree 204 = .ok (.aload_n 0, 1) := by decide +kernel
theorem dX12_laysTree_205 : decode cX12_laysTree 205 = .ok (.getfield 98, 3) := by decide +kernel
theorem dX12_laysTree_208 : decode cX12_laysTree 208 = .ok (.iload_n 2, 1) := by decide +kernel
theorem dX12_laysTree_209 : decode cX12_laysTree 209 = .ok (.iaload, 1) := by decide +kernel
theorem dX12_laysTree_210 : decode cX12_laysTree 210 = .ok (.iconst 1, 1) := by decide +kernel
theorem dX12_laysTree_211 : decode cX12_laysTree 211 = .ok (.if_icmp .ne 17, 3) := by decide +kernel
theorem dX12_laysTree_214 : decode cX12_laysTree 214 = .ok (.aload_n 0, 1) := by decide +kernel
theorem dX12_laysTree_215 : decode cX12_laysTree 215 = .ok (.getfield 155, 3) := by decide +kernel
theorem dX12_laysTree_218 : decode cX12_laysTree 218 = .ok (.iload_n 1, 1) := by decide +kernel
theorem dX12_laysTree_219 : decode cX12_laysTree 219 = .ok (.iload_n 2, 1) := by decide +kernel
theorem dX12_laysTree_220 : decode cX12_laysTree 220 = .ok (.aload_n 0, 1) := by decide +kernel
theorem dX12_laysTree_221 : decode cX12_laysTree 221 = .ok (.getfield 7, 3) := by decide +kernel
theorem dX12_laysTree_224 : decode cX12_laysTree 224 = .ok (.iload_n 1, 1) := by decide +kernel
theorem dX12_laysTree_225 : decode cX12_laysTree 225 = .ok (.iaload, 1) := by decide +kernel
theorem dX12_laysTree_226 : decode cX12_laysTree 226 = .ok (.isub, 1) := by decide +kernel
theorem dX12_laysTree_227 : decode cX12_laysTree 227 = .ok (.iastore, 1) := by decide +kernel
theorem dX12_laysTree_228 : decode cX12_laysTree 228 = .ok (.aload_n 0, 1) := by decide +kernel
theorem dX12_laysTree_229 : decode cX12_laysTree 229 = .ok (.getfield 158, 3) := by decide +kernel
theorem dX12_laysTree_232 : decode cX12_laysTree 232 = .ok (.iload_n 1, 1) := by decide +kernel
theorem dX12_laysTree_233 : decode cX12_laysTree 233 = .ok (.dup2, 1) := by decide +kernel
theorem dX12_laysTree_234 : decode cX12_laysTree 234 = .ok (.iaload, 1) := by decide +kernel
theorem dX12_laysTree_235 : decode cX12_laysTree 235 = .ok (.aload_n 0, 1) := by decide +kernel
theorem dX12_laysTree_236 : decode cX12_laysTree 236 = .ok (.getfield 98, 3) := by decide +kernel
theorem dX12_laysTree_239 : decode cX12_laysTree 239 = .ok (.iload_n 2, 1) := by decide +kernel
theorem dX12_laysTree_240 : decode cX12_laysTree 240 = .ok (.iaload, 1) := by decide +kernel
theorem dX12_laysTree_241 : decode cX12_laysTree 241 = .ok (.iconst 4, 1) := by decide +kernel
theorem dX12_laysTree_242 : decode cX12_laysTree 242 = .ok (.if_icmp .ne 7, 3) := by decide +kernel
theorem dX12_laysTree_245 : decode cX12_laysTree 245 = .ok (.iconst 1, 1) := by decide +kernel
theorem dX12_laysTree_246 : decode cX12_laysTree 246 = .ok (.goto 4, 3) := by decide +kernel
theorem dX12_laysTree_249 : decode cX12_laysTree 249 = .ok (.iconst 0, 1) := by decide +kernel
theorem dX12_laysTree_250 : decode cX12_laysTree 250 = .ok (.iadd, 1) := by decide +kernel
theorem dX12_laysTree_251 : decode cX12_laysTree 251 = .ok (.iastore, 1) := by decide +kernel
theorem dX12_laysTree_252 : decode cX12_laysTree 252 = .ok (.iinc 2 (-1), 3) := by decide +kernel
theorem dX12_laysTree_255 : decode cX12_laysTree 255 = .ok (.goto (-223), 3) := by decide +kernel
theorem dX12_laysTree_258 : decode cX12_laysTree 258 = .ok (.return_, 1) := by decide +kernel
theorem dX12_fault_0 : decode cX12_fault 0 = .ok (.iload_n 1, 1) := by decide +kernel
theorem dX12_fault_1 : decode cX12_fault 1 = .ok (.ifCond .ne 10, 3) := by decide +kernel
theorem dX12_fault_4 : decode cX12_fault 4 = .ok (.aload_n 0, 1) := by decide +kernel
theorem dX12_fault_5 : decode cX12_fault 5 = .ok (.getfield 72, 3) := by decide +kernel
theorem dX12_fault_8 : decode cX12_fault 8 = .ok (.goto 16, 3) := by decide +kernel
theorem dX12_fault_11 : decode cX12_fault 11 = .ok (.iload_n 1, 1) := by decide +kernel
theorem dX12_fault_12 : decode cX12_fault 12 = .ok (.iconst 1, 1) := by decide +kernel
theorem dX12_fault_13 : decode cX12_fault 13 = .ok (.if_icmp .ne 10, 3) := by decide +kernel
theorem dX12_fault_16 : decode cX12_fault 16 = .ok (.aload_n 0, 1) := by decide +kernel
theorem dX12_fault_17 : decode cX12_fault 17 = .ok (.getfield 79, 3) := by decide +kernel
theorem dX12_fault_20 : decode cX12_fault 20 = .ok (.goto 4, 3) := by decide +kernel
theorem dX12_fault_23 : decode cX12_fault 23 = .ok (.iconst (-1), 1) := by decide +kernel
theorem dX12_fault_24 : decode cX12_fault 24 = .ok (.ireturn, 1) := by decide +kernel
theorem dX12_say_0 : decode cX12_say 0 = .ok (.aload_n 0, 1) := by decide +kernel
theorem dX12_say_1 : decode cX12_say 1 = .ok (.getfield 32, 3) := by decide +kernel
theorem dX12_say_4 : decode cX12_say 4 = .ok (.istore_n 1, 1) := by decide +kernel
theorem dX12_say_5 : decode cX12_say 5 = .ok (.aload_n 0, 1) := by decide +kernel
theorem dX12_say_6 : decode cX12_say 6 = .ok (.iconst 0, 1) := by decide +kernel
theorem dX12_say_7 : decode cX12_say 7 = .ok (.putfield 32, 3) := by decide +kernel
theorem dX12_say_10 : decode cX12_say 10 = .ok (.iload_n 1, 1) := by decide +kernel
theorem dX12_say_11 : decode cX12_say 11 = .ok (.bipush 8, 2) := by decide +kernel
theorem dX12_say_13 : decode cX12_say 13 = .ok (.if_icmp .le 6, 3) := by decide +kernel
theorem dX12_say_16 : decode cX12_say 16 = .ok (.bipush (-4), 2) := by decide +kernel
theorem dX12_say_18 : decode cX12_say 18 = .ok (.ireturn, 1) := by decide +kernel
theorem dX12_say_19 : decode cX12_say 19 = .ok (.iconst 0, 1) := by decide +kernel
theorem dX12_say_20 : decode cX12_say 20 = .ok (.istore_n 2, 1) := by decide +kernel
theorem dX12_say_21 : decode cX12_say 21 = .ok (.iload_n 2, 1) := by decide +kernel
theorem dX12_say_22 : decode cX12_say 22 = .ok (.iload_n 1, 1) := by decide +kernel
theorem dX12_say_23 : decode cX12_say 23 = .ok (.if_icmp .ge 31, 3) := by decide +kernel
theorem dX12_say_26 : decode cX12_say 26 = .ok (.aload_n 0, 1) := by decide +kernel
theorem dX12_say_27 : decode cX12_say 27 = .ok (.getfield 38, 3) := by decide +kernel
theorem dX12_say_30 : decode cX12_say 30 = .ok (.iload_n 2, 1) := by decide +kernel
theorem dX12_say_31 : decode cX12_say 31 = .ok (.baload, 1) := by decide +kernel
theorem dX12_say_32 : decode cX12_say 32 = .ok (.i2l, 1) := by decide +kernel
theorem dX12_say_33 : decode cX12_say 33 = .ok (.ldc2_w 68, 3) := by decide +kernel
theorem dX12_say_36 : decode cX12_say 36 = .ok (.ldc2_w 70, 3) := by decide +kernel
theorem dX12_say_39 : decode cX12_say 39 = .ok (.invokestatic 14, 3) := by decide +kernel
theorem dX12_say_42 : decode cX12_say 42 = .ok (.ifCond .ne 6, 3) := by decide +kernel
theorem dX12_say_45 : decode cX12_say 45 = .ok (.bipush (-4), 2) := by decide +kernel
theorem dX12_say_47 : decode cX12_say 47 = .ok (.ireturn, 1) := by decide +kernel
theorem dX12_say_48 : decode cX12_say 48 = .ok (.iinc 2 1, 3) := by decide +kernel
theorem dX12_say_51 : decode cX12_say 51 = .ok (.goto (-30), 3) := by decide +kernel
theorem dX12_say_54 : decode cX12_say 54 = .ok (.aload_n 0, 1) := by decide +kernel
theorem dX12_say_55 : decode cX12_say 55 = .ok (.iload_n 1, 1) := by decide +kernel
theorem dX12_say_56 : decode cX12_say 56 = .ok (.putfield 171, 3) := by decide +kernel
theorem dX12_say_59 : decode cX12_say 59 = .ok (.iconst 0, 1) := by decide +kernel
theorem dX12_say_60 : decode cX12_say 60 = .ok (.istore_n 2, 1) := by decide +kernel
theorem dX12_say_61 : decode cX12_say 61 = .ok (.iload_n 2, 1) := by decide +kernel
theorem dX12_say_62 : decode cX12_say 62 = .ok (.iload_n 1, 1) := by decide +kernel
theorem dX12_say_63 : decode cX12_say 63 = .ok (.if_icmp .ge 24, 3) := by decide +kernel
theorem dX12_say_66 : decode cX12_say 66 = .ok (.aload_n 0, 1) := by decide +kernel
theorem dX12_say_67 : decode cX12_say 67 = .ok (.getfield 174, 3) := by decide +kernel
theorem dX12_say_70 : decode cX12_say 70 = .ok (.iload_n 2, 1) := by decide +kernel
theorem dX12_say_71 : decode cX12_say 71 = .ok (.aload_n 0, 1) := by decide +kernel
theorem dX12_say_72 : decode cX12_say 72 = .ok (.getfield 38, 3) := by decide +kernel
theorem dX12_say_75 : decode cX12_say 75 = .ok (.iload_n 2, 1) := by decide +kernel
theorem dX12_say_76 : decode cX12_say 76 = .ok (.baload, 1) := by decide +kernel
theorem dX12_say_77 : decode cX12_say 77 = .ok (.bipush 97, 2) := by decide +kernel
theorem dX12_say_79 : decode cX12_say 79 = .ok (.isub, 1) := by decide +kernel
theorem dX12_say_80 : decode cX12_say 80 = .ok (.iastore, 1) := by decide +kernel
theorem dX12_say_81 : decode cX12_say 81 = .ok (.iinc 2 1, 3) := by decide +kernel
theorem dX12_say_84 : decode cX12_say 84 = .ok (.goto (-23), 3) := by decide +kernel
theorem dX12_say_87 : decode cX12_say 87 = .ok (.iload_n 1, 1) := by decide +kernel
theorem dX12_say_88 : decode cX12_say 88 = .ok (.ireturn, 1) := by decide +kernel
theorem dX12_init_0 : decode cX12_init 0 = .ok (.aload_n 0, 1) := by decide +kernel
theorem dX12_init_1 : decode cX12_init 1 = .ok (.invokespecial 177, 3) := by decide +kernel
theorem dX12_init_4 : decode cX12_init 4 = .ok (.aload_n 0, 1) := by decide +kernel
theorem dX12_init_5 : decode cX12_init 5 = .ok (.bipush 18, 2) := by decide +kernel
theorem dX12_init_7 : decode cX12_init 7 = .ok (.newarray .int, 2) := by decide +kernel
theorem dX12_init_9 : decode cX12_init 9 = .ok (.putfield 7, 3) := by decide +kernel
theorem dX12_init_12 : decode cX12_init 12 = .ok (.aload_n 0, 1) := by decide +kernel
theorem dX12_init_13 : decode cX12_init 13 = .ok (.bipush 80, 2) := by decide +kernel
theorem dX12_init_15 : decode cX12_init 15 = .ok (.newarray .int, 2) := by decide +kernel
theorem dX12_init_17 : decode cX12_init 17 = .ok (.putfield 98, 3) := by decide +kernel
theorem dX12_init_20 : decode cX12_init 20 = .ok (.aload_n 0, 1) := by decide +kernel
theorem dX12_init_21 : decode cX12_init 21 = .ok (.bipush 80, 2) := by decide +kernel
theorem dX12_init_23 : decode cX12_init 23 = .ok (.newarray .int, 2) := by decide +kernel
theorem dX12_init_25 : decode cX12_init 25 = .ok (.putfield 101, 3) := by decide +kernel
theorem dX12_init_28 : decode cX12_init 28 = .ok (.aload_n 0, 1) := by decide +kernel
theorem dX12_init_29 : decode cX12_init 29 = .ok (.bipush 80, 2) := by decide +kernel
theorem dX12_init_31 : decode cX12_init 31 = .ok (.newarray .int, 2) := by decide +kernel
theorem dX12_init_33 : decode cX12_init 33 = .ok (.putfield 104, 3) := by decide +kernel
theorem dX12_init_36 : decode cX12_init 36 = .ok (.aload_n 0, 1) := by decide +kernel
theorem dX12_init_37 : decode cX12_init 37 = .ok (.bipush 80, 2) := by decide +kernel
theorem dX12_init_39 : decode cX12_init 39 = .ok (.newarray .int, 2) := by decide +kernel
theorem dX12_init_41 : decode cX12_init 41 = .ok (.putfield 107, 3) := by decide +kernel
theorem dX12_init_44 : decode cX12_init 44 = .ok (.aload_n 0, 1) := by decide +kernel
theorem dX12_init_45 : decode cX12_init 45 = .ok (.bipush 80, 2) := by decide +kernel
theorem dX12_init_47 : decode cX12_init 47 = .ok (.newarray .int, 2) := by decide +kernel
theorem dX12_init_49 : decode cX12_init 49 = .ok (.putfield 110, 3) := by decide +kernel
theorem dX12_init_52 : decode cX12_init 52 = .ok (.aload_n 0, 1) := by decide +kernel
theorem dX12_init_53 : decode cX12_init 53 = .ok (.bipush 80, 2) := by decide +kernel
theorem dX12_init_55 : decode cX12_init 55 = .ok (.newarray .int, 2) := by decide +kernel
theorem dX12_init_57 : decode cX12_init 57 = .ok (.putfield 113, 3) := by decide +kernel
theorem dX12_init_60 : decode cX12_init 60 = .ok (.aload_n 0, 1) := by decide +kernel
theorem dX12_init_61 : decode cX12_init 61 = .ok (.bipush 40, 2) := by decide +kernel
theorem dX12_init_63 : decode cX12_init 63 = .ok (.newarray .int, 2) := by decide +kernel
theorem dX12_init_65 : decode cX12_init 65 = .ok (.putfield 164, 3) := by decide +kernel
theorem dX12_init_68 : decode cX12_init 68 = .ok (.aload_n 0, 1) := by decide +kernel
theorem dX12_init_69 : decode cX12_init 69 = .ok (.bipush 40, 2) := by decide +kernel
theorem dX12_init_71 : decode cX12_init 71 = .ok (.newarray .boolean, 2) := by decide +kernel
theorem dX12_init_73 : decode cX12_init 73 = .ok (.putfield 167, 3) := by decide +kernel
theorem dX12_init_76 : decode cX12_init 76 = .ok (.aload_n 0, 1) := by decide +kernel
theorem dX12_init_77 : decode cX12_init 77 = .ok (.bipush 40, 2) := by decide +kernel
theorem dX12_init_79 : decode cX12_init 79 = .ok (.newarray .int, 2) := by decide +kernel
theorem dX12_init_81 : decode cX12_init 81 = .ok (.putfield 161, 3) := by decide +kernel
theorem dX12_init_84 : decode cX12_init 84 = .ok (.aload_n 0, 1) := by decide +kernel
theorem dX12_init_85 : decode cX12_init 85 = .ok (.bipush 8, 2) := by decide +kernel
theorem dX12_init_87 : decode cX12_init 87 = .ok (.newarray .int, 2) := by decide +kernel
theorem dX12_init_89 : decode cX12_init 89 = .ok (.putfield 29, 3) := by decide +kernel
theorem dX12_init_92 : decode cX12_init 92 = .ok (.aload_n 0, 1) := by decide +kernel
theorem dX12_init_93 : decode cX12_init 93 = .ok (.bipush 8, 2) := by decide +kernel
theorem dX12_init_95 : decode cX12_init 95 = .ok (.newarray .int, 2) := by decide +kernel
theorem dX12_init_97 : decode cX12_init 97 = .ok (.putfield 155, 3) := by decide +kernel
theorem dX12_init_100 : decode cX12_init 100 = .ok (.aload_n 0, 1) := by decide +kernel
theorem dX12_init_101 : decode cX12_init 101 = .ok (.bipush 8, 2) := by decide +kernel
theorem dX12_init_103 : decode cX12_init 103 = .ok (.newarray .int, 2) := by decide +kernel
theorem dX12_init_105 : decode cX12_init 105 = .ok (.putfield 158, 3) := by decide +kernel
theorem dX12_init_108 : decode cX12_init 108 = .ok (.aload_n 0, 1) := by decide +kernel
theorem dX12_init_109 : decode cX12_init 109 = .ok (.sipush 400, 3) := by decide +kernel
theorem dX12_init_112 : decode cX12_init 112 = .ok (.newarray .byte, 2) := by decide +kernel
theorem dX12_init_114 : decode cX12_init 114 = .ok (.putfield 38, 3) := by decide +kernel
theorem dX12_init_117 : decode cX12_init 117 = .ok (.aload_n 0, 1) := by decide +kernel
theorem dX12_init_118 : decode cX12_init 118 = .ok (.iconst 5, 1) := by decide +kernel
theorem dX12_init_119 : decode cX12_init 119 = .ok (.newarray .int, 2) := by decide +kernel
theorem dX12_init_121 : decode cX12_init 121 = .ok (.putfield 35, 3) := by decide +kernel
theorem dX12_init_124 : decode cX12_init 124 = .ok (.aload_n 0, 1) := by decide +kernel
theorem dX12_init_125 : decode cX12_init 125 = .ok (.iconst (-1), 1) := by decide +kernel
theorem dX12_init_126 : decode cX12_init 126 = .ok (.putfield 79, 3) := by decide +kernel
theorem dX12_init_129 : decode cX12_init 129 = .ok (.aload_n 0, 1) := by decide +kernel
theorem dX12_init_130 : decode cX12_init 130 = .ok (.bipush 8, 2) := by decide +kernel
theorem dX12_init_132 : decode cX12_init 132 = .ok (.newarray .int, 2) := by decide +kernel
theorem dX12_init_134 : decode cX12_init 134 = .ok (.putfield 174, 3) := by decide +kernel
theorem dX12_init_137 : decode cX12_init 137 = .ok (.aload_n 0, 1) := by decide +kernel
theorem dX12_init_138 : decode cX12_init 138 = .ok (.bipush 8, 2) := by decide +kernel
theorem dX12_init_140 : decode cX12_init 140 = .ok (.newarray .int, 2) := by decide +kernel
theorem dX12_init_142 : decode cX12_init 142 = .ok (.putfield 182, 3) := by decide +kernel
theorem dX12_init_145 : decode cX12_init 145 = .ok (.aload_n 0, 1) := by decide +kernel
theorem dX12_init_146 : decode cX12_init 146 = .ok (.sipush 10000, 3) := by decide +kernel
theorem dX12_init_149 : decode cX12_init 149 = .ok (.newarray .int, 2) := by decide +kernel
theorem dX12_init_151 : decode cX12_init 151 = .ok (.putfield 185, 3) := by decide +kernel
theorem dX12_init_154 : decode cX12_init 154 = .ok (.aload_n 0, 1) := by decide +kernel
theorem dX12_init_155 : decode cX12_init 155 = .ok (.sipush 540, 3) := by decide +kernel
theorem dX12_init_158 : decode cX12_init 158 = .ok (.newarray .int, 2) := by decide +kernel
theorem dX12_init_160 : decode cX12_init 160 = .ok (.putfield 188, 3) := by decide +kernel
theorem dX12_init_163 : decode cX12_init 163 = .ok (.aload_n 0, 1) := by decide +kernel
theorem dX12_init_164 : decode cX12_init 164 = .ok (.sipush 540, 3) := by decide +kernel
theorem dX12_init_167 : decode cX12_init 167 = .ok (.newarray .int, 2) := by decide +kernel
theorem dX12_init_169 : decode cX12_init 169 = .ok (.putfield 191, 3) := by decide +kernel
theorem dX12_init_172 : decode cX12_init 172 = .ok (.aload_n 0, 1) := by decide +kernel
theorem dX12_init_173 : decode cX12_init 173 = .ok (.sipush 540, 3) := by decide +kernel
theorem dX12_init_176 : decode cX12_init 176 = .ok (.newarray .int, 2) := by decide +kernel
theorem dX12_init_178 : decode cX12_init 178 = .ok (.putfield 194, 3) := by decide +kernel
theorem dX12_init_181 : decode cX12_init 181 = .ok (.aload_n 0, 1) := by decide +kernel
theorem dX12_init_182 : decode cX12_init 182 = .ok (.sipush 540, 3) := by decide +kernel
theorem dX12_init_185 : decode cX12_init 185 = .ok (.newarray .int, 2) := by decide +kernel
theorem dX12_init_187 : decode cX12_init 187 = .ok (.putfield 197, 3) := by decide +kernel
theorem dX12_init_190 : decode cX12_init 190 = .ok (.aload_n 0, 1) := by decide +kernel
theorem dX12_init_191 : decode cX12_init 191 = .ok (.ldc 200, 2) := by decide +kernel
theorem dX12_init_193 : decode cX12_init 193 = .ok (.newarray .long, 2) := by decide +kernel
theorem dX12_init_195 : decode cX12_init 195 = .ok (.putfield 201, 3) := by decide +kernel
theorem dX12_init_198 : decode cX12_init 198 = .ok (.aload_n 0, 1) := by decide +kernel
theorem dX12_init_199 : decode cX12_init 199 = .ok (.ldc 200, 2) := by decide +kernel
theorem dX12_init_201 : decode cX12_init 201 = .ok (.newarray .int, 2) := by decide +kernel
theorem dX12_init_203 : decode cX12_init 203 = .ok (.putfield 205, 3) := by decide +kernel
theorem dX12_init_206 : decode cX12_init 206 = .ok (.aload_n 0, 1) := by decide +kernel
theorem dX12_init_207 : decode cX12_init 207 = .ok (.ldc 200, 2) := by decide +kernel
theorem dX12_init_209 : decode cX12_init 209 = .ok (.newarray .int, 2) := by decide +kernel
theorem dX12_init_211 : decode cX12_init 211 = .ok (.putfield 208, 3) := by decide +kernel
theorem dX12_init_214 : decode cX12_init 214 = .ok (.aload_n 0, 1) := by decide +kernel
theorem dX12_init_215 : decode cX12_init 215 = .ok (.ldc 200, 2) := by decide +kernel
theorem dX12_init_217 : decode cX12_init 217 = .ok (.newarray .boolean, 2) := by decide +kernel
theorem dX12_init_219 : decode cX12_init 219 = .ok (.putfield 211, 3) := by decide +kernel
theorem dX12_init_222 : decode cX12_init 222 = .ok (.aload_n 0, 1) := by decide +kernel
theorem dX12_init_223 : decode cX12_init 223 = .ok (.sipush 128, 3) := by decide +kernel
theorem dX12_init_226 : decode cX12_init 226 = .ok (.newarray .int, 2) := by decide +kernel
theorem dX12_init_228 : decode cX12_init 228 = .ok (.putfield 214, 3) := by decide +kernel
theorem dX12_init_231 : decode cX12_init 231 = .ok (.aload_n 0, 1) := by decide +kernel
theorem dX12_init_232 : decode cX12_init 232 = .ok (.sipush 128, 3) := by decide +kernel
theorem dX12_init_235 : decode cX12_init 235 = .ok (.newarray .int, 2) := by decide +kernel
theorem dX12_init_237 : decode cX12_init 237 = .ok (.putfield 217, 3) := by decide +kernel
theorem dX12_init_240 : decode cX12_init 240 = .ok (.aload_n 0, 1) := by decide +kernel
theorem dX12_init_241 : decode cX12_init 241 = .ok (.sipush 128, 3) := by decide +kernel
theorem dX12_init_244 : decode cX12_init 244 = .ok (.newarray .int, 2) := by decide +kernel
theorem dX12_init_246 : decode cX12_init 246 = .ok (.putfield 220, 3) := by decide +kernel
theorem dX12_init_249 : decode cX12_init 249 = .ok (.aload_n 0, 1) := by decide +kernel
theorem dX12_init_250 : decode cX12_init 250 = .ok (.sipush 128, 3) := by decide +kernel
theorem dX12_init_253 : decode cX12_init 253 = .ok (.newarray .int, 2) := by decide +kernel
theorem dX12_init_255 : decode cX12_init 255 = .ok (.putfield 223, 3) := by decide +kernel
theorem dX12_init_258 : decode cX12_init 258 = .ok (.aload_n 0, 1) := by decide +kernel
theorem dX12_init_259 : decode cX12_init 259 = .ok (.sipush 1536, 3) := by decide +kernel
theorem dX12_init_262 : decode cX12_init 262 = .ok (.newarray .int, 2) := by decide +kernel
theorem dX12_init_264 : decode cX12_init 264 = .ok (.putfield 226, 3) := by decide +kernel
theorem dX12_init_267 : decode cX12_init 267 = .ok (.aload_n 0, 1) := by decide +kernel
theorem dX12_init_268 : decode cX12_init 268 = .ok (.bipush 8, 2) := by decide +kernel
theorem dX12_init_270 : decode cX12_init 270 = .ok (.newarray .int, 2) := by decide +kernel
theorem dX12_init_272 : decode cX12_init 272 = .ok (.putfield 229, 3) := by decide +kernel
theorem dX12_init_275 : decode cX12_init 275 = .ok (.aload_n 0, 1) := by decide +kernel
theorem dX12_init_276 : decode cX12_init 276 = .ok (.bipush 8, 2) := by decide +kernel
theorem dX12_init_278 : decode cX12_init 278 = .ok (.newarray .int, 2) := by decide +kernel
theorem dX12_init_280 : decode cX12_init 280 = .ok (.putfield 232, 3) := by decide +kernel
theorem dX12_init_283 : decode cX12_init 283 = .ok (.aload_n 0, 1) := by decide +kernel
theorem dX12_init_284 : decode cX12_init 284 = .ok (.sipush 8000, 3) := by decide +kernel
theorem dX12_init_287 : decode cX12_init 287 = .ok (.newarray .byte, 2) := by decide +kernel
theorem dX12_init_289 : decode cX12_init 289 = .ok (.putfield 235, 3) := by decide +kernel
theorem dX12_init_292 : decode cX12_init 292 = .ok (.aload_n 0, 1) := by decide +kernel
theorem dX12_init_293 : decode cX12_init 293 = .ok (.bipush 120, 2) := by decide +kernel
theorem dX12_init_295 : decode cX12_init 295 = .ok (.newarray .int, 2) := by decide +kernel
theorem dX12_init_297 : decode cX12_init 297 = .ok (.putfield 238, 3) := by decide +kernel
theorem dX12_init_300 : decode cX12_init 300 = .ok (.iconst 0, 1) := by decide +kernel
theorem dX12_init_301 : decode cX12_init 301 = .ok (.istore_n 1, 1) := by decide +kernel
theorem dX12_init_302 : decode cX12_init 302 = .ok (.iconst 0, 1) := by decide +kernel
theorem dX12_init_303 : decode cX12_init 303 = .ok (.istore_n 2, 1) := by decide +kernel
theorem dX12_init_304 : decode cX12_init 304 = .ok (.iload_n 2, 1) := by decide +kernel
theorem dX12_init_305 : decode cX12_init 305 = .ok (.bipush 8, 2) := by decide +kernel
theorem dX12_init_307 : decode cX12_init 307 = .ok (.if_icmp .gt 137, 3) := by decide +kernel
theorem dX12_init_310 : decode cX12_init 310 = .ok (.iload_n 2, 1) := by decide +kernel
theorem dX12_init_311 : decode cX12_init 311 = .ok (.istore_n 3, 1) := by decide +kernel
theorem dX12_init_312 : decode cX12_init 312 = .ok (.iload_n 3, 1) := by decide +kernel
theorem dX12_init_313 : decode cX12_init 313 = .ok (.bipush 8, 2) := by decide +kernel
theorem dX12_init_315 : decode cX12_init 315 = .ok (.if_icmp .gt 123, 3) := by decide +kernel
theorem dX12_init_318 : decode cX12_init 318 = .ok (.iconst (-1), 1) := by decide +kernel
theorem dX12_init_319 : decode cX12_init 319 = .ok (.istore 4, 2) := by decide +kernel
theorem dX12_init_321 : decode cX12_init 321 = .ok (.iload 4, 2) := by decide +kernel
theorem dX12_init_323 : decode cX12_init 323 = .ok (.iload_n 3, 1) := by decide +kernel
theorem dX12_init_324 : decode cX12_init 324 = .ok (.if_icmp .gt 108, 3) := by decide +kernel
theorem dX12_init_327 : decode cX12_init 327 = .ok (.iload 4, 2) := by decide +kernel
theorem dX12_init_329 : decode cX12_init 329 = .ok (.iconst (-1), 1) := by decide +kernel
theorem dX12_init_330 : decode cX12_init 330 = .ok (.if_icmp .ne 7, 3) := by decide +kernel
theorem dX12_init_333 : decode cX12_init 333 = .ok (.iconst (-1), 1) := by decide +kernel
theorem dX12_init_334 : decode cX12_init 334 = .ok (.goto 5, 3) := by decide +kernel
theorem dX12_init_337 : decode cX12_init 337 = .ok (.iload 4, 2) := by decide +kernel
theorem dX12_init_339 : decode cX12_init 339 = .ok (.istore 5, 2) := by decide +kernel
theorem dX12_init_341 : decode cX12_init 341 = .ok (.iload 5, 2) := by decide +kernel
theorem dX12_init_343 : decode cX12_init 343 = .ok (.iload 4, 2) := by decide +kernel
theorem dX12_init_345 : decode cX12_init 345 = .ok (.iconst (-1), 1) := by decide +kernel
theorem dX12_init_346 : decode cX12_init 346 = .ok (.if_icmp .ne 7, 3) := by decide +kernel
theorem dX12_init_349 : decode cX12_init 349 = .ok (.iconst (-1), 1) := by decide +kernel
theorem dX12_init_350 : decode cX12_init 350 = .ok (.goto 4, 3) := by decide +kernel
theorem dX12_init_353 : decode cX12_init 353 = .ok (.iload_n 3, 1) := by decide +kernel
theorem dX12_init_354 : decode cX12_init 354 = .ok (.if_icmp .gt 72, 3) := by decide +kernel
theorem dX12_init_357 : decode cX12_init 357 = .ok (.iload 4, 2) := by decide +kernel
theorem dX12_init_359 : decode cX12_init 359 = .ok (.iconst (-1), 1) := by decide +kernel
theorem dX12_init_360 : decode cX12_init 360 = .ok (.if_icmp .eq 12, 3) := by decide +kernel
theorem dX12_init_363 : decode cX12_init 363 = .ok (.iload 4, 2) := by decide +kernel
theorem dX12_init_365 : decode cX12_init 365 = .ok (.iload_n 2, 1) := by decide +kernel
theorem dX12_init_366 : decode cX12_init 366 = .ok (.if_icmp .ge 6, 3) := by decide +kernel
theorem dX12_init_369 : decode cX12_init 369 = .ok (.goto 51, 3) := by decide +kernel
theorem dX12_init_372 : decode cX12_init 372 = .ok (.aload_n 0, 1) := by decide +kernel
theorem dX12_init_373 : decode cX12_init 373 = .ok (.getfield 185, 3) := by decide +kernel
theorem dX12_init_376 : decode cX12_init 376 = .ok (.iload_n 2, 1) := by decide +kernel
theorem dX12_init_377 : decode cX12_init 377 = .ok (.iload_n 3, 1) := by decide +kernel
theorem dX12_init_378 : decode cX12_init 378 = .ok (.iload 4, 2) := by decide +kernel
theorem dX12_init_380 : decode cX12_init 380 = .ok (.iload 5, 2) := by decide +kernel
theorem dX12_init_382 : decode cX12_init 382 = .ok (.invokestatic 241, 3) := by decide +kernel
theorem dX12_init_385 : decode cX12_init 385 = .ok (.iload_n 1, 1) := by decide +kernel
theorem dX12_init_386 : decode cX12_init 386 = .ok (.iastore, 1) := by decide +kernel
theorem dX12_init_387 : decode cX12_init 387 = .ok (.aload_n 0, 1) := by decide +kernel
theorem dX12_init_388 : decode cX12_init 388 = .ok (.getfield 188, 3) := by decide +kernel
theorem dX12_init_391 : decode cX12_init 391 = .ok (.iload_n 1, 1) := by decide +kernel
theorem dX12_init_392 : decode cX12_init 392 = .ok (.iload_n 2, 1) := by decide +kernel
theorem dX12_init_393 : decode cX12_init 393 = .ok (.iastore, 1) := by decide +kernel
theorem dX12_init_394 : decode cX12_init 394 = .ok (.aload_n 0, 1) := by decide +kernel
theorem dX12_init_395 : decode cX12_init 395 = .ok (.getfield 191, 3) := by decide +kernel
theorem dX12_init_398 : decode cX12_init 398 = .ok (.iload_n 1, 1) := by decide +kernel
theorem dX12_init_399 : decode cX12_init 399 = .ok (.iload_n 3, 1) := by decide +kernel
theorem dX12_init_400 : decode cX12_init 400 = .ok (.iastore, 1) := by decide +kernel
theorem dX12_init_401 : decode cX12_init 401 = .ok (.aload_n 0, 1) := by decide +kernel
theorem dX12_init_402 : decode cX12_init 402 = .ok (.getfield 194, 3) := by decide +kernel
theorem dX12_init_405 : decode cX12_init 405 = .ok (.iload_n 1, 1) := by decide +kernel
theorem dX12_init_406 : decode cX12_init 406 = .ok (.iload 4, 2) := by decide +kernel
theorem dX12_init_408 : decode cX12_init 408 = .ok (.iastore, 1) := by decide +kernel
theorem dX12_init_409 : decode cX12_init 409 = .ok (.aload_n 0, 1) := by decide +kernel
theorem dX12_init_410 : decode cX12_init 410 = .ok (.getfield 197, 3) := by decide +kernel
theorem dX12_init_413 : decode cX12_init 413 = .ok (.iload_n 1, 1) := by decide +kernel
theorem dX12_init_414 : decode cX12_init 414 = .ok (.iload 5, 2) := by decide +kernel
theorem dX12_init_416 : decode cX12_init 416 = .ok (.iastore, 1) := by decide +kernel
theorem dX12_init_417 : decode cX12_init 417 = .ok (.iinc 1 1, 3) := by decide +kernel
theorem dX12_init_420 : decode cX12_init 420 = .ok (.iinc 5 1, 3) := by decide +kernel
theorem dX12_init_423 : decode cX12_init 423 = .ok (.goto (-82), 3) := by decide +kernel
theorem dX12_init_426 : decode cX12_init 426 = .ok (.iinc 4 1, 3) := by decide +kernel
theorem dX12_init_429 : decode cX12_init 429 = .ok (.goto (-108), 3) := by decide +kernel
theorem dX12_init_432 : decode cX12_init 432 = .ok (.iinc 3 1, 3) := by decide +kernel
theorem dX12_init_435 : decode cX12_init 435 = .ok (.goto (-123), 3) := by decide +kernel
theorem dX12_init_438 : decode cX12_init 438 = .ok (.iinc 2 1, 3) := by decide +kernel
theorem dX12_init_441 : decode cX12_init 441 = .ok (.goto (-137), 3) := by decide +kernel
theorem dX12_init_444 : decode cX12_init 444 = .ok (.aload_n 0, 1) := by decide +kernel
theorem dX12_init_445 : decode cX12_init 445 = .ok (.invokevirtual 244, 3) := by decide +kernel
theorem dX12_init_448 : decode cX12_init 448 = .ok (.return_, 1) := by decide +kernel
theorem dX12_place_0 : decode cX12_place 0 = .ok (.iload_n 0, 1) := by decide +kernel
theorem dX12_place_1 : decode cX12_place 1 = .ok (.bipush 10, 2) := by decide +kernel
theorem dX12_place_3 : decode cX12_place 3 = .ok (.imul, 1) := by decide +kernel
theorem dX12_place_4 : decode cX12_place 4 = .ok (.iload_n 1, 1) := by decide +kernel
theorem dX12_place_5 : decode cX12_place 5 = .ok (.iadd, 1) := by decide +kernel
theorem dX12_place_6 : decode cX12_place 6 = .ok (.bipush 10, 2) := by decide +kernel
theorem dX12_place_8 : decode cX12_place 8 = .ok (.imul, 1) := by decide +kernel
theorem dX12_place_9 : decode cX12_place 9 = .ok (.iload_n 2, 1) := by decide +kernel
theorem dX12_place_10 : decode cX12_place 10 = .ok (.iadd, 1) := by decide +kernel
theorem dX12_place_11 : decode cX12_place 11 = .ok (.iconst 1, 1) := by decide +kernel
theorem dX12_place_12 : decode cX12_place 12 = .ok (.iadd, 1) := by decide +kernel
theorem dX12_place_13 : decode cX12_place 13 = .ok (.bipush 10, 2) := by decide +kernel
theorem dX12_place_15 : decode cX12_place 15 = .ok (.imul, 1) := by decide +kernel
theorem dX12_place_16 : decode cX12_place 16 = .ok (.iload_n 3, 1) := by decide +kernel
theorem dX12_place_17 : decode cX12_place 17 = .ok (.iadd, 1) := by decide +kernel
theorem dX12_place_18 : decode cX12_place 18 = .ok (.iconst 1, 1) := by decide +kernel
theorem dX12_place_19 : decode cX12_place 19 = .ok (.iadd, 1) := by decide +kernel
theorem dX12_place_20 : decode cX12_place 20 = .ok (.ireturn, 1) := by decide +kernel
theorem dX12_spanOf_0 : decode cX12_spanOf 0 = .ok (.aload_n 0, 1) := by decide +kernel
theorem dX12_spanOf_1 : decode cX12_spanOf 1 = .ok (.getfield 185, 3) := by decide +kernel
theorem dX12_spanOf_4 : decode cX12_spanOf 4 = .ok (.iload_n 1, 1) := by decide +kernel
theorem dX12_spanOf_5 : decode cX12_spanOf 5 = .ok (.iload_n 2, 1) := by decide +kernel
theorem dX12_spanOf_6 : decode cX12_spanOf 6 = .ok (.iload_n 3, 1) := by decide +kernel
theorem dX12_spanOf_7 : decode cX12_spanOf 7 = .ok (.iload 4, 2) := by decide +kernel
theorem dX12_spanOf_9 : decode cX12_spanOf 9 = .ok (.invokestatic 241, 3) := by decide +kernel
theorem dX12_spanOf_12 : decode cX12_spanOf 12 = .ok (.iaload, 1) := by decide +kernel
theorem dX12_spanOf_13 : decode cX12_spanOf 13 = .ok (.ireturn, 1) := by decide +kernel
theorem dX12_forgets_0 : decode cX12_forgets 0 = .ok (.iconst 0, 1) := by decide +kernel
theorem dX12_forgets_1 : decode cX12_forgets 1 = .ok (.istore_n 1, 1) := by decide +kernel
theorem dX12_forgets_2 : decode cX12_forgets 2 = .ok (.iload_n 1, 1) := by decide +kernel
theorem dX12_forgets_3 : decode cX12_forgets 3 = .ok (.ldc 200, 2) := by decide +kernel
theorem dX12_forgets_5 : decode cX12_forgets 5 = .ok (.if_icmp .ge 41, 3) := by decide +kernel
theorem dX12_forgets_8 : decode cX12_forgets 8 = .ok (.aload_n 0, 1) := by decide +kernel
theorem dX12_forgets_9 : decode cX12_forgets 9 = .ok (.getfield 201, 3) := by decide +kernel
theorem dX12_forgets_12 : decode cX12_forgets 12 = .ok (.iload_n 1, 1) := by decide +kernel
theorem dX12_forgets_13 : decode cX12_forgets 13 = .ok (.ldc2_w 247, 3) := by decide +kernel
theorem dX12_forgets_16 : decode cX12_forgets 16 = .ok (.lastore, 1) := by decide +kernel
theorem dX12_forgets_17 : decode cX12_forgets 17 = .ok (.aload_n 0, 1) := by decide +kernel
theorem dX12_forgets_18 : decode cX12_forgets 18 = .ok (.getfield 205, 3) := by decide +kernel
theorem dX12_forgets_21 : decode cX12_forgets 21 = .ok (.iload_n 1, 1) := by decide +kernel
theorem dX12_forgets_22 : decode cX12_forgets 22 = .ok (.bipush (-9), 2) := by decide +kernel
theorem dX12_forgets_24 : decode cX12_forgets 24 = .ok (.iastore, 1) := by decide +kernel
theorem dX12_forgets_25 : decode cX12_forgets 25 = .ok (.aload_n 0, 1) := by decide +kernel
theorem dX12_forgets_26 : decode cX12_forgets 26 = .ok (.getfield 208, 3) := by decide +kernel
theorem dX12_forgets_29 : decode cX12_forgets 29 = .ok (.iload_n 1, 1) := by decide +kernel
theorem dX12_forgets_30 : decode cX12_forgets 30 = .ok (.bipush (-9), 2) := by decide +kernel
theorem dX12_forgets_32 : decode cX12_forgets 32 = .ok (.iastore, 1) := by decide +kernel
theorem dX12_forgets_33 : decode cX12_forgets 33 = .ok (.aload_n 0, 1) := by decide +kernel
theorem dX12_forgets_34 : decode cX12_forgets 34 = .ok (.getfield 211, 3) := by decide +kernel
theorem dX12_forgets_37 : decode cX12_forgets 37 = .ok (.iload_n 1, 1) := by decide +kernel
theorem dX12_forgets_38 : decode cX12_forgets 38 = .ok (.iconst 0, 1) := by decide +kernel
theorem dX12_forgets_39 : decode cX12_forgets 39 = .ok (.bastore, 1) := by decide +kernel
theorem dX12_forgets_40 : decode cX12_forgets 40 = .ok (.iinc 1 1, 3) := by decide +kernel
theorem dX12_forgets_43 : decode cX12_forgets 43 = .ok (.goto (-41), 3) := by decide +kernel
theorem dX12_forgets_46 : decode cX12_forgets 46 = .ok (.return_, 1) := by decide +kernel
theorem dX12_looksAt_0 : decode cX12_looksAt 0 = .ok (.aload_n 0, 1) := by decide +kernel
theorem dX12_looksAt_1 : decode cX12_looksAt 1 = .ok (.invokevirtual 244, 3) := by decide +kernel
theorem dX12_looksAt_4 : decode cX12_looksAt 4 = .ok (.aload_n 0, 1) := by decide +kernel
theorem dX12_looksAt_5 : decode cX12_looksAt 5 = .ok (.aload_n 0, 1) := by decide +kernel
theorem dX12_looksAt_6 : decode cX12_looksAt 6 = .ok (.getfield 171, 3) := by decide +kernel
theorem dX12_looksAt_9 : decode cX12_looksAt 9 = .ok (.putfield 249, 3) := by decide +kernel
theorem dX12_looksAt_12 : decode cX12_looksAt 12 = .ok (.iconst 0, 1) := by decide +kernel
theorem dX12_looksAt_13 : decode cX12_looksAt 13 = .ok (.istore_n 2, 1) := by decide +kernel
theorem dX12_looksAt_14 : decode cX12_looksAt 14 = .ok (.iload_n 2, 1) := by decide +kernel
theorem dX12_looksAt_15 : decode cX12_looksAt 15 = .ok (.aload_n 0, 1) := by decide +kernel
theorem dX12_looksAt_16 : decode cX12_looksAt 16 = .ok (.getfield 249, 3) := by decide +kernel
theorem dX12_looksAt_19 : decode cX12_looksAt 19 = .ok (.if_icmp .ge 21, 3) := by decide +kernel
theorem dX12_looksAt_22 : decode cX12_looksAt 22 = .ok (.aload_n 0, 1) := by decide +kernel
theorem dX12_looksAt_23 : decode cX12_looksAt 23 = .ok (.getfield 182, 3) := by decide +kernel
theorem dX12_looksAt_26 : decode cX12_looksAt 26 = .ok (.iload_n 2, 1) := by decide +kernel
theorem dX12_looksAt_27 : decode cX12_looksAt 27 = .ok (.aload_n 0, 1) := by decide +kernel
theorem dX12_looksAt_28 : decode cX12_looksAt 28 = .ok (.getfield 174, 3) := by decide +kernel
theorem dX12_looksAt_31 : decode cX12_looksAt 31 = .ok (.iload_n 2, 1) := by decide +kernel
theorem dX12_looksAt_32 : decode cX12_looksAt 32 = .ok (.iaload, 1) := by decide +kernel
theorem dX12_looksAt_33 : decode cX12_looksAt 33 = .ok (.iastore, 1) := by decide +kernel
theorem dX12_looksAt_34 : decode cX12_looksAt 34 = .ok (.iinc 2 1, 3) := by decide +kernel
theorem dX12_looksAt_37 : decode cX12_looksAt 37 = .ok (.goto (-23), 3) := by decide +kernel
theorem dX12_looksAt_40 : decode cX12_looksAt 40 = .ok (.aload_n 0, 1) := by decide +kernel
theorem dX12_looksAt_41 : decode cX12_looksAt 41 = .ok (.aload_n 0, 1) := by decide +kernel
theorem dX12_looksAt_42 : decode cX12_looksAt 42 = .ok (.getfield 26, 3) := by decide +kernel
theorem dX12_looksAt_45 : decode cX12_looksAt 45 = .ok (.iload_n 1, 1) := by decide +kernel
theorem dX12_looksAt_46 : decode cX12_looksAt 46 = .ok (.ior, 1) := by decide +kernel
theorem dX12_looksAt_47 : decode cX12_looksAt 47 = .ok (.putfield 252, 3) := by decide +kernel
theorem dX12_looksAt_50 : decode cX12_looksAt 50 = .ok (.return_, 1) := by decide +kernel
theorem dX12_sum_0 : decode cX12_sum 0 = .ok (.ldc2_w 255, 3) := by decide +kernel
theorem dX12_sum_3 : decode cX12_sum 3 = .ok (.lload_n 0, 1) := by decide +kernel
theorem dX12_sum_4 : decode cX12_sum 4 = .ok (.lload_n 2, 1) := by decide +kernel
theorem dX12_sum_5 : decode cX12_sum 5 = .ok (.ladd, 1) := by decide +kernel
theorem dX12_sum_6 : decode cX12_sum 6 = .ok (.invokestatic 257, 3) := by decide +kernel
theorem dX12_sum_9 : decode cX12_sum 9 = .ok (.lreturn, 1) := by decide +kernel
theorem dX12_product_0 : decode cX12_product 0 = .ok (.lload_n 0, 1) := by decide +kernel
theorem dX12_product_1 : decode cX12_product 1 = .ok (.lconst 0, 1) := by decide +kernel
theorem dX12_product_2 : decode cX12_product 2 = .ok (.lcmp, 1) := by decide +kernel
theorem dX12_product_3 : decode cX12_product 3 = .ok (.ifCond .eq 9, 3) := by decide +kernel
theorem dX12_product_6 : decode cX12_product 6 = .ok (.lload_n 2, 1) := by decide +kernel
theorem dX12_product_7 : decode cX12_product 7 = .ok (.lconst 0, 1) := by decide +kernel
theorem dX12_product_8 : decode cX12_product 8 = .ok (.lcmp, 1) := by decide +kernel
theorem dX12_product_9 : decode cX12_product 9 = .ok (.ifCond .ne 5, 3) := by decide +kernel
theorem dX12_product_12 : decode cX12_product 12 = .ok (.lconst 0, 1) := by decide +kernel
theorem dX12_product_13 : decode cX12_product 13 = .ok (.lreturn, 1) := by decide +kernel
theorem dX12_product_14 : decode cX12_product 14 = .ok (.lload_n 0, 1) := by decide +kernel
theorem dX12_product_15 : decode cX12_product 15 = .ok (.ldc2_w 263, 3) := by decide +kernel
theorem dX12_product_18 : decode cX12_product 18 = .ok (.lload_n 2, 1) := by decide +kernel
theorem dX12_product_19 : decode cX12_product 19 = .ok (.ldiv, 1) := by decide +kernel
theorem dX12_product_20 : decode cX12_product 20 = .ok (.lcmp, 1) := by decide +kernel
theorem dX12_product_21 : decode cX12_product 21 = .ok (.ifCond .le 9, 3) := by decide +kernel
theorem dX12_product_24 : decode cX12_product 24 = .ok (.ldc2_w 255, 3) := by decide +kernel
theorem dX12_product_27 : decode cX12_product 27 = .ok (.goto 6, 3) := by decide +kernel
theorem dX12_product_30 : decode cX12_product 30 = .ok (.lload_n 0, 1) := by decide +kernel
theorem dX12_product_31 : decode cX12_product 31 = .ok (.lload_n 2, 1) := by decide +kernel
theorem dX12_product_32 : decode cX12_product 32 = .ok (.lmul, 1) := by decide +kernel
theorem dX12_product_33 : decode cX12_product 33 = .ok (.lreturn, 1) := by decide +kernel
theorem dX12_mayGo_0 : decode cX12_mayGo 0 = .ok (.aload_n 0, 1) := by decide +kernel
theorem dX12_mayGo_1 : decode cX12_mayGo 1 = .ok (.iload_n 1, 1) := by decide +kernel
theorem dX12_mayGo_2 : decode cX12_mayGo 2 = .ok (.invokevirtual 265, 3) := by decide +kernel
theorem dX12_mayGo_5 : decode cX12_mayGo 5 = .ok (.iload_n 3, 1) := by decide +kernel
theorem dX12_mayGo_6 : decode cX12_mayGo 6 = .ok (.if_icmp .ne 32, 3) := by decide +kernel
theorem dX12_mayGo_9 : decode cX12_mayGo 9 = .ok (.aload_n 0, 1) := by decide +kernel
theorem dX12_mayGo_10 : decode cX12_mayGo 10 = .ok (.getfield 101, 3) := by decide +kernel
theorem dX12_mayGo_13 : decode cX12_mayGo 13 = .ok (.aload_n 0, 1) := by decide +kernel
theorem dX12_mayGo_14 : decode cX12_mayGo 14 = .ok (.iload_n 1, 1) := by decide +kernel
theorem dX12_mayGo_15 : decode cX12_mayGo 15 = .ok (.invokevirtual 268, 3) := by decide +kernel
theorem dX12_mayGo_18 : decode cX12_mayGo 18 = .ok (.iaload, 1) := by decide +kernel
theorem dX12_mayGo_19 : decode cX12_mayGo 19 = .ok (.iload_n 2, 1) := by decide +kernel
theorem dX12_mayGo_20 : decode cX12_mayGo 20 = .ok (.if_icmp .ne 18, 3) := by decide +kernel
theorem dX12_mayGo_23 : decode cX12_mayGo 23 = .ok (.aload_n 0, 1) := by decide +kernel
theorem dX12_mayGo_24 : decode cX12_mayGo 24 = .ok (.getfield 252, 3) := by decide +kernel
theorem dX12_mayGo_27 : decode cX12_mayGo 27 = .ok (.iload_n 1, 1) := by decide +kernel
theorem dX12_mayGo_28 : decode cX12_mayGo 28 = .ok (.ishr, 1) := by decide +kernel
theorem dX12_mayGo_29 : decode cX12_mayGo 29 = .ok (.iconst 1, 1) := by decide +kernel
theorem dX12_mayGo_30 : decode cX12_mayGo 30 = .ok (.iand, 1) := by decide +kernel
theorem dX12_mayGo_31 : decode cX12_mayGo 31 = .ok (.ifCond .ne 7, 3) := by decide +kernel
theorem dX12_mayGo_34 : decode cX12_mayGo 34 = .ok (.iconst 1, 1) := by decide +kernel
theorem dX12_mayGo_35 : decode cX12_mayGo 35 = .ok (.goto 4, 3) := by decide +kernel
theorem dX12_mayGo_38 : decode cX12_mayGo 38 = .ok (.iconst 0, 1) := by decide +kernel
theorem dX12_mayGo_39 : decode cX12_mayGo 39 = .ok (.ireturn, 1) := by decide +kernel
theorem dX12_gap_0 : decode cX12_gap 0 = .ok (.iload_n 0, 1) := by decide +kernel
theorem dX12_gap_1 : decode cX12_gap 1 = .ok (.iconst (-1), 1) := by decide +kernel
theorem dX12_gap_2 : decode cX12_gap 2 = .ok (.if_icmp .ne 7, 3) := by decide +kernel
theorem dX12_gap_5 : decode cX12_gap 5 = .ok (.iconst 0, 1) := by decide +kernel
theorem dX12_gap_6 : decode cX12_gap 6 = .ok (.goto 6, 3) := by decide +kernel
theorem dX12_gap_9 : decode cX12_gap 9 = .ok (.iload_n 1, 1) := by decide +kernel
theorem dX12_gap_10 : decode cX12_gap 10 = .ok (.iload_n 0, 1) := by decide +kernel
theorem dX12_gap_11 : decode cX12_gap 11 = .ok (.isub, 1) := by decide +kernel
theorem dX12_gap_12 : decode cX12_gap 12 = .ok (.ireturn, 1) := by decide +kernel
theorem dX12_hasRoom_0 : decode cX12_hasRoom 0 = .ok (.iload_n 3, 1) := by decide +kernel
theorem dX12_hasRoom_1 : decode cX12_hasRoom 1 = .ok (.iload_n 2, 1) := by decide +kernel
theorem dX12_hasRoom_2 : decode cX12_hasRoom 2 = .ok (.isub, 1) := by decide +kernel
theorem dX12_hasRoom_3 : decode cX12_hasRoom 3 = .ok (.iload 4, 2) := by decide +kernel
theorem dX12_hasRoom_5 : decode cX12_hasRoom 5 = .ok (.iload 5, 2) := by decide +kernel
theorem dX12_hasRoom_7 : decode cX12_hasRoom 7 = .ok (.invokestatic 271, 3) := by decide +kernel
theorem dX12_hasRoom_10 : decode cX12_hasRoom 10 = .ok (.isub, 1) := by decide +kernel
theorem dX12_hasRoom_11 : decode cX12_hasRoom 11 = .ok (.aload_n 0, 1) := by decide +kernel
theorem dX12_hasRoom_12 : decode cX12_hasRoom 12 = .ok (.getfield 164, 3) := by decide +kernel
theorem dX12_hasRoom_15 : decode cX12_hasRoom 15 = .ok (.iload_n 1, 1) := by decide +kernel
theorem dX12_hasRoom_16 : decode cX12_hasRoom 16 = .ok (.iaload, 1) := by decide +kernel
theorem dX12_hasRoom_17 : decode cX12_hasRoom 17 = .ok (.if_icmp .lt 7, 3) := by decide +kernel
theorem dX12_hasRoom_20 : decode cX12_hasRoom 20 = .ok (.iconst 1, 1) := by decide +kernel
theorem dX12_hasRoom_21 : decode cX12_hasRoom 21 = .ok (.goto 4, 3) := by decide +kernel
theorem dX12_hasRoom_24 : decode cX12_hasRoom 24 = .ok (.iconst 0, 1) := by decide +kernel
theorem dX12_hasRoom_25 : decode cX12_hasRoom 25 = .ok (.ireturn, 1) := by decide +kernel
theorem dX12_keyOf_0 : decode cX12_keyOf 0 = .ok (.iload_n 0, 1) := by decide +kernel
theorem dX12_keyOf_1 : decode cX12_keyOf 1 = .ok (.bipush 40, 2) := by decide +kernel
theorem dX12_keyOf_3 : decode cX12_keyOf 3 = .ok (.imul, 1) := by decide +kernel
theorem dX12_keyOf_4 : decode cX12_keyOf 4 = .ok (.iload_n 1, 1) := by decide +kernel
theorem dX12_keyOf_5 : decode cX12_keyOf 5 = .ok (.iadd, 1) := by decide +kernel
theorem dX12_keyOf_6 : decode cX12_keyOf 6 = .ok (.sipush 540, 3) := by decide +kernel
theorem dX12_keyOf_9 : decode cX12_keyOf 9 = .ok (.imul, 1) := by decide +kernel
theorem dX12_keyOf_10 : decode cX12_keyOf 10 = .ok (.iload_n 2, 1) := by decide +kernel
theorem dX12_keyOf_11 : decode cX12_keyOf 11 = .ok (.iadd, 1) := by decide +kernel
theorem dX12_keyOf_12 : decode cX12_keyOf 12 = .ok (.ireturn, 1) := by decide +kernel
theorem dX12_waysOf_0 : decode cX12_waysOf 0 = .ok (.aload_n 0, 1) := by decide +kernel
theorem dX12_waysOf_1 : decode cX12_waysOf 1 = .ok (.iload_n 2, 1) := by decide +kernel
theorem dX12_waysOf_2 : decode cX12_waysOf 2 = .ok (.iload_n 3, 1) := by decide +kernel
theorem dX12_waysOf_3 : decode cX12_waysOf 3 = .ok (.iload 4, 2) := by decide +kernel
theorem dX12_waysOf_5 : decode cX12_waysOf 5 = .ok (.iload 5, 2) := by decide +kernel
theorem dX12_waysOf_7 : decode cX12_waysOf 7 = .ok (.iload 6, 2) := by decide +kernel
theorem dX12_waysOf_9 : decode cX12_waysOf 9 = .ok (.invokevirtual 274, 3) := by decide +kernel
theorem dX12_waysOf_12 : decode cX12_waysOf 12 = .ok (.ifCond .ne 5, 3) := by decide +kernel
theorem dX12_waysOf_15 : decode cX12_waysOf 15 = .ok (.lconst 0, 1) := by decide +kernel
theorem dX12_waysOf_16 : decode cX12_waysOf 16 = .ok (.lreturn, 1) := by decide +kernel
theorem dX12_waysOf_17 : decode cX12_waysOf 17 = .ok (.iload_n 1, 1) := by decide +kernel
theorem dX12_waysOf_18 : decode cX12_waysOf 18 = .ok (.iload_n 2, 1) := by decide +kernel
theorem dX12_waysOf_19 : decode cX12_waysOf 19 = .ok (.aload_n 0, 1) := by decide +kernel
theorem dX12_waysOf_20 : decode cX12_waysOf 20 = .ok (.iload_n 3, 1) := by decide +kernel
theorem dX12_waysOf_21 : decode cX12_waysOf 21 = .ok (.iload 4, 2) := by decide +kernel
theorem dX12_waysOf_23 : decode cX12_waysOf 23 = .ok (.iload 5, 2) := by decide +kernel
theorem dX12_waysOf_25 : decode cX12_waysOf 25 = .ok (.iload 6, 2) := by decide +kernel
theorem dX12_waysOf_27 : decode cX12_waysOf 27 = .ok (.invokevirtual 278, 3) := by decide +kernel
theorem dX12_waysOf_30 : decode cX12_waysOf 30 = .ok (.invokestatic 281, 3) := by decide +kernel
theorem dX12_waysOf_33 : decode cX12_waysOf 33 = .ok (.istore 7, 2) := by decide +kernel
theorem dX12_waysOf_35 : decode cX12_waysOf 35 = .ok (.aload_n 0, 1) := by decide +kernel
theorem dX12_waysOf_36 : decode cX12_waysOf 36 = .ok (.getfield 201, 3) := by decide +kernel
theorem dX12_waysOf_39 : decode cX12_waysOf 39 = .ok (.iload 7, 2) := by decide +kernel
theorem dX12_waysOf_41 : decode cX12_waysOf 41 = .ok (.laload, 1) := by decide +kernel
theorem dX12_waysOf_42 : decode cX12_waysOf 42 = .ok (.ldc2_w 247, 3) := by decide +kernel
theorem dX12_waysOf_45 : decode cX12_waysOf 45 = .ok (.lcmp, 1) := by decide +kernel
theorem dX12_waysOf_46 : decode cX12_waysOf 46 = .ok (.ifCond .ne 51, 3) := by decide +kernel
theorem dX12_waysOf_49 : decode cX12_waysOf 49 = .ok (.aload_n 0, 1) := by decide +kernel
theorem dX12_waysOf_50 : decode cX12_waysOf 50 = .ok (.getfield 201, 3) := by decide +kernel
theorem dX12_waysOf_53 : decode cX12_waysOf 53 = .ok (.iload 7, 2) := by decide +kernel
theorem dX12_waysOf_55 : decode cX12_waysOf 55 = .ok (.iload_n 1, 1) := by decide +kernel
theorem dX12_waysOf_56 : decode cX12_waysOf 56 = .ok (.iconst 1, 1) := by decide +kernel
theorem dX12_waysOf_57 : decode cX12_waysOf 57 = .ok (.if_icmp .ne 27, 3) := by decide +kernel
theorem dX12_waysOf_60 : decode cX12_waysOf 60 = .ok (.aload_n 0, 1) := by decide +kernel
theorem dX12_waysOf_61 : decode cX12_waysOf 61 = .ok (.getfield 98, 3) := by decide +kernel
theorem dX12_waysOf_64 : decode cX12_waysOf 64 = .ok (.iload_n 2, 1) := by decide +kernel
theorem dX12_waysOf_65 : decode cX12_waysOf 65 = .ok (.iaload, 1) := by decide +kernel
theorem dX12_waysOf_66 : decode cX12_waysOf 66 = .ok (.ifCond .ne 18, 3) := by decide +kernel
theorem dX12_waysOf_69 : decode cX12_waysOf 69 = .ok (.aload_n 0, 1) := by decide +kernel
theorem dX12_waysOf_70 : decode cX12_waysOf 70 = .ok (.iload_n 2, 1) := by decide +kernel
theorem dX12_waysOf_71 : decode cX12_waysOf 71 = .ok (.iload_n 3, 1) := by decide +kernel
theorem dX12_waysOf_72 : decode cX12_waysOf 72 = .ok (.iload 4, 2) := by decide +kernel
theorem dX12_waysOf_74 : decode cX12_waysOf 74 = .ok (.iload 5, 2) := by decide +kernel
theorem dX12_waysOf_76 : decode cX12_waysOf 76 = .ok (.iload 6, 2) := by decide +kernel
theorem dX12_waysOf_78 : decode cX12_waysOf 78 = .ok (.invokevirtual 285, 3) := by decide +kernel
theorem dX12_waysOf_81 : decode cX12_waysOf 81 = .ok (.goto 15, 3) := by decide +kernel
theorem dX12_waysOf_84 : decode cX12_waysOf 84 = .ok (.aload_n 0, 1) := by decide +kernel
theorem dX12_waysOf_85 : decode cX12_waysOf 85 = .ok (.iload_n 2, 1) := by decide +kernel
theorem dX12_waysOf_86 : decode cX12_waysOf 86 = .ok (.iload_n 3, 1) := by decide +kernel
theorem dX12_waysOf_87 : decode cX12_waysOf 87 = .ok (.iload 4, 2) := by decide +kernel
theorem dX12_waysOf_89 : decode cX12_waysOf 89 = .ok (.iload 5, 2) := by decide +kernel
theorem dX12_waysOf_91 : decode cX12_waysOf 91 = .ok (.iload 6, 2) := by decide +kernel
theorem dX12_waysOf_93 : decode cX12_waysOf 93 = .ok (.invokevirtual 289, 3) := by decide +kernel
theorem dX12_waysOf_96 : decode cX12_waysOf 96 = .ok (.lastore, 1) := by decide +kernel
theorem dX12_waysOf_97 : decode cX12_waysOf 97 = .ok (.aload_n 0, 1) := by decide +kernel
theorem dX12_waysOf_98 : decode cX12_waysOf 98 = .ok (.getfield 201, 3) := by decide +kernel
theorem dX12_waysOf_101 : decode cX12_waysOf 101 = .ok (.iload 7, 2) := by decide +kernel
theorem dX12_waysOf_103 : decode cX12_waysOf 103 = .ok (.laload, 1) := by decide +kernel
theorem dX12_waysOf_104 : decode cX12_waysOf 104 = .ok (.lreturn, 1) := by decide +kernel
theorem dX12_waysAbove_0 : decode cX12_waysAbove 0 = .ok (.aload_n 0, 1) := by decide +kernel
theorem dX12_waysAbove_1 : decode cX12_waysAbove 1 = .ok (.getfield 104, 3) := by decide +kernel
theorem dX12_waysAbove_4 : decode cX12_waysAbove 4 = .ok (.iload_n 1, 1) := by decide +kernel
theorem dX12_waysAbove_5 : decode cX12_waysAbove 5 = .ok (.iaload, 1) := by decide +kernel
theorem dX12_waysAbove_6 : decode cX12_waysAbove 6 = .ok (.iconst 2, 1) := by decide +kernel
theorem dX12_waysAbove_7 : decode cX12_waysAbove 7 = .ok (.if_icmp .ne 7, 3) := by decide +kernel
theorem dX12_waysAbove_10 : decode cX12_waysAbove 10 = .ok (.lconst 0, 1) := by decide +kernel
theorem dX12_waysAbove_11 : decode cX12_waysAbove 11 = .ok (.goto 15, 3) := by decide +kernel
theorem dX12_waysAbove_14 : decode cX12_waysAbove 14 = .ok (.aload_n 0, 1) := by decide +kernel
theorem dX12_waysAbove_15 : decode cX12_waysAbove 15 = .ok (.iconst 0, 1) := by decide +kernel
theorem dX12_waysAbove_16 : decode cX12_waysAbove 16 = .ok (.iload_n 1, 1) := by decide +kernel
theorem dX12_waysAbove_17 : decode cX12_waysAbove 17 = .ok (.iload_n 2, 1) := by decide +kernel
theorem dX12_waysAbove_18 : decode cX12_waysAbove 18 = .ok (.iload_n 3, 1) := by decide +kernel
theorem dX12_waysAbove_19 : decode cX12_waysAbove 19 = .ok (.iload 4, 2) := by decide +kernel
theorem dX12_waysAbove_21 : decode cX12_waysAbove 21 = .ok (.iload 5, 2) := by decide +kernel
theorem dX12_waysAbove_23 : decode cX12_waysAbove 23 = .ok (.invokevirtual 292, 3) := by decide +kernel
theorem dX12_waysAbove_26 : decode cX12_waysAbove 26 = .ok (.lstore 6, 2) := by decide +kernel
theorem dX12_waysAbove_28 : decode cX12_waysAbove 28 = .ok (.iconst 0, 1) := by decide +kernel
theorem dX12_waysAbove_29 : decode cX12_waysAbove 29 = .ok (.istore 8, 2) := by decide +kernel
theorem dX12_waysAbove_31 : decode cX12_waysAbove 31 = .ok (.iload 8, 2) := by decide +kernel
theorem dX12_waysAbove_33 : decode cX12_waysAbove 33 = .ok (.aload_n 0, 1) := by decide +kernel
theorem dX12_waysAbove_34 : decode cX12_waysAbove 34 = .ok (.getfield 11, 3) := by decide +kernel
theorem dX12_waysAbove_37 : decode cX12_waysAbove 37 = .ok (.if_icmp .ge 115, 3) := by decide +kernel
theorem dX12_waysAbove_40 : decode cX12_waysAbove 40 = .ok (.aload_n 0, 1) := by decide +kernel
theorem dX12_waysAbove_41 : decode cX12_waysAbove 41 = .ok (.getfield 104, 3) := by decide +kernel
theorem dX12_waysAbove_44 : decode cX12_waysAbove 44 = .ok (.iload_n 1, 1) := by decide +kernel
theorem dX12_waysAbove_45 : decode cX12_waysAbove 45 = .ok (.iaload, 1) := by decide +kernel
theorem dX12_waysAbove_46 : decode cX12_waysAbove 46 = .ok (.iconst 1, 1) := by decide +kernel
theorem dX12_waysAbove_47 : decode cX12_waysAbove 47 = .ok (.if_icmp .eq 105, 3) := by decide +kernel
theorem dX12_waysAbove_50 : decode cX12_waysAbove 50 = .ok (.aload_n 0, 1) := by decide +kernel
theorem dX12_waysAbove_51 : decode cX12_waysAbove 51 = .ok (.iload 8, 2) := by decide +kernel
theorem dX12_waysAbove_53 : decode cX12_waysAbove 53 = .ok (.aload_n 0, 1) := by decide +kernel
theorem dX12_waysAbove_54 : decode cX12_waysAbove 54 = .ok (.getfield 101, 3) := by decide +kernel
theorem dX12_waysAbove_57 : decode cX12_waysAbove 57 = .ok (.iload_n 1, 1) := by decide +kernel
theorem dX12_waysAbove_58 : decode cX12_waysAbove 58 = .ok (.iaload, 1) := by decide +kernel
theorem dX12_waysAbove_59 : decode cX12_waysAbove 59 = .ok (.iconst 1, 1) := by decide +kernel
theorem dX12_waysAbove_60 : decode cX12_waysAbove 60 = .ok (.invokevirtual 296, 3) := by decide +kernel
theorem dX12_waysAbove_63 : decode cX12_waysAbove 63 = .ok (.ifCond .ne 6, 3) := by decide +kernel
theorem dX12_waysAbove_66 : decode cX12_waysAbove 66 = .ok (.goto 80, 3) := by decide +kernel
theorem dX12_waysAbove_69 : decode cX12_waysAbove 69 = .ok (.iload_n 2, 1) := by decide +kernel
theorem dX12_waysAbove_70 : decode cX12_waysAbove 70 = .ok (.istore 9, 2) := by decide +kernel
theorem dX12_waysAbove_72 : decode cX12_waysAbove 72 = .ok (.iload 9, 2) := by decide +kernel
theorem dX12_waysAbove_74 : decode cX12_waysAbove 74 = .ok (.iload 4, 2) := by decide +kernel
theorem dX12_waysAbove_76 : decode cX12_waysAbove 76 = .ok (.iconst (-1), 1) := by decide +kernel
theorem dX12_waysAbove_77 : decode cX12_waysAbove 77 = .ok (.if_icmp .ne 7, 3) := by decide +kernel
theorem dX12_waysAbove_80 : decode cX12_waysAbove 80 = .ok (.iload_n 3, 1) := by decide +kernel
theorem dX12_waysAbove_81 : decode cX12_waysAbove 81 = .ok (.goto 5, 3) := by decide +kernel
theorem dX12_waysAbove_84 : decode cX12_waysAbove 84 = .ok (.iload 4, 2) := by decide +kernel
theorem dX12_waysAbove_86 : decode cX12_waysAbove 86 = .ok (.if_icmp .gt 60, 3) := by decide +kernel
theorem dX12_waysAbove_89 : decode cX12_waysAbove 89 = .ok (.iload 4, 2) := by decide +kernel
theorem dX12_waysAbove_91 : decode cX12_waysAbove 91 = .ok (.iconst (-1), 1) := by decide +kernel
theorem dX12_waysAbove_92 : decode cX12_waysAbove 92 = .ok (.if_icmp .ne 8, 3) := by decide +kernel
theorem dX12_waysAbove_95 : decode cX12_waysAbove 95 = .ok (.iload 9, 2) := by decide +kernel
theorem dX12_waysAbove_97 : decode cX12_waysAbove 97 = .ok (.goto 5, 3) := by decide +kernel
theorem dX12_waysAbove_100 : decode cX12_waysAbove 100 = .ok (.iload 5, 2) := by decide +kernel
theorem dX12_waysAbove_102 : decode cX12_waysAbove 102 = .ok (.istore 10, 2) := by decide +kernel
theorem dX12_waysAbove_104 : decode cX12_waysAbove 104 = .ok (.iload 10, 2) := by decide +kernel
theorem dX12_waysAbove_106 : decode cX12_waysAbove 106 = .ok (.iload_n 3, 1) := by decide +kernel
theorem dX12_waysAbove_107 : decode cX12_waysAbove 107 = .ok (.if_icmp .gt 33, 3) := by decide +kernel
theorem dX12_waysAbove_110 : decode cX12_waysAbove 110 = .ok (.lload 6, 2) := by decide +kernel
theorem dX12_waysAbove_112 : decode cX12_waysAbove 112 = .ok (.aload_n 0, 1) := by decide +kernel
theorem dX12_waysAbove_113 : decode cX12_waysAbove 113 = .ok (.iload_n 1, 1) := by decide +kernel
theorem dX12_waysAbove_114 : decode cX12_waysAbove 114 = .ok (.iload 8, 2) := by decide +kernel
theorem dX12_waysAbove_116 : decode cX12_waysAbove 116 = .ok (.iload 9, 2) := by decide +kernel
theorem dX12_waysAbove_118 : decode cX12_waysAbove 118 = .ok (.iload 10, 2) := by decide +kernel
theorem dX12_waysAbove_120 : decode cX12_waysAbove 120 = .ok (.iload_n 2, 1) := by decide +kernel
theorem dX12_waysAbove_121 : decode cX12_waysAbove 121 = .ok (.iload_n 3, 1) := by decide +kernel
theorem dX12_waysAbove_122 : decode cX12_waysAbove 122 = .ok (.iload 4, 2) := by decide +kernel
theorem dX12_waysAbove_124 : decode cX12_waysAbove 124 = .ok (.iload 5, 2) := by decide +kernel
theorem dX12_waysAbove_126 : decode cX12_waysAbove 126 = .ok (.invokevirtual 300, 3) := by decide +kernel
theorem dX12_waysAbove_129 : decode cX12_waysAbove 129 = .ok (.invokestatic 304, 3) := by decide +kernel
theorem dX12_waysAbove_132 : decode cX12_waysAbove 132 = .ok (.lstore 6, 2) := by decide +kernel
theorem dX12_waysAbove_134 : decode cX12_waysAbove 134 = .ok (.iinc 10 1, 3) := by decide +kernel
theorem dX12_waysAbove_137 : decode cX12_waysAbove 137 = .ok (.goto (-33), 3) := by decide +kernel
theorem dX12_waysAbove_140 : decode cX12_waysAbove 140 = .ok (.iinc 9 1, 3) := by decide +kernel
theorem dX12_waysAbove_143 : decode cX12_waysAbove 143 = .ok (.goto (-71), 3) := by decide +kernel
theorem dX12_waysAbove_146 : decode cX12_waysAbove 146 = .ok (.iinc 8 1, 3) := by decide +kernel
theorem dX12_waysAbove_149 : decode cX12_waysAbove 149 = .ok (.goto (-118), 3) := by decide +kernel
theorem dX12_waysAbove_152 : decode cX12_waysAbove 152 = .ok (.lload 6, 2) := by decide +kernel
theorem dX12_waysAbove_154 : decode cX12_waysAbove 154 = .ok (.lreturn, 1) := by decide +kernel
theorem dX12_waysAround_0 : decode cX12_waysAround 0 = .ok (.aload_n 0, 1) := by decide +kernel
theorem dX12_waysAround_1 : decode cX12_waysAround 1 = .ok (.aload_n 0, 1) := by decide +kernel
theorem dX12_waysAround_2 : decode cX12_waysAround 2 = .ok (.iload_n 2, 1) := by decide +kernel
theorem dX12_waysAround_3 : decode cX12_waysAround 3 = .ok (.invokevirtual 268, 3) := by decide +kernel
theorem dX12_waysAround_6 : decode cX12_waysAround 6 = .ok (.iload 5, 2) := by decide +kernel
theorem dX12_waysAround_8 : decode cX12_waysAround 8 = .ok (.iload 6, 2) := by decide +kernel
theorem dX12_waysAround_10 : decode cX12_waysAround 10 = .ok (.iload_n 3, 1) := by decide +kernel
theorem dX12_waysAround_11 : decode cX12_waysAround 11 = .ok (.iload 4, 2) := by decide +kernel
theorem dX12_waysAround_13 : decode cX12_waysAround 13 = .ok (.invokevirtual 274, 3) := by decide +kernel
theorem dX12_waysAround_16 : decode cX12_waysAround 16 = .ok (.ifCond .eq 18, 3) := by decide +kernel
theorem dX12_waysAround_19 : decode cX12_waysAround 19 = .ok (.aload_n 0, 1) := by decide +kernel
theorem dX12_waysAround_20 : decode cX12_waysAround 20 = .ok (.iload_n 1, 1) := by decide +kernel
theorem dX12_waysAround_21 : decode cX12_waysAround 21 = .ok (.iload_n 3, 1) := by decide +kernel
theorem dX12_waysAround_22 : decode cX12_waysAround 22 = .ok (.iload 4, 2) := by decide +kernel
theorem dX12_waysAround_24 : decode cX12_waysAround 24 = .ok (.iload 7, 2) := by decide +kernel
theorem dX12_waysAround_26 : decode cX12_waysAround 26 = .ok (.iload 8, 2) := by decide +kernel
theorem dX12_waysAround_28 : decode cX12_waysAround 28 = .ok (.invokevirtual 274, 3) := by decide +kernel
theorem dX12_waysAround_31 : decode cX12_waysAround 31 = .ok (.ifCond .ne 5, 3) := by decide +kernel
theorem dX12_waysAround_34 : decode cX12_waysAround 34 = .ok (.lconst 0, 1) := by decide +kernel
theorem dX12_waysAround_35 : decode cX12_waysAround 35 = .ok (.lreturn, 1) := by decide +kernel
theorem dX12_waysAround_36 : decode cX12_waysAround 36 = .ok (.aload_n 0, 1) := by decide +kernel
theorem dX12_waysAround_37 : decode cX12_waysAround 37 = .ok (.iconst 0, 1) := by decide +kernel
theorem dX12_waysAround_38 : decode cX12_waysAround 38 = .ok (.iload_n 1, 1) := by decide +kernel
theorem dX12_waysAround_39 : decode cX12_waysAround 39 = .ok (.iload_n 3, 1) := by decide +kernel
theorem dX12_waysAround_40 : decode cX12_waysAround 40 = .ok (.iload 4, 2) := by decide +kernel
theorem dX12_waysAround_42 : decode cX12_waysAround 42 = .ok (.iload 7, 2) := by decide +kernel
theorem dX12_waysAround_44 : decode cX12_waysAround 44 = .ok (.iload 8, 2) := by decide +kernel
theorem dX12_waysAround_46 : decode cX12_waysAround 46 = .ok (.invokevirtual 292, 3) := by decide +kernel
theorem dX12_waysAround_49 : decode cX12_waysAround 49 = .ok (.lstore 9, 2) := by decide +kernel
theorem dX12_waysAround_51 : decode cX12_waysAround 51 = .ok (.lload 9, 2) := by decide +kernel
theorem dX12_waysAround_53 : decode cX12_waysAround 53 = .ok (.lconst 0, 1) := by decide +kernel
theorem dX12_waysAround_54 : decode cX12_waysAround 54 = .ok (.lcmp, 1) := by decide +kernel
theorem dX12_waysAround_55 : decode cX12_waysAround 55 = .ok (.ifCond .ne 7, 3) := by decide +kernel
theorem dX12_waysAround_58 : decode cX12_waysAround 58 = .ok (.lconst 0, 1) := by decide +kernel
theorem dX12_waysAround_59 : decode cX12_waysAround 59 = .ok (.goto 25, 3) := by decide +kernel
theorem dX12_waysAround_62 : decode cX12_waysAround 62 = .ok (.lload 9, 2) := by decide +kernel
theorem dX12_waysAround_64 : decode cX12_waysAround 64 = .ok (.aload_n 0, 1) := by decide +kernel
theorem dX12_waysAround_65 : decode cX12_waysAround 65 = .ok (.iconst 1, 1) := by decide +kernel
theorem dX12_waysAround_66 : decode cX12_waysAround 66 = .ok (.aload_n 0, 1) := by decide +kernel
theorem dX12_waysAround_67 : decode cX12_waysAround 67 = .ok (.iload_n 2, 1) := by decide +kernel
theorem dX12_waysAround_68 : decode cX12_waysAround 68 = .ok (.invokevirtual 268, 3) := by decide +kernel
theorem dX12_waysAround_71 : decode cX12_waysAround 71 = .ok (.iload 5, 2) := by decide +kernel
theorem dX12_waysAround_73 : decode cX12_waysAround 73 = .ok (.iload 6, 2) := by decide +kernel
theorem dX12_waysAround_75 : decode cX12_waysAround 75 = .ok (.iload_n 3, 1) := by decide +kernel
theorem dX12_waysAround_76 : decode cX12_waysAround 76 = .ok (.iload 4, 2) := by decide +kernel
theorem dX12_waysAround_78 : decode cX12_waysAround 78 = .ok (.invokevirtual 292, 3) := by decide +kernel
theorem dX12_waysAround_81 : decode cX12_waysAround 81 = .ok (.invokestatic 307, 3) := by decide +kernel
theorem dX12_waysAround_84 : decode cX12_waysAround 84 = .ok (.lreturn, 1) := by decide +kernel
theorem dX12_waysBelow_0 : decode cX12_waysBelow 0 = .ok (.aload_n 0, 1) := by decide +kernel
theorem dX12_waysBelow_1 : decode cX12_waysBelow 1 = .ok (.getfield 98, 3) := by decide +kernel
theorem dX12_waysBelow_4 : decode cX12_waysBelow 4 = .ok (.iload_n 1, 1) := by decide +kernel
theorem dX12_waysBelow_5 : decode cX12_waysBelow 5 = .ok (.iaload, 1) := by decide +kernel
theorem dX12_waysBelow_6 : decode cX12_waysBelow 6 = .ok (.tableswitch 95 1 4 #[30, 58, 69, 87], 30) := by decide +kernel
theorem dX12_waysBelow_36 : decode cX12_waysBelow 36 = .ok (.iload_n 3, 1) := by decide +kernel
theorem dX12_waysBelow_37 : decode cX12_waysBelow 37 = .ok (.iload_n 2, 1) := by decide +kernel
theorem dX12_waysBelow_38 : decode cX12_waysBelow 38 = .ok (.iconst 1, 1) := by decide +kernel
theorem dX12_waysBelow_39 : decode cX12_waysBelow 39 = .ok (.iadd, 1) := by decide +kernel
theorem dX12_waysBelow_40 : decode cX12_waysBelow 40 = .ok (.if_icmp .ne 22, 3) := by decide +kernel
theorem dX12_waysBelow_43 : decode cX12_waysBelow 43 = .ok (.aload_n 0, 1) := by decide +kernel
theorem dX12_waysBelow_44 : decode cX12_waysBelow 44 = .ok (.getfield 182, 3) := by decide +kernel
theorem dX12_waysBelow_47 : decode cX12_waysBelow 47 = .ok (.iload_n 2, 1) := by decide +kernel
theorem dX12_waysBelow_48 : decode cX12_waysBelow 48 = .ok (.iaload, 1) := by decide +kernel
theorem dX12_waysBelow_49 : decode cX12_waysBelow 49 = .ok (.aload_n 0, 1) := by decide +kernel
theorem dX12_waysBelow_50 : decode cX12_waysBelow 50 = .ok (.getfield 101, 3) := by decide +kernel
theorem dX12_waysBelow_53 : decode cX12_waysBelow 53 = .ok (.iload_n 1, 1) := by decide +kernel
theorem dX12_waysBelow_54 : decode cX12_waysBelow 54 = .ok (.iaload, 1) := by decide +kernel
theorem dX12_waysBelow_55 : decode cX12_waysBelow 55 = .ok (.if_icmp .ne 7, 3) := by decide +kernel
theorem dX12_waysBelow_58 : decode cX12_waysBelow 58 = .ok (.lconst 1, 1) := by decide +kernel
theorem dX12_waysBelow_59 : decode cX12_waysBelow 59 = .ok (.goto 4, 3) := by decide +kernel
theorem dX12_waysBelow_62 : decode cX12_waysBelow 62 = .ok (.lconst 0, 1) := by decide +kernel
theorem dX12_waysBelow_63 : decode cX12_waysBelow 63 = .ok (.lreturn, 1) := by decide +kernel
theorem dX12_waysBelow_64 : decode cX12_waysBelow 64 = .ok (.iload_n 2, 1) := by decide +kernel
theorem dX12_waysBelow_65 : decode cX12_waysBelow 65 = .ok (.iload_n 3, 1) := by decide +kernel
theorem dX12_waysBelow_66 : decode cX12_waysBelow 66 = .ok (.if_icmp .ne 7, 3) := by decide +kernel
theorem dX12_waysBelow_69 : decode cX12_waysBelow 69 = .ok (.lconst 1, 1) := by decide +kernel
theorem dX12_waysBelow_70 : decode cX12_waysBelow 70 = .ok (.goto 4, 3) := by decide +kernel
theorem dX12_waysBelow_73 : decode cX12_waysBelow 73 = .ok (.lconst 0, 1) := by decide +kernel
theorem dX12_waysBelow_74 : decode cX12_waysBelow 74 = .ok (.lreturn, 1) := by decide +kernel
theorem dX12_waysBelow_75 : decode cX12_waysBelow 75 = .ok (.iload 4, 2) := by decide +kernel
theorem dX12_waysBelow_77 : decode cX12_waysBelow 77 = .ok (.iload_n 2, 1) := by decide +kernel
theorem dX12_waysBelow_78 : decode cX12_waysBelow 78 = .ok (.if_icmp .ne 13, 3) := by decide +kernel
theorem dX12_waysBelow_81 : decode cX12_waysBelow 81 = .ok (.iload 5, 2) := by decide +kernel
theorem dX12_waysBelow_83 : decode cX12_waysBelow 83 = .ok (.iload_n 3, 1) := by decide +kernel
theorem dX12_waysBelow_84 : decode cX12_waysBelow 84 = .ok (.if_icmp .ne 7, 3) := by decide +kernel
theorem dX12_waysBelow_87 : decode cX12_waysBelow 87 = .ok (.lconst 1, 1) := by decide +kernel
theorem dX12_waysBelow_88 : decode cX12_waysBelow 88 = .ok (.goto 4, 3) := by decide +kernel
theorem dX12_waysBelow_91 : decode cX12_waysBelow 91 = .ok (.lconst 0, 1) := by decide +kernel
theorem dX12_waysBelow_92 : decode cX12_waysBelow 92 = .ok (.lreturn, 1) := by decide +kernel
theorem dX12_waysBelow_93 : decode cX12_waysBelow 93 = .ok (.aload_n 0, 1) := by decide +kernel
theorem dX12_waysBelow_94 : decode cX12_waysBelow 94 = .ok (.iload_n 1, 1) := by decide +kernel
theorem dX12_waysBelow_95 : decode cX12_waysBelow 95 = .ok (.iload_n 2, 1) := by decide +kernel
theorem dX12_waysBelow_96 : decode cX12_waysBelow 96 = .ok (.iload_n 3, 1) := by decide +kernel
theorem dX12_waysBelow_97 : decode cX12_waysBelow 97 = .ok (.invokevirtual 310, 3) := by decide +kernel
theorem dX12_waysBelow_100 : decode cX12_waysBelow 100 = .ok (.lreturn, 1) := by decide +kernel
theorem dX12_waysBelow_101 : decode cX12_waysBelow 101 = .ok (.aload_n 0, 1) := by decide +kernel
theorem dX12_waysBelow_102 : decode cX12_waysBelow 102 = .ok (.getfield 110, 3) := by decide +kernel
theorem dX12_waysBelow_105 : decode cX12_waysBelow 105 = .ok (.iload_n 1, 1) := by decide +kernel
theorem dX12_waysBelow_106 : decode cX12_waysBelow 106 = .ok (.iaload, 1) := by decide +kernel
theorem dX12_waysBelow_107 : decode cX12_waysBelow 107 = .ok (.iconst (-1), 1) := by decide +kernel
theorem dX12_waysBelow_108 : decode cX12_waysBelow 108 = .ok (.if_icmp .ne 21, 3) := by decide +kernel
theorem dX12_waysBelow_111 : decode cX12_waysBelow 111 = .ok (.aload_n 0, 1) := by decide +kernel
theorem dX12_waysBelow_112 : decode cX12_waysBelow 112 = .ok (.iconst 1, 1) := by decide +kernel
theorem dX12_waysBelow_113 : decode cX12_waysBelow 113 = .ok (.aload_n 0, 1) := by decide +kernel
theorem dX12_waysBelow_114 : decode cX12_waysBelow 114 = .ok (.getfield 107, 3) := by decide +kernel
theorem dX12_waysBelow_117 : decode cX12_waysBelow 117 = .ok (.iload_n 1, 1) := by decide +kernel
theorem dX12_waysBelow_118 : decode cX12_waysBelow 118 = .ok (.iaload, 1) := by decide +kernel
theorem dX12_waysBelow_119 : decode cX12_waysBelow 119 = .ok (.iload_n 2, 1) := by decide +kernel
theorem dX12_waysBelow_120 : decode cX12_waysBelow 120 = .ok (.iload_n 3, 1) := by decide +kernel
theorem dX12_waysBelow_121 : decode cX12_waysBelow 121 = .ok (.iload 4, 2) := by decide +kernel
theorem dX12_waysBelow_123 : decode cX12_waysBelow 123 = .ok (.iload 5, 2) := by decide +kernel
theorem dX12_waysBelow_125 : decode cX12_waysBelow 125 = .ok (.invokevirtual 292, 3) := by decide +kernel
theorem dX12_waysBelow_128 : decode cX12_waysBelow 128 = .ok (.lreturn, 1) := by decide +kernel
theorem dX12_waysBelow_129 : decode cX12_waysBelow 129 = .ok (.lconst 0, 1) := by decide +kernel
theorem dX12_waysBelow_130 : decode cX12_waysBelow 130 = .ok (.lstore 6, 2) := by decide +kernel
theorem dX12_waysBelow_132 : decode cX12_waysBelow 132 = .ok (.iload_n 2, 1) := by decide +kernel
theorem dX12_waysBelow_133 : decode cX12_waysBelow 133 = .ok (.istore 8, 2) := by decide +kernel
theorem dX12_waysBelow_135 : decode cX12_waysBelow 135 = .ok (.iload 8, 2) := by decide +kernel
theorem dX12_waysBelow_137 : decode cX12_waysBelow 137 = .ok (.iload_n 3, 1) := by decide +kernel
theorem dX12_waysBelow_138 : decode cX12_waysBelow 138 = .ok (.if_icmp .gt 29, 3) := by decide +kernel
theorem dX12_waysBelow_141 : decode cX12_waysBelow 141 = .ok (.lload 6, 2) := by decide +kernel
theorem dX12_waysBelow_143 : decode cX12_waysBelow 143 = .ok (.aload_n 0, 1) := by decide +kernel
theorem dX12_waysBelow_144 : decode cX12_waysBelow 144 = .ok (.iload_n 1, 1) := by decide +kernel
theorem dX12_waysBelow_145 : decode cX12_waysBelow 145 = .ok (.iload_n 2, 1) := by decide +kernel
theorem dX12_waysBelow_146 : decode cX12_waysBelow 146 = .ok (.iload 8, 2) := by decide +kernel
theorem dX12_waysBelow_148 : decode cX12_waysBelow 148 = .ok (.iload_n 3, 1) := by decide +kernel
theorem dX12_waysBelow_149 : decode cX12_waysBelow 149 = .ok (.iload 4, 2) := by decide +kernel
theorem dX12_waysBelow_151 : decode cX12_waysBelow 151 = .ok (.iload 5, 2) := by decide +kernel
theorem dX12_waysBelow_153 : decode cX12_waysBelow 153 = .ok (.invokevirtual 314, 3) := by decide +kernel
theorem dX12_waysBelow_156 : decode cX12_waysBelow 156 = .ok (.invokestatic 304, 3) := by decide +kernel
theorem dX12_waysBelow_159 : decode cX12_waysBelow 159 = .ok (.lstore 6, 2) := by decide +kernel
theorem dX12_waysBelow_161 : decode cX12_waysBelow 161 = .ok (.iinc 8 1, 3) := by decide +kernel
theorem dX12_waysBelow_164 : decode cX12_waysBelow 164 = .ok (.goto (-29), 3) := by decide +kernel
theorem dX12_waysBelow_167 : decode cX12_waysBelow 167 = .ok (.lload 6, 2) := by decide +kernel
theorem dX12_waysBelow_169 : decode cX12_waysBelow 169 = .ok (.lreturn, 1) := by decide +kernel
theorem dX12_waysHosts_0 : decode cX12_waysHosts 0 = .ok (.lconst 0, 1) := by decide +kernel
theorem dX12_waysHosts_1 : decode cX12_waysHosts 1 = .ok (.lstore 4, 2) := by decide +kernel
theorem dX12_waysHosts_3 : decode cX12_waysHosts 3 = .ok (.iconst 0, 1) := by decide +kernel
theorem dX12_waysHosts_4 : decode cX12_waysHosts 4 = .ok (.istore 6, 2) := by decide +kernel
theorem dX12_waysHosts_6 : decode cX12_waysHosts 6 = .ok (.iload 6, 2) := by decide +kernel
theorem dX12_waysHosts_8 : decode cX12_waysHosts 8 = .ok (.aload_n 0, 1) := by decide +kernel
theorem dX12_waysHosts_9 : decode cX12_waysHosts 9 = .ok (.getfield 11, 3) := by decide +kernel
theorem dX12_waysHosts_12 : decode cX12_waysHosts 12 = .ok (.if_icmp .ge 47, 3) := by decide +kernel
theorem dX12_waysHosts_15 : decode cX12_waysHosts 15 = .ok (.aload_n 0, 1) := by decide +kernel
theorem dX12_waysHosts_16 : decode cX12_waysHosts 16 = .ok (.iload 6, 2) := by decide +kernel
theorem dX12_waysHosts_18 : decode cX12_waysHosts 18 = .ok (.aload_n 0, 1) := by decide +kernel
theorem dX12_waysHosts_19 : decode cX12_waysHosts 19 = .ok (.getfield 101, 3) := by decide +kernel
theorem dX12_waysHosts_22 : decode cX12_waysHosts 22 = .ok (.iload_n 1, 1) := by decide +kernel
theorem dX12_waysHosts_23 : decode cX12_waysHosts 23 = .ok (.iaload, 1) := by decide +kernel
theorem dX12_waysHosts_24 : decode cX12_waysHosts 24 = .ok (.iconst 0, 1) := by decide +kernel
theorem dX12_waysHosts_25 : decode cX12_waysHosts 25 = .ok (.invokevirtual 296, 3) := by decide +kernel
theorem dX12_waysHosts_28 : decode cX12_waysHosts 28 = .ok (.ifCond .eq 25, 3) := by decide +kernel
theorem dX12_waysHosts_31 : decode cX12_waysHosts 31 = .ok (.lload 4, 2) := by decide +kernel
theorem dX12_waysHosts_33 : decode cX12_waysHosts 33 = .ok (.aload_n 0, 1) := by decide +kernel
theorem dX12_waysHosts_34 : decode cX12_waysHosts 34 = .ok (.iconst 1, 1) := by decide +kernel
theorem dX12_waysHosts_35 : decode cX12_waysHosts 35 = .ok (.aload_n 0, 1) := by decide +kernel
theorem dX12_waysHosts_36 : decode cX12_waysHosts 36 = .ok (.iload 6, 2) := by decide +kernel
theorem dX12_waysHosts_38 : decode cX12_waysHosts 38 = .ok (.invokevirtual 268, 3) := by decide +kernel
theorem dX12_waysHosts_41 : decode cX12_waysHosts 41 = .ok (.iload_n 2, 1) := by decide +kernel
theorem dX12_waysHosts_42 : decode cX12_waysHosts 42 = .ok (.iload_n 3, 1) := by decide +kernel
theorem dX12_waysHosts_43 : decode cX12_waysHosts 43 = .ok (.iconst (-1), 1) := by decide +kernel
theorem dX12_waysHosts_44 : decode cX12_waysHosts 44 = .ok (.iconst (-1), 1) := by decide +kernel
theorem dX12_waysHosts_45 : decode cX12_waysHosts 45 = .ok (.invokevirtual 292, 3) := by decide +kernel
theorem dX12_waysHosts_48 : decode cX12_waysHosts 48 = .ok (.invokestatic 304, 3) := by decide +kernel
theorem dX12_waysHosts_51 : decode cX12_waysHosts 51 = .ok (.lstore 4, 2) := by decide +kernel
theorem dX12_waysHosts_53 : decode cX12_waysHosts 53 = .ok (.iinc 6 1, 3) := by decide +kernel
theorem dX12_waysHosts_56 : decode cX12_waysHosts 56 = .ok (.goto (-50), 3) := by decide +kernel
theorem dX12_waysHosts_59 : decode cX12_waysHosts 59 = .ok (.lload 4, 2) := by decide +kernel
theorem dX12_waysHosts_61 : decode cX12_waysHosts 61 = .ok (.lreturn, 1) := by decide +kernel
theorem dX12_canSplit_0 : decode cX12_canSplit 0 = .ok (.aload_n 0, 1) := by decide +kernel
theorem dX12_canSplit_1 : decode cX12_canSplit 1 = .ok (.getfield 167, 3) := by decide +kernel
theorem dX12_canSplit_4 : decode cX12_canSplit 4 = .ok (.aload_n 0, 1) := by decide +kernel
theorem dX12_canSplit_5 : decode cX12_canSplit 5 = .ok (.getfield 107, 3) := by decide +kernel
theorem dX12_canSplit_8 : decode cX12_canSplit 8 = .ok (.iload_n 1, 1) := by decide +kernel
theorem dX12_canSplit_9 : decode cX12_canSplit 9 = .ok (.iaload, 1) := by decide +kernel
theorem dX12_canSplit_10 : decode cX12_canSplit 10 = .ok (.baload, 1) := by decide +kernel
theorem dX12_canSplit_11 : decode cX12_canSplit 11 = .ok (.istore 7, 2) := by decide +kernel
theorem dX12_canSplit_13 : decode cX12_canSplit 13 = .ok (.aload_n 0, 1) := by decide +kernel
theorem dX12_canSplit_14 : decode cX12_canSplit 14 = .ok (.getfield 167, 3) := by decide +kernel
theorem dX12_canSplit_17 : decode cX12_canSplit 17 = .ok (.aload_n 0, 1) := by decide +kernel
theorem dX12_canSplit_18 : decode cX12_canSplit 18 = .ok (.getfield 110, 3) := by decide +kernel
theorem dX12_canSplit_21 : decode cX12_canSplit 21 = .ok (.iload_n 1, 1) := by decide +kernel
theorem dX12_canSplit_22 : decode cX12_canSplit 22 = .ok (.iaload, 1) := by decide +kernel
theorem dX12_canSplit_23 : decode cX12_canSplit 23 = .ok (.baload, 1) := by decide +kernel
theorem dX12_canSplit_24 : decode cX12_canSplit 24 = .ok (.istore 8, 2) := by decide +kernel
theorem dX12_canSplit_26 : decode cX12_canSplit 26 = .ok (.iload 7, 2) := by decide +kernel
theorem dX12_canSplit_28 : decode cX12_canSplit 28 = .ok (.ifCond .eq 9, 3) := by decide +kernel
theorem dX12_canSplit_31 : decode cX12_canSplit 31 = .ok (.iload 6, 2) := by decide +kernel
theorem dX12_canSplit_33 : decode cX12_canSplit 33 = .ok (.iload_n 3, 1) := by decide +kernel
theorem dX12_canSplit_34 : decode cX12_canSplit 34 = .ok (.if_icmp .gt 14, 3) := by decide +kernel
theorem dX12_canSplit_37 : decode cX12_canSplit 37 = .ok (.iload 8, 2) := by decide +kernel
theorem dX12_canSplit_39 : decode cX12_canSplit 39 = .ok (.ifCond .eq 11, 3) := by decide +kernel
theorem dX12_canSplit_42 : decode cX12_canSplit 42 = .ok (.iload 5, 2) := by decide +kernel
theorem dX12_canSplit_44 : decode cX12_canSplit 44 = .ok (.iload_n 3, 1) := by decide +kernel
theorem dX12_canSplit_45 : decode cX12_canSplit 45 = .ok (.if_icmp .ge 5, 3) := by decide +kernel
theorem dX12_canSplit_48 : decode cX12_canSplit 48 = .ok (.iconst 0, 1) := by decide +kernel
theorem dX12_canSplit_49 : decode cX12_canSplit 49 = .ok (.ireturn, 1) := by decide +kernel
theorem dX12_canSplit_50 : decode cX12_canSplit 50 = .ok (.aload_n 0, 1) := by decide +kernel
theorem dX12_canSplit_51 : decode cX12_canSplit 51 = .ok (.aload_n 0, 1) := by decide +kernel
theorem dX12_canSplit_52 : decode cX12_canSplit 52 = .ok (.getfield 107, 3) := by decide +kernel
theorem dX12_canSplit_55 : decode cX12_canSplit 55 = .ok (.iload_n 1, 1) := by decide +kernel
theorem dX12_canSplit_56 : decode cX12_canSplit 56 = .ok (.iaload, 1) := by decide +kernel
theorem dX12_canSplit_57 : decode cX12_canSplit 57 = .ok (.iload_n 2, 1) := by decide +kernel
theorem dX12_canSplit_58 : decode cX12_canSplit 58 = .ok (.iload_n 3, 1) := by decide +kernel
theorem dX12_canSplit_59 : decode cX12_canSplit 59 = .ok (.iload 7, 2) := by decide +kernel
theorem dX12_canSplit_61 : decode cX12_canSplit 61 = .ok (.ifCond .eq 8, 3) := by decide +kernel
theorem dX12_canSplit_64 : decode cX12_canSplit 64 = .ok (.iload 5, 2) := by decide +kernel
theorem dX12_canSplit_66 : decode cX12_canSplit 66 = .ok (.goto 4, 3) := by decide +kernel
theorem dX12_canSplit_69 : decode cX12_canSplit 69 = .ok (.iconst (-1), 1) := by decide +kernel
theorem dX12_canSplit_70 : decode cX12_canSplit 70 = .ok (.iload 7, 2) := by decide +kernel
theorem dX12_canSplit_72 : decode cX12_canSplit 72 = .ok (.ifCond .eq 8, 3) := by decide +kernel
theorem dX12_canSplit_75 : decode cX12_canSplit 75 = .ok (.iload 6, 2) := by decide +kernel
theorem dX12_canSplit_77 : decode cX12_canSplit 77 = .ok (.goto 4, 3) := by decide +kernel
theorem dX12_canSplit_80 : decode cX12_canSplit 80 = .ok (.iconst (-1), 1) := by decide +kernel
theorem dX12_canSplit_81 : decode cX12_canSplit 81 = .ok (.invokevirtual 274, 3) := by decide +kernel
theorem dX12_canSplit_84 : decode cX12_canSplit 84 = .ok (.ifCond .eq 45, 3) := by decide +kernel
theorem dX12_canSplit_87 : decode cX12_canSplit 87 = .ok (.aload_n 0, 1) := by decide +kernel
theorem dX12_canSplit_88 : decode cX12_canSplit 88 = .ok (.aload_n 0, 1) := by decide +kernel
theorem dX12_canSplit_89 : decode cX12_canSplit 89 = .ok (.getfield 110, 3) := by decide +kernel
theorem dX12_canSplit_92 : decode cX12_canSplit 92 = .ok (.iload_n 1, 1) := by decide +kernel
theorem dX12_canSplit_93 : decode cX12_canSplit 93 = .ok (.iaload, 1) := by decide +kernel
theorem dX12_canSplit_94 : decode cX12_canSplit 94 = .ok (.iload_n 3, 1) := by decide +kernel
theorem dX12_canSplit_95 : decode cX12_canSplit 95 = .ok (.iload 4, 2) := by decide +kernel
theorem dX12_canSplit_97 : decode cX12_canSplit 97 = .ok (.iload 8, 2) := by decide +kernel
theorem dX12_canSplit_99 : decode cX12_canSplit 99 = .ok (.ifCond .eq 8, 3) := by decide +kernel
theorem dX12_canSplit_102 : decode cX12_canSplit 102 = .ok (.iload 5, 2) := by decide +kernel
theorem dX12_canSplit_104 : decode cX12_canSplit 104 = .ok (.goto 4, 3) := by decide +kernel
theorem dX12_canSplit_107 : decode cX12_canSplit 107 = .ok (.iconst (-1), 1) := by decide +kernel
theorem dX12_canSplit_108 : decode cX12_canSplit 108 = .ok (.iload 8, 2) := by decide +kernel
theorem dX12_canSplit_110 : decode cX12_canSplit 110 = .ok (.ifCond .eq 8, 3) := by decide +kernel
theorem dX12_canSplit_113 : decode cX12_canSplit 113 = .ok (.iload 6, 2) := by decide +kernel
theorem dX12_canSplit_115 : decode cX12_canSplit 115 = .ok (.goto 4, 3) := by decide +kernel
theorem dX12_canSplit_118 : decode cX12_canSplit 118 = .ok (.iconst (-1), 1) := by decide +kernel
theorem dX12_canSplit_119 : decode cX12_canSplit 119 = .ok (.invokevirtual 274, 3) := by decide +kernel
theorem dX12_canSplit_122 : decode cX12_canSplit 122 = .ok (.ifCond .eq 7, 3) := by decide +kernel
theorem dX12_canSplit_125 : decode cX12_canSplit 125 = .ok (.iconst 1, 1) := by decide +kernel
theorem dX12_canSplit_126 : decode cX12_canSplit 126 = .ok (.goto 4, 3) := by decide +kernel
theorem dX12_canSplit_129 : decode cX12_canSplit 129 = .ok (.iconst 0, 1) := by decide +kernel
theorem dX12_canSplit_130 : decode cX12_canSplit 130 = .ok (.ireturn, 1) := by decide +kernel
theorem dX12_waysFirst_0 : decode cX12_waysFirst 0 = .ok (.aload_n 0, 1) := by decide +kernel
theorem dX12_waysFirst_1 : decode cX12_waysFirst 1 = .ok (.getfield 167, 3) := by decide +kernel
theorem dX12_waysFirst_4 : decode cX12_waysFirst 4 = .ok (.aload_n 0, 1) := by decide +kernel
theorem dX12_waysFirst_5 : decode cX12_waysFirst 5 = .ok (.getfield 107, 3) := by decide +kernel
theorem dX12_waysFirst_8 : decode cX12_waysFirst 8 = .ok (.iload_n 1, 1) := by decide +kernel
theorem dX12_waysFirst_9 : decode cX12_waysFirst 9 = .ok (.iaload, 1) := by decide +kernel
theorem dX12_waysFirst_10 : decode cX12_waysFirst 10 = .ok (.baload, 1) := by decide +kernel
theorem dX12_waysFirst_11 : decode cX12_waysFirst 11 = .ok (.istore 6, 2) := by decide +kernel
theorem dX12_waysFirst_13 : decode cX12_waysFirst 13 = .ok (.aload_n 0, 1) := by decide +kernel
theorem dX12_waysFirst_14 : decode cX12_waysFirst 14 = .ok (.iconst 1, 1) := by decide +kernel
theorem dX12_waysFirst_15 : decode cX12_waysFirst 15 = .ok (.aload_n 0, 1) := by decide +kernel
theorem dX12_waysFirst_16 : decode cX12_waysFirst 16 = .ok (.getfield 107, 3) := by decide +kernel
theorem dX12_waysFirst_19 : decode cX12_waysFirst 19 = .ok (.iload_n 1, 1) := by decide +kernel
theorem dX12_waysFirst_20 : decode cX12_waysFirst 20 = .ok (.iaload, 1) := by decide +kernel
theorem dX12_waysFirst_21 : decode cX12_waysFirst 21 = .ok (.iload_n 2, 1) := by decide +kernel
theorem dX12_waysFirst_22 : decode cX12_waysFirst 22 = .ok (.iload_n 3, 1) := by decide +kernel
theorem dX12_waysFirst_23 : decode cX12_waysFirst 23 = .ok (.iload 6, 2) := by decide +kernel
theorem dX12_waysFirst_25 : decode cX12_waysFirst 25 = .ok (.ifCond .eq 8, 3) := by decide +kernel
theorem dX12_waysFirst_28 : decode cX12_waysFirst 28 = .ok (.iload 4, 2) := by decide +kernel
theorem dX12_waysFirst_30 : decode cX12_waysFirst 30 = .ok (.goto 4, 3) := by decide +kernel
theorem dX12_waysFirst_33 : decode cX12_waysFirst 33 = .ok (.iconst (-1), 1) := by decide +kernel
theorem dX12_waysFirst_34 : decode cX12_waysFirst 34 = .ok (.iload 6, 2) := by decide +kernel
theorem dX12_waysFirst_36 : decode cX12_waysFirst 36 = .ok (.ifCond .eq 8, 3) := by decide +kernel
theorem dX12_waysFirst_39 : decode cX12_waysFirst 39 = .ok (.iload 5, 2) := by decide +kernel
theorem dX12_waysFirst_41 : decode cX12_waysFirst 41 = .ok (.goto 4, 3) := by decide +kernel
theorem dX12_waysFirst_44 : decode cX12_waysFirst 44 = .ok (.iconst (-1), 1) := by decide +kernel
theorem dX12_waysFirst_45 : decode cX12_waysFirst 45 = .ok (.invokevirtual 292, 3) := by decide +kernel
theorem dX12_waysFirst_48 : decode cX12_waysFirst 48 = .ok (.lreturn, 1) := by decide +kernel
theorem dX12_waysSecond_0 : decode cX12_waysSecond 0 = .ok (.aload_n 0, 1) := by decide +kernel
theorem dX12_waysSecond_1 : decode cX12_waysSecond 1 = .ok (.getfield 167, 3) := by decide +kernel
theorem dX12_waysSecond_4 : decode cX12_waysSecond 4 = .ok (.aload_n 0, 1) := by decide +kernel
theorem dX12_waysSecond_5 : decode cX12_waysSecond 5 = .ok (.getfield 110, 3) := by decide +kernel
theorem dX12_waysSecond_8 : decode cX12_waysSecond 8 = .ok (.iload_n 1, 1) := by decide +kernel
theorem dX12_waysSecond_9 : decode cX12_waysSecond 9 = .ok (.iaload, 1) := by decide +kernel
theorem dX12_waysSecond_10 : decode cX12_waysSecond 10 = .ok (.baload, 1) := by decide +kernel
theorem dX12_waysSecond_11 : decode cX12_waysSecond 11 = .ok (.istore 6, 2) := by decide +kernel
theorem dX12_waysSecond_13 : decode cX12_waysSecond 13 = .ok (.aload_n 0, 1) := by decide +kernel
theorem dX12_waysSecond_14 : decode cX12_waysSecond 14 = .ok (.iconst 1, 1) := by decide +kernel
theorem dX12_waysSecond_15 : decode cX12_waysSecond 15 = .ok (.aload_n 0, 1) := by decide +kernel
theorem dX12_waysSecond_16 : decode cX12_waysSecond 16 = .ok (.getfield 110, 3) := by decide +kernel
theorem dX12_waysSecond_19 : decode cX12_waysSecond 19 = .ok (.iload_n 1, 1) := by decide +kernel
theorem dX12_waysSecond_20 : decode cX12_waysSecond 20 = .ok (.iaload, 1) := by decide +kernel
theorem dX12_waysSecond_21 : decode cX12_waysSecond 21 = .ok (.iload_n 2, 1) := by decide +kernel
theorem dX12_waysSecond_22 : decode cX12_waysSecond 22 = .ok (.iload_n 3, 1) := by decide +kernel
theorem dX12_waysSecond_23 : decode cX12_waysSecond 23 = .ok (.iload 6, 2) := by decide +kernel
theorem dX12_waysSecond_25 : decode cX12_waysSecond 25 = .ok (.ifCond .eq 8, 3) := by decide +kernel
theorem dX12_waysSecond_28 : decode cX12_waysSecond 28 = .ok (.iload 4, 2) := by decide +kernel
theorem dX12_waysSecond_30 : decode cX12_waysSecond 30 = .ok (.goto 4, 3) := by decide +kernel
theorem dX12_waysSecond_33 : decode cX12_waysSecond 33 = .ok (.iconst (-1), 1) := by decide +kernel
theorem dX12_waysSecond_34 : decode cX12_waysSecond 34 = .ok (.iload 6, 2) := by decide +kernel
theorem dX12_waysSecond_36 : decode cX12_waysSecond 36 = .ok (.ifCond .eq 8, 3) := by decide +kernel
theorem dX12_waysSecond_39 : decode cX12_waysSecond 39 = .ok (.iload 5, 2) := by decide +kernel
theorem dX12_waysSecond_41 : decode cX12_waysSecond 41 = .ok (.goto 4, 3) := by decide +kernel
theorem dX12_waysSecond_44 : decode cX12_waysSecond 44 = .ok (.iconst (-1), 1) := by decide +kernel
theorem dX12_waysSecond_45 : decode cX12_waysSecond 45 = .ok (.invokevirtual 292, 3) := by decide +kernel
theorem dX12_waysSecond_48 : decode cX12_waysSecond 48 = .ok (.lreturn, 1) := by decide +kernel
theorem dX12_waysSplit_0 : decode cX12_waysSplit 0 = .ok (.aload_n 0, 1) := by decide +kernel
theorem dX12_waysSplit_1 : decode cX12_waysSplit 1 = .ok (.iload_n 1, 1) := by decide +kernel
theorem dX12_waysSplit_2 : decode cX12_waysSplit 2 = .ok (.iload_n 2, 1) := by decide +kernel
theorem dX12_waysSplit_3 : decode cX12_waysSplit 3 = .ok (.iload_n 3, 1) := by decide +kernel
theorem dX12_waysSplit_4 : decode cX12_waysSplit 4 = .ok (.iload 4, 2) := by decide +kernel
theorem dX12_waysSplit_6 : decode cX12_waysSplit 6 = .ok (.iload 5, 2) := by decide +kernel
theorem dX12_waysSplit_8 : decode cX12_waysSplit 8 = .ok (.iload 6, 2) := by decide +kernel
theorem dX12_waysSplit_10 : decode cX12_waysSplit 10 = .ok (.invokevirtual 317, 3) := by decide +kernel
theorem dX12_waysSplit_13 : decode cX12_waysSplit 13 = .ok (.ifCond .ne 5, 3) := by decide +kernel
theorem dX12_waysSplit_16 : decode cX12_waysSplit 16 = .ok (.lconst 0, 1) := by decide +kernel
theorem dX12_waysSplit_17 : decode cX12_waysSplit 17 = .ok (.lreturn, 1) := by decide +kernel
theorem dX12_waysSplit_18 : decode cX12_waysSplit 18 = .ok (.aload_n 0, 1) := by decide +kernel
theorem dX12_waysSplit_19 : decode cX12_waysSplit 19 = .ok (.iload_n 1, 1) := by decide +kernel
theorem dX12_waysSplit_20 : decode cX12_waysSplit 20 = .ok (.iload_n 2, 1) := by decide +kernel
theorem dX12_waysSplit_21 : decode cX12_waysSplit 21 = .ok (.iload_n 3, 1) := by decide +kernel
theorem dX12_waysSplit_22 : decode cX12_waysSplit 22 = .ok (.iload 5, 2) := by decide +kernel
theorem dX12_waysSplit_24 : decode cX12_waysSplit 24 = .ok (.iload 6, 2) := by decide +kernel
theorem dX12_waysSplit_26 : decode cX12_waysSplit 26 = .ok (.invokevirtual 321, 3) := by decide +kernel
theorem dX12_waysSplit_29 : decode cX12_waysSplit 29 = .ok (.aload_n 0, 1) := by decide +kernel
theorem dX12_waysSplit_30 : decode cX12_waysSplit 30 = .ok (.iload_n 1, 1) := by decide +kernel
theorem dX12_waysSplit_31 : decode cX12_waysSplit 31 = .ok (.iload_n 3, 1) := by decide +kernel
theorem dX12_waysSplit_32 : decode cX12_waysSplit 32 = .ok (.iload 4, 2) := by decide +kernel
theorem dX12_waysSplit_34 : decode cX12_waysSplit 34 = .ok (.iload 5, 2) := by decide +kernel
theorem dX12_waysSplit_36 : decode cX12_waysSplit 36 = .ok (.iload 6, 2) := by decide +kernel
theorem dX12_waysSplit_38 : decode cX12_waysSplit 38 = .ok (.invokevirtual 324, 3) := by decide +kernel
theorem dX12_waysSplit_41 : decode cX12_waysSplit 41 = .ok (.invokestatic 307, 3) := by decide +kernel
