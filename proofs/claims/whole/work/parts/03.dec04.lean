theorem dX11_node_1 : decode cX11_node 1 = .ok (.getfield 100, 3) := by decide +kernel
theorem dX11_node_4 : decode cX11_node 4 = .ok (.iload_n 1, 1) := by decide +kernel
theorem dX11_node_5 : decode cX11_node 5 = .ok (.iload_n 2, 1) := by decide +kernel
theorem dX11_node_6 : decode cX11_node 6 = .ok (.invokevirtual 186, 3) := by decide +kernel
theorem dX11_node_9 : decode cX11_node 9 = .ok (.ifCond .ne 6, 3) := by decide +kernel
theorem dX11_node_12 : decode cX11_node 12 = .ok (.bipush (-2), 2) := by decide +kernel
theorem dX11_node_14 : decode cX11_node 14 = .ok (.ireturn, 1) := by decide +kernel
theorem dX11_node_15 : decode cX11_node 15 = .ok (.aload_n 0, 1) := by decide +kernel
theorem dX11_node_16 : decode cX11_node 16 = .ok (.getfield 100, 3) := by decide +kernel
theorem dX11_node_19 : decode cX11_node 19 = .ok (.getfield 176, 3) := by decide +kernel
theorem dX11_node_22 : decode cX11_node 22 = .ok (.iload_n 1, 1) := by decide +kernel
theorem dX11_node_23 : decode cX11_node 23 = .ok (.iaload, 1) := by decide +kernel
theorem dX11_node_24 : decode cX11_node 24 = .ok (.istore 4, 2) := by decide +kernel
theorem dX11_node_26 : decode cX11_node 26 = .ok (.iload 4, 2) := by decide +kernel
theorem dX11_node_28 : decode cX11_node 28 = .ok (.iload_n 2, 1) := by decide +kernel
theorem dX11_node_29 : decode cX11_node 29 = .ok (.iadd, 1) := by decide +kernel
theorem dX11_node_30 : decode cX11_node 30 = .ok (.istore 5, 2) := by decide +kernel
theorem dX11_node_32 : decode cX11_node 32 = .ok (.iload_n 3, 1) := by decide +kernel
theorem dX11_node_33 : decode cX11_node 33 = .ok (.tableswitch 143 0 6 #[43, 54, 65, 76, 92, 108, 124], 43) := by decide +kernel
theorem dX11_node_76 : decode cX11_node 76 = .ok (.aload_n 0, 1) := by decide +kernel
theorem dX11_node_77 : decode cX11_node 77 = .ok (.getfield 100, 3) := by decide +kernel
theorem dX11_node_80 : decode cX11_node 80 = .ok (.getfield 190, 3) := by decide +kernel
theorem dX11_node_83 : decode cX11_node 83 = .ok (.iload 5, 2) := by decide +kernel
theorem dX11_node_85 : decode cX11_node 85 = .ok (.iaload, 1) := by decide +kernel
theorem dX11_node_86 : decode cX11_node 86 = .ok (.ireturn, 1) := by decide +kernel
theorem dX11_node_87 : decode cX11_node 87 = .ok (.aload_n 0, 1) := by decide +kernel
theorem dX11_node_88 : decode cX11_node 88 = .ok (.getfield 100, 3) := by decide +kernel
theorem dX11_node_91 : decode cX11_node 91 = .ok (.getfield 173, 3) := by decide +kernel
theorem dX11_node_94 : decode cX11_node 94 = .ok (.iload 5, 2) := by decide +kernel
theorem dX11_node_96 : decode cX11_node 96 = .ok (.iaload, 1) := by decide +kernel
theorem dX11_node_97 : decode cX11_node 97 = .ok (.ireturn, 1) := by decide +kernel
theorem dX11_node_98 : decode cX11_node 98 = .ok (.aload_n 0, 1) := by decide +kernel
theorem dX11_node_99 : decode cX11_node 99 = .ok (.getfield 100, 3) := by decide +kernel
theorem dX11_node_102 : decode cX11_node 102 = .ok (.getfield 193, 3) := by decide +kernel
theorem dX11_node_105 : decode cX11_node 105 = .ok (.iload 5, 2) := by decide +kernel
theorem dX11_node_107 : decode cX11_node 107 = .ok (.iaload, 1) := by decide +kernel
theorem dX11_node_108 : decode cX11_node 108 = .ok (.ireturn, 1) := by decide +kernel
theorem dX11_node_109 : decode cX11_node 109 = .ok (.iload 4, 2) := by decide +kernel
theorem dX11_node_111 : decode cX11_node 111 = .ok (.aload_n 0, 1) := by decide +kernel
theorem dX11_node_112 : decode cX11_node 112 = .ok (.getfield 100, 3) := by decide +kernel
theorem dX11_node_115 : decode cX11_node 115 = .ok (.getfield 196, 3) := by decide +kernel
theorem dX11_node_118 : decode cX11_node 118 = .ok (.iload 5, 2) := by decide +kernel
theorem dX11_node_120 : decode cX11_node 120 = .ok (.iaload, 1) := by decide +kernel
theorem dX11_node_121 : decode cX11_node 121 = .ok (.invokestatic 199, 3) := by decide +kernel
theorem dX11_node_124 : decode cX11_node 124 = .ok (.ireturn, 1) := by decide +kernel
theorem dX11_node_125 : decode cX11_node 125 = .ok (.iload 4, 2) := by decide +kernel
theorem dX11_node_127 : decode cX11_node 127 = .ok (.aload_n 0, 1) := by decide +kernel
theorem dX11_node_128 : decode cX11_node 128 = .ok (.getfield 100, 3) := by decide +kernel
theorem dX11_node_131 : decode cX11_node 131 = .ok (.getfield 202, 3) := by decide +kernel
theorem dX11_node_134 : decode cX11_node 134 = .ok (.iload 5, 2) := by decide +kernel
theorem dX11_node_136 : decode cX11_node 136 = .ok (.iaload, 1) := by decide +kernel
theorem dX11_node_137 : decode cX11_node 137 = .ok (.invokestatic 199, 3) := by decide +kernel
theorem dX11_node_140 : decode cX11_node 140 = .ok (.ireturn, 1) := by decide +kernel
theorem dX11_node_141 : decode cX11_node 141 = .ok (.iload 4, 2) := by decide +kernel
theorem dX11_node_143 : decode cX11_node 143 = .ok (.aload_n 0, 1) := by decide +kernel
theorem dX11_node_144 : decode cX11_node 144 = .ok (.getfield 100, 3) := by decide +kernel
theorem dX11_node_147 : decode cX11_node 147 = .ok (.getfield 205, 3) := by decide +kernel
theorem dX11_node_150 : decode cX11_node 150 = .ok (.iload 5, 2) := by decide +kernel
theorem dX11_node_152 : decode cX11_node 152 = .ok (.iaload, 1) := by decide +kernel
theorem dX11_node_153 : decode cX11_node 153 = .ok (.invokestatic 199, 3) := by decide +kernel
theorem dX11_node_156 : decode cX11_node 156 = .ok (.ireturn, 1) := by decide +kernel
theorem dX11_node_157 : decode cX11_node 157 = .ok (.aload_n 0, 1) := by decide +kernel
theorem dX11_node_158 : decode cX11_node 158 = .ok (.getfield 100, 3) := by decide +kernel
theorem dX11_node_161 : decode cX11_node 161 = .ok (.getfield 208, 3) := by decide +kernel
theorem dX11_node_164 : decode cX11_node 164 = .ok (.iload 5, 2) := by decide +kernel
theorem dX11_node_166 : decode cX11_node 166 = .ok (.baload, 1) := by decide +kernel
theorem dX11_node_167 : decode cX11_node 167 = .ok (.ifCond .eq 7, 3) := by decide +kernel
theorem dX11_node_170 : decode cX11_node 170 = .ok (.iconst 1, 1) := by decide +kernel
theorem dX11_node_171 : decode cX11_node 171 = .ok (.goto 4, 3) := by decide +kernel
theorem dX11_node_174 : decode cX11_node 174 = .ok (.iconst 0, 1) := by decide +kernel
theorem dX11_node_175 : decode cX11_node 175 = .ok (.ireturn, 1) := by decide +kernel
theorem dX11_node_176 : decode cX11_node 176 = .ok (.bipush (-2), 2) := by decide +kernel
theorem dX11_node_178 : decode cX11_node 178 = .ok (.ireturn, 1) := by decide +kernel
theorem dX11_out_0 : decode cX11_out 0 = .ok (.aload_n 0, 1) := by decide +kernel
theorem dX11_out_1 : decode cX11_out 1 = .ok (.getfield 100, 3) := by decide +kernel
theorem dX11_out_4 : decode cX11_out 4 = .ok (.iload_n 1, 1) := by decide +kernel
theorem dX11_out_5 : decode cX11_out 5 = .ok (.invokevirtual 167, 3) := by decide +kernel
theorem dX11_out_8 : decode cX11_out 8 = .ok (.ifCond .eq 12, 3) := by decide +kernel
theorem dX11_out_11 : decode cX11_out 11 = .ok (.iload_n 2, 1) := by decide +kernel
theorem dX11_out_12 : decode cX11_out 12 = .ok (.ifCond .lt 8, 3) := by decide +kernel
theorem dX11_out_15 : decode cX11_out 15 = .ok (.iload_n 2, 1) := by decide +kernel
theorem dX11_out_16 : decode cX11_out 16 = .ok (.iconst 1, 1) := by decide +kernel
theorem dX11_out_17 : decode cX11_out 17 = .ok (.if_icmp .le 6, 3) := by decide +kernel
theorem dX11_out_20 : decode cX11_out 20 = .ok (.bipush (-2), 2) := by decide +kernel
theorem dX11_out_22 : decode cX11_out 22 = .ok (.ireturn, 1) := by decide +kernel
theorem dX11_out_23 : decode cX11_out 23 = .ok (.aload_n 0, 1) := by decide +kernel
theorem dX11_out_24 : decode cX11_out 24 = .ok (.getfield 100, 3) := by decide +kernel
theorem dX11_out_27 : decode cX11_out 27 = .ok (.getfield 158, 3) := by decide +kernel
theorem dX11_out_30 : decode cX11_out 30 = .ok (.iload_n 1, 1) := by decide +kernel
theorem dX11_out_31 : decode cX11_out 31 = .ok (.ishr, 1) := by decide +kernel
theorem dX11_out_32 : decode cX11_out 32 = .ok (.iconst 1, 1) := by decide +kernel
theorem dX11_out_33 : decode cX11_out 33 = .ok (.iand, 1) := by decide +kernel
theorem dX11_out_34 : decode cX11_out 34 = .ok (.iload_n 2, 1) := by decide +kernel
theorem dX11_out_35 : decode cX11_out 35 = .ok (.if_icmp .ne 5, 3) := by decide +kernel
theorem dX11_out_38 : decode cX11_out 38 = .ok (.iconst 0, 1) := by decide +kernel
theorem dX11_out_39 : decode cX11_out 39 = .ok (.ireturn, 1) := by decide +kernel
theorem dX11_out_40 : decode cX11_out 40 = .ok (.aload_n 0, 1) := by decide +kernel
theorem dX11_out_41 : decode cX11_out 41 = .ok (.getfield 100, 3) := by decide +kernel
theorem dX11_out_44 : decode cX11_out 44 = .ok (.dup, 1) := by decide +kernel
theorem dX11_out_45 : decode cX11_out 45 = .ok (.getfield 158, 3) := by decide +kernel
theorem dX11_out_48 : decode cX11_out 48 = .ok (.iconst 1, 1) := by decide +kernel
theorem dX11_out_49 : decode cX11_out 49 = .ok (.iload_n 1, 1) := by decide +kernel
theorem dX11_out_50 : decode cX11_out 50 = .ok (.ishl, 1) := by decide +kernel
theorem dX11_out_51 : decode cX11_out 51 = .ok (.ixor, 1) := by decide +kernel
theorem dX11_out_52 : decode cX11_out 52 = .ok (.putfield 158, 3) := by decide +kernel
theorem dX11_out_55 : decode cX11_out 55 = .ok (.aload_n 0, 1) := by decide +kernel
theorem dX11_out_56 : decode cX11_out 56 = .ok (.iconst 0, 1) := by decide +kernel
theorem dX11_out_57 : decode cX11_out 57 = .ok (.putfield 107, 3) := by decide +kernel
theorem dX11_out_60 : decode cX11_out 60 = .ok (.iconst 1, 1) := by decide +kernel
theorem dX11_out_61 : decode cX11_out 61 = .ok (.ireturn, 1) := by decide +kernel
theorem dX11_marks_0 : decode cX11_marks 0 = .ok (.aload_n 0, 1) := by decide +kernel
theorem dX11_marks_1 : decode cX11_marks 1 = .ok (.getfield 100, 3) := by decide +kernel
theorem dX11_marks_4 : decode cX11_marks 4 = .ok (.iload_n 1, 1) := by decide +kernel
theorem dX11_marks_5 : decode cX11_marks 5 = .ok (.iload_n 2, 1) := by decide +kernel
theorem dX11_marks_6 : decode cX11_marks 6 = .ok (.invokevirtual 186, 3) := by decide +kernel
theorem dX11_marks_9 : decode cX11_marks 9 = .ok (.ifCond .eq 12, 3) := by decide +kernel
theorem dX11_marks_12 : decode cX11_marks 12 = .ok (.iload_n 3, 1) := by decide +kernel
theorem dX11_marks_13 : decode cX11_marks 13 = .ok (.ifCond .lt 8, 3) := by decide +kernel
theorem dX11_marks_16 : decode cX11_marks 16 = .ok (.iload_n 3, 1) := by decide +kernel
theorem dX11_marks_17 : decode cX11_marks 17 = .ok (.iconst 2, 1) := by decide +kernel
theorem dX11_marks_18 : decode cX11_marks 18 = .ok (.if_icmp .le 6, 3) := by decide +kernel
theorem dX11_marks_21 : decode cX11_marks 21 = .ok (.bipush (-2), 2) := by decide +kernel
theorem dX11_marks_23 : decode cX11_marks 23 = .ok (.ireturn, 1) := by decide +kernel
theorem dX11_marks_24 : decode cX11_marks 24 = .ok (.aload_n 0, 1) := by decide +kernel
theorem dX11_marks_25 : decode cX11_marks 25 = .ok (.getfield 100, 3) := by decide +kernel
theorem dX11_marks_28 : decode cX11_marks 28 = .ok (.getfield 176, 3) := by decide +kernel
theorem dX11_marks_31 : decode cX11_marks 31 = .ok (.iload_n 1, 1) := by decide +kernel
theorem dX11_marks_32 : decode cX11_marks 32 = .ok (.iaload, 1) := by decide +kernel
theorem dX11_marks_33 : decode cX11_marks 33 = .ok (.iload_n 2, 1) := by decide +kernel
theorem dX11_marks_34 : decode cX11_marks 34 = .ok (.iadd, 1) := by decide +kernel
theorem dX11_marks_35 : decode cX11_marks 35 = .ok (.istore 4, 2) := by decide +kernel
theorem dX11_marks_37 : decode cX11_marks 37 = .ok (.aload_n 0, 1) := by decide +kernel
theorem dX11_marks_38 : decode cX11_marks 38 = .ok (.getfield 100, 3) := by decide +kernel
theorem dX11_marks_41 : decode cX11_marks 41 = .ok (.getfield 190, 3) := by decide +kernel
theorem dX11_marks_44 : decode cX11_marks 44 = .ok (.iload 4, 2) := by decide +kernel
theorem dX11_marks_46 : decode cX11_marks 46 = .ok (.iaload, 1) := by decide +kernel
theorem dX11_marks_47 : decode cX11_marks 47 = .ok (.ifCond .eq 6, 3) := by decide +kernel
theorem dX11_marks_50 : decode cX11_marks 50 = .ok (.bipush (-2), 2) := by decide +kernel
theorem dX11_marks_52 : decode cX11_marks 52 = .ok (.ireturn, 1) := by decide +kernel
theorem dX11_marks_53 : decode cX11_marks 53 = .ok (.aload_n 0, 1) := by decide +kernel
theorem dX11_marks_54 : decode cX11_marks 54 = .ok (.getfield 100, 3) := by decide +kernel
theorem dX11_marks_57 : decode cX11_marks 57 = .ok (.getfield 193, 3) := by decide +kernel
theorem dX11_marks_60 : decode cX11_marks 60 = .ok (.iload 4, 2) := by decide +kernel
theorem dX11_marks_62 : decode cX11_marks 62 = .ok (.iaload, 1) := by decide +kernel
theorem dX11_marks_63 : decode cX11_marks 63 = .ok (.istore 5, 2) := by decide +kernel
theorem dX11_marks_65 : decode cX11_marks 65 = .ok (.aload_n 0, 1) := by decide +kernel
theorem dX11_marks_66 : decode cX11_marks 66 = .ok (.getfield 100, 3) := by decide +kernel
theorem dX11_marks_69 : decode cX11_marks 69 = .ok (.getfield 193, 3) := by decide +kernel
theorem dX11_marks_72 : decode cX11_marks 72 = .ok (.iload 4, 2) := by decide +kernel
theorem dX11_marks_74 : decode cX11_marks 74 = .ok (.iload_n 3, 1) := by decide +kernel
theorem dX11_marks_75 : decode cX11_marks 75 = .ok (.iastore, 1) := by decide +kernel
theorem dX11_marks_76 : decode cX11_marks 76 = .ok (.iload 5, 2) := by decide +kernel
theorem dX11_marks_78 : decode cX11_marks 78 = .ok (.iload_n 3, 1) := by decide +kernel
theorem dX11_marks_79 : decode cX11_marks 79 = .ok (.if_icmp .eq 8, 3) := by decide +kernel
theorem dX11_marks_82 : decode cX11_marks 82 = .ok (.aload_n 0, 1) := by decide +kernel
theorem dX11_marks_83 : decode cX11_marks 83 = .ok (.iconst 0, 1) := by decide +kernel
theorem dX11_marks_84 : decode cX11_marks 84 = .ok (.putfield 107, 3) := by decide +kernel
theorem dX11_marks_87 : decode cX11_marks 87 = .ok (.iload 5, 2) := by decide +kernel
theorem dX11_marks_89 : decode cX11_marks 89 = .ok (.ireturn, 1) := by decide +kernel
theorem dX11_over_0 : decode cX11_over 0 = .ok (.aload_n 0, 1) := by decide +kernel
theorem dX11_over_1 : decode cX11_over 1 = .ok (.getfield 100, 3) := by decide +kernel
theorem dX11_over_4 : decode cX11_over 4 = .ok (.iload_n 1, 1) := by decide +kernel
theorem dX11_over_5 : decode cX11_over 5 = .ok (.iload_n 2, 1) := by decide +kernel
theorem dX11_over_6 : decode cX11_over 6 = .ok (.invokevirtual 186, 3) := by decide +kernel
theorem dX11_over_9 : decode cX11_over 9 = .ok (.ifCond .eq 12, 3) := by decide +kernel
theorem dX11_over_12 : decode cX11_over 12 = .ok (.iload_n 3, 1) := by decide +kernel
theorem dX11_over_13 : decode cX11_over 13 = .ok (.ifCond .lt 8, 3) := by decide +kernel
theorem dX11_over_16 : decode cX11_over 16 = .ok (.iload_n 3, 1) := by decide +kernel
theorem dX11_over_17 : decode cX11_over 17 = .ok (.iconst 1, 1) := by decide +kernel
theorem dX11_over_18 : decode cX11_over 18 = .ok (.if_icmp .le 7, 3) := by decide +kernel
theorem dX11_over_21 : decode cX11_over 21 = .ok (.ldc2_w 212, 3) := by decide +kernel
theorem dX11_over_24 : decode cX11_over 24 = .ok (.lreturn, 1) := by decide +kernel
theorem dX11_over_25 : decode cX11_over 25 = .ok (.aload_n 0, 1) := by decide +kernel
theorem dX11_over_26 : decode cX11_over 26 = .ok (.getfield 100, 3) := by decide +kernel
theorem dX11_over_29 : decode cX11_over 29 = .ok (.getfield 176, 3) := by decide +kernel
theorem dX11_over_32 : decode cX11_over 32 = .ok (.iload_n 1, 1) := by decide +kernel
theorem dX11_over_33 : decode cX11_over 33 = .ok (.iaload, 1) := by decide +kernel
theorem dX11_over_34 : decode cX11_over 34 = .ok (.iload_n 2, 1) := by decide +kernel
theorem dX11_over_35 : decode cX11_over 35 = .ok (.iadd, 1) := by decide +kernel
theorem dX11_over_36 : decode cX11_over 36 = .ok (.istore 8, 2) := by decide +kernel
theorem dX11_over_38 : decode cX11_over 38 = .ok (.aload_n 0, 1) := by decide +kernel
theorem dX11_over_39 : decode cX11_over 39 = .ok (.getfield 100, 3) := by decide +kernel
theorem dX11_over_42 : decode cX11_over 42 = .ok (.getfield 208, 3) := by decide +kernel
theorem dX11_over_45 : decode cX11_over 45 = .ok (.iload 8, 2) := by decide +kernel
theorem dX11_over_47 : decode cX11_over 47 = .ok (.baload, 1) := by decide +kernel
theorem dX11_over_48 : decode cX11_over 48 = .ok (.istore 9, 2) := by decide +kernel
theorem dX11_over_50 : decode cX11_over 50 = .ok (.iload 9, 2) := by decide +kernel
theorem dX11_over_52 : decode cX11_over 52 = .ok (.ifCond .eq 21, 3) := by decide +kernel
theorem dX11_over_55 : decode cX11_over 55 = .ok (.aload_n 0, 1) := by decide +kernel
theorem dX11_over_56 : decode cX11_over 56 = .ok (.iload 4, 2) := by decide +kernel
theorem dX11_over_58 : decode cX11_over 58 = .ok (.iload 5, 2) := by decide +kernel
theorem dX11_over_60 : decode cX11_over 60 = .ok (.iload 6, 2) := by decide +kernel
theorem dX11_over_62 : decode cX11_over 62 = .ok (.iload 7, 2) := by decide +kernel
theorem dX11_over_64 : decode cX11_over 64 = .ok (.invokevirtual 214, 3) := by decide +kernel
theorem dX11_over_67 : decode cX11_over 67 = .ok (.ifCond .ne 33, 3) := by decide +kernel
theorem dX11_over_70 : decode cX11_over 70 = .ok (.goto 26, 3) := by decide +kernel
theorem dX11_over_73 : decode cX11_over 73 = .ok (.aload_n 0, 1) := by decide +kernel
theorem dX11_over_74 : decode cX11_over 74 = .ok (.iload 4, 2) := by decide +kernel
theorem dX11_over_76 : decode cX11_over 76 = .ok (.iload 5, 2) := by decide +kernel
theorem dX11_over_78 : decode cX11_over 78 = .ok (.invokevirtual 218, 3) := by decide +kernel
theorem dX11_over_81 : decode cX11_over 81 = .ok (.ifCond .eq 15, 3) := by decide +kernel
theorem dX11_over_84 : decode cX11_over 84 = .ok (.iload 6, 2) := by decide +kernel
theorem dX11_over_86 : decode cX11_over 86 = .ok (.iconst (-1), 1) := by decide +kernel
theorem dX11_over_87 : decode cX11_over 87 = .ok (.if_icmp .ne 9, 3) := by decide +kernel
theorem dX11_over_90 : decode cX11_over 90 = .ok (.iload 7, 2) := by decide +kernel
theorem dX11_over_92 : decode cX11_over 92 = .ok (.iconst (-1), 1) := by decide +kernel
theorem dX11_over_93 : decode cX11_over 93 = .ok (.if_icmp .eq 7, 3) := by decide +kernel
theorem dX11_over_96 : decode cX11_over 96 = .ok (.ldc2_w 212, 3) := by decide +kernel
theorem dX11_over_99 : decode cX11_over 99 = .ok (.lreturn, 1) := by decide +kernel
theorem dX11_over_100 : decode cX11_over 100 = .ok (.aload_n 0, 1) := by decide +kernel
theorem dX11_over_101 : decode cX11_over 101 = .ok (.invokevirtual 221, 3) := by decide +kernel
theorem dX11_over_104 : decode cX11_over 104 = .ok (.aload_n 0, 1) := by decide +kernel
theorem dX11_over_105 : decode cX11_over 105 = .ok (.getfield 64, 3) := by decide +kernel
theorem dX11_over_108 : decode cX11_over 108 = .ok (.iload 8, 2) := by decide +kernel
theorem dX11_over_110 : decode cX11_over 110 = .ok (.iload_n 3, 1) := by decide +kernel
theorem dX11_over_111 : decode cX11_over 111 = .ok (.iload 4, 2) := by decide +kernel
theorem dX11_over_113 : decode cX11_over 113 = .ok (.iload 5, 2) := by decide +kernel
theorem dX11_over_115 : decode cX11_over 115 = .ok (.iload 9, 2) := by decide +kernel
theorem dX11_over_117 : decode cX11_over 117 = .ok (.ifCond .eq 8, 3) := by decide +kernel
theorem dX11_over_120 : decode cX11_over 120 = .ok (.iload 6, 2) := by decide +kernel
theorem dX11_over_122 : decode cX11_over 122 = .ok (.goto 5, 3) := by decide +kernel
theorem dX11_over_125 : decode cX11_over 125 = .ok (.iload 5, 2) := by decide +kernel
theorem dX11_over_127 : decode cX11_over 127 = .ok (.iload 9, 2) := by decide +kernel
theorem dX11_over_129 : decode cX11_over 129 = .ok (.ifCond .eq 8, 3) := by decide +kernel
theorem dX11_over_132 : decode cX11_over 132 = .ok (.iload 7, 2) := by decide +kernel
theorem dX11_over_134 : decode cX11_over 134 = .ok (.goto 5, 3) := by decide +kernel
theorem dX11_over_137 : decode cX11_over 137 = .ok (.iload 5, 2) := by decide +kernel
theorem dX11_over_139 : decode cX11_over 139 = .ok (.invokevirtual 224, 3) := by decide +kernel
theorem dX11_over_142 : decode cX11_over 142 = .ok (.invokestatic 228, 3) := by decide +kernel
theorem dX11_over_145 : decode cX11_over 145 = .ok (.lreturn, 1) := by decide +kernel
theorem dX11_items_0 : decode cX11_items 0 = .ok (.iload_n 1, 1) := by decide +kernel
theorem dX11_items_1 : decode cX11_items 1 = .ok (.ifCond .lt 8, 3) := by decide +kernel
theorem dX11_items_4 : decode cX11_items 4 = .ok (.iload_n 1, 1) := by decide +kernel
theorem dX11_items_5 : decode cX11_items 5 = .ok (.iconst 1, 1) := by decide +kernel
theorem dX11_items_6 : decode cX11_items 6 = .ok (.if_icmp .le 6, 3) := by decide +kernel
theorem dX11_items_9 : decode cX11_items 9 = .ok (.bipush (-2), 2) := by decide +kernel
theorem dX11_items_11 : decode cX11_items 11 = .ok (.ireturn, 1) := by decide +kernel
theorem dX11_items_12 : decode cX11_items 12 = .ok (.aload_n 0, 1) := by decide +kernel
theorem dX11_items_13 : decode cX11_items 13 = .ok (.invokevirtual 221, 3) := by decide +kernel
theorem dX11_items_16 : decode cX11_items 16 = .ok (.aload_n 0, 1) := by decide +kernel
theorem dX11_items_17 : decode cX11_items 17 = .ok (.getfield 64, 3) := by decide +kernel
theorem dX11_items_20 : decode cX11_items 20 = .ok (.iload_n 1, 1) := by decide +kernel
theorem dX11_items_21 : decode cX11_items 21 = .ok (.invokevirtual 232, 3) := by decide +kernel
theorem dX11_items_24 : decode cX11_items 24 = .ok (.ireturn, 1) := by decide +kernel
theorem dX11_spans_0 : decode cX11_spans 0 = .ok (.aload_n 0, 1) := by decide +kernel
theorem dX11_spans_1 : decode cX11_spans 1 = .ok (.iload_n 1, 1) := by decide +kernel
theorem dX11_spans_2 : decode cX11_spans 2 = .ok (.iload_n 2, 1) := by decide +kernel
theorem dX11_spans_3 : decode cX11_spans 3 = .ok (.invokevirtual 218, 3) := by decide +kernel
theorem dX11_spans_6 : decode cX11_spans 6 = .ok (.ifCond .ne 6, 3) := by decide +kernel
theorem dX11_spans_9 : decode cX11_spans 9 = .ok (.bipush (-2), 2) := by decide +kernel
theorem dX11_spans_11 : decode cX11_spans 11 = .ok (.ireturn, 1) := by decide +kernel
theorem dX11_spans_12 : decode cX11_spans 12 = .ok (.aload_n 0, 1) := by decide +kernel
theorem dX11_spans_13 : decode cX11_spans 13 = .ok (.invokevirtual 221, 3) := by decide +kernel
theorem dX11_spans_16 : decode cX11_spans 16 = .ok (.aload_n 0, 1) := by decide +kernel
theorem dX11_spans_17 : decode cX11_spans 17 = .ok (.getfield 64, 3) := by decide +kernel
theorem dX11_spans_20 : decode cX11_spans 20 = .ok (.aload_n 0, 1) := by decide +kernel
theorem dX11_spans_21 : decode cX11_spans 21 = .ok (.getfield 100, 3) := by decide +kernel
theorem dX11_spans_24 : decode cX11_spans 24 = .ok (.getfield 152, 3) := by decide +kernel
theorem dX11_spans_27 : decode cX11_spans 27 = .ok (.iload_n 1, 1) := by decide +kernel
theorem dX11_spans_28 : decode cX11_spans 28 = .ok (.iload_n 2, 1) := by decide +kernel
theorem dX11_spans_29 : decode cX11_spans 29 = .ok (.iload_n 2, 1) := by decide +kernel
theorem dX11_spans_30 : decode cX11_spans 30 = .ok (.iload_n 2, 1) := by decide +kernel
theorem dX11_spans_31 : decode cX11_spans 31 = .ok (.invokevirtual 235, 3) := by decide +kernel
theorem dX11_spans_34 : decode cX11_spans 34 = .ok (.ireturn, 1) := by decide +kernel
theorem dX11_around_0 : decode cX11_around 0 = .ok (.aload_n 0, 1) := by decide +kernel
theorem dX11_around_1 : decode cX11_around 1 = .ok (.iload_n 1, 1) := by decide +kernel
theorem dX11_around_2 : decode cX11_around 2 = .ok (.iload_n 2, 1) := by decide +kernel
theorem dX11_around_3 : decode cX11_around 3 = .ok (.iload_n 3, 1) := by decide +kernel
theorem dX11_around_4 : decode cX11_around 4 = .ok (.iload 4, 2) := by decide +kernel
theorem dX11_around_6 : decode cX11_around 6 = .ok (.invokevirtual 214, 3) := by decide +kernel
theorem dX11_around_9 : decode cX11_around 9 = .ok (.ifCond .ne 6, 3) := by decide +kernel
theorem dX11_around_12 : decode cX11_around 12 = .ok (.bipush (-2), 2) := by decide +kernel
theorem dX11_around_14 : decode cX11_around 14 = .ok (.ireturn, 1) := by decide +kernel
theorem dX11_around_15 : decode cX11_around 15 = .ok (.aload_n 0, 1) := by decide +kernel
theorem dX11_around_16 : decode cX11_around 16 = .ok (.invokevirtual 221, 3) := by decide +kernel
theorem dX11_around_19 : decode cX11_around 19 = .ok (.aload_n 0, 1) := by decide +kernel
theorem dX11_around_20 : decode cX11_around 20 = .ok (.getfield 64, 3) := by decide +kernel
theorem dX11_around_23 : decode cX11_around 23 = .ok (.aload_n 0, 1) := by decide +kernel
theorem dX11_around_24 : decode cX11_around 24 = .ok (.getfield 100, 3) := by decide +kernel
theorem dX11_around_27 : decode cX11_around 27 = .ok (.getfield 155, 3) := by decide +kernel
theorem dX11_around_30 : decode cX11_around 30 = .ok (.iload_n 1, 1) := by decide +kernel
theorem dX11_around_31 : decode cX11_around 31 = .ok (.iload_n 2, 1) := by decide +kernel
theorem dX11_around_32 : decode cX11_around 32 = .ok (.iload_n 3, 1) := by decide +kernel
theorem dX11_around_33 : decode cX11_around 33 = .ok (.iload 4, 2) := by decide +kernel
theorem dX11_around_35 : decode cX11_around 35 = .ok (.invokevirtual 235, 3) := by decide +kernel
theorem dX11_around_38 : decode cX11_around 38 = .ok (.ireturn, 1) := by decide +kernel
theorem dX11_reads_0 : decode cX11_reads 0 = .ok (.aload_n 0, 1) := by decide +kernel
theorem dX11_reads_1 : decode cX11_reads 1 = .ok (.invokevirtual 239, 3) := by decide +kernel
theorem dX11_reads_4 : decode cX11_reads 4 = .ok (.lconst 0, 1) := by decide +kernel
theorem dX11_reads_5 : decode cX11_reads 5 = .ok (.lcmp, 1) := by decide +kernel
theorem dX11_reads_6 : decode cX11_reads 6 = .ok (.ifCond .ne 7, 3) := by decide +kernel
theorem dX11_reads_9 : decode cX11_reads 9 = .ok (.iconst 0, 1) := by decide +kernel
theorem dX11_reads_10 : decode cX11_reads 10 = .ok (.goto 4, 3) := by decide +kernel
theorem dX11_reads_13 : decode cX11_reads 13 = .ok (.iconst 1, 1) := by decide +kernel
theorem dX11_reads_14 : decode cX11_reads 14 = .ok (.ireturn, 1) := by decide +kernel
theorem dX11_heads_0 : decode cX11_heads 0 = .ok (.aload_n 0, 1) := by decide +kernel
theorem dX11_heads_1 : decode cX11_heads 1 = .ok (.invokevirtual 221, 3) := by decide +kernel
theorem dX11_heads_4 : decode cX11_heads 4 = .ok (.iconst 0, 1) := by decide +kernel
theorem dX11_heads_5 : decode cX11_heads 5 = .ok (.istore_n 1, 1) := by decide +kernel
theorem dX11_heads_6 : decode cX11_heads 6 = .ok (.iconst 0, 1) := by decide +kernel
theorem dX11_heads_7 : decode cX11_heads 7 = .ok (.istore_n 2, 1) := by decide +kernel
theorem dX11_heads_8 : decode cX11_heads 8 = .ok (.iload_n 2, 1) := by decide +kernel
theorem dX11_heads_9 : decode cX11_heads 9 = .ok (.aload_n 0, 1) := by decide +kernel
theorem dX11_heads_10 : decode cX11_heads 10 = .ok (.getfield 21, 3) := by decide +kernel
theorem dX11_heads_13 : decode cX11_heads 13 = .ok (.getfield 118, 3) := by decide +kernel
theorem dX11_heads_16 : decode cX11_heads 16 = .ok (.if_icmp .gt 28, 3) := by decide +kernel
theorem dX11_heads_19 : decode cX11_heads 19 = .ok (.aload_n 0, 1) := by decide +kernel
theorem dX11_heads_20 : decode cX11_heads 20 = .ok (.getfield 64, 3) := by decide +kernel
theorem dX11_heads_23 : decode cX11_heads 23 = .ok (.iload_n 2, 1) := by decide +kernel
theorem dX11_heads_24 : decode cX11_heads 24 = .ok (.invokevirtual 243, 3) := by decide +kernel
theorem dX11_heads_27 : decode cX11_heads 27 = .ok (.lconst 0, 1) := by decide +kernel
theorem dX11_heads_28 : decode cX11_heads 28 = .ok (.lcmp, 1) := by decide +kernel
theorem dX11_heads_29 : decode cX11_heads 29 = .ok (.ifCond .eq 9, 3) := by decide +kernel
theorem dX11_heads_32 : decode cX11_heads 32 = .ok (.iload_n 1, 1) := by decide +kernel
theorem dX11_heads_33 : decode cX11_heads 33 = .ok (.iconst 1, 1) := by decide +kernel
theorem dX11_heads_34 : decode cX11_heads 34 = .ok (.iload_n 2, 1) := by decide +kernel
theorem dX11_heads_35 : decode cX11_heads 35 = .ok (.ishl, 1) := by decide +kernel
theorem dX11_heads_36 : decode cX11_heads 36 = .ok (.ior, 1) := by decide +kernel
theorem dX11_heads_37 : decode cX11_heads 37 = .ok (.istore_n 1, 1) := by decide +kernel
theorem dX11_heads_38 : decode cX11_heads 38 = .ok (.iinc 2 1, 3) := by decide +kernel
theorem dX11_heads_41 : decode cX11_heads 41 = .ok (.goto (-33), 3) := by decide +kernel
theorem dX11_heads_44 : decode cX11_heads 44 = .ok (.iload_n 1, 1) := by decide +kernel
theorem dX11_heads_45 : decode cX11_heads 45 = .ok (.ireturn, 1) := by decide +kernel
theorem dX11_ways_0 : decode cX11_ways 0 = .ok (.aload_n 0, 1) := by decide +kernel
theorem dX11_ways_1 : decode cX11_ways 1 = .ok (.invokevirtual 239, 3) := by decide +kernel
theorem dX11_ways_4 : decode cX11_ways 4 = .ok (.invokestatic 228, 3) := by decide +kernel
theorem dX11_ways_7 : decode cX11_ways 7 = .ok (.lreturn, 1) := by decide +kernel
theorem dX11_without_0 : decode cX11_without 0 = .ok (.aload_n 0, 1) := by decide +kernel
theorem dX11_without_1 : decode cX11_without 1 = .ok (.getfield 100, 3) := by decide +kernel
theorem dX11_without_4 : decode cX11_without 4 = .ok (.iload_n 1, 1) := by decide +kernel
theorem dX11_without_5 : decode cX11_without 5 = .ok (.invokevirtual 167, 3) := by decide +kernel
theorem dX11_without_8 : decode cX11_without 8 = .ok (.ifCond .ne 7, 3) := by decide +kernel
theorem dX11_without_11 : decode cX11_without 11 = .ok (.ldc2_w 212, 3) := by decide +kernel
theorem dX11_without_14 : decode cX11_without 14 = .ok (.lreturn, 1) := by decide +kernel
theorem dX11_without_15 : decode cX11_without 15 = .ok (.aload_n 0, 1) := by decide +kernel
theorem dX11_without_16 : decode cX11_without 16 = .ok (.getfield 68, 3) := by decide +kernel
theorem dX11_without_19 : decode cX11_without 19 = .ok (.aload_n 0, 1) := by decide +kernel
theorem dX11_without_20 : decode cX11_without 20 = .ok (.getfield 100, 3) := by decide +kernel
theorem dX11_without_23 : decode cX11_without 23 = .ok (.aload_n 0, 1) := by decide +kernel
theorem dX11_without_24 : decode cX11_without 24 = .ok (.getfield 100, 3) := by decide +kernel
theorem dX11_without_27 : decode cX11_without 27 = .ok (.getfield 158, 3) := by decide +kernel
theorem dX11_without_30 : decode cX11_without 30 = .ok (.iconst 1, 1) := by decide +kernel
theorem dX11_without_31 : decode cX11_without 31 = .ok (.iload_n 1, 1) := by decide +kernel
theorem dX11_without_32 : decode cX11_without 32 = .ok (.ishl, 1) := by decide +kernel
theorem dX11_without_33 : decode cX11_without 33 = .ok (.ior, 1) := by decide +kernel
theorem dX11_without_34 : decode cX11_without 34 = .ok (.aload_n 0, 1) := by decide +kernel
theorem dX11_without_35 : decode cX11_without 35 = .ok (.getfield 21, 3) := by decide +kernel
theorem dX11_without_38 : decode cX11_without 38 = .ok (.getfield 118, 3) := by decide +kernel
theorem dX11_without_41 : decode cX11_without 41 = .ok (.aload_n 0, 1) := by decide +kernel
theorem dX11_without_42 : decode cX11_without 42 = .ok (.getfield 43, 3) := by decide +kernel
theorem dX11_without_45 : decode cX11_without 45 = .ok (.invokevirtual 247, 3) := by decide +kernel
theorem dX11_without_48 : decode cX11_without 48 = .ok (.aload_n 0, 1) := by decide +kernel
theorem dX11_without_49 : decode cX11_without 49 = .ok (.getfield 68, 3) := by decide +kernel
theorem dX11_without_52 : decode cX11_without 52 = .ok (.aload_n 0, 1) := by decide +kernel
theorem dX11_without_53 : decode cX11_without 53 = .ok (.getfield 21, 3) := by decide +kernel
theorem dX11_without_56 : decode cX11_without 56 = .ok (.getfield 118, 3) := by decide +kernel
theorem dX11_without_59 : decode cX11_without 59 = .ok (.invokevirtual 243, 3) := by decide +kernel
theorem dX11_without_62 : decode cX11_without 62 = .ok (.invokestatic 228, 3) := by decide +kernel
theorem dX11_without_65 : decode cX11_without 65 = .ok (.lreturn, 1) := by decide +kernel
theorem dX11_lengths_0 : decode cX11_lengths 0 = .ok (.iload_n 1, 1) := by decide +kernel
theorem dX11_lengths_1 : decode cX11_lengths 1 = .ok (.ifCond .lt 8, 3) := by decide +kernel
theorem dX11_lengths_4 : decode cX11_lengths 4 = .ok (.iload_n 1, 1) := by decide +kernel
theorem dX11_lengths_5 : decode cX11_lengths 5 = .ok (.iconst 1, 1) := by decide +kernel
theorem dX11_lengths_6 : decode cX11_lengths 6 = .ok (.if_icmp .le 6, 3) := by decide +kernel
theorem dX11_lengths_9 : decode cX11_lengths 9 = .ok (.bipush (-2), 2) := by decide +kernel
theorem dX11_lengths_11 : decode cX11_lengths 11 = .ok (.ireturn, 1) := by decide +kernel
theorem dX11_lengths_12 : decode cX11_lengths 12 = .ok (.aload_n 0, 1) := by decide +kernel
theorem dX11_lengths_13 : decode cX11_lengths 13 = .ok (.invokevirtual 251, 3) := by decide +kernel
theorem dX11_lengths_16 : decode cX11_lengths 16 = .ok (.aload_n 0, 1) := by decide +kernel
theorem dX11_lengths_17 : decode cX11_lengths 17 = .ok (.getfield 254, 3) := by decide +kernel
theorem dX11_lengths_20 : decode cX11_lengths 20 = .ok (.lconst 0, 1) := by decide +kernel
theorem dX11_lengths_21 : decode cX11_lengths 21 = .ok (.lcmp, 1) := by decide +kernel
theorem dX11_lengths_22 : decode cX11_lengths 22 = .ok (.ifCond .ne 5, 3) := by decide +kernel
theorem dX11_lengths_25 : decode cX11_lengths 25 = .ok (.iconst (-1), 1) := by decide +kernel
theorem dX11_lengths_26 : decode cX11_lengths 26 = .ok (.ireturn, 1) := by decide +kernel
theorem dX11_lengths_27 : decode cX11_lengths 27 = .ok (.iload_n 1, 1) := by decide +kernel
theorem dX11_lengths_28 : decode cX11_lengths 28 = .ok (.ifCond .ne 13, 3) := by decide +kernel
theorem dX11_lengths_31 : decode cX11_lengths 31 = .ok (.aload_n 0, 1) := by decide +kernel
theorem dX11_lengths_32 : decode cX11_lengths 32 = .ok (.getfield 254, 3) := by decide +kernel
theorem dX11_lengths_35 : decode cX11_lengths 35 = .ok (.invokestatic 258, 3) := by decide +kernel
theorem dX11_lengths_38 : decode cX11_lengths 38 = .ok (.goto 10, 3) := by decide +kernel
theorem dX11_lengths_41 : decode cX11_lengths 41 = .ok (.aload_n 0, 1) := by decide +kernel
theorem dX11_lengths_42 : decode cX11_lengths 42 = .ok (.getfield 254, 3) := by decide +kernel
theorem dX11_lengths_45 : decode cX11_lengths 45 = .ok (.invokestatic 262, 3) := by decide +kernel
theorem dX11_lengths_48 : decode cX11_lengths 48 = .ok (.ireturn, 1) := by decide +kernel
theorem dX11_steps_0 : decode cX11_steps 0 = .ok (.aload_n 0, 1) := by decide +kernel
theorem dX11_steps_1 : decode cX11_steps 1 = .ok (.lload_n 1, 1) := by decide +kernel
theorem dX11_steps_2 : decode cX11_steps 2 = .ok (.invokevirtual 265, 3) := by decide +kernel
theorem dX11_steps_5 : decode cX11_steps 5 = .ok (.istore_n 3, 1) := by decide +kernel
theorem dX11_steps_6 : decode cX11_steps 6 = .ok (.iload_n 3, 1) := by decide +kernel
theorem dX11_steps_7 : decode cX11_steps 7 = .ok (.ifCond .ge 7, 3) := by decide +kernel
theorem dX11_steps_10 : decode cX11_steps 10 = .ok (.iload_n 3, 1) := by decide +kernel
theorem dX11_steps_11 : decode cX11_steps 11 = .ok (.goto 10, 3) := by decide +kernel
theorem dX11_steps_14 : decode cX11_steps 14 = .ok (.aload_n 0, 1) := by decide +kernel
theorem dX11_steps_15 : decode cX11_steps 15 = .ok (.getfield 81, 3) := by decide +kernel
theorem dX11_steps_18 : decode cX11_steps 18 = .ok (.getfield 268, 3) := by decide +kernel
theorem dX11_steps_21 : decode cX11_steps 21 = .ok (.ireturn, 1) := by decide +kernel
theorem dX11_step_0 : decode cX11_step 0 = .ok (.aload_n 0, 1) := by decide +kernel
theorem dX11_step_1 : decode cX11_step 1 = .ok (.lload_n 1, 1) := by decide +kernel
theorem dX11_step_2 : decode cX11_step 2 = .ok (.invokevirtual 265, 3) := by decide +kernel
theorem dX11_step_5 : decode cX11_step 5 = .ok (.istore 5, 2) := by decide +kernel
theorem dX11_step_7 : decode cX11_step 7 = .ok (.iload 5, 2) := by decide +kernel
theorem dX11_step_9 : decode cX11_step 9 = .ok (.ifCond .ge 6, 3) := by decide +kernel
theorem dX11_step_12 : decode cX11_step 12 = .ok (.iload 5, 2) := by decide +kernel
theorem dX11_step_14 : decode cX11_step 14 = .ok (.ireturn, 1) := by decide +kernel
theorem dX11_step_15 : decode cX11_step 15 = .ok (.iload_n 3, 1) := by decide +kernel
theorem dX11_step_16 : decode cX11_step 16 = .ok (.ifCond .lt 14, 3) := by decide +kernel
theorem dX11_step_19 : decode cX11_step 19 = .ok (.iload_n 3, 1) := by decide +kernel
theorem dX11_step_20 : decode cX11_step 20 = .ok (.aload_n 0, 1) := by decide +kernel
theorem dX11_step_21 : decode cX11_step 21 = .ok (.getfield 81, 3) := by decide +kernel
theorem dX11_step_24 : decode cX11_step 24 = .ok (.getfield 268, 3) := by decide +kernel
theorem dX11_step_27 : decode cX11_step 27 = .ok (.if_icmp .lt 6, 3) := by decide +kernel
theorem dX11_step_30 : decode cX11_step 30 = .ok (.bipush (-2), 2) := by decide +kernel
theorem dX11_step_32 : decode cX11_step 32 = .ok (.ireturn, 1) := by decide +kernel
theorem dX11_step_33 : decode cX11_step 33 = .ok (.iload 4, 2) := by decide +kernel
theorem dX11_step_35 : decode cX11_step 35 = .ok (.tableswitch 69 0 3 #[29, 39, 49, 59], 29) := by decide +kernel
theorem dX11_step_64 : decode cX11_step 64 = .ok (.aload_n 0, 1) := by decide +kernel
theorem dX11_step_65 : decode cX11_step 65 = .ok (.getfield 81, 3) := by decide +kernel
theorem dX11_step_68 : decode cX11_step 68 = .ok (.getfield 271, 3) := by decide +kernel
theorem dX11_step_71 : decode cX11_step 71 = .ok (.iload_n 3, 1) := by decide +kernel
theorem dX11_step_72 : decode cX11_step 72 = .ok (.iaload, 1) := by decide +kernel
theorem dX11_step_73 : decode cX11_step 73 = .ok (.ireturn, 1) := by decide +kernel
theorem dX11_step_74 : decode cX11_step 74 = .ok (.aload_n 0, 1) := by decide +kernel
theorem dX11_step_75 : decode cX11_step 75 = .ok (.getfield 81, 3) := by decide +kernel
theorem dX11_step_78 : decode cX11_step 78 = .ok (.getfield 274, 3) := by decide +kernel
theorem dX11_step_81 : decode cX11_step 81 = .ok (.iload_n 3, 1) := by decide +kernel
theorem dX11_step_82 : decode cX11_step 82 = .ok (.iaload, 1) := by decide +kernel
theorem dX11_step_83 : decode cX11_step 83 = .ok (.ireturn, 1) := by decide +kernel
theorem dX11_step_84 : decode cX11_step 84 = .ok (.aload_n 0, 1) := by decide +kernel
theorem dX11_step_85 : decode cX11_step 85 = .ok (.getfield 81, 3) := by decide +kernel
theorem dX11_step_88 : decode cX11_step 88 = .ok (.getfield 277, 3) := by decide +kernel
theorem dX11_step_91 : decode cX11_step 91 = .ok (.iload_n 3, 1) := by decide +kernel
theorem dX11_step_92 : decode cX11_step 92 = .ok (.iaload, 1) := by decide +kernel
theorem dX11_step_93 : decode cX11_step 93 = .ok (.ireturn, 1) := by decide +kernel
theorem dX11_step_94 : decode cX11_step 94 = .ok (.aload_n 0, 1) := by decide +kernel
theorem dX11_step_95 : decode cX11_step 95 = .ok (.getfield 81, 3) := by decide +kernel
theorem dX11_step_98 : decode cX11_step 98 = .ok (.getfield 279, 3) := by decide +kernel
theorem dX11_step_101 : decode cX11_step 101 = .ok (.iload_n 3, 1) := by decide +kernel
theorem dX11_step_102 : decode cX11_step 102 = .ok (.iaload, 1) := by decide +kernel
theorem dX11_step_103 : decode cX11_step 103 = .ok (.ireturn, 1) := by decide +kernel
theorem dX11_step_104 : decode cX11_step 104 = .ok (.bipush (-2), 2) := by decide +kernel
theorem dX11_step_106 : decode cX11_step 106 = .ok (.ireturn, 1) := by decide +kernel
theorem dX11_whose_0 : decode cX11_whose 0 = .ok (.aload_n 0, 1) := by decide +kernel
theorem dX11_whose_1 : decode cX11_whose 1 = .ok (.lload_n 1, 1) := by decide +kernel
theorem dX11_whose_2 : decode cX11_whose 2 = .ok (.invokevirtual 265, 3) := by decide +kernel
theorem dX11_whose_5 : decode cX11_whose 5 = .ok (.istore 5, 2) := by decide +kernel
theorem dX11_whose_7 : decode cX11_whose 7 = .ok (.iload 5, 2) := by decide +kernel
theorem dX11_whose_9 : decode cX11_whose 9 = .ok (.ifCond .ge 6, 3) := by decide +kernel
theorem dX11_whose_12 : decode cX11_whose 12 = .ok (.iload 5, 2) := by decide +kernel
theorem dX11_whose_14 : decode cX11_whose 14 = .ok (.ireturn, 1) := by decide +kernel
theorem dX11_whose_15 : decode cX11_whose 15 = .ok (.iload_n 3, 1) := by decide +kernel
theorem dX11_whose_16 : decode cX11_whose 16 = .ok (.ifCond .lt 28, 3) := by decide +kernel
theorem dX11_whose_19 : decode cX11_whose 19 = .ok (.iload_n 3, 1) := by decide +kernel
theorem dX11_whose_20 : decode cX11_whose 20 = .ok (.aload_n 0, 1) := by decide +kernel
theorem dX11_whose_21 : decode cX11_whose 21 = .ok (.getfield 81, 3) := by decide +kernel
theorem dX11_whose_24 : decode cX11_whose 24 = .ok (.getfield 282, 3) := by decide +kernel
theorem dX11_whose_27 : decode cX11_whose 27 = .ok (.getfield 118, 3) := by decide +kernel
theorem dX11_whose_30 : decode cX11_whose 30 = .ok (.if_icmp .ge 14, 3) := by decide +kernel
theorem dX11_whose_33 : decode cX11_whose 33 = .ok (.iload 4, 2) := by decide +kernel
theorem dX11_whose_35 : decode cX11_whose 35 = .ok (.ifCond .lt 9, 3) := by decide +kernel
theorem dX11_whose_38 : decode cX11_whose 38 = .ok (.iload 4, 2) := by decide +kernel
theorem dX11_whose_40 : decode cX11_whose 40 = .ok (.iconst 1, 1) := by decide +kernel
theorem dX11_whose_41 : decode cX11_whose 41 = .ok (.if_icmp .le 6, 3) := by decide +kernel
theorem dX11_whose_44 : decode cX11_whose 44 = .ok (.bipush (-2), 2) := by decide +kernel
theorem dX11_whose_46 : decode cX11_whose 46 = .ok (.ireturn, 1) := by decide +kernel
theorem dX11_whose_47 : decode cX11_whose 47 = .ok (.iload 4, 2) := by decide +kernel
theorem dX11_whose_49 : decode cX11_whose 49 = .ok (.ifCond .ne 15, 3) := by decide +kernel
theorem dX11_whose_52 : decode cX11_whose 52 = .ok (.aload_n 0, 1) := by decide +kernel
theorem dX11_whose_53 : decode cX11_whose 53 = .ok (.getfield 81, 3) := by decide +kernel
theorem dX11_whose_56 : decode cX11_whose 56 = .ok (.getfield 283, 3) := by decide +kernel
theorem dX11_whose_59 : decode cX11_whose 59 = .ok (.iload_n 3, 1) := by decide +kernel
theorem dX11_whose_60 : decode cX11_whose 60 = .ok (.iaload, 1) := by decide +kernel
theorem dX11_whose_61 : decode cX11_whose 61 = .ok (.goto 12, 3) := by decide +kernel
theorem dX11_whose_64 : decode cX11_whose 64 = .ok (.aload_n 0, 1) := by decide +kernel
theorem dX11_whose_65 : decode cX11_whose 65 = .ok (.getfield 81, 3) := by decide +kernel
theorem dX11_whose_68 : decode cX11_whose 68 = .ok (.getfield 286, 3) := by decide +kernel
theorem dX11_whose_71 : decode cX11_whose 71 = .ok (.iload_n 3, 1) := by decide +kernel
theorem dX11_whose_72 : decode cX11_whose 72 = .ok (.iaload, 1) := by decide +kernel
theorem dX11_whose_73 : decode cX11_whose 73 = .ok (.ireturn, 1) := by decide +kernel
theorem dX11_arcs_0 : decode cX11_arcs 0 = .ok (.aload_n 0, 1) := by decide +kernel
theorem dX11_arcs_1 : decode cX11_arcs 1 = .ok (.lload_n 1, 1) := by decide +kernel
theorem dX11_arcs_2 : decode cX11_arcs 2 = .ok (.invokevirtual 265, 3) := by decide +kernel
theorem dX11_arcs_5 : decode cX11_arcs 5 = .ok (.istore 4, 2) := by decide +kernel
theorem dX11_arcs_7 : decode cX11_arcs 7 = .ok (.iload 4, 2) := by decide +kernel
theorem dX11_arcs_9 : decode cX11_arcs 9 = .ok (.ifCond .ge 6, 3) := by decide +kernel
theorem dX11_arcs_12 : decode cX11_arcs 12 = .ok (.iload 4, 2) := by decide +kernel
theorem dX11_arcs_14 : decode cX11_arcs 14 = .ok (.ireturn, 1) := by decide +kernel
theorem dX11_arcs_15 : decode cX11_arcs 15 = .ok (.iload_n 3, 1) := by decide +kernel
theorem dX11_arcs_16 : decode cX11_arcs 16 = .ok (.tableswitch 52 0 2 #[28, 36, 44], 28) := by decide +kernel
theorem dX11_arcs_44 : decode cX11_arcs 44 = .ok (.aload_n 0, 1) := by decide +kernel
theorem dX11_arcs_45 : decode cX11_arcs 45 = .ok (.getfield 81, 3) := by decide +kernel
theorem dX11_arcs_48 : decode cX11_arcs 48 = .ok (.invokevirtual 289, 3) := by decide +kernel
theorem dX11_arcs_51 : decode cX11_arcs 51 = .ok (.ireturn, 1) := by decide +kernel
theorem dX11_arcs_52 : decode cX11_arcs 52 = .ok (.aload_n 0, 1) := by decide +kernel
theorem dX11_arcs_53 : decode cX11_arcs 53 = .ok (.getfield 81, 3) := by decide +kernel
theorem dX11_arcs_56 : decode cX11_arcs 56 = .ok (.invokevirtual 292, 3) := by decide +kernel
theorem dX11_arcs_59 : decode cX11_arcs 59 = .ok (.ireturn, 1) := by decide +kernel
theorem dX11_arcs_60 : decode cX11_arcs 60 = .ok (.aload_n 0, 1) := by decide +kernel
theorem dX11_arcs_61 : decode cX11_arcs 61 = .ok (.getfield 81, 3) := by decide +kernel
theorem dX11_arcs_64 : decode cX11_arcs 64 = .ok (.invokevirtual 295, 3) := by decide +kernel
theorem dX11_arcs_67 : decode cX11_arcs 67 = .ok (.ireturn, 1) := by decide +kernel
theorem dX11_arcs_68 : decode cX11_arcs 68 = .ok (.bipush (-2), 2) := by decide +kernel
theorem dX11_arcs_70 : decode cX11_arcs 70 = .ok (.ireturn, 1) := by decide +kernel
theorem dX11_grown_0 : decode cX11_grown 0 = .ok (.aload_n 0, 1) := by decide +kernel
theorem dX11_grown_1 : decode cX11_grown 1 = .ok (.lload_n 1, 1) := by decide +kernel
theorem dX11_grown_2 : decode cX11_grown 2 = .ok (.invokevirtual 265, 3) := by decide +kernel
theorem dX11_grown_5 : decode cX11_grown 5 = .ok (.istore 4, 2) := by decide +kernel
theorem dX11_grown_7 : decode cX11_grown 7 = .ok (.iload 4, 2) := by decide +kernel
theorem dX11_grown_9 : decode cX11_grown 9 = .ok (.ifCond .ge 6, 3) := by decide +kernel
theorem dX11_grown_12 : decode cX11_grown 12 = .ok (.iload 4, 2) := by decide +kernel
theorem dX11_grown_14 : decode cX11_grown 14 = .ok (.ireturn, 1) := by decide +kernel
theorem dX11_grown_15 : decode cX11_grown 15 = .ok (.iload_n 3, 1) := by decide +kernel
theorem dX11_grown_16 : decode cX11_grown 16 = .ok (.lookupswitch 44 #[(0, 28), (1, 36)], 28) := by decide +kernel
theorem dX11_grown_44 : decode cX11_grown 44 = .ok (.aload_n 0, 1) := by decide +kernel
theorem dX11_grown_45 : decode cX11_grown 45 = .ok (.getfield 81, 3) := by decide +kernel
theorem dX11_grown_48 : decode cX11_grown 48 = .ok (.getfield 298, 3) := by decide +kernel
theorem dX11_grown_51 : decode cX11_grown 51 = .ok (.ireturn, 1) := by decide +kernel
theorem dX11_grown_52 : decode cX11_grown 52 = .ok (.aload_n 0, 1) := by decide +kernel
theorem dX11_grown_53 : decode cX11_grown 53 = .ok (.getfield 81, 3) := by decide +kernel
theorem dX11_grown_56 : decode cX11_grown 56 = .ok (.getfield 301, 3) := by decide +kernel
theorem dX11_grown_59 : decode cX11_grown 59 = .ok (.ireturn, 1) := by decide +kernel
theorem dX11_grown_60 : decode cX11_grown 60 = .ok (.bipush (-2), 2) := by decide +kernel
theorem dX11_grown_62 : decode cX11_grown 62 = .ok (.ireturn, 1) := by decide +kernel
theorem dX11_tell_0 : decode cX11_tell 0 = .ok (.aload_n 0, 1) := by decide +kernel
theorem dX11_tell_1 : decode cX11_tell 1 = .ok (.lload_n 1, 1) := by decide +kernel
theorem dX11_tell_2 : decode cX11_tell 2 = .ok (.invokevirtual 265, 3) := by decide +kernel
theorem dX11_tell_5 : decode cX11_tell 5 = .ok (.istore_n 3, 1) := by decide +kernel
theorem dX11_tell_6 : decode cX11_tell 6 = .ok (.iload_n 3, 1) := by decide +kernel
theorem dX11_tell_7 : decode cX11_tell 7 = .ok (.ifCond .ge 5, 3) := by decide +kernel
theorem dX11_tell_10 : decode cX11_tell 10 = .ok (.iload_n 3, 1) := by decide +kernel
theorem dX11_tell_11 : decode cX11_tell 11 = .ok (.ireturn, 1) := by decide +kernel
theorem dX11_tell_12 : decode cX11_tell 12 = .ok (.aload_n 0, 1) := by decide +kernel
theorem dX11_tell_13 : decode cX11_tell 13 = .ok (.getfield 18, 3) := by decide +kernel
theorem dX11_tell_16 : decode cX11_tell 16 = .ok (.aload_n 0, 1) := by decide +kernel
theorem dX11_tell_17 : decode cX11_tell 17 = .ok (.getfield 81, 3) := by decide +kernel
theorem dX11_tell_20 : decode cX11_tell 20 = .ok (.getfield 304, 3) := by decide +kernel
theorem dX11_tell_23 : decode cX11_tell 23 = .ok (.iconst 0, 1) := by decide +kernel
theorem dX11_tell_24 : decode cX11_tell 24 = .ok (.invokevirtual 307, 3) := by decide +kernel
theorem dX11_tell_27 : decode cX11_tell 27 = .ok (.aload_n 0, 1) := by decide +kernel
theorem dX11_tell_28 : decode cX11_tell 28 = .ok (.getfield 18, 3) := by decide +kernel
theorem dX11_tell_31 : decode cX11_tell 31 = .ok (.getfield 118, 3) := by decide +kernel
theorem dX11_tell_34 : decode cX11_tell 34 = .ok (.ireturn, 1) := by decide +kernel
theorem dX11_tellWay_0 : decode cX11_tellWay 0 = .ok (.aload_n 0, 1) := by decide +kernel
theorem dX11_tellWay_1 : decode cX11_tellWay 1 = .ok (.lload_n 1, 1) := by decide +kernel
theorem dX11_tellWay_2 : decode cX11_tellWay 2 = .ok (.invokevirtual 265, 3) := by decide +kernel
theorem dX11_tellWay_5 : decode cX11_tellWay 5 = .ok (.istore_n 3, 1) := by decide +kernel
theorem dX11_tellWay_6 : decode cX11_tellWay 6 = .ok (.iload_n 3, 1) := by decide +kernel
theorem dX11_tellWay_7 : decode cX11_tellWay 7 = .ok (.ifCond .ge 5, 3) := by decide +kernel
theorem dX11_tellWay_10 : decode cX11_tellWay 10 = .ok (.iload_n 3, 1) := by decide +kernel
theorem dX11_tellWay_11 : decode cX11_tellWay 11 = .ok (.ireturn, 1) := by decide +kernel
theorem dX11_tellWay_12 : decode cX11_tellWay 12 = .ok (.aload_n 0, 1) := by decide +kernel
theorem dX11_tellWay_13 : decode cX11_tellWay 13 = .ok (.getfield 18, 3) := by decide +kernel
theorem dX11_tellWay_16 : decode cX11_tellWay 16 = .ok (.iconst 0, 1) := by decide +kernel
theorem dX11_tellWay_17 : decode cX11_tellWay 17 = .ok (.putfield 118, 3) := by decide +kernel
theorem dX11_tellWay_20 : decode cX11_tellWay 20 = .ok (.aload_n 0, 1) := by decide +kernel
theorem dX11_tellWay_21 : decode cX11_tellWay 21 = .ok (.getfield 81, 3) := by decide +kernel
theorem dX11_tellWay_24 : decode cX11_tellWay 24 = .ok (.aload_n 0, 1) := by decide +kernel
theorem dX11_tellWay_25 : decode cX11_tellWay 25 = .ok (.getfield 18, 3) := by decide +kernel
theorem dX11_tellWay_28 : decode cX11_tellWay 28 = .ok (.invokevirtual 311, 3) := by decide +kernel
theorem dX11_tellWay_31 : decode cX11_tellWay 31 = .ok (.aload_n 0, 1) := by decide +kernel
theorem dX11_tellWay_32 : decode cX11_tellWay 32 = .ok (.getfield 18, 3) := by decide +kernel
theorem dX11_tellWay_35 : decode cX11_tellWay 35 = .ok (.getfield 118, 3) := by decide +kernel
theorem dX11_tellWay_38 : decode cX11_tellWay 38 = .ok (.ireturn, 1) := by decide +kernel
theorem dX11_octet_0 : decode cX11_octet 0 = .ok (.aload_n 0, 1) := by decide +kernel
theorem dX11_octet_1 : decode cX11_octet 1 = .ok (.getfield 18, 3) := by decide +kernel
theorem dX11_octet_4 : decode cX11_octet 4 = .ok (.iload_n 1, 1) := by decide +kernel
theorem dX11_octet_5 : decode cX11_octet 5 = .ok (.invokevirtual 134, 3) := by decide +kernel
theorem dX11_octet_8 : decode cX11_octet 8 = .ok (.ireturn, 1) := by decide +kernel
theorem dX11_test_0 : decode cX11_test 0 = .ok (.aload_n 0, 1) := by decide +kernel
theorem dX11_test_1 : decode cX11_test 1 = .ok (.getfield 34, 3) := by decide +kernel
theorem dX11_test_4 : decode cX11_test 4 = .ok (.aload_n 0, 1) := by decide +kernel
theorem dX11_test_5 : decode cX11_test 5 = .ok (.getfield 14, 3) := by decide +kernel
theorem dX11_test_8 : decode cX11_test 8 = .ok (.invokevirtual 314, 3) := by decide +kernel
theorem dX11_test_11 : decode cX11_test 11 = .ok (.istore_n 1, 1) := by decide +kernel
theorem dX11_test_12 : decode cX11_test 12 = .ok (.aload_n 0, 1) := by decide +kernel
theorem dX11_test_13 : decode cX11_test 13 = .ok (.getfield 14, 3) := by decide +kernel
theorem dX11_test_16 : decode cX11_test 16 = .ok (.iconst 0, 1) := by decide +kernel
theorem dX11_test_17 : decode cX11_test 17 = .ok (.putfield 118, 3) := by decide +kernel
theorem dX11_test_20 : decode cX11_test 20 = .ok (.iload_n 1, 1) := by decide +kernel
theorem dX11_test_21 : decode cX11_test 21 = .ok (.ifCond .ne 6, 3) := by decide +kernel
theorem dX11_test_24 : decode cX11_test 24 = .ok (.bipush (-4), 2) := by decide +kernel
theorem dX11_test_26 : decode cX11_test 26 = .ok (.ireturn, 1) := by decide +kernel
theorem dX11_test_27 : decode cX11_test 27 = .ok (.aload_n 0, 1) := by decide +kernel
theorem dX11_test_28 : decode cX11_test 28 = .ok (.getfield 34, 3) := by decide +kernel
theorem dX11_test_31 : decode cX11_test 31 = .ok (.aload_n 0, 1) := by decide +kernel
theorem dX11_test_32 : decode cX11_test 32 = .ok (.getfield 100, 3) := by decide +kernel
theorem dX11_test_35 : decode cX11_test 35 = .ok (.aload_n 0, 1) := by decide +kernel
theorem dX11_test_36 : decode cX11_test 36 = .ok (.getfield 85, 3) := by decide +kernel
theorem dX11_test_39 : decode cX11_test 39 = .ok (.invokevirtual 317, 3) := by decide +kernel
theorem dX11_test_42 : decode cX11_test 42 = .ok (.istore_n 2, 1) := by decide +kernel
theorem dX11_test_43 : decode cX11_test 43 = .ok (.iload_n 2, 1) := by decide +kernel
theorem dX11_test_44 : decode cX11_test 44 = .ok (.ifCond .ge 5, 3) := by decide +kernel
theorem dX11_test_47 : decode cX11_test 47 = .ok (.iload_n 2, 1) := by decide +kernel
theorem dX11_test_48 : decode cX11_test 48 = .ok (.ireturn, 1) := by decide +kernel
theorem dX11_test_49 : decode cX11_test 49 = .ok (.aload_n 0, 1) := by decide +kernel
theorem dX11_test_50 : decode cX11_test 50 = .ok (.getfield 85, 3) := by decide +kernel
theorem dX11_test_53 : decode cX11_test 53 = .ok (.aload_n 0, 1) := by decide +kernel
theorem dX11_test_54 : decode cX11_test 54 = .ok (.getfield 100, 3) := by decide +kernel
theorem dX11_test_57 : decode cX11_test 57 = .ok (.invokevirtual 321, 3) := by decide +kernel
theorem dX11_test_60 : decode cX11_test 60 = .ok (.aload_n 0, 1) := by decide +kernel
theorem dX11_test_61 : decode cX11_test 61 = .ok (.getfield 18, 3) := by decide +kernel
theorem dX11_test_64 : decode cX11_test 64 = .ok (.aload_n 0, 1) := by decide +kernel
theorem dX11_test_65 : decode cX11_test 65 = .ok (.getfield 85, 3) := by decide +kernel
theorem dX11_test_68 : decode cX11_test 68 = .ok (.getfield 282, 3) := by decide +kernel
theorem dX11_test_71 : decode cX11_test 71 = .ok (.bipush 97, 2) := by decide +kernel
theorem dX11_test_73 : decode cX11_test 73 = .ok (.invokevirtual 307, 3) := by decide +kernel
theorem dX11_test_76 : decode cX11_test 76 = .ok (.aload_n 0, 1) := by decide +kernel
theorem dX11_test_77 : decode cX11_test 77 = .ok (.getfield 85, 3) := by decide +kernel
theorem dX11_test_80 : decode cX11_test 80 = .ok (.getfield 282, 3) := by decide +kernel
theorem dX11_test_83 : decode cX11_test 83 = .ok (.aload_n 0, 1) := by decide +kernel
theorem dX11_test_84 : decode cX11_test 84 = .ok (.getfield 21, 3) := by decide +kernel
theorem dX11_test_87 : decode cX11_test 87 = .ok (.invokevirtual 325, 3) := by decide +kernel
theorem dX11_test_90 : decode cX11_test 90 = .ok (.ifCond .eq 7, 3) := by decide +kernel
theorem dX11_test_93 : decode cX11_test 93 = .ok (.iconst 1, 1) := by decide +kernel
theorem dX11_test_94 : decode cX11_test 94 = .ok (.goto 4, 3) := by decide +kernel
theorem dX11_test_97 : decode cX11_test 97 = .ok (.iconst 0, 1) := by decide +kernel
theorem dX11_test_98 : decode cX11_test 98 = .ok (.ireturn, 1) := by decide +kernel
theorem dX11_mends_0 : decode cX11_mends 0 = .ok (.aload_n 0, 1) := by decide +kernel
theorem dX11_mends_1 : decode cX11_mends 1 = .ok (.invokevirtual 328, 3) := by decide +kernel
theorem dX11_mends_4 : decode cX11_mends 4 = .ok (.aload_n 0, 1) := by decide +kernel
theorem dX11_mends_5 : decode cX11_mends 5 = .ok (.getfield 93, 3) := by decide +kernel
theorem dX11_mends_8 : decode cX11_mends 8 = .ok (.iconst 5, 1) := by decide +kernel
theorem dX11_mends_9 : decode cX11_mends 9 = .ok (.iaload, 1) := by decide +kernel
theorem dX11_mends_10 : decode cX11_mends 10 = .ok (.ireturn, 1) := by decide +kernel
theorem dX11_mend_0 : decode cX11_mend 0 = .ok (.iload_n 1, 1) := by decide +kernel
theorem dX11_mend_1 : decode cX11_mend 1 = .ok (.ifCond .ge 6, 3) := by decide +kernel
theorem dX11_mend_4 : decode cX11_mend 4 = .ok (.bipush (-2), 2) := by decide +kernel
theorem dX11_mend_6 : decode cX11_mend 6 = .ok (.ireturn, 1) := by decide +kernel
theorem dX11_mend_7 : decode cX11_mend 7 = .ok (.aload_n 0, 1) := by decide +kernel
theorem dX11_mend_8 : decode cX11_mend 8 = .ok (.invokevirtual 328, 3) := by decide +kernel
theorem dX11_mend_11 : decode cX11_mend 11 = .ok (.aload_n 0, 1) := by decide +kernel
theorem dX11_mend_12 : decode cX11_mend 12 = .ok (.iconst 5, 1) := by decide +kernel
theorem dX11_mend_13 : decode cX11_mend 13 = .ok (.iload_n 1, 1) := by decide +kernel
theorem dX11_mend_14 : decode cX11_mend 14 = .ok (.invokevirtual 331, 3) := by decide +kernel
theorem dX11_mend_17 : decode cX11_mend 17 = .ok (.ireturn, 1) := by decide +kernel
theorem dX11_sentences_0 : decode cX11_sentences 0 = .ok (.iload_n 1, 1) := by decide +kernel
theorem dX11_sentences_1 : decode cX11_sentences 1 = .ok (.ifCond .lt 8, 3) := by decide +kernel
theorem dX11_sentences_4 : decode cX11_sentences 4 = .ok (.iload_n 1, 1) := by decide +kernel
theorem dX11_sentences_5 : decode cX11_sentences 5 = .ok (.iconst 4, 1) := by decide +kernel
theorem dX11_sentences_6 : decode cX11_sentences 6 = .ok (.if_icmp .le 6, 3) := by decide +kernel
theorem dX11_sentences_9 : decode cX11_sentences 9 = .ok (.bipush (-2), 2) := by decide +kernel
theorem dX11_sentences_11 : decode cX11_sentences 11 = .ok (.ireturn, 1) := by decide +kernel
theorem dX11_sentences_12 : decode cX11_sentences 12 = .ok (.aload_n 0, 1) := by decide +kernel
theorem dX11_sentences_13 : decode cX11_sentences 13 = .ok (.getfield 100, 3) := by decide +kernel
theorem dX11_sentences_16 : decode cX11_sentences 16 = .ok (.getfield 164, 3) := by decide +kernel
theorem dX11_sentences_19 : decode cX11_sentences 19 = .ok (.invokestatic 334, 3) := by decide +kernel
theorem dX11_sentences_22 : decode cX11_sentences 22 = .ok (.iconst 4, 1) := by decide +kernel
theorem dX11_sentences_23 : decode cX11_sentences 23 = .ok (.if_icmp .le 6, 3) := by decide +kernel
theorem dX11_sentences_26 : decode cX11_sentences 26 = .ok (.bipush (-5), 2) := by decide +kernel
theorem dX11_sentences_28 : decode cX11_sentences 28 = .ok (.ireturn, 1) := by decide +kernel
theorem dX11_sentences_29 : decode cX11_sentences 29 = .ok (.aload_n 0, 1) := by decide +kernel
theorem dX11_sentences_30 : decode cX11_sentences 30 = .ok (.iload_n 1, 1) := by decide +kernel
theorem dX11_sentences_31 : decode cX11_sentences 31 = .ok (.invokevirtual 339, 3) := by decide +kernel
theorem dX11_sentences_34 : decode cX11_sentences 34 = .ok (.aload_n 0, 1) := by decide +kernel
theorem dX11_sentences_35 : decode cX11_sentences 35 = .ok (.getfield 93, 3) := by decide +kernel
theorem dX11_sentences_38 : decode cX11_sentences 38 = .ok (.iload_n 1, 1) := by decide +kernel
theorem dX11_sentences_39 : decode cX11_sentences 39 = .ok (.iaload, 1) := by decide +kernel
theorem dX11_sentences_40 : decode cX11_sentences 40 = .ok (.ireturn, 1) := by decide +kernel
theorem dX11_sentence_0 : decode cX11_sentence 0 = .ok (.iload_n 1, 1) := by decide +kernel
theorem dX11_sentence_1 : decode cX11_sentence 1 = .ok (.ifCond .lt 12, 3) := by decide +kernel
theorem dX11_sentence_4 : decode cX11_sentence 4 = .ok (.iload_n 1, 1) := by decide +kernel
theorem dX11_sentence_5 : decode cX11_sentence 5 = .ok (.iconst 4, 1) := by decide +kernel
theorem dX11_sentence_6 : decode cX11_sentence 6 = .ok (.if_icmp .gt 7, 3) := by decide +kernel
theorem dX11_sentence_9 : decode cX11_sentence 9 = .ok (.iload_n 2, 1) := by decide +kernel
theorem dX11_sentence_10 : decode cX11_sentence 10 = .ok (.ifCond .ge 6, 3) := by decide +kernel
theorem dX11_sentence_13 : decode cX11_sentence 13 = .ok (.bipush (-2), 2) := by decide +kernel
theorem dX11_sentence_15 : decode cX11_sentence 15 = .ok (.ireturn, 1) := by decide +kernel
theorem dX11_sentence_16 : decode cX11_sentence 16 = .ok (.aload_n 0, 1) := by decide +kernel
theorem dX11_sentence_17 : decode cX11_sentence 17 = .ok (.getfield 100, 3) := by decide +kernel
theorem dX11_sentence_20 : decode cX11_sentence 20 = .ok (.getfield 164, 3) := by decide +kernel
theorem dX11_sentence_23 : decode cX11_sentence 23 = .ok (.invokestatic 334, 3) := by decide +kernel
theorem dX11_sentence_26 : decode cX11_sentence 26 = .ok (.iconst 4, 1) := by decide +kernel
theorem dX11_sentence_27 : decode cX11_sentence 27 = .ok (.if_icmp .le 6, 3) := by decide +kernel
theorem dX11_sentence_30 : decode cX11_sentence 30 = .ok (.bipush (-5), 2) := by decide +kernel
theorem dX11_sentence_32 : decode cX11_sentence 32 = .ok (.ireturn, 1) := by decide +kernel
theorem dX11_sentence_33 : decode cX11_sentence 33 = .ok (.aload_n 0, 1) := by decide +kernel
theorem dX11_sentence_34 : decode cX11_sentence 34 = .ok (.iload_n 1, 1) := by decide +kernel
theorem dX11_sentence_35 : decode cX11_sentence 35 = .ok (.invokevirtual 339, 3) := by decide +kernel
theorem dX11_sentence_38 : decode cX11_sentence 38 = .ok (.aload_n 0, 1) := by decide +kernel
theorem dX11_sentence_39 : decode cX11_sentence 39 = .ok (.iload_n 1, 1) := by decide +kernel
theorem dX11_sentence_40 : decode cX11_sentence 40 = .ok (.iload_n 2, 1) := by decide +kernel
theorem dX11_sentence_41 : decode cX11_sentence 41 = .ok (.invokevirtual 331, 3) := by decide +kernel
theorem dX11_sentence_44 : decode cX11_sentence 44 = .ok (.ireturn, 1) := by decide +kernel
theorem dX11_used_0 : decode cX11_used 0 = .ok (.iload_n 1, 1) := by decide +kernel
theorem dX11_used_1 : decode cX11_used 1 = .ok (.ifCond .lt 8, 3) := by decide +kernel
theorem dX11_used_4 : decode cX11_used 4 = .ok (.iload_n 1, 1) := by decide +kernel
theorem dX11_used_5 : decode cX11_used 5 = .ok (.iconst 1, 1) := by decide +kernel
theorem dX11_used_6 : decode cX11_used 6 = .ok (.if_icmp .le 6, 3) := by decide +kernel
theorem dX11_used_9 : decode cX11_used 9 = .ok (.bipush (-2), 2) := by decide +kernel
theorem dX11_used_11 : decode cX11_used 11 = .ok (.ireturn, 1) := by decide +kernel
theorem dX11_used_12 : decode cX11_used 12 = .ok (.aload_n 0, 1) := by decide +kernel
theorem dX11_used_13 : decode cX11_used 13 = .ok (.invokevirtual 251, 3) := by decide +kernel
theorem dX11_used_16 : decode cX11_used 16 = .ok (.iload_n 1, 1) := by decide +kernel
theorem dX11_used_17 : decode cX11_used 17 = .ok (.ifCond .ne 13, 3) := by decide +kernel
theorem dX11_used_20 : decode cX11_used 20 = .ok (.aload_n 0, 1) := by decide +kernel
theorem dX11_used_21 : decode cX11_used 21 = .ok (.getfield 254, 3) := by decide +kernel
theorem dX11_used_24 : decode cX11_used 24 = .ok (.invokestatic 342, 3) := by decide +kernel
theorem dX11_used_27 : decode cX11_used 27 = .ok (.goto 10, 3) := by decide +kernel
theorem dX11_used_30 : decode cX11_used 30 = .ok (.aload_n 0, 1) := by decide +kernel
theorem dX11_used_31 : decode cX11_used 31 = .ok (.getfield 254, 3) := by decide +kernel
theorem dX11_used_34 : decode cX11_used 34 = .ok (.invokestatic 345, 3) := by decide +kernel
theorem dX11_used_37 : decode cX11_used 37 = .ok (.ireturn, 1) := by decide +kernel
theorem dX11_isLetter_0 : decode cX11_isLetter 0 = .ok (.iload_n 0, 1) := by decide +kernel
theorem dX11_isLetter_1 : decode cX11_isLetter 1 = .ok (.bipush 97, 2) := by decide +kernel
theorem dX11_isLetter_3 : decode cX11_isLetter 3 = .ok (.if_icmp .lt 13, 3) := by decide +kernel
theorem dX11_isLetter_6 : decode cX11_isLetter 6 = .ok (.iload_n 0, 1) := by decide +kernel
theorem dX11_isLetter_7 : decode cX11_isLetter 7 = .ok (.bipush 122, 2) := by decide +kernel
theorem dX11_isLetter_9 : decode cX11_isLetter 9 = .ok (.if_icmp .gt 7, 3) := by decide +kernel
theorem dX11_isLetter_12 : decode cX11_isLetter 12 = .ok (.iconst 1, 1) := by decide +kernel
theorem dX11_isLetter_13 : decode cX11_isLetter 13 = .ok (.goto 4, 3) := by decide +kernel
theorem dX11_isLetter_16 : decode cX11_isLetter 16 = .ok (.iconst 0, 1) := by decide +kernel
theorem dX11_isLetter_17 : decode cX11_isLetter 17 = .ok (.ireturn, 1) := by decide +kernel
theorem dX11_within_0 : decode cX11_within 0 = .ok (.iload_n 1, 1) := by decide +kernel
theorem dX11_within_1 : decode cX11_within 1 = .ok (.iconst (-1), 1) := by decide +kernel
theorem dX11_within_2 : decode cX11_within 2 = .ok (.if_icmp .ne 7, 3) := by decide +kernel
theorem dX11_within_5 : decode cX11_within 5 = .ok (.iconst (-1), 1) := by decide +kernel
theorem dX11_within_6 : decode cX11_within 6 = .ok (.goto 6, 3) := by decide +kernel
theorem dX11_within_9 : decode cX11_within 9 = .ok (.iload_n 1, 1) := by decide +kernel
theorem dX11_within_10 : decode cX11_within 10 = .ok (.iload_n 0, 1) := by decide +kernel
theorem dX11_within_11 : decode cX11_within 11 = .ok (.isub, 1) := by decide +kernel
theorem dX11_within_12 : decode cX11_within 12 = .ok (.ireturn, 1) := by decide +kernel
theorem dX11_shown_0 : decode cX11_shown 0 = .ok (.lload_n 0, 1) := by decide +kernel
theorem dX11_shown_1 : decode cX11_shown 1 = .ok (.ldc2_w 348, 3) := by decide +kernel
theorem dX11_shown_4 : decode cX11_shown 4 = .ok (.lcmp, 1) := by decide +kernel
theorem dX11_shown_5 : decode cX11_shown 5 = .ok (.ifCond .le 9, 3) := by decide +kernel
theorem dX11_shown_8 : decode cX11_shown 8 = .ok (.ldc2_w 350, 3) := by decide +kernel
theorem dX11_shown_11 : decode cX11_shown 11 = .ok (.goto 4, 3) := by decide +kernel
theorem dX11_shown_14 : decode cX11_shown 14 = .ok (.lload_n 0, 1) := by decide +kernel
theorem dX11_shown_15 : decode cX11_shown 15 = .ok (.lreturn, 1) := by decide +kernel
theorem dX11_isSpan_0 : decode cX11_isSpan 0 = .ok (.iconst 0, 1) := by decide +kernel
theorem dX11_isSpan_1 : decode cX11_isSpan 1 = .ok (.iload_n 1, 1) := by decide +kernel
theorem dX11_isSpan_2 : decode cX11_isSpan 2 = .ok (.if_icmp .gt 23, 3) := by decide +kernel
theorem dX11_isSpan_5 : decode cX11_isSpan 5 = .ok (.iload_n 1, 1) := by decide +kernel
theorem dX11_isSpan_6 : decode cX11_isSpan 6 = .ok (.iload_n 2, 1) := by decide +kernel
theorem dX11_isSpan_7 : decode cX11_isSpan 7 = .ok (.if_icmp .gt 18, 3) := by decide +kernel
theorem dX11_isSpan_10 : decode cX11_isSpan 10 = .ok (.iload_n 2, 1) := by decide +kernel
theorem dX11_isSpan_11 : decode cX11_isSpan 11 = .ok (.aload_n 0, 1) := by decide +kernel
theorem dX11_isSpan_12 : decode cX11_isSpan 12 = .ok (.getfield 21, 3) := by decide +kernel
theorem dX11_isSpan_15 : decode cX11_isSpan 15 = .ok (.getfield 118, 3) := by decide +kernel
theorem dX11_isSpan_18 : decode cX11_isSpan 18 = .ok (.if_icmp .gt 7, 3) := by decide +kernel
theorem dX11_isSpan_21 : decode cX11_isSpan 21 = .ok (.iconst 1, 1) := by decide +kernel
theorem dX11_isSpan_22 : decode cX11_isSpan 22 = .ok (.goto 4, 3) := by decide +kernel
theorem dX11_isSpan_25 : decode cX11_isSpan 25 = .ok (.iconst 0, 1) := by decide +kernel
theorem dX11_isSpan_26 : decode cX11_isSpan 26 = .ok (.ireturn, 1) := by decide +kernel
theorem dX11_isGap_0 : decode cX11_isGap 0 = .ok (.aload_n 0, 1) := by decide +kernel
theorem dX11_isGap_1 : decode cX11_isGap 1 = .ok (.iload_n 1, 1) := by decide +kernel
theorem dX11_isGap_2 : decode cX11_isGap 2 = .ok (.iload_n 2, 1) := by decide +kernel
theorem dX11_isGap_3 : decode cX11_isGap 3 = .ok (.invokevirtual 218, 3) := by decide +kernel
theorem dX11_isGap_6 : decode cX11_isGap 6 = .ok (.ifCond .eq 24, 3) := by decide +kernel
theorem dX11_isGap_9 : decode cX11_isGap 9 = .ok (.iload_n 1, 1) := by decide +kernel
theorem dX11_isGap_10 : decode cX11_isGap 10 = .ok (.iload_n 3, 1) := by decide +kernel
theorem dX11_isGap_11 : decode cX11_isGap 11 = .ok (.if_icmp .gt 19, 3) := by decide +kernel
theorem dX11_isGap_14 : decode cX11_isGap 14 = .ok (.iload_n 3, 1) := by decide +kernel
theorem dX11_isGap_15 : decode cX11_isGap 15 = .ok (.iload 4, 2) := by decide +kernel
theorem dX11_isGap_17 : decode cX11_isGap 17 = .ok (.if_icmp .gt 13, 3) := by decide +kernel
theorem dX11_isGap_20 : decode cX11_isGap 20 = .ok (.iload 4, 2) := by decide +kernel
theorem dX11_isGap_22 : decode cX11_isGap 22 = .ok (.iload_n 2, 1) := by decide +kernel
theorem dX11_isGap_23 : decode cX11_isGap 23 = .ok (.if_icmp .gt 7, 3) := by decide +kernel
theorem dX11_isGap_26 : decode cX11_isGap 26 = .ok (.iconst 1, 1) := by decide +kernel
theorem dX11_isGap_27 : decode cX11_isGap 27 = .ok (.goto 4, 3) := by decide +kernel
theorem dX11_isGap_30 : decode cX11_isGap 30 = .ok (.iconst 0, 1) := by decide +kernel
theorem dX11_isGap_31 : decode cX11_isGap 31 = .ok (.ireturn, 1) := by decide +kernel
theorem dX11_learns_0 : decode cX11_learns 0 = .ok (.aload_n 0, 1) := by decide +kernel
theorem dX11_learns_1 : decode cX11_learns 1 = .ok (.getfield 107, 3) := by decide +kernel
theorem dX11_learns_4 : decode cX11_learns 4 = .ok (.iload_n 1, 1) := by decide +kernel
theorem dX11_learns_5 : decode cX11_learns 5 = .ok (.iand, 1) := by decide +kernel
theorem dX11_learns_6 : decode cX11_learns 6 = .ok (.ifCond .ne 7, 3) := by decide +kernel
theorem dX11_learns_9 : decode cX11_learns 9 = .ok (.iconst 1, 1) := by decide +kernel
theorem dX11_learns_10 : decode cX11_learns 10 = .ok (.goto 4, 3) := by decide +kernel
theorem dX11_learns_13 : decode cX11_learns 13 = .ok (.iconst 0, 1) := by decide +kernel
theorem dX11_learns_14 : decode cX11_learns 14 = .ok (.istore_n 2, 1) := by decide +kernel
theorem dX11_learns_15 : decode cX11_learns 15 = .ok (.aload_n 0, 1) := by decide +kernel
theorem dX11_learns_16 : decode cX11_learns 16 = .ok (.dup, 1) := by decide +kernel
theorem dX11_learns_17 : decode cX11_learns 17 = .ok (.getfield 107, 3) := by decide +kernel
theorem dX11_learns_20 : decode cX11_learns 20 = .ok (.iload_n 1, 1) := by decide +kernel
theorem dX11_learns_21 : decode cX11_learns 21 = .ok (.ior, 1) := by decide +kernel
theorem dX11_learns_22 : decode cX11_learns 22 = .ok (.putfield 107, 3) := by decide +kernel
theorem dX11_learns_25 : decode cX11_learns 25 = .ok (.iload_n 2, 1) := by decide +kernel
theorem dX11_learns_26 : decode cX11_learns 26 = .ok (.ireturn, 1) := by decide +kernel
theorem dX11_knowCounts_0 : decode cX11_knowCounts 0 = .ok (.aload_n 0, 1) := by decide +kernel
theorem dX11_knowCounts_1 : decode cX11_knowCounts 1 = .ok (.bipush 64, 2) := by decide +kernel
theorem dX11_knowCounts_3 : decode cX11_knowCounts 3 = .ok (.invokevirtual 352, 3) := by decide +kernel
theorem dX11_knowCounts_6 : decode cX11_knowCounts 6 = .ok (.ifCond .eq 32, 3) := by decide +kernel
theorem dX11_knowCounts_9 : decode cX11_knowCounts 9 = .ok (.aload_n 0, 1) := by decide +kernel
theorem dX11_knowCounts_10 : decode cX11_knowCounts 10 = .ok (.getfield 64, 3) := by decide +kernel
theorem dX11_knowCounts_13 : decode cX11_knowCounts 13 = .ok (.aload_n 0, 1) := by decide +kernel
theorem dX11_knowCounts_14 : decode cX11_knowCounts 14 = .ok (.getfield 100, 3) := by decide +kernel
theorem dX11_knowCounts_17 : decode cX11_knowCounts 17 = .ok (.aload_n 0, 1) := by decide +kernel
theorem dX11_knowCounts_18 : decode cX11_knowCounts 18 = .ok (.getfield 100, 3) := by decide +kernel
theorem dX11_knowCounts_21 : decode cX11_knowCounts 21 = .ok (.getfield 158, 3) := by decide +kernel
theorem dX11_knowCounts_24 : decode cX11_knowCounts 24 = .ok (.aload_n 0, 1) := by decide +kernel
theorem dX11_knowCounts_25 : decode cX11_knowCounts 25 = .ok (.getfield 21, 3) := by decide +kernel
theorem dX11_knowCounts_28 : decode cX11_knowCounts 28 = .ok (.getfield 118, 3) := by decide +kernel
theorem dX11_knowCounts_31 : decode cX11_knowCounts 31 = .ok (.aload_n 0, 1) := by decide +kernel
theorem dX11_knowCounts_32 : decode cX11_knowCounts 32 = .ok (.getfield 43, 3) := by decide +kernel
theorem dX11_knowCounts_35 : decode cX11_knowCounts 35 = .ok (.invokevirtual 247, 3) := by decide +kernel
theorem dX11_knowCounts_38 : decode cX11_knowCounts 38 = .ok (.return_, 1) := by decide +kernel
theorem dX11_countedWays_0 : decode cX11_countedWays 0 = .ok (.aload_n 0, 1) := by decide +kernel
theorem dX11_countedWays_1 : decode cX11_countedWays 1 = .ok (.invokevirtual 221, 3) := by decide +kernel
theorem dX11_countedWays_4 : decode cX11_countedWays 4 = .ok (.aload_n 0, 1) := by decide +kernel
theorem dX11_countedWays_5 : decode cX11_countedWays 5 = .ok (.getfield 64, 3) := by decide +kernel
theorem dX11_countedWays_8 : decode cX11_countedWays 8 = .ok (.aload_n 0, 1) := by decide +kernel
theorem dX11_countedWays_9 : decode cX11_countedWays 9 = .ok (.getfield 21, 3) := by decide +kernel
theorem dX11_countedWays_12 : decode cX11_countedWays 12 = .ok (.getfield 118, 3) := by decide +kernel
theorem dX11_countedWays_15 : decode cX11_countedWays 15 = .ok (.invokevirtual 243, 3) := by decide +kernel
theorem dX11_countedWays_18 : decode cX11_countedWays 18 = .ok (.lreturn, 1) := by decide +kernel
theorem dX11_knowSummary_0 : decode cX11_knowSummary 0 = .ok (.aload_n 0, 1) := by decide +kernel
theorem dX11_knowSummary_1 : decode cX11_knowSummary 1 = .ok (.sipush 128, 3) := by decide +kernel
theorem dX11_knowSummary_4 : decode cX11_knowSummary 4 = .ok (.invokevirtual 352, 3) := by decide +kernel
theorem dX11_knowSummary_7 : decode cX11_knowSummary 7 = .ok (.ifCond .eq 50, 3) := by decide +kernel
theorem dX11_knowSummary_10 : decode cX11_knowSummary 10 = .ok (.aload_n 0, 1) := by decide +kernel
theorem dX11_knowSummary_11 : decode cX11_knowSummary 11 = .ok (.getfield 68, 3) := by decide +kernel
theorem dX11_knowSummary_14 : decode cX11_knowSummary 14 = .ok (.aload_n 0, 1) := by decide +kernel
theorem dX11_knowSummary_15 : decode cX11_knowSummary 15 = .ok (.getfield 100, 3) := by decide +kernel
theorem dX11_knowSummary_18 : decode cX11_knowSummary 18 = .ok (.aload_n 0, 1) := by decide +kernel
theorem dX11_knowSummary_19 : decode cX11_knowSummary 19 = .ok (.getfield 100, 3) := by decide +kernel
theorem dX11_knowSummary_22 : decode cX11_knowSummary 22 = .ok (.getfield 158, 3) := by decide +kernel
theorem dX11_knowSummary_25 : decode cX11_knowSummary 25 = .ok (.aload_n 0, 1) := by decide +kernel
theorem dX11_knowSummary_26 : decode cX11_knowSummary 26 = .ok (.getfield 21, 3) := by decide +kernel
theorem dX11_knowSummary_29 : decode cX11_knowSummary 29 = .ok (.getfield 118, 3) := by decide +kernel
theorem dX11_knowSummary_32 : decode cX11_knowSummary 32 = .ok (.aload_n 0, 1) := by decide +kernel
theorem dX11_knowSummary_33 : decode cX11_knowSummary 33 = .ok (.getfield 50, 3) := by decide +kernel
theorem dX11_knowSummary_36 : decode cX11_knowSummary 36 = .ok (.invokevirtual 247, 3) := by decide +kernel
theorem dX11_knowSummary_39 : decode cX11_knowSummary 39 = .ok (.aload_n 0, 1) := by decide +kernel
theorem dX11_knowSummary_40 : decode cX11_knowSummary 40 = .ok (.aload_n 0, 1) := by decide +kernel
theorem dX11_knowSummary_41 : decode cX11_knowSummary 41 = .ok (.getfield 68, 3) := by decide +kernel
theorem dX11_knowSummary_44 : decode cX11_knowSummary 44 = .ok (.aload_n 0, 1) := by decide +kernel
theorem dX11_knowSummary_45 : decode cX11_knowSummary 45 = .ok (.getfield 21, 3) := by decide +kernel
theorem dX11_knowSummary_48 : decode cX11_knowSummary 48 = .ok (.getfield 118, 3) := by decide +kernel
theorem dX11_knowSummary_51 : decode cX11_knowSummary 51 = .ok (.invokevirtual 243, 3) := by decide +kernel
theorem dX11_knowSummary_54 : decode cX11_knowSummary 54 = .ok (.putfield 254, 3) := by decide +kernel
theorem dX11_knowSummary_57 : decode cX11_knowSummary 57 = .ok (.return_, 1) := by decide +kernel
theorem dX11_findWay_0 : decode cX11_findWay 0 = .ok (.lload_n 1, 1) := by decide +kernel
theorem dX11_findWay_1 : decode cX11_findWay 1 = .ok (.lconst 0, 1) := by decide +kernel
theorem dX11_findWay_2 : decode cX11_findWay 2 = .ok (.lcmp, 1) := by decide +kernel
theorem dX11_findWay_3 : decode cX11_findWay 3 = .ok (.ifCond .ge 6, 3) := by decide +kernel
theorem dX11_findWay_6 : decode cX11_findWay 6 = .ok (.bipush (-2), 2) := by decide +kernel
theorem dX11_findWay_8 : decode cX11_findWay 8 = .ok (.ireturn, 1) := by decide +kernel
theorem dX11_findWay_9 : decode cX11_findWay 9 = .ok (.aload_n 0, 1) := by decide +kernel
theorem dX11_findWay_10 : decode cX11_findWay 10 = .ok (.invokevirtual 221, 3) := by decide +kernel
theorem dX11_findWay_13 : decode cX11_findWay 13 = .ok (.aload_n 0, 1) := by decide +kernel
theorem dX11_findWay_14 : decode cX11_findWay 14 = .ok (.getfield 64, 3) := by decide +kernel
theorem dX11_findWay_17 : decode cX11_findWay 17 = .ok (.aload_n 0, 1) := by decide +kernel
theorem dX11_findWay_18 : decode cX11_findWay 18 = .ok (.getfield 21, 3) := by decide +kernel
theorem dX11_findWay_21 : decode cX11_findWay 21 = .ok (.getfield 118, 3) := by decide +kernel
theorem dX11_findWay_24 : decode cX11_findWay 24 = .ok (.invokevirtual 243, 3) := by decide +kernel
theorem dX11_findWay_27 : decode cX11_findWay 27 = .ok (.lstore_n 3, 1) := by decide +kernel
theorem dX11_findWay_28 : decode cX11_findWay 28 = .ok (.lload_n 3, 1) := by decide +kernel
theorem dX11_findWay_29 : decode cX11_findWay 29 = .ok (.ldc2_w 348, 3) := by decide +kernel
theorem dX11_findWay_32 : decode cX11_findWay 32 = .ok (.lcmp, 1) := by decide +kernel
theorem dX11_findWay_33 : decode cX11_findWay 33 = .ok (.ifCond .le 6, 3) := by decide +kernel
theorem dX11_findWay_36 : decode cX11_findWay 36 = .ok (.bipush (-3), 2) := by decide +kernel
theorem dX11_findWay_38 : decode cX11_findWay 38 = .ok (.ireturn, 1) := by decide +kernel
theorem dX11_findWay_39 : decode cX11_findWay 39 = .ok (.lload_n 1, 1) := by decide +kernel
theorem dX11_findWay_40 : decode cX11_findWay 40 = .ok (.lload_n 3, 1) := by decide +kernel
theorem dX11_findWay_41 : decode cX11_findWay 41 = .ok (.lcmp, 1) := by decide +kernel
theorem dX11_findWay_42 : decode cX11_findWay 42 = .ok (.ifCond .lt 5, 3) := by decide +kernel
theorem dX11_findWay_45 : decode cX11_findWay 45 = .ok (.iconst (-1), 1) := by decide +kernel
theorem dX11_findWay_46 : decode cX11_findWay 46 = .ok (.ireturn, 1) := by decide +kernel
theorem dX11_findWay_47 : decode cX11_findWay 47 = .ok (.aload_n 0, 1) := by decide +kernel
theorem dX11_findWay_48 : decode cX11_findWay 48 = .ok (.sipush 256, 3) := by decide +kernel
theorem dX11_findWay_51 : decode cX11_findWay 51 = .ok (.invokevirtual 352, 3) := by decide +kernel
theorem dX11_findWay_54 : decode cX11_findWay 54 = .ok (.ifCond .ne 15, 3) := by decide +kernel
theorem dX11_findWay_57 : decode cX11_findWay 57 = .ok (.aload_n 0, 1) := by decide +kernel
theorem dX11_findWay_58 : decode cX11_findWay 58 = .ok (.getfield 81, 3) := by decide +kernel
theorem dX11_findWay_61 : decode cX11_findWay 61 = .ok (.getfield 355, 3) := by decide +kernel
theorem dX11_findWay_64 : decode cX11_findWay 64 = .ok (.lload_n 1, 1) := by decide +kernel
theorem dX11_findWay_65 : decode cX11_findWay 65 = .ok (.lcmp, 1) := by decide +kernel
theorem dX11_findWay_66 : decode cX11_findWay 66 = .ok (.ifCond .eq 38, 3) := by decide +kernel
theorem dX11_findWay_69 : decode cX11_findWay 69 = .ok (.aload_n 0, 1) := by decide +kernel
theorem dX11_findWay_70 : decode cX11_findWay 70 = .ok (.getfield 81, 3) := by decide +kernel
theorem dX11_findWay_73 : decode cX11_findWay 73 = .ok (.lload_n 1, 1) := by decide +kernel
theorem dX11_findWay_74 : decode cX11_findWay 74 = .ok (.putfield 355, 3) := by decide +kernel
theorem dX11_findWay_77 : decode cX11_findWay 77 = .ok (.aload_n 0, 1) := by decide +kernel
theorem dX11_findWay_78 : decode cX11_findWay 78 = .ok (.getfield 74, 3) := by decide +kernel
theorem dX11_findWay_81 : decode cX11_findWay 81 = .ok (.aload_n 0, 1) := by decide +kernel
theorem dX11_findWay_82 : decode cX11_findWay 82 = .ok (.getfield 64, 3) := by decide +kernel
theorem dX11_findWay_85 : decode cX11_findWay 85 = .ok (.lload_n 1, 1) := by decide +kernel
theorem dX11_findWay_86 : decode cX11_findWay 86 = .ok (.aload_n 0, 1) := by decide +kernel
theorem dX11_findWay_87 : decode cX11_findWay 87 = .ok (.getfield 81, 3) := by decide +kernel
theorem dX11_findWay_90 : decode cX11_findWay 90 = .ok (.invokevirtual 358, 3) := by decide +kernel
theorem dX11_findWay_93 : decode cX11_findWay 93 = .ok (.aload_n 0, 1) := by decide +kernel
theorem dX11_findWay_94 : decode cX11_findWay 94 = .ok (.getfield 81, 3) := by decide +kernel
theorem dX11_findWay_97 : decode cX11_findWay 97 = .ok (.aload_n 0, 1) := by decide +kernel
theorem dX11_findWay_98 : decode cX11_findWay 98 = .ok (.getfield 100, 3) := by decide +kernel
theorem dX11_findWay_101 : decode cX11_findWay 101 = .ok (.invokevirtual 321, 3) := by decide +kernel
theorem dX11_findWay_104 : decode cX11_findWay 104 = .ok (.iconst 0, 1) := by decide +kernel
theorem dX11_findWay_105 : decode cX11_findWay 105 = .ok (.ireturn, 1) := by decide +kernel
theorem dX11_listedAt_0 : decode cX11_listedAt 0 = .ok (.iload_n 2, 1) := by decide +kernel
theorem dX11_listedAt_1 : decode cX11_listedAt 1 = .ok (.ifCond .lt 31, 3) := by decide +kernel
theorem dX11_listedAt_4 : decode cX11_listedAt 4 = .ok (.iload_n 2, 1) := by decide +kernel
theorem dX11_listedAt_5 : decode cX11_listedAt 5 = .ok (.aload_n 0, 1) := by decide +kernel
theorem dX11_listedAt_6 : decode cX11_listedAt 6 = .ok (.getfield 93, 3) := by decide +kernel
theorem dX11_listedAt_9 : decode cX11_listedAt 9 = .ok (.iload_n 1, 1) := by decide +kernel
theorem dX11_listedAt_10 : decode cX11_listedAt 10 = .ok (.iaload, 1) := by decide +kernel
theorem dX11_listedAt_11 : decode cX11_listedAt 11 = .ok (.if_icmp .ge 21, 3) := by decide +kernel
theorem dX11_listedAt_14 : decode cX11_listedAt 14 = .ok (.iload_n 2, 1) := by decide +kernel
theorem dX11_listedAt_15 : decode cX11_listedAt 15 = .ok (.sipush 256, 3) := by decide +kernel
theorem dX11_listedAt_18 : decode cX11_listedAt 18 = .ok (.if_icmp .ge 14, 3) := by decide +kernel
theorem dX11_listedAt_21 : decode cX11_listedAt 21 = .ok (.aload_n 0, 1) := by decide +kernel
theorem dX11_listedAt_22 : decode cX11_listedAt 22 = .ok (.getfield 90, 3) := by decide +kernel
theorem dX11_listedAt_25 : decode cX11_listedAt 25 = .ok (.iload_n 1, 1) := by decide +kernel
theorem dX11_listedAt_26 : decode cX11_listedAt 26 = .ok (.aaload, 1) := by decide +kernel
theorem dX11_listedAt_27 : decode cX11_listedAt 27 = .ok (.iload_n 2, 1) := by decide +kernel
theorem dX11_listedAt_28 : decode cX11_listedAt 28 = .ok (.iaload, 1) := by decide +kernel
theorem dX11_listedAt_29 : decode cX11_listedAt 29 = .ok (.goto 4, 3) := by decide +kernel
theorem dX11_listedAt_32 : decode cX11_listedAt 32 = .ok (.iconst (-1), 1) := by decide +kernel
theorem dX11_listedAt_33 : decode cX11_listedAt 33 = .ok (.ireturn, 1) := by decide +kernel
theorem dX11_knowMends_0 : decode cX11_knowMends 0 = .ok (.aload_n 0, 1) := by decide +kernel
theorem dX11_knowMends_1 : decode cX11_knowMends 1 = .ok (.bipush 32, 2) := by decide +kernel
theorem dX11_knowMends_3 : decode cX11_knowMends 3 = .ok (.invokevirtual 352, 3) := by decide +kernel
theorem dX11_knowMends_6 : decode cX11_knowMends 6 = .ok (.ifCond .ne 4, 3) := by decide +kernel
theorem dX11_knowMends_9 : decode cX11_knowMends 9 = .ok (.return_, 1) := by decide +kernel
theorem dX11_knowMends_10 : decode cX11_knowMends 10 = .ok (.aload_n 0, 1) := by decide +kernel
theorem dX11_knowMends_11 : decode cX11_knowMends 11 = .ok (.getfield 93, 3) := by decide +kernel
theorem dX11_knowMends_14 : decode cX11_knowMends 14 = .ok (.iconst 5, 1) := by decide +kernel
theorem dX11_knowMends_15 : decode cX11_knowMends 15 = .ok (.iconst 0, 1) := by decide +kernel
theorem dX11_knowMends_16 : decode cX11_knowMends 16 = .ok (.iastore, 1) := by decide +kernel
theorem dX11_knowMends_17 : decode cX11_knowMends 17 = .ok (.aload_n 0, 1) := by decide +kernel
theorem dX11_knowMends_18 : decode cX11_knowMends 18 = .ok (.getfield 57, 3) := by decide +kernel
theorem dX11_knowMends_21 : decode cX11_knowMends 21 = .ok (.invokevirtual 362, 3) := by decide +kernel
theorem dX11_knowMends_24 : decode cX11_knowMends 24 = .ok (.iconst 0, 1) := by decide +kernel
theorem dX11_knowMends_25 : decode cX11_knowMends 25 = .ok (.istore_n 1, 1) := by decide +kernel
theorem dX11_knowMends_26 : decode cX11_knowMends 26 = .ok (.iload_n 1, 1) := by decide +kernel
theorem dX11_knowMends_27 : decode cX11_knowMends 27 = .ok (.aload_n 0, 1) := by decide +kernel
theorem dX11_knowMends_28 : decode cX11_knowMends 28 = .ok (.getfield 21, 3) := by decide +kernel
theorem dX11_knowMends_31 : decode cX11_knowMends 31 = .ok (.getfield 118, 3) := by decide +kernel
theorem dX11_knowMends_34 : decode cX11_knowMends 34 = .ok (.if_icmp .ge 87, 3) := by decide +kernel
theorem dX11_knowMends_37 : decode cX11_knowMends 37 = .ok (.iconst 0, 1) := by decide +kernel
theorem dX11_knowMends_38 : decode cX11_knowMends 38 = .ok (.istore_n 2, 1) := by decide +kernel
theorem dX11_knowMends_39 : decode cX11_knowMends 39 = .ok (.iload_n 2, 1) := by decide +kernel
theorem dX11_knowMends_40 : decode cX11_knowMends 40 = .ok (.bipush 26, 2) := by decide +kernel
theorem dX11_knowMends_42 : decode cX11_knowMends 42 = .ok (.if_icmp .ge 73, 3) := by decide +kernel
theorem dX11_knowMends_45 : decode cX11_knowMends 45 = .ok (.aload_n 0, 1) := by decide +kernel
theorem dX11_knowMends_46 : decode cX11_knowMends 46 = .ok (.getfield 100, 3) := by decide +kernel
theorem dX11_knowMends_49 : decode cX11_knowMends 49 = .ok (.getfield 164, 3) := by decide +kernel
theorem dX11_knowMends_52 : decode cX11_knowMends 52 = .ok (.iload_n 2, 1) := by decide +kernel
theorem dX11_knowMends_53 : decode cX11_knowMends 53 = .ok (.ishr, 1) := by decide +kernel
theorem dX11_knowMends_54 : decode cX11_knowMends 54 = .ok (.iconst 1, 1) := by decide +kernel
theorem dX11_knowMends_55 : decode cX11_knowMends 55 = .ok (.iand, 1) := by decide +kernel
theorem dX11_knowMends_56 : decode cX11_knowMends 56 = .ok (.iconst 1, 1) := by decide +kernel
theorem dX11_knowMends_57 : decode cX11_knowMends 57 = .ok (.if_icmp .ne 52, 3) := by decide +kernel
theorem dX11_knowMends_60 : decode cX11_knowMends 60 = .ok (.aload_n 0, 1) := by decide +kernel
theorem dX11_knowMends_61 : decode cX11_knowMends 61 = .ok (.getfield 21, 3) := by decide +kernel
theorem dX11_knowMends_64 : decode cX11_knowMends 64 = .ok (.iload_n 1, 1) := by decide +kernel
theorem dX11_knowMends_65 : decode cX11_knowMends 65 = .ok (.invokevirtual 134, 3) := by decide +kernel
theorem dX11_knowMends_68 : decode cX11_knowMends 68 = .ok (.iload_n 2, 1) := by decide +kernel
theorem dX11_knowMends_69 : decode cX11_knowMends 69 = .ok (.if_icmp .eq 40, 3) := by decide +kernel
theorem dX11_knowMends_72 : decode cX11_knowMends 72 = .ok (.aload_n 0, 1) := by decide +kernel
theorem dX11_knowMends_73 : decode cX11_knowMends 73 = .ok (.getfield 57, 3) := by decide +kernel
theorem dX11_knowMends_76 : decode cX11_knowMends 76 = .ok (.aload_n 0, 1) := by decide +kernel
theorem dX11_knowMends_77 : decode cX11_knowMends 77 = .ok (.getfield 21, 3) := by decide +kernel
theorem dX11_knowMends_80 : decode cX11_knowMends 80 = .ok (.iload_n 1, 1) := by decide +kernel
theorem dX11_knowMends_81 : decode cX11_knowMends 81 = .ok (.iload_n 2, 1) := by decide +kernel
theorem dX11_knowMends_82 : decode cX11_knowMends 82 = .ok (.invokevirtual 365, 3) := by decide +kernel
theorem dX11_knowMends_85 : decode cX11_knowMends 85 = .ok (.aload_n 0, 1) := by decide +kernel
theorem dX11_knowMends_86 : decode cX11_knowMends 86 = .ok (.getfield 57, 3) := by decide +kernel
theorem dX11_knowMends_89 : decode cX11_knowMends 89 = .ok (.getfield 369, 3) := by decide +kernel
theorem dX11_knowMends_92 : decode cX11_knowMends 92 = .ok (.bipush 64, 2) := by decide +kernel
theorem dX11_knowMends_94 : decode cX11_knowMends 94 = .ok (.if_icmp .ne 15, 3) := by decide +kernel
theorem dX11_knowMends_97 : decode cX11_knowMends 97 = .ok (.aload_n 0, 1) := by decide +kernel
theorem dX11_knowMends_98 : decode cX11_knowMends 98 = .ok (.iconst 5, 1) := by decide +kernel
theorem dX11_knowMends_99 : decode cX11_knowMends 99 = .ok (.aload_n 0, 1) := by decide +kernel
theorem dX11_knowMends_100 : decode cX11_knowMends 100 = .ok (.getfield 21, 3) := by decide +kernel
theorem dX11_knowMends_103 : decode cX11_knowMends 103 = .ok (.getfield 118, 3) := by decide +kernel
theorem dX11_knowMends_106 : decode cX11_knowMends 106 = .ok (.invokevirtual 370, 3) := by decide +kernel
theorem dX11_knowMends_109 : decode cX11_knowMends 109 = .ok (.iinc 2 1, 3) := by decide +kernel
theorem dX11_knowMends_112 : decode cX11_knowMends 112 = .ok (.goto (-73), 3) := by decide +kernel
theorem dX11_knowMends_115 : decode cX11_knowMends 115 = .ok (.iinc 1 1, 3) := by decide +kernel
theorem dX11_knowMends_118 : decode cX11_knowMends 118 = .ok (.goto (-92), 3) := by decide +kernel
theorem dX11_knowMends_121 : decode cX11_knowMends 121 = .ok (.aload_n 0, 1) := by decide +kernel
theorem dX11_knowMends_122 : decode cX11_knowMends 122 = .ok (.iconst 5, 1) := by decide +kernel
theorem dX11_knowMends_123 : decode cX11_knowMends 123 = .ok (.aload_n 0, 1) := by decide +kernel
theorem dX11_knowMends_124 : decode cX11_knowMends 124 = .ok (.getfield 21, 3) := by decide +kernel
theorem dX11_knowMends_127 : decode cX11_knowMends 127 = .ok (.getfield 118, 3) := by decide +kernel
theorem dX11_knowMends_130 : decode cX11_knowMends 130 = .ok (.invokevirtual 370, 3) := by decide +kernel
theorem dX11_knowMends_133 : decode cX11_knowMends 133 = .ok (.return_, 1) := by decide +kernel
theorem dX11_knowSentences_0 : decode cX11_knowSentences 0 = .ok (.aload_n 0, 1) := by decide +kernel
theorem dX11_knowSentences_1 : decode cX11_knowSentences 1 = .ok (.iconst 1, 1) := by decide +kernel
theorem dX11_knowSentences_2 : decode cX11_knowSentences 2 = .ok (.iload_n 1, 1) := by decide +kernel
theorem dX11_knowSentences_3 : decode cX11_knowSentences 3 = .ok (.ishl, 1) := by decide +kernel
theorem dX11_knowSentences_4 : decode cX11_knowSentences 4 = .ok (.invokevirtual 352, 3) := by decide +kernel
theorem dX11_knowSentences_7 : decode cX11_knowSentences 7 = .ok (.ifCond .ne 4, 3) := by decide +kernel
theorem dX11_knowSentences_10 : decode cX11_knowSentences 10 = .ok (.return_, 1) := by decide +kernel
theorem dX11_knowSentences_11 : decode cX11_knowSentences 11 = .ok (.aload_n 0, 1) := by decide +kernel
theorem dX11_knowSentences_12 : decode cX11_knowSentences 12 = .ok (.getfield 93, 3) := by decide +kernel
theorem dX11_knowSentences_15 : decode cX11_knowSentences 15 = .ok (.iload_n 1, 1) := by decide +kernel
theorem dX11_knowSentences_16 : decode cX11_knowSentences 16 = .ok (.iconst 0, 1) := by decide +kernel
theorem dX11_knowSentences_17 : decode cX11_knowSentences 17 = .ok (.iastore, 1) := by decide +kernel
theorem dX11_knowSentences_18 : decode cX11_knowSentences 18 = .ok (.aload_n 0, 1) := by decide +kernel
theorem dX11_knowSentences_19 : decode cX11_knowSentences 19 = .ok (.getfield 57, 3) := by decide +kernel
theorem dX11_knowSentences_22 : decode cX11_knowSentences 22 = .ok (.invokevirtual 362, 3) := by decide +kernel
theorem dX11_knowSentences_25 : decode cX11_knowSentences 25 = .ok (.aload_n 0, 1) := by decide +kernel
theorem dX11_knowSentences_26 : decode cX11_knowSentences 26 = .ok (.getfield 100, 3) := by decide +kernel
theorem dX11_knowSentences_29 : decode cX11_knowSentences 29 = .ok (.getfield 164, 3) := by decide +kernel
theorem dX11_knowSentences_32 : decode cX11_knowSentences 32 = .ok (.invokestatic 334, 3) := by decide +kernel
theorem dX11_knowSentences_35 : decode cX11_knowSentences 35 = .ok (.istore_n 2, 1) := by decide +kernel
theorem dX11_knowSentences_36 : decode cX11_knowSentences 36 = .ok (.iconst 1, 1) := by decide +kernel
theorem dX11_knowSentences_37 : decode cX11_knowSentences 37 = .ok (.istore_n 3, 1) := by decide +kernel
theorem dX11_knowSentences_38 : decode cX11_knowSentences 38 = .ok (.iconst 0, 1) := by decide +kernel
theorem dX11_knowSentences_39 : decode cX11_knowSentences 39 = .ok (.istore 4, 2) := by decide +kernel
theorem dX11_knowSentences_41 : decode cX11_knowSentences 41 = .ok (.iload 4, 2) := by decide +kernel
theorem dX11_knowSentences_43 : decode cX11_knowSentences 43 = .ok (.iload_n 1, 1) := by decide +kernel
theorem dX11_knowSentences_44 : decode cX11_knowSentences 44 = .ok (.if_icmp .ge 13, 3) := by decide +kernel
theorem dX11_knowSentences_47 : decode cX11_knowSentences 47 = .ok (.iload_n 3, 1) := by decide +kernel
theorem dX11_knowSentences_48 : decode cX11_knowSentences 48 = .ok (.iload_n 2, 1) := by decide +kernel
theorem dX11_knowSentences_49 : decode cX11_knowSentences 49 = .ok (.imul, 1) := by decide +kernel
theorem dX11_knowSentences_50 : decode cX11_knowSentences 50 = .ok (.istore_n 3, 1) := by decide +kernel
theorem dX11_knowSentences_51 : decode cX11_knowSentences 51 = .ok (.iinc 4 1, 3) := by decide +kernel
theorem dX11_knowSentences_54 : decode cX11_knowSentences 54 = .ok (.goto (-13), 3) := by decide +kernel
theorem dX11_knowSentences_57 : decode cX11_knowSentences 57 = .ok (.iconst 0, 1) := by decide +kernel
theorem dX11_knowSentences_58 : decode cX11_knowSentences 58 = .ok (.istore 4, 2) := by decide +kernel
theorem dX11_knowSentences_60 : decode cX11_knowSentences 60 = .ok (.iload 4, 2) := by decide +kernel
theorem dX11_knowSentences_62 : decode cX11_knowSentences 62 = .ok (.iload_n 3, 1) := by decide +kernel
theorem dX11_knowSentences_63 : decode cX11_knowSentences 63 = .ok (.if_icmp .ge 45, 3) := by decide +kernel
theorem dX11_knowSentences_66 : decode cX11_knowSentences 66 = .ok (.aload_n 0, 1) := by decide +kernel
theorem dX11_knowSentences_67 : decode cX11_knowSentences 67 = .ok (.getfield 57, 3) := by decide +kernel
theorem dX11_knowSentences_70 : decode cX11_knowSentences 70 = .ok (.aload_n 0, 1) := by decide +kernel
theorem dX11_knowSentences_71 : decode cX11_knowSentences 71 = .ok (.getfield 100, 3) := by decide +kernel
theorem dX11_knowSentences_74 : decode cX11_knowSentences 74 = .ok (.getfield 164, 3) := by decide +kernel
theorem dX11_knowSentences_77 : decode cX11_knowSentences 77 = .ok (.iload_n 2, 1) := by decide +kernel
theorem dX11_knowSentences_78 : decode cX11_knowSentences 78 = .ok (.iload_n 1, 1) := by decide +kernel
theorem dX11_knowSentences_79 : decode cX11_knowSentences 79 = .ok (.iload 4, 2) := by decide +kernel
theorem dX11_knowSentences_81 : decode cX11_knowSentences 81 = .ok (.invokevirtual 374, 3) := by decide +kernel
theorem dX11_knowSentences_84 : decode cX11_knowSentences 84 = .ok (.aload_n 0, 1) := by decide +kernel
theorem dX11_knowSentences_85 : decode cX11_knowSentences 85 = .ok (.getfield 57, 3) := by decide +kernel
theorem dX11_knowSentences_88 : decode cX11_knowSentences 88 = .ok (.getfield 369, 3) := by decide +kernel
theorem dX11_knowSentences_91 : decode cX11_knowSentences 91 = .ok (.bipush 64, 2) := by decide +kernel
theorem dX11_knowSentences_93 : decode cX11_knowSentences 93 = .ok (.if_icmp .ne 9, 3) := by decide +kernel
theorem dX11_knowSentences_96 : decode cX11_knowSentences 96 = .ok (.aload_n 0, 1) := by decide +kernel
theorem dX11_knowSentences_97 : decode cX11_knowSentences 97 = .ok (.iload_n 1, 1) := by decide +kernel
theorem dX11_knowSentences_98 : decode cX11_knowSentences 98 = .ok (.iload_n 1, 1) := by decide +kernel
theorem dX11_knowSentences_99 : decode cX11_knowSentences 99 = .ok (.invokevirtual 370, 3) := by decide +kernel
theorem dX11_knowSentences_102 : decode cX11_knowSentences 102 = .ok (.iinc 4 1, 3) := by decide +kernel
theorem dX11_knowSentences_105 : decode cX11_knowSentences 105 = .ok (.goto (-45), 3) := by decide +kernel
theorem dX11_knowSentences_108 : decode cX11_knowSentences 108 = .ok (.aload_n 0, 1) := by decide +kernel
theorem dX11_knowSentences_109 : decode cX11_knowSentences 109 = .ok (.iload_n 1, 1) := by decide +kernel
theorem dX11_knowSentences_110 : decode cX11_knowSentences 110 = .ok (.iload_n 1, 1) := by decide +kernel
theorem dX11_knowSentences_111 : decode cX11_knowSentences 111 = .ok (.invokevirtual 370, 3) := by decide +kernel
theorem dX11_knowSentences_114 : decode cX11_knowSentences 114 = .ok (.return_, 1) := by decide +kernel
theorem dX11_listRead_0 : decode cX11_listRead 0 = .ok (.aload_n 0, 1) := by decide +kernel
theorem dX11_listRead_1 : decode cX11_listRead 1 = .ok (.getfield 57, 3) := by decide +kernel
theorem dX11_listRead_4 : decode cX11_listRead 4 = .ok (.getfield 369, 3) := by decide +kernel
theorem dX11_listRead_7 : decode cX11_listRead 7 = .ok (.ifCond .ne 4, 3) := by decide +kernel
theorem dX11_listRead_10 : decode cX11_listRead 10 = .ok (.return_, 1) := by decide +kernel
theorem dX11_listRead_11 : decode cX11_listRead 11 = .ok (.aload_n 0, 1) := by decide +kernel
theorem dX11_listRead_12 : decode cX11_listRead 12 = .ok (.getfield 68, 3) := by decide +kernel
theorem dX11_listRead_15 : decode cX11_listRead 15 = .ok (.aload_n 0, 1) := by decide +kernel
theorem dX11_listRead_16 : decode cX11_listRead 16 = .ok (.getfield 100, 3) := by decide +kernel
theorem dX11_listRead_19 : decode cX11_listRead 19 = .ok (.aload_n 0, 1) := by decide +kernel
theorem dX11_listRead_20 : decode cX11_listRead 20 = .ok (.getfield 100, 3) := by decide +kernel
theorem dX11_listRead_23 : decode cX11_listRead 23 = .ok (.getfield 158, 3) := by decide +kernel
theorem dX11_listRead_26 : decode cX11_listRead 26 = .ok (.iload_n 2, 1) := by decide +kernel
theorem dX11_listRead_27 : decode cX11_listRead 27 = .ok (.aload_n 0, 1) := by decide +kernel
theorem dX11_listRead_28 : decode cX11_listRead 28 = .ok (.getfield 57, 3) := by decide +kernel
theorem dX11_listRead_31 : decode cX11_listRead 31 = .ok (.invokevirtual 247, 3) := by decide +kernel
theorem dX11_listRead_34 : decode cX11_listRead 34 = .ok (.aload_n 0, 1) := by decide +kernel
theorem dX11_listRead_35 : decode cX11_listRead 35 = .ok (.getfield 68, 3) := by decide +kernel
theorem dX11_listRead_38 : decode cX11_listRead 38 = .ok (.iload_n 2, 1) := by decide +kernel
theorem dX11_listRead_39 : decode cX11_listRead 39 = .ok (.invokevirtual 243, 3) := by decide +kernel
theorem dX11_listRead_42 : decode cX11_listRead 42 = .ok (.lstore_n 3, 1) := by decide +kernel
theorem dX11_listRead_43 : decode cX11_listRead 43 = .ok (.iconst 0, 1) := by decide +kernel
theorem dX11_listRead_44 : decode cX11_listRead 44 = .ok (.istore 5, 2) := by decide +kernel
theorem dX11_listRead_46 : decode cX11_listRead 46 = .ok (.iload 5, 2) := by decide +kernel
theorem dX11_listRead_48 : decode cX11_listRead 48 = .ok (.aload_n 0, 1) := by decide +kernel
theorem dX11_listRead_49 : decode cX11_listRead 49 = .ok (.getfield 57, 3) := by decide +kernel
theorem dX11_listRead_52 : decode cX11_listRead 52 = .ok (.getfield 369, 3) := by decide +kernel
theorem dX11_listRead_55 : decode cX11_listRead 55 = .ok (.if_icmp .ge 65, 3) := by decide +kernel
theorem dX11_listRead_58 : decode cX11_listRead 58 = .ok (.lload_n 3, 1) := by decide +kernel
theorem dX11_listRead_59 : decode cX11_listRead 59 = .ok (.iload 5, 2) := by decide +kernel
theorem dX11_listRead_61 : decode cX11_listRead 61 = .ok (.lshr, 1) := by decide +kernel
theorem dX11_listRead_62 : decode cX11_listRead 62 = .ok (.lconst 1, 1) := by decide +kernel
theorem dX11_listRead_63 : decode cX11_listRead 63 = .ok (.land, 1) := by decide +kernel
theorem dX11_listRead_64 : decode cX11_listRead 64 = .ok (.lconst 1, 1) := by decide +kernel
theorem dX11_listRead_65 : decode cX11_listRead 65 = .ok (.lcmp, 1) := by decide +kernel
theorem dX11_listRead_66 : decode cX11_listRead 66 = .ok (.ifCond .ne 48, 3) := by decide +kernel
theorem dX11_listRead_69 : decode cX11_listRead 69 = .ok (.aload_n 0, 1) := by decide +kernel
theorem dX11_listRead_70 : decode cX11_listRead 70 = .ok (.getfield 93, 3) := by decide +kernel
theorem dX11_listRead_73 : decode cX11_listRead 73 = .ok (.iload_n 1, 1) := by decide +kernel
theorem dX11_listRead_74 : decode cX11_listRead 74 = .ok (.iaload, 1) := by decide +kernel
theorem dX11_listRead_75 : decode cX11_listRead 75 = .ok (.sipush 256, 3) := by decide +kernel
theorem dX11_listRead_78 : decode cX11_listRead 78 = .ok (.if_icmp .ge 36, 3) := by decide +kernel
theorem dX11_listRead_81 : decode cX11_listRead 81 = .ok (.aload_n 0, 1) := by decide +kernel
theorem dX11_listRead_82 : decode cX11_listRead 82 = .ok (.getfield 90, 3) := by decide +kernel
theorem dX11_listRead_85 : decode cX11_listRead 85 = .ok (.iload_n 1, 1) := by decide +kernel
theorem dX11_listRead_86 : decode cX11_listRead 86 = .ok (.aaload, 1) := by decide +kernel
theorem dX11_listRead_87 : decode cX11_listRead 87 = .ok (.aload_n 0, 1) := by decide +kernel
theorem dX11_listRead_88 : decode cX11_listRead 88 = .ok (.getfield 93, 3) := by decide +kernel
theorem dX11_listRead_91 : decode cX11_listRead 91 = .ok (.iload_n 1, 1) := by decide +kernel
theorem dX11_listRead_92 : decode cX11_listRead 92 = .ok (.iaload, 1) := by decide +kernel
theorem dX11_listRead_93 : decode cX11_listRead 93 = .ok (.aload_n 0, 1) := by decide +kernel
theorem dX11_listRead_94 : decode cX11_listRead 94 = .ok (.getfield 57, 3) := by decide +kernel
theorem dX11_listRead_97 : decode cX11_listRead 97 = .ok (.getfield 378, 3) := by decide +kernel
theorem dX11_listRead_100 : decode cX11_listRead 100 = .ok (.iload 5, 2) := by decide +kernel
theorem dX11_listRead_102 : decode cX11_listRead 102 = .ok (.iaload, 1) := by decide +kernel
theorem dX11_listRead_103 : decode cX11_listRead 103 = .ok (.iastore, 1) := by decide +kernel
theorem dX11_listRead_104 : decode cX11_listRead 104 = .ok (.aload_n 0, 1) := by decide +kernel
theorem dX11_listRead_105 : decode cX11_listRead 105 = .ok (.getfield 93, 3) := by decide +kernel
theorem dX11_listRead_108 : decode cX11_listRead 108 = .ok (.iload_n 1, 1) := by decide +kernel
theorem dX11_listRead_109 : decode cX11_listRead 109 = .ok (.dup2, 1) := by decide +kernel
theorem dX11_listRead_110 : decode cX11_listRead 110 = .ok (.iaload, 1) := by decide +kernel
theorem dX11_listRead_111 : decode cX11_listRead 111 = .ok (.iconst 1, 1) := by decide +kernel
theorem dX11_listRead_112 : decode cX11_listRead 112 = .ok (.iadd, 1) := by decide +kernel
theorem dX11_listRead_113 : decode cX11_listRead 113 = .ok (.iastore, 1) := by decide +kernel
theorem dX11_listRead_114 : decode cX11_listRead 114 = .ok (.iinc 5 1, 3) := by decide +kernel
theorem dX11_listRead_117 : decode cX11_listRead 117 = .ok (.goto (-71), 3) := by decide +kernel
theorem dX11_listRead_120 : decode cX11_listRead 120 = .ok (.aload_n 0, 1) := by decide +kernel
theorem dX11_listRead_121 : decode cX11_listRead 121 = .ok (.getfield 57, 3) := by decide +kernel
theorem dX11_listRead_124 : decode cX11_listRead 124 = .ok (.invokevirtual 362, 3) := by decide +kernel
theorem dX11_listRead_127 : decode cX11_listRead 127 = .ok (.return_, 1) := by decide +kernel
theorem dX12_in_0 : decode cX12_in 0 = .ok (.lload_n 0, 1) := by decide +kernel
theorem dX12_in_1 : decode cX12_in 1 = .ok (.lload_n 2, 1) := by decide +kernel
theorem dX12_in_2 : decode cX12_in 2 = .ok (.lcmp, 1) := by decide +kernel
theorem dX12_in_3 : decode cX12_in 3 = .ok (.ifCond .lt 14, 3) := by decide +kernel
theorem dX12_in_6 : decode cX12_in 6 = .ok (.lload_n 0, 1) := by decide +kernel
theorem dX12_in_7 : decode cX12_in 7 = .ok (.lload 4, 2) := by decide +kernel
theorem dX12_in_9 : decode cX12_in 9 = .ok (.lcmp, 1) := by decide +kernel
theorem dX12_in_10 : decode cX12_in 10 = .ok (.ifCond .gt 7, 3) := by decide +kernel
theorem dX12_in_13 : decode cX12_in 13 = .ok (.iconst 1, 1) := by decide +kernel
theorem dX12_in_14 : decode cX12_in 14 = .ok (.goto 4, 3) := by decide +kernel
theorem dX12_in_17 : decode cX12_in 17 = .ok (.iconst 0, 1) := by decide +kernel
theorem dX12_in_18 : decode cX12_in 18 = .ok (.ireturn, 1) := by decide +kernel
theorem dX12_root_0 : decode cX12_root 0 = .ok (.aload_n 0, 1) := by decide +kernel
theorem dX12_root_1 : decode cX12_root 1 = .ok (.getfield 7, 3) := by decide +kernel
theorem dX12_root_4 : decode cX12_root 4 = .ok (.iload_n 1, 1) := by decide +kernel
theorem dX12_root_5 : decode cX12_root 5 = .ok (.iaload, 1) := by decide +kernel
theorem dX12_root_6 : decode cX12_root 6 = .ok (.ireturn, 1) := by decide +kernel
theorem dX12_nodesOf_0 : decode cX12_nodesOf 0 = .ok (.aload_n 0, 1) := by decide +kernel
theorem dX12_nodesOf_1 : decode cX12_nodesOf 1 = .ok (.getfield 7, 3) := by decide +kernel
theorem dX12_nodesOf_4 : decode cX12_nodesOf 4 = .ok (.iload_n 1, 1) := by decide +kernel
theorem dX12_nodesOf_5 : decode cX12_nodesOf 5 = .ok (.iconst 1, 1) := by decide +kernel
theorem dX12_nodesOf_6 : decode cX12_nodesOf 6 = .ok (.iadd, 1) := by decide +kernel
theorem dX12_nodesOf_7 : decode cX12_nodesOf 7 = .ok (.iaload, 1) := by decide +kernel
theorem dX12_nodesOf_8 : decode cX12_nodesOf 8 = .ok (.aload_n 0, 1) := by decide +kernel
theorem dX12_nodesOf_9 : decode cX12_nodesOf 9 = .ok (.getfield 7, 3) := by decide +kernel
theorem dX12_nodesOf_12 : decode cX12_nodesOf 12 = .ok (.iload_n 1, 1) := by decide +kernel
theorem dX12_nodesOf_13 : decode cX12_nodesOf 13 = .ok (.iaload, 1) := by decide +kernel
theorem dX12_nodesOf_14 : decode cX12_nodesOf 14 = .ok (.isub, 1) := by decide +kernel
theorem dX12_nodesOf_15 : decode cX12_nodesOf 15 = .ok (.ireturn, 1) := by decide +kernel
theorem dX12_isTree_0 : decode cX12_isTree 0 = .ok (.iload_n 1, 1) := by decide +kernel
theorem dX12_isTree_1 : decode cX12_isTree 1 = .ok (.i2l, 1) := by decide +kernel
theorem dX12_isTree_2 : decode cX12_isTree 2 = .ok (.lconst 0, 1) := by decide +kernel
theorem dX12_isTree_3 : decode cX12_isTree 3 = .ok (.aload_n 0, 1) := by decide +kernel
theorem dX12_isTree_4 : decode cX12_isTree 4 = .ok (.getfield 11, 3) := by decide +kernel
theorem dX12_isTree_7 : decode cX12_isTree 7 = .ok (.iconst 1, 1) := by decide +kernel
theorem dX12_isTree_8 : decode cX12_isTree 8 = .ok (.isub, 1) := by decide +kernel
theorem dX12_isTree_9 : decode cX12_isTree 9 = .ok (.i2l, 1) := by decide +kernel
theorem dX12_isTree_10 : decode cX12_isTree 10 = .ok (.invokestatic 14, 3) := by decide +kernel
theorem dX12_isTree_13 : decode cX12_isTree 13 = .ok (.ireturn, 1) := by decide +kernel
theorem dX12_isNode_0 : decode cX12_isNode 0 = .ok (.aload_n 0, 1) := by decide +kernel
theorem dX12_isNode_1 : decode cX12_isNode 1 = .ok (.iload_n 1, 1) := by decide +kernel
theorem dX12_isNode_2 : decode cX12_isNode 2 = .ok (.invokevirtual 18, 3) := by decide +kernel
theorem dX12_isNode_5 : decode cX12_isNode 5 = .ok (.ifCond .eq 24, 3) := by decide +kernel
theorem dX12_isNode_8 : decode cX12_isNode 8 = .ok (.iload_n 2, 1) := by decide +kernel
theorem dX12_isNode_9 : decode cX12_isNode 9 = .ok (.i2l, 1) := by decide +kernel
theorem dX12_isNode_10 : decode cX12_isNode 10 = .ok (.lconst 0, 1) := by decide +kernel
theorem dX12_isNode_11 : decode cX12_isNode 11 = .ok (.aload_n 0, 1) := by decide +kernel
theorem dX12_isNode_12 : decode cX12_isNode 12 = .ok (.iload_n 1, 1) := by decide +kernel
theorem dX12_isNode_13 : decode cX12_isNode 13 = .ok (.invokevirtual 22, 3) := by decide +kernel
theorem dX12_isNode_16 : decode cX12_isNode 16 = .ok (.iconst 1, 1) := by decide +kernel
theorem dX12_isNode_17 : decode cX12_isNode 17 = .ok (.isub, 1) := by decide +kernel
theorem dX12_isNode_18 : decode cX12_isNode 18 = .ok (.i2l, 1) := by decide +kernel
theorem dX12_isNode_19 : decode cX12_isNode 19 = .ok (.invokestatic 14, 3) := by decide +kernel
theorem dX12_isNode_22 : decode cX12_isNode 22 = .ok (.ifCond .eq 7, 3) := by decide +kernel
theorem dX12_isNode_25 : decode cX12_isNode 25 = .ok (.iconst 1, 1) := by decide +kernel
theorem dX12_isNode_26 : decode cX12_isNode 26 = .ok (.goto 4, 3) := by decide +kernel
theorem dX12_isNode_29 : decode cX12_isNode 29 = .ok (.iconst 0, 1) := by decide +kernel
theorem dX12_isNode_30 : decode cX12_isNode 30 = .ok (.ireturn, 1) := by decide +kernel
theorem dX12_isOut_0 : decode cX12_isOut 0 = .ok (.aload_n 0, 1) := by decide +kernel
theorem dX12_isOut_1 : decode cX12_isOut 1 = .ok (.getfield 26, 3) := by decide +kernel
theorem dX12_isOut_4 : decode cX12_isOut 4 = .ok (.iload_n 1, 1) := by decide +kernel
theorem dX12_isOut_5 : decode cX12_isOut 5 = .ok (.ishr, 1) := by decide +kernel
theorem dX12_isOut_6 : decode cX12_isOut 6 = .ok (.iconst 1, 1) := by decide +kernel
theorem dX12_isOut_7 : decode cX12_isOut 7 = .ok (.iand, 1) := by decide +kernel
theorem dX12_isOut_8 : decode cX12_isOut 8 = .ok (.iconst 1, 1) := by decide +kernel
theorem dX12_isOut_9 : decode cX12_isOut 9 = .ok (.if_icmp .ne 7, 3) := by decide +kernel
theorem dX12_isOut_12 : decode cX12_isOut 12 = .ok (.iconst 1, 1) := by decide +kernel
theorem dX12_isOut_13 : decode cX12_isOut 13 = .ok (.goto 4, 3) := by decide +kernel
theorem dX12_isOut_16 : decode cX12_isOut 16 = .ok (.iconst 0, 1) := by decide +kernel
theorem dX12_isOut_17 : decode cX12_isOut 17 = .ok (.ireturn, 1) := by decide +kernel
theorem dX12_isGuest_0 : decode cX12_isGuest 0 = .ok (.aload_n 0, 1) := by decide +kernel
theorem dX12_isGuest_1 : decode cX12_isGuest 1 = .ok (.getfield 29, 3) := by decide +kernel
theorem dX12_isGuest_4 : decode cX12_isGuest 4 = .ok (.iload_n 1, 1) := by decide +kernel
theorem dX12_isGuest_5 : decode cX12_isGuest 5 = .ok (.iaload, 1) := by decide +kernel
theorem dX12_isGuest_6 : decode cX12_isGuest 6 = .ok (.iconst (-1), 1) := by decide +kernel
theorem dX12_isGuest_7 : decode cX12_isGuest 7 = .ok (.if_icmp .eq 7, 3) := by decide +kernel
theorem dX12_isGuest_10 : decode cX12_isGuest 10 = .ok (.iconst 1, 1) := by decide +kernel
theorem dX12_isGuest_11 : decode cX12_isGuest 11 = .ok (.goto 4, 3) := by decide +kernel
theorem dX12_isGuest_14 : decode cX12_isGuest 14 = .ok (.iconst 0, 1) := by decide +kernel
theorem dX12_isGuest_15 : decode cX12_isGuest 15 = .ok (.ireturn, 1) := by decide +kernel
theorem dX12_feed_0 : decode cX12_feed 0 = .ok (.aload_n 0, 1) := by decide +kernel
theorem dX12_feed_1 : decode cX12_feed 1 = .ok (.getfield 32, 3) := by decide +kernel
theorem dX12_feed_4 : decode cX12_feed 4 = .ok (.bipush 20, 2) := by decide +kernel
theorem dX12_feed_6 : decode cX12_feed 6 = .ok (.iadd, 1) := by decide +kernel
theorem dX12_feed_7 : decode cX12_feed 7 = .ok (.sipush 400, 3) := by decide +kernel
theorem dX12_feed_10 : decode cX12_feed 10 = .ok (.if_icmp .le 5, 3) := by decide +kernel
theorem dX12_feed_13 : decode cX12_feed 13 = .ok (.iconst (-1), 1) := by decide +kernel
theorem dX12_feed_14 : decode cX12_feed 14 = .ok (.ireturn, 1) := by decide +kernel
theorem dX12_feed_15 : decode cX12_feed 15 = .ok (.aload_n 0, 1) := by decide +kernel
theorem dX12_feed_16 : decode cX12_feed 16 = .ok (.getfield 35, 3) := by decide +kernel
theorem dX12_feed_19 : decode cX12_feed 19 = .ok (.iconst 0, 1) := by decide +kernel
theorem dX12_feed_20 : decode cX12_feed 20 = .ok (.iload_n 1, 1) := by decide +kernel
theorem dX12_feed_21 : decode cX12_feed 21 = .ok (.iastore, 1) := by decide +kernel
theorem dX12_feed_22 : decode cX12_feed 22 = .ok (.aload_n 0, 1) := by decide +kernel
theorem dX12_feed_23 : decode cX12_feed 23 = .ok (.getfield 35, 3) := by decide +kernel
theorem dX12_feed_26 : decode cX12_feed 26 = .ok (.iconst 1, 1) := by decide +kernel
theorem dX12_feed_27 : decode cX12_feed 27 = .ok (.iload_n 2, 1) := by decide +kernel
theorem dX12_feed_28 : decode cX12_feed 28 = .ok (.iastore, 1) := by decide +kernel
theorem dX12_feed_29 : decode cX12_feed 29 = .ok (.aload_n 0, 1) := by decide +kernel
theorem dX12_feed_30 : decode cX12_feed 30 = .ok (.getfield 35, 3) := by decide +kernel
theorem dX12_feed_33 : decode cX12_feed 33 = .ok (.iconst 2, 1) := by decide +kernel
theorem dX12_feed_34 : decode cX12_feed 34 = .ok (.iload_n 3, 1) := by decide +kernel
theorem dX12_feed_35 : decode cX12_feed 35 = .ok (.iastore, 1) := by decide +kernel
theorem dX12_feed_36 : decode cX12_feed 36 = .ok (.aload_n 0, 1) := by decide +kernel
theorem dX12_feed_37 : decode cX12_feed 37 = .ok (.getfield 35, 3) := by decide +kernel
theorem dX12_feed_40 : decode cX12_feed 40 = .ok (.iconst 3, 1) := by decide +kernel
theorem dX12_feed_41 : decode cX12_feed 41 = .ok (.iload 4, 2) := by decide +kernel
theorem dX12_feed_43 : decode cX12_feed 43 = .ok (.iastore, 1) := by decide +kernel
theorem dX12_feed_44 : decode cX12_feed 44 = .ok (.aload_n 0, 1) := by decide +kernel
theorem dX12_feed_45 : decode cX12_feed 45 = .ok (.getfield 35, 3) := by decide +kernel
theorem dX12_feed_48 : decode cX12_feed 48 = .ok (.iconst 4, 1) := by decide +kernel
theorem dX12_feed_49 : decode cX12_feed 49 = .ok (.iload 5, 2) := by decide +kernel
theorem dX12_feed_51 : decode cX12_feed 51 = .ok (.iastore, 1) := by decide +kernel
theorem dX12_feed_52 : decode cX12_feed 52 = .ok (.iconst 0, 1) := by decide +kernel
theorem dX12_feed_53 : decode cX12_feed 53 = .ok (.istore 6, 2) := by decide +kernel
theorem dX12_feed_55 : decode cX12_feed 55 = .ok (.iload 6, 2) := by decide +kernel
theorem dX12_feed_57 : decode cX12_feed 57 = .ok (.bipush 20, 2) := by decide +kernel
theorem dX12_feed_59 : decode cX12_feed 59 = .ok (.if_icmp .ge 42, 3) := by decide +kernel
theorem dX12_feed_62 : decode cX12_feed 62 = .ok (.aload_n 0, 1) := by decide +kernel
theorem dX12_feed_63 : decode cX12_feed 63 = .ok (.getfield 38, 3) := by decide +kernel
theorem dX12_feed_66 : decode cX12_feed 66 = .ok (.aload_n 0, 1) := by decide +kernel
theorem dX12_feed_67 : decode cX12_feed 67 = .ok (.getfield 32, 3) := by decide +kernel
theorem dX12_feed_70 : decode cX12_feed 70 = .ok (.iload 6, 2) := by decide +kernel
theorem dX12_feed_72 : decode cX12_feed 72 = .ok (.iadd, 1) := by decide +kernel
theorem dX12_feed_73 : decode cX12_feed 73 = .ok (.aload_n 0, 1) := by decide +kernel
theorem dX12_feed_74 : decode cX12_feed 74 = .ok (.getfield 35, 3) := by decide +kernel
theorem dX12_feed_77 : decode cX12_feed 77 = .ok (.iload 6, 2) := by decide +kernel
theorem dX12_feed_79 : decode cX12_feed 79 = .ok (.iconst 4, 1) := by decide +kernel
theorem dX12_feed_80 : decode cX12_feed 80 = .ok (.idiv, 1) := by decide +kernel
theorem dX12_feed_81 : decode cX12_feed 81 = .ok (.iaload, 1) := by decide +kernel
theorem dX12_feed_82 : decode cX12_feed 82 = .ok (.bipush 24, 2) := by decide +kernel
theorem dX12_feed_84 : decode cX12_feed 84 = .ok (.bipush 8, 2) := by decide +kernel
theorem dX12_feed_86 : decode cX12_feed 86 = .ok (.iload 6, 2) := by decide +kernel
theorem dX12_feed_88 : decode cX12_feed 88 = .ok (.iconst 4, 1) := by decide +kernel
theorem dX12_feed_89 : decode cX12_feed 89 = .ok (.irem, 1) := by decide +kernel
theorem dX12_feed_90 : decode cX12_feed 90 = .ok (.imul, 1) := by decide +kernel
theorem dX12_feed_91 : decode cX12_feed 91 = .ok (.isub, 1) := by decide +kernel
theorem dX12_feed_92 : decode cX12_feed 92 = .ok (.ishr, 1) := by decide +kernel
theorem dX12_feed_93 : decode cX12_feed 93 = .ok (.i2b, 1) := by decide +kernel
theorem dX12_feed_94 : decode cX12_feed 94 = .ok (.bastore, 1) := by decide +kernel
theorem dX12_feed_95 : decode cX12_feed 95 = .ok (.iinc 6 1, 3) := by decide +kernel
theorem dX12_feed_98 : decode cX12_feed 98 = .ok (.goto (-43), 3) := by decide +kernel
theorem dX12_feed_101 : decode cX12_feed 101 = .ok (.aload_n 0, 1) := by decide +kernel
theorem dX12_feed_102 : decode cX12_feed 102 = .ok (.dup, 1) := by decide +kernel
theorem dX12_feed_103 : decode cX12_feed 103 = .ok (.getfield 32, 3) := by decide +kernel
theorem dX12_feed_106 : decode cX12_feed 106 = .ok (.bipush 20, 2) := by decide +kernel
theorem dX12_feed_108 : decode cX12_feed 108 = .ok (.iadd, 1) := by decide +kernel
theorem dX12_feed_109 : decode cX12_feed 109 = .ok (.putfield 32, 3) := by decide +kernel
theorem dX12_feed_112 : decode cX12_feed 112 = .ok (.aload_n 0, 1) := by decide +kernel
theorem dX12_feed_113 : decode cX12_feed 113 = .ok (.getfield 32, 3) := by decide +kernel
theorem dX12_feed_116 : decode cX12_feed 116 = .ok (.ireturn, 1) := by decide +kernel
theorem dX12_end_0 : decode cX12_end 0 = .ok (.iload_n 1, 1) := by decide +kernel
theorem dX12_end_1 : decode cX12_end 1 = .ok (.i2l, 1) := by decide +kernel
theorem dX12_end_2 : decode cX12_end 2 = .ok (.lconst 0, 1) := by decide +kernel
theorem dX12_end_3 : decode cX12_end 3 = .ok (.aload_n 0, 1) := by decide +kernel
theorem dX12_end_4 : decode cX12_end 4 = .ok (.getfield 32, 3) := by decide +kernel
theorem dX12_end_7 : decode cX12_end 7 = .ok (.i2l, 1) := by decide +kernel
theorem dX12_end_8 : decode cX12_end 8 = .ok (.invokestatic 14, 3) := by decide +kernel
theorem dX12_end_11 : decode cX12_end 11 = .ok (.ifCond .ne 5, 3) := by decide +kernel
theorem dX12_end_14 : decode cX12_end 14 = .ok (.iconst (-1), 1) := by decide +kernel
theorem dX12_end_15 : decode cX12_end 15 = .ok (.ireturn, 1) := by decide +kernel
theorem dX12_end_16 : decode cX12_end 16 = .ok (.aload_n 0, 1) := by decide +kernel
theorem dX12_end_17 : decode cX12_end 17 = .ok (.iload_n 1, 1) := by decide +kernel
theorem dX12_end_18 : decode cX12_end 18 = .ok (.putfield 32, 3) := by decide +kernel
theorem dX12_end_21 : decode cX12_end 21 = .ok (.iload_n 1, 1) := by decide +kernel
theorem dX12_end_22 : decode cX12_end 22 = .ok (.ireturn, 1) := by decide +kernel
theorem dX12_see_0 : decode cX12_see 0 = .ok (.iload_n 1, 1) := by decide +kernel
theorem dX12_see_1 : decode cX12_see 1 = .ok (.aload_n 0, 1) := by decide +kernel
theorem dX12_see_2 : decode cX12_see 2 = .ok (.getfield 42, 3) := by decide +kernel
theorem dX12_see_5 : decode cX12_see 5 = .ok (.if_icmp .ge 16, 3) := by decide +kernel
theorem dX12_see_8 : decode cX12_see 8 = .ok (.aload_n 0, 1) := by decide +kernel
theorem dX12_see_9 : decode cX12_see 9 = .ok (.getfield 38, 3) := by decide +kernel
theorem dX12_see_12 : decode cX12_see 12 = .ok (.iload_n 1, 1) := by decide +kernel
theorem dX12_see_13 : decode cX12_see 13 = .ok (.baload, 1) := by decide +kernel
theorem dX12_see_14 : decode cX12_see 14 = .ok (.sipush 255, 3) := by decide +kernel
theorem dX12_see_17 : decode cX12_see 17 = .ok (.iand, 1) := by decide +kernel
theorem dX12_see_18 : decode cX12_see 18 = .ok (.goto 4, 3) := by decide +kernel
theorem dX12_see_21 : decode cX12_see 21 = .ok (.iconst (-1), 1) := by decide +kernel
theorem dX12_see_22 : decode cX12_see 22 = .ok (.ireturn, 1) := by decide +kernel
theorem dX12_skips_0 : decode cX12_skips 0 = .ok (.aload_n 0, 1) := by decide +kernel
theorem dX12_skips_1 : decode cX12_skips 1 = .ok (.aload_n 0, 1) := by decide +kernel
theorem dX12_skips_2 : decode cX12_skips 2 = .ok (.getfield 45, 3) := by decide +kernel
theorem dX12_skips_5 : decode cX12_skips 5 = .ok (.invokevirtual 48, 3) := by decide +kernel
theorem dX12_skips_8 : decode cX12_skips 8 = .ok (.bipush 32, 2) := by decide +kernel
theorem dX12_skips_10 : decode cX12_skips 10 = .ok (.if_icmp .eq 16, 3) := by decide +kernel
theorem dX12_skips_13 : decode cX12_skips 13 = .ok (.aload_n 0, 1) := by decide +kernel
theorem dX12_skips_14 : decode cX12_skips 14 = .ok (.aload_n 0, 1) := by decide +kernel
theorem dX12_skips_15 : decode cX12_skips 15 = .ok (.getfield 45, 3) := by decide +kernel
theorem dX12_skips_18 : decode cX12_skips 18 = .ok (.invokevirtual 48, 3) := by decide +kernel
theorem dX12_skips_21 : decode cX12_skips 21 = .ok (.bipush 10, 2) := by decide +kernel
theorem dX12_skips_23 : decode cX12_skips 23 = .ok (.if_icmp .ne 16, 3) := by decide +kernel
theorem dX12_skips_26 : decode cX12_skips 26 = .ok (.aload_n 0, 1) := by decide +kernel
theorem dX12_skips_27 : decode cX12_skips 27 = .ok (.dup, 1) := by decide +kernel
theorem dX12_skips_28 : decode cX12_skips 28 = .ok (.getfield 45, 3) := by decide +kernel
theorem dX12_skips_31 : decode cX12_skips 31 = .ok (.iconst 1, 1) := by decide +kernel
theorem dX12_skips_32 : decode cX12_skips 32 = .ok (.iadd, 1) := by decide +kernel
theorem dX12_skips_33 : decode cX12_skips 33 = .ok (.putfield 45, 3) := by decide +kernel
theorem dX12_skips_36 : decode cX12_skips 36 = .ok (.goto (-36), 3) := by decide +kernel
theorem dX12_skips_39 : decode cX12_skips 39 = .ok (.aload_n 0, 1) := by decide +kernel
theorem dX12_skips_40 : decode cX12_skips 40 = .ok (.aload_n 0, 1) := by decide +kernel
theorem dX12_skips_41 : decode cX12_skips 41 = .ok (.getfield 45, 3) := by decide +kernel
theorem dX12_skips_44 : decode cX12_skips 44 = .ok (.putfield 51, 3) := by decide +kernel
theorem dX12_skips_47 : decode cX12_skips 47 = .ok (.return_, 1) := by decide +kernel
theorem dX12_advance_0 : decode cX12_advance 0 = .ok (.aload_n 0, 1) := by decide +kernel
theorem dX12_advance_1 : decode cX12_advance 1 = .ok (.invokevirtual 54, 3) := by decide +kernel
theorem dX12_advance_4 : decode cX12_advance 4 = .ok (.aload_n 0, 1) := by decide +kernel
theorem dX12_advance_5 : decode cX12_advance 5 = .ok (.aload_n 0, 1) := by decide +kernel
theorem dX12_advance_6 : decode cX12_advance 6 = .ok (.getfield 45, 3) := by decide +kernel
theorem dX12_advance_9 : decode cX12_advance 9 = .ok (.invokevirtual 48, 3) := by decide +kernel
theorem dX12_advance_12 : decode cX12_advance 12 = .ok (.istore_n 1, 1) := by decide +kernel
theorem dX12_advance_13 : decode cX12_advance 13 = .ok (.aload_n 0, 1) := by decide +kernel
theorem dX12_advance_14 : decode cX12_advance 14 = .ok (.iload_n 1, 1) := by decide +kernel
theorem dX12_advance_15 : decode cX12_advance 15 = .ok (.putfield 58, 3) := by decide +kernel
theorem dX12_advance_18 : decode cX12_advance 18 = .ok (.iload_n 1, 1) := by decide +kernel
theorem dX12_advance_19 : decode cX12_advance 19 = .ok (.iconst (-1), 1) := by decide +kernel
theorem dX12_advance_20 : decode cX12_advance 20 = .ok (.if_icmp .ne 9, 3) := by decide +kernel
theorem dX12_advance_23 : decode cX12_advance 23 = .ok (.aload_n 0, 1) := by decide +kernel
theorem dX12_advance_24 : decode cX12_advance 24 = .ok (.iconst 0, 1) := by decide +kernel
theorem dX12_advance_25 : decode cX12_advance 25 = .ok (.putfield 61, 3) := by decide +kernel
theorem dX12_advance_28 : decode cX12_advance 28 = .ok (.return_, 1) := by decide +kernel
theorem dX12_advance_29 : decode cX12_advance 29 = .ok (.aload_n 0, 1) := by decide +kernel
theorem dX12_advance_30 : decode cX12_advance 30 = .ok (.dup, 1) := by decide +kernel
theorem dX12_advance_31 : decode cX12_advance 31 = .ok (.getfield 45, 3) := by decide +kernel
theorem dX12_advance_34 : decode cX12_advance 34 = .ok (.iconst 1, 1) := by decide +kernel
theorem dX12_advance_35 : decode cX12_advance 35 = .ok (.iadd, 1) := by decide +kernel
theorem dX12_advance_36 : decode cX12_advance 36 = .ok (.putfield 45, 3) := by decide +kernel
theorem dX12_advance_39 : decode cX12_advance 39 = .ok (.iload_n 1, 1) := by decide +kernel
theorem dX12_advance_40 : decode cX12_advance 40 = .ok (.i2l, 1) := by decide +kernel
theorem dX12_advance_41 : decode cX12_advance 41 = .ok (.ldc2_w 64, 3) := by decide +kernel
theorem dX12_advance_44 : decode cX12_advance 44 = .ok (.ldc2_w 66, 3) := by decide +kernel
theorem dX12_advance_47 : decode cX12_advance 47 = .ok (.invokestatic 14, 3) := by decide +kernel
theorem dX12_advance_50 : decode cX12_advance 50 = .ok (.ifCond .eq 19, 3) := by decide +kernel
theorem dX12_advance_53 : decode cX12_advance 53 = .ok (.aload_n 0, 1) := by decide +kernel
theorem dX12_advance_54 : decode cX12_advance 54 = .ok (.iconst 2, 1) := by decide +kernel
theorem dX12_advance_55 : decode cX12_advance 55 = .ok (.putfield 61, 3) := by decide +kernel
theorem dX12_advance_58 : decode cX12_advance 58 = .ok (.aload_n 0, 1) := by decide +kernel
theorem dX12_advance_59 : decode cX12_advance 59 = .ok (.iload_n 1, 1) := by decide +kernel
theorem dX12_advance_60 : decode cX12_advance 60 = .ok (.bipush 65, 2) := by decide +kernel
theorem dX12_advance_62 : decode cX12_advance 62 = .ok (.isub, 1) := by decide +kernel
theorem dX12_advance_63 : decode cX12_advance 63 = .ok (.putfield 58, 3) := by decide +kernel
theorem dX12_advance_66 : decode cX12_advance 66 = .ok (.goto 90, 3) := by decide +kernel
theorem dX12_advance_69 : decode cX12_advance 69 = .ok (.iload_n 1, 1) := by decide +kernel
theorem dX12_advance_70 : decode cX12_advance 70 = .ok (.i2l, 1) := by decide +kernel
theorem dX12_advance_71 : decode cX12_advance 71 = .ok (.ldc2_w 68, 3) := by decide +kernel
theorem dX12_advance_74 : decode cX12_advance 74 = .ok (.ldc2_w 70, 3) := by decide +kernel
theorem dX12_advance_77 : decode cX12_advance 77 = .ok (.invokestatic 14, 3) := by decide +kernel
theorem dX12_advance_80 : decode cX12_advance 80 = .ok (.ifCond .eq 19, 3) := by decide +kernel
theorem dX12_advance_83 : decode cX12_advance 83 = .ok (.aload_n 0, 1) := by decide +kernel
theorem dX12_advance_84 : decode cX12_advance 84 = .ok (.iconst 3, 1) := by decide +kernel
theorem dX12_advance_85 : decode cX12_advance 85 = .ok (.putfield 61, 3) := by decide +kernel
theorem dX12_advance_88 : decode cX12_advance 88 = .ok (.aload_n 0, 1) := by decide +kernel
theorem dX12_advance_89 : decode cX12_advance 89 = .ok (.iload_n 1, 1) := by decide +kernel
theorem dX12_advance_90 : decode cX12_advance 90 = .ok (.bipush 97, 2) := by decide +kernel
theorem dX12_advance_92 : decode cX12_advance 92 = .ok (.isub, 1) := by decide +kernel
theorem dX12_advance_93 : decode cX12_advance 93 = .ok (.putfield 58, 3) := by decide +kernel
theorem dX12_advance_96 : decode cX12_advance 96 = .ok (.goto 60, 3) := by decide +kernel
theorem dX12_advance_99 : decode cX12_advance 99 = .ok (.aload_n 0, 1) := by decide +kernel
theorem dX12_advance_100 : decode cX12_advance 100 = .ok (.iload_n 1, 1) := by decide +kernel
theorem dX12_advance_101 : decode cX12_advance 101 = .ok (.bipush 40, 2) := by decide +kernel
theorem dX12_advance_103 : decode cX12_advance 103 = .ok (.if_icmp .eq 45, 3) := by decide +kernel
theorem dX12_advance_106 : decode cX12_advance 106 = .ok (.iload_n 1, 1) := by decide +kernel
theorem dX12_advance_107 : decode cX12_advance 107 = .ok (.bipush 41, 2) := by decide +kernel
theorem dX12_advance_109 : decode cX12_advance 109 = .ok (.if_icmp .eq 39, 3) := by decide +kernel
theorem dX12_advance_112 : decode cX12_advance 112 = .ok (.iload_n 1, 1) := by decide +kernel
theorem dX12_advance_113 : decode cX12_advance 113 = .ok (.bipush 59, 2) := by decide +kernel
theorem dX12_advance_115 : decode cX12_advance 115 = .ok (.if_icmp .eq 33, 3) := by decide +kernel
theorem dX12_advance_118 : decode cX12_advance 118 = .ok (.iload_n 1, 1) := by decide +kernel
theorem dX12_advance_119 : decode cX12_advance 119 = .ok (.bipush 46, 2) := by decide +kernel
theorem dX12_advance_121 : decode cX12_advance 121 = .ok (.if_icmp .eq 27, 3) := by decide +kernel
theorem dX12_advance_124 : decode cX12_advance 124 = .ok (.iload_n 1, 1) := by decide +kernel
theorem dX12_advance_125 : decode cX12_advance 125 = .ok (.bipush 42, 2) := by decide +kernel
theorem dX12_advance_127 : decode cX12_advance 127 = .ok (.if_icmp .eq 21, 3) := by decide +kernel
theorem dX12_advance_130 : decode cX12_advance 130 = .ok (.iload_n 1, 1) := by decide +kernel
theorem dX12_advance_131 : decode cX12_advance 131 = .ok (.bipush 94, 2) := by decide +kernel
theorem dX12_advance_133 : decode cX12_advance 133 = .ok (.if_icmp .eq 15, 3) := by decide +kernel
theorem dX12_advance_136 : decode cX12_advance 136 = .ok (.iload_n 1, 1) := by decide +kernel
theorem dX12_advance_137 : decode cX12_advance 137 = .ok (.bipush 33, 2) := by decide +kernel
theorem dX12_advance_139 : decode cX12_advance 139 = .ok (.if_icmp .eq 9, 3) := by decide +kernel
theorem dX12_advance_142 : decode cX12_advance 142 = .ok (.iload_n 1, 1) := by decide +kernel
theorem dX12_advance_143 : decode cX12_advance 143 = .ok (.bipush 43, 2) := by decide +kernel
theorem dX12_advance_145 : decode cX12_advance 145 = .ok (.if_icmp .ne 7, 3) := by decide +kernel
theorem dX12_advance_148 : decode cX12_advance 148 = .ok (.iconst 4, 1) := by decide +kernel
theorem dX12_advance_149 : decode cX12_advance 149 = .ok (.goto 4, 3) := by decide +kernel
theorem dX12_advance_152 : decode cX12_advance 152 = .ok (.iconst 5, 1) := by decide +kernel
theorem dX12_advance_153 : decode cX12_advance 153 = .ok (.putfield 61, 3) := by decide +kernel
theorem dX12_advance_156 : decode cX12_advance 156 = .ok (.return_, 1) := by decide +kernel
theorem dX12_advanceLine_0 : decode cX12_advanceLine 0 = .ok (.aload_n 0, 1) := by decide +kernel
theorem dX12_advanceLine_1 : decode cX12_advanceLine 1 = .ok (.invokevirtual 54, 3) := by decide +kernel
theorem dX12_advanceLine_4 : decode cX12_advanceLine 4 = .ok (.aload_n 0, 1) := by decide +kernel
theorem dX12_advanceLine_5 : decode cX12_advanceLine 5 = .ok (.aload_n 0, 1) := by decide +kernel
theorem dX12_advanceLine_6 : decode cX12_advanceLine 6 = .ok (.getfield 45, 3) := by decide +kernel
theorem dX12_advanceLine_9 : decode cX12_advanceLine 9 = .ok (.invokevirtual 48, 3) := by decide +kernel
theorem dX12_advanceLine_12 : decode cX12_advanceLine 12 = .ok (.bipush 116, 2) := by decide +kernel
theorem dX12_advanceLine_14 : decode cX12_advanceLine 14 = .ok (.if_icmp .ne 64, 3) := by decide +kernel
theorem dX12_advanceLine_17 : decode cX12_advanceLine 17 = .ok (.aload_n 0, 1) := by decide +kernel
theorem dX12_advanceLine_18 : decode cX12_advanceLine 18 = .ok (.aload_n 0, 1) := by decide +kernel
theorem dX12_advanceLine_19 : decode cX12_advanceLine 19 = .ok (.getfield 45, 3) := by decide +kernel
theorem dX12_advanceLine_22 : decode cX12_advanceLine 22 = .ok (.iconst 1, 1) := by decide +kernel
theorem dX12_advanceLine_23 : decode cX12_advanceLine 23 = .ok (.iadd, 1) := by decide +kernel
theorem dX12_advanceLine_24 : decode cX12_advanceLine 24 = .ok (.invokevirtual 48, 3) := by decide +kernel
theorem dX12_advanceLine_27 : decode cX12_advanceLine 27 = .ok (.bipush 114, 2) := by decide +kernel
theorem dX12_advanceLine_29 : decode cX12_advanceLine 29 = .ok (.if_icmp .ne 49, 3) := by decide +kernel
theorem dX12_advanceLine_32 : decode cX12_advanceLine 32 = .ok (.aload_n 0, 1) := by decide +kernel
theorem dX12_advanceLine_33 : decode cX12_advanceLine 33 = .ok (.aload_n 0, 1) := by decide +kernel
theorem dX12_advanceLine_34 : decode cX12_advanceLine 34 = .ok (.getfield 45, 3) := by decide +kernel
theorem dX12_advanceLine_37 : decode cX12_advanceLine 37 = .ok (.iconst 2, 1) := by decide +kernel
theorem dX12_advanceLine_38 : decode cX12_advanceLine 38 = .ok (.iadd, 1) := by decide +kernel
theorem dX12_advanceLine_39 : decode cX12_advanceLine 39 = .ok (.invokevirtual 48, 3) := by decide +kernel
theorem dX12_advanceLine_42 : decode cX12_advanceLine 42 = .ok (.bipush 101, 2) := by decide +kernel
theorem dX12_advanceLine_44 : decode cX12_advanceLine 44 = .ok (.if_icmp .ne 34, 3) := by decide +kernel
theorem dX12_advanceLine_47 : decode cX12_advanceLine 47 = .ok (.aload_n 0, 1) := by decide +kernel
theorem dX12_advanceLine_48 : decode cX12_advanceLine 48 = .ok (.aload_n 0, 1) := by decide +kernel
theorem dX12_advanceLine_49 : decode cX12_advanceLine 49 = .ok (.getfield 45, 3) := by decide +kernel
theorem dX12_advanceLine_52 : decode cX12_advanceLine 52 = .ok (.iconst 3, 1) := by decide +kernel
theorem dX12_advanceLine_53 : decode cX12_advanceLine 53 = .ok (.iadd, 1) := by decide +kernel
theorem dX12_advanceLine_54 : decode cX12_advanceLine 54 = .ok (.invokevirtual 48, 3) := by decide +kernel
theorem dX12_advanceLine_57 : decode cX12_advanceLine 57 = .ok (.bipush 101, 2) := by decide +kernel
theorem dX12_advanceLine_59 : decode cX12_advanceLine 59 = .ok (.if_icmp .ne 19, 3) := by decide +kernel
theorem dX12_advanceLine_62 : decode cX12_advanceLine 62 = .ok (.aload_n 0, 1) := by decide +kernel
theorem dX12_advanceLine_63 : decode cX12_advanceLine 63 = .ok (.iconst 1, 1) := by decide +kernel
theorem dX12_advanceLine_64 : decode cX12_advanceLine 64 = .ok (.putfield 61, 3) := by decide +kernel
theorem dX12_advanceLine_67 : decode cX12_advanceLine 67 = .ok (.aload_n 0, 1) := by decide +kernel
theorem dX12_advanceLine_68 : decode cX12_advanceLine 68 = .ok (.dup, 1) := by decide +kernel
theorem dX12_advanceLine_69 : decode cX12_advanceLine 69 = .ok (.getfield 45, 3) := by decide +kernel
theorem dX12_advanceLine_72 : decode cX12_advanceLine 72 = .ok (.iconst 4, 1) := by decide +kernel
theorem dX12_advanceLine_73 : decode cX12_advanceLine 73 = .ok (.iadd, 1) := by decide +kernel
theorem dX12_advanceLine_74 : decode cX12_advanceLine 74 = .ok (.putfield 45, 3) := by decide +kernel
theorem dX12_advanceLine_77 : decode cX12_advanceLine 77 = .ok (.return_, 1) := by decide +kernel
theorem dX12_advanceLine_78 : decode cX12_advanceLine 78 = .ok (.aload_n 0, 1) := by decide +kernel
theorem dX12_advanceLine_79 : decode cX12_advanceLine 79 = .ok (.aload_n 0, 1) := by decide +kernel
theorem dX12_advanceLine_80 : decode cX12_advanceLine 80 = .ok (.aload_n 0, 1) := by decide +kernel
theorem dX12_advanceLine_81 : decode cX12_advanceLine 81 = .ok (.getfield 45, 3) := by decide +kernel
theorem dX12_advanceLine_84 : decode cX12_advanceLine 84 = .ok (.invokevirtual 48, 3) := by decide +kernel
theorem dX12_advanceLine_87 : decode cX12_advanceLine 87 = .ok (.iconst (-1), 1) := by decide +kernel
theorem dX12_advanceLine_88 : decode cX12_advanceLine 88 = .ok (.if_icmp .ne 7, 3) := by decide +kernel
theorem dX12_advanceLine_91 : decode cX12_advanceLine 91 = .ok (.iconst 0, 1) := by decide +kernel
theorem dX12_advanceLine_92 : decode cX12_advanceLine 92 = .ok (.goto 4, 3) := by decide +kernel
theorem dX12_advanceLine_95 : decode cX12_advanceLine 95 = .ok (.iconst 5, 1) := by decide +kernel
theorem dX12_advanceLine_96 : decode cX12_advanceLine 96 = .ok (.putfield 61, 3) := by decide +kernel
theorem dX12_advanceLine_99 : decode cX12_advanceLine 99 = .ok (.return_, 1) := by decide +kernel
theorem dX12_good_0 : decode cX12_good 0 = .ok (.aload_n 0, 1) := by decide +kernel
theorem dX12_good_1 : decode cX12_good 1 = .ok (.getfield 72, 3) := by decide +kernel
theorem dX12_good_4 : decode cX12_good 4 = .ok (.ifCond .ne 7, 3) := by decide +kernel
theorem dX12_good_7 : decode cX12_good 7 = .ok (.iconst 1, 1) := by decide +kernel
theorem dX12_good_8 : decode cX12_good 8 = .ok (.goto 4, 3) := by decide +kernel
theorem dX12_good_11 : decode cX12_good 11 = .ok (.iconst 0, 1) := by decide +kernel
theorem dX12_good_12 : decode cX12_good 12 = .ok (.ireturn, 1) := by decide +kernel
theorem dX12_errsAt_0 : decode cX12_errsAt 0 = .ok (.aload_n 0, 1) := by decide +kernel
theorem dX12_errsAt_1 : decode cX12_errsAt 1 = .ok (.invokevirtual 75, 3) := by decide +kernel
theorem dX12_errsAt_4 : decode cX12_errsAt 4 = .ok (.ifCond .ne 4, 3) := by decide +kernel
theorem dX12_errsAt_7 : decode cX12_errsAt 7 = .ok (.return_, 1) := by decide +kernel
theorem dX12_errsAt_8 : decode cX12_errsAt 8 = .ok (.aload_n 0, 1) := by decide +kernel
theorem dX12_errsAt_9 : decode cX12_errsAt 9 = .ok (.iload_n 1, 1) := by decide +kernel
theorem dX12_errsAt_10 : decode cX12_errsAt 10 = .ok (.putfield 72, 3) := by decide +kernel
theorem dX12_errsAt_13 : decode cX12_errsAt 13 = .ok (.aload_n 0, 1) := by decide +kernel
theorem dX12_errsAt_14 : decode cX12_errsAt 14 = .ok (.iload_n 2, 1) := by decide +kernel
theorem dX12_errsAt_15 : decode cX12_errsAt 15 = .ok (.putfield 79, 3) := by decide +kernel
theorem dX12_errsAt_18 : decode cX12_errsAt 18 = .ok (.return_, 1) := by decide +kernel
theorem dX12_isSign_0 : decode cX12_isSign 0 = .ok (.aload_n 0, 1) := by decide +kernel
theorem dX12_isSign_1 : decode cX12_isSign 1 = .ok (.invokevirtual 75, 3) := by decide +kernel
theorem dX12_isSign_4 : decode cX12_isSign 4 = .ok (.ifCond .eq 23, 3) := by decide +kernel
theorem dX12_isSign_7 : decode cX12_isSign 7 = .ok (.aload_n 0, 1) := by decide +kernel
theorem dX12_isSign_8 : decode cX12_isSign 8 = .ok (.getfield 61, 3) := by decide +kernel
theorem dX12_isSign_11 : decode cX12_isSign 11 = .ok (.iconst 4, 1) := by decide +kernel
theorem dX12_isSign_12 : decode cX12_isSign 12 = .ok (.if_icmp .ne 15, 3) := by decide +kernel
theorem dX12_isSign_15 : decode cX12_isSign 15 = .ok (.aload_n 0, 1) := by decide +kernel
theorem dX12_isSign_16 : decode cX12_isSign 16 = .ok (.getfield 58, 3) := by decide +kernel
theorem dX12_isSign_19 : decode cX12_isSign 19 = .ok (.iload_n 1, 1) := by decide +kernel
theorem dX12_isSign_20 : decode cX12_isSign 20 = .ok (.if_icmp .ne 7, 3) := by decide +kernel
theorem dX12_isSign_23 : decode cX12_isSign 23 = .ok (.iconst 1, 1) := by decide +kernel
theorem dX12_isSign_24 : decode cX12_isSign 24 = .ok (.goto 4, 3) := by decide +kernel
theorem dX12_isSign_27 : decode cX12_isSign 27 = .ok (.iconst 0, 1) := by decide +kernel
theorem dX12_isSign_28 : decode cX12_isSign 28 = .ok (.ireturn, 1) := by decide +kernel
theorem dX12_takesSign_0 : decode cX12_takesSign 0 = .ok (.aload_n 0, 1) := by decide +kernel
theorem dX12_takesSign_1 : decode cX12_takesSign 1 = .ok (.iload_n 1, 1) := by decide +kernel
theorem dX12_takesSign_2 : decode cX12_takesSign 2 = .ok (.invokevirtual 82, 3) := by decide +kernel
theorem dX12_takesSign_5 : decode cX12_takesSign 5 = .ok (.ifCond .ne 12, 3) := by decide +kernel
theorem dX12_takesSign_8 : decode cX12_takesSign 8 = .ok (.aload_n 0, 1) := by decide +kernel
theorem dX12_takesSign_9 : decode cX12_takesSign 9 = .ok (.iconst 1, 1) := by decide +kernel
theorem dX12_takesSign_10 : decode cX12_takesSign 10 = .ok (.aload_n 0, 1) := by decide +kernel
theorem dX12_takesSign_11 : decode cX12_takesSign 11 = .ok (.getfield 51, 3) := by decide +kernel
theorem dX12_takesSign_14 : decode cX12_takesSign 14 = .ok (.invokevirtual 85, 3) := by decide +kernel
theorem dX12_takesSign_17 : decode cX12_takesSign 17 = .ok (.aload_n 0, 1) := by decide +kernel
theorem dX12_takesSign_18 : decode cX12_takesSign 18 = .ok (.invokevirtual 75, 3) := by decide +kernel
theorem dX12_takesSign_21 : decode cX12_takesSign 21 = .ok (.ifCond .eq 7, 3) := by decide +kernel
theorem dX12_takesSign_24 : decode cX12_takesSign 24 = .ok (.aload_n 0, 1) := by decide +kernel
theorem dX12_takesSign_25 : decode cX12_takesSign 25 = .ok (.invokevirtual 89, 3) := by decide +kernel
theorem dX12_takesSign_28 : decode cX12_takesSign 28 = .ok (.return_, 1) := by decide +kernel
theorem dX12_opens_0 : decode cX12_opens 0 = .ok (.aload_n 0, 1) := by decide +kernel
theorem dX12_opens_1 : decode cX12_opens 1 = .ok (.getfield 92, 3) := by decide +kernel
theorem dX12_opens_4 : decode cX12_opens 4 = .ok (.bipush 40, 2) := by decide +kernel
theorem dX12_opens_6 : decode cX12_opens 6 = .ok (.if_icmp .eq 17, 3) := by decide +kernel
theorem dX12_opens_9 : decode cX12_opens 9 = .ok (.aload_n 0, 1) := by decide +kernel
theorem dX12_opens_10 : decode cX12_opens 10 = .ok (.getfield 92, 3) := by decide +kernel
theorem dX12_opens_13 : decode cX12_opens 13 = .ok (.aload_n 0, 1) := by decide +kernel
theorem dX12_opens_14 : decode cX12_opens 14 = .ok (.getfield 95, 3) := by decide +kernel
theorem dX12_opens_17 : decode cX12_opens 17 = .ok (.isub, 1) := by decide +kernel
theorem dX12_opens_18 : decode cX12_opens 18 = .ok (.bipush 12, 2) := by decide +kernel
theorem dX12_opens_20 : decode cX12_opens 20 = .ok (.if_icmp .ne 10, 3) := by decide +kernel
theorem dX12_opens_23 : decode cX12_opens 23 = .ok (.aload_n 0, 1) := by decide +kernel
theorem dX12_opens_24 : decode cX12_opens 24 = .ok (.iconst 3, 1) := by decide +kernel
theorem dX12_opens_25 : decode cX12_opens 25 = .ok (.iload 4, 2) := by decide +kernel
theorem dX12_opens_27 : decode cX12_opens 27 = .ok (.invokevirtual 85, 3) := by decide +kernel
theorem dX12_opens_30 : decode cX12_opens 30 = .ok (.aload_n 0, 1) := by decide +kernel
theorem dX12_opens_31 : decode cX12_opens 31 = .ok (.invokevirtual 75, 3) := by decide +kernel
theorem dX12_opens_34 : decode cX12_opens 34 = .ok (.ifCond .ne 6, 3) := by decide +kernel
theorem dX12_opens_37 : decode cX12_opens 37 = .ok (.bipush 40, 2) := by decide +kernel
theorem dX12_opens_39 : decode cX12_opens 39 = .ok (.ireturn, 1) := by decide +kernel
theorem dX12_opens_40 : decode cX12_opens 40 = .ok (.bipush 40, 2) := by decide +kernel
theorem dX12_opens_42 : decode cX12_opens 42 = .ok (.aload_n 0, 1) := by decide +kernel
theorem dX12_opens_43 : decode cX12_opens 43 = .ok (.getfield 92, 3) := by decide +kernel
theorem dX12_opens_46 : decode cX12_opens 46 = .ok (.iadd, 1) := by decide +kernel
theorem dX12_opens_47 : decode cX12_opens 47 = .ok (.istore 5, 2) := by decide +kernel
theorem dX12_opens_49 : decode cX12_opens 49 = .ok (.aload_n 0, 1) := by decide +kernel
theorem dX12_opens_50 : decode cX12_opens 50 = .ok (.getfield 98, 3) := by decide +kernel
theorem dX12_opens_53 : decode cX12_opens 53 = .ok (.iload 5, 2) := by decide +kernel
theorem dX12_opens_55 : decode cX12_opens 55 = .ok (.iload_n 1, 1) := by decide +kernel
theorem dX12_opens_56 : decode cX12_opens 56 = .ok (.iastore, 1) := by decide +kernel
theorem dX12_opens_57 : decode cX12_opens 57 = .ok (.aload_n 0, 1) := by decide +kernel
theorem dX12_opens_58 : decode cX12_opens 58 = .ok (.getfield 101, 3) := by decide +kernel
theorem dX12_opens_61 : decode cX12_opens 61 = .ok (.iload 5, 2) := by decide +kernel
theorem dX12_opens_63 : decode cX12_opens 63 = .ok (.iload_n 2, 1) := by decide +kernel
theorem dX12_opens_64 : decode cX12_opens 64 = .ok (.iastore, 1) := by decide +kernel
theorem dX12_opens_65 : decode cX12_opens 65 = .ok (.aload_n 0, 1) := by decide +kernel
theorem dX12_opens_66 : decode cX12_opens 66 = .ok (.getfield 104, 3) := by decide +kernel
theorem dX12_opens_69 : decode cX12_opens 69 = .ok (.iload 5, 2) := by decide +kernel
theorem dX12_opens_71 : decode cX12_opens 71 = .ok (.iconst 0, 1) := by decide +kernel
theorem dX12_opens_72 : decode cX12_opens 72 = .ok (.iastore, 1) := by decide +kernel
theorem dX12_opens_73 : decode cX12_opens 73 = .ok (.aload_n 0, 1) := by decide +kernel
theorem dX12_opens_74 : decode cX12_opens 74 = .ok (.getfield 107, 3) := by decide +kernel
theorem dX12_opens_77 : decode cX12_opens 77 = .ok (.iload 5, 2) := by decide +kernel
theorem dX12_opens_79 : decode cX12_opens 79 = .ok (.iconst (-1), 1) := by decide +kernel
theorem dX12_opens_80 : decode cX12_opens 80 = .ok (.iastore, 1) := by decide +kernel
theorem dX12_opens_81 : decode cX12_opens 81 = .ok (.aload_n 0, 1) := by decide +kernel
theorem dX12_opens_82 : decode cX12_opens 82 = .ok (.getfield 110, 3) := by decide +kernel
theorem dX12_opens_85 : decode cX12_opens 85 = .ok (.iload 5, 2) := by decide +kernel
theorem dX12_opens_87 : decode cX12_opens 87 = .ok (.iconst (-1), 1) := by decide +kernel
theorem dX12_opens_88 : decode cX12_opens 88 = .ok (.iastore, 1) := by decide +kernel
theorem dX12_opens_89 : decode cX12_opens 89 = .ok (.aload_n 0, 1) := by decide +kernel
theorem dX12_opens_90 : decode cX12_opens 90 = .ok (.getfield 113, 3) := by decide +kernel
theorem dX12_opens_93 : decode cX12_opens 93 = .ok (.iload 5, 2) := by decide +kernel
theorem dX12_opens_95 : decode cX12_opens 95 = .ok (.iload_n 3, 1) := by decide +kernel
theorem dX12_opens_96 : decode cX12_opens 96 = .ok (.iastore, 1) := by decide +kernel
theorem dX12_opens_97 : decode cX12_opens 97 = .ok (.aload_n 0, 1) := by decide +kernel
theorem dX12_opens_98 : decode cX12_opens 98 = .ok (.dup, 1) := by decide +kernel
theorem dX12_opens_99 : decode cX12_opens 99 = .ok (.getfield 92, 3) := by decide +kernel
theorem dX12_opens_102 : decode cX12_opens 102 = .ok (.iconst 1, 1) := by decide +kernel
theorem dX12_opens_103 : decode cX12_opens 103 = .ok (.iadd, 1) := by decide +kernel
theorem dX12_opens_104 : decode cX12_opens 104 = .ok (.putfield 92, 3) := by decide +kernel
theorem dX12_opens_107 : decode cX12_opens 107 = .ok (.iload 5, 2) := by decide +kernel
theorem dX12_opens_109 : decode cX12_opens 109 = .ok (.ireturn, 1) := by decide +kernel
theorem dX12_readBranch_0 : decode cX12_readBranch 0 = .ok (.aload_n 0, 1) := by decide +kernel
theorem dX12_readBranch_1 : decode cX12_readBranch 1 = .ok (.getfield 51, 3) := by decide +kernel
theorem dX12_readBranch_4 : decode cX12_readBranch 4 = .ok (.istore_n 2, 1) := by decide +kernel
theorem dX12_readBranch_5 : decode cX12_readBranch 5 = .ok (.aload_n 0, 1) := by decide +kernel
theorem dX12_readBranch_6 : decode cX12_readBranch 6 = .ok (.getfield 61, 3) := by decide +kernel
theorem dX12_readBranch_9 : decode cX12_readBranch 9 = .ok (.iconst 2, 1) := by decide +kernel
theorem dX12_readBranch_10 : decode cX12_readBranch 10 = .ok (.if_icmp .eq 12, 3) := by decide +kernel
theorem dX12_readBranch_13 : decode cX12_readBranch 13 = .ok (.aload_n 0, 1) := by decide +kernel
theorem dX12_readBranch_14 : decode cX12_readBranch 14 = .ok (.iconst 1, 1) := by decide +kernel
theorem dX12_readBranch_15 : decode cX12_readBranch 15 = .ok (.aload_n 0, 1) := by decide +kernel
theorem dX12_readBranch_16 : decode cX12_readBranch 16 = .ok (.getfield 51, 3) := by decide +kernel
theorem dX12_readBranch_19 : decode cX12_readBranch 19 = .ok (.invokevirtual 85, 3) := by decide +kernel
theorem dX12_readBranch_22 : decode cX12_readBranch 22 = .ok (.aload_n 0, 1) := by decide +kernel
theorem dX12_readBranch_23 : decode cX12_readBranch 23 = .ok (.invokevirtual 75, 3) := by decide +kernel
theorem dX12_readBranch_26 : decode cX12_readBranch 26 = .ok (.ifCond .eq 17, 3) := by decide +kernel
theorem dX12_readBranch_29 : decode cX12_readBranch 29 = .ok (.aload_n 0, 1) := by decide +kernel
theorem dX12_readBranch_30 : decode cX12_readBranch 30 = .ok (.iconst 0, 1) := by decide +kernel
theorem dX12_readBranch_31 : decode cX12_readBranch 31 = .ok (.aload_n 0, 1) := by decide +kernel
theorem dX12_readBranch_32 : decode cX12_readBranch 32 = .ok (.getfield 58, 3) := by decide +kernel
theorem dX12_readBranch_35 : decode cX12_readBranch 35 = .ok (.iload_n 1, 1) := by decide +kernel
theorem dX12_readBranch_36 : decode cX12_readBranch 36 = .ok (.iload_n 2, 1) := by decide +kernel
theorem dX12_readBranch_37 : decode cX12_readBranch 37 = .ok (.invokevirtual 116, 3) := by decide +kernel
theorem dX12_readBranch_40 : decode cX12_readBranch 40 = .ok (.goto 5, 3) := by decide +kernel
theorem dX12_readBranch_43 : decode cX12_readBranch 43 = .ok (.bipush 40, 2) := by decide +kernel
theorem dX12_readBranch_45 : decode cX12_readBranch 45 = .ok (.istore_n 3, 1) := by decide +kernel
theorem dX12_readBranch_46 : decode cX12_readBranch 46 = .ok (.aload_n 0, 1) := by decide +kernel
theorem dX12_readBranch_47 : decode cX12_readBranch 47 = .ok (.invokevirtual 75, 3) := by decide +kernel
theorem dX12_readBranch_50 : decode cX12_readBranch 50 = .ok (.ifCond .eq 7, 3) := by decide +kernel
theorem dX12_readBranch_53 : decode cX12_readBranch 53 = .ok (.aload_n 0, 1) := by decide +kernel
theorem dX12_readBranch_54 : decode cX12_readBranch 54 = .ok (.invokevirtual 89, 3) := by decide +kernel
theorem dX12_readBranch_57 : decode cX12_readBranch 57 = .ok (.aload_n 0, 1) := by decide +kernel
theorem dX12_readBranch_58 : decode cX12_readBranch 58 = .ok (.bipush 33, 2) := by decide +kernel
theorem dX12_readBranch_60 : decode cX12_readBranch 60 = .ok (.invokevirtual 82, 3) := by decide +kernel
theorem dX12_readBranch_63 : decode cX12_readBranch 63 = .ok (.ifCond .ne 12, 3) := by decide +kernel
theorem dX12_readBranch_66 : decode cX12_readBranch 66 = .ok (.aload_n 0, 1) := by decide +kernel
theorem dX12_readBranch_67 : decode cX12_readBranch 67 = .ok (.bipush 43, 2) := by decide +kernel
theorem dX12_readBranch_69 : decode cX12_readBranch 69 = .ok (.invokevirtual 82, 3) := by decide +kernel
theorem dX12_readBranch_72 : decode cX12_readBranch 72 = .ok (.ifCond .eq 27, 3) := by decide +kernel
theorem dX12_readBranch_75 : decode cX12_readBranch 75 = .ok (.aload_n 0, 1) := by decide +kernel
