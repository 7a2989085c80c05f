theorem dX12_mends_2 : decode cX12_mends 2 = .ok (.invokevirtual 428, 3) := by decide +kernel
theorem dX12_mends_5 : decode cX12_mends 5 = .ok (.ireturn, 1) := by decide +kernel
theorem dX12_mend_0 : decode cX12_mend 0 = .ok (.iload_n 1, 1) := by decide +kernel
theorem dX12_mend_1 : decode cX12_mend 1 = .ok (.ifCond .ge 6, 3) := by decide +kernel
theorem dX12_mend_4 : decode cX12_mend 4 = .ok (.bipush (-2), 2) := by decide +kernel
theorem dX12_mend_6 : decode cX12_mend 6 = .ok (.ireturn, 1) := by decide +kernel
theorem dX12_mend_7 : decode cX12_mend 7 = .ok (.aload_n 0, 1) := by decide +kernel
theorem dX12_mend_8 : decode cX12_mend 8 = .ok (.iload_n 1, 1) := by decide +kernel
theorem dX12_mend_9 : decode cX12_mend 9 = .ok (.invokevirtual 428, 3) := by decide +kernel
theorem dX12_mend_12 : decode cX12_mend 12 = .ok (.iload_n 1, 1) := by decide +kernel
theorem dX12_mend_13 : decode cX12_mend 13 = .ok (.if_icmp .le 10, 3) := by decide +kernel
theorem dX12_mend_16 : decode cX12_mend 16 = .ok (.aload_n 0, 1) := by decide +kernel
theorem dX12_mend_17 : decode cX12_mend 17 = .ok (.getfield 425, 3) := by decide +kernel
theorem dX12_mend_20 : decode cX12_mend 20 = .ok (.goto 4, 3) := by decide +kernel
theorem dX12_mend_23 : decode cX12_mend 23 = .ok (.iconst (-1), 1) := by decide +kernel
theorem dX12_mend_24 : decode cX12_mend 24 = .ok (.ireturn, 1) := by decide +kernel
theorem dX12_sentencesUpTo_0 : decode cX12_sentencesUpTo 0 = .ok (.aload_n 0, 1) := by decide +kernel
theorem dX12_sentencesUpTo_1 : decode cX12_sentencesUpTo 1 = .ok (.invokevirtual 358, 3) := by decide +kernel
theorem dX12_sentencesUpTo_4 : decode cX12_sentencesUpTo 4 = .ok (.istore_n 3, 1) := by decide +kernel
theorem dX12_sentencesUpTo_5 : decode cX12_sentencesUpTo 5 = .ok (.iload_n 3, 1) := by decide +kernel
theorem dX12_sentencesUpTo_6 : decode cX12_sentencesUpTo 6 = .ok (.invokestatic 431, 3) := by decide +kernel
theorem dX12_sentencesUpTo_9 : decode cX12_sentencesUpTo 9 = .ok (.istore 4, 2) := by decide +kernel
theorem dX12_sentencesUpTo_11 : decode cX12_sentencesUpTo 11 = .ok (.iconst 1, 1) := by decide +kernel
theorem dX12_sentencesUpTo_12 : decode cX12_sentencesUpTo 12 = .ok (.istore 5, 2) := by decide +kernel
theorem dX12_sentencesUpTo_14 : decode cX12_sentencesUpTo 14 = .ok (.iconst 0, 1) := by decide +kernel
theorem dX12_sentencesUpTo_15 : decode cX12_sentencesUpTo 15 = .ok (.istore 6, 2) := by decide +kernel
theorem dX12_sentencesUpTo_17 : decode cX12_sentencesUpTo 17 = .ok (.iload 6, 2) := by decide +kernel
theorem dX12_sentencesUpTo_19 : decode cX12_sentencesUpTo 19 = .ok (.iload_n 1, 1) := by decide +kernel
theorem dX12_sentencesUpTo_20 : decode cX12_sentencesUpTo 20 = .ok (.if_icmp .ge 16, 3) := by decide +kernel
theorem dX12_sentencesUpTo_23 : decode cX12_sentencesUpTo 23 = .ok (.iload 5, 2) := by decide +kernel
theorem dX12_sentencesUpTo_25 : decode cX12_sentencesUpTo 25 = .ok (.iload 4, 2) := by decide +kernel
theorem dX12_sentencesUpTo_27 : decode cX12_sentencesUpTo 27 = .ok (.imul, 1) := by decide +kernel
theorem dX12_sentencesUpTo_28 : decode cX12_sentencesUpTo 28 = .ok (.istore 5, 2) := by decide +kernel
theorem dX12_sentencesUpTo_30 : decode cX12_sentencesUpTo 30 = .ok (.iinc 6 1, 3) := by decide +kernel
theorem dX12_sentencesUpTo_33 : decode cX12_sentencesUpTo 33 = .ok (.goto (-16), 3) := by decide +kernel
theorem dX12_sentencesUpTo_36 : decode cX12_sentencesUpTo 36 = .ok (.iconst 0, 1) := by decide +kernel
theorem dX12_sentencesUpTo_37 : decode cX12_sentencesUpTo 37 = .ok (.istore 6, 2) := by decide +kernel
theorem dX12_sentencesUpTo_39 : decode cX12_sentencesUpTo 39 = .ok (.iconst 0, 1) := by decide +kernel
theorem dX12_sentencesUpTo_40 : decode cX12_sentencesUpTo 40 = .ok (.istore 7, 2) := by decide +kernel
theorem dX12_sentencesUpTo_42 : decode cX12_sentencesUpTo 42 = .ok (.iload 7, 2) := by decide +kernel
theorem dX12_sentencesUpTo_44 : decode cX12_sentencesUpTo 44 = .ok (.iload 5, 2) := by decide +kernel
theorem dX12_sentencesUpTo_46 : decode cX12_sentencesUpTo 46 = .ok (.if_icmp .ge 109, 3) := by decide +kernel
theorem dX12_sentencesUpTo_49 : decode cX12_sentencesUpTo 49 = .ok (.aload_n 0, 1) := by decide +kernel
theorem dX12_sentencesUpTo_50 : decode cX12_sentencesUpTo 50 = .ok (.iload_n 1, 1) := by decide +kernel
theorem dX12_sentencesUpTo_51 : decode cX12_sentencesUpTo 51 = .ok (.putfield 249, 3) := by decide +kernel
theorem dX12_sentencesUpTo_54 : decode cX12_sentencesUpTo 54 = .ok (.iconst 0, 1) := by decide +kernel
theorem dX12_sentencesUpTo_55 : decode cX12_sentencesUpTo 55 = .ok (.istore 8, 2) := by decide +kernel
theorem dX12_sentencesUpTo_57 : decode cX12_sentencesUpTo 57 = .ok (.iload 5, 2) := by decide +kernel
theorem dX12_sentencesUpTo_59 : decode cX12_sentencesUpTo 59 = .ok (.istore 9, 2) := by decide +kernel
theorem dX12_sentencesUpTo_61 : decode cX12_sentencesUpTo 61 = .ok (.iconst 0, 1) := by decide +kernel
theorem dX12_sentencesUpTo_62 : decode cX12_sentencesUpTo 62 = .ok (.istore 10, 2) := by decide +kernel
theorem dX12_sentencesUpTo_64 : decode cX12_sentencesUpTo 64 = .ok (.iload 10, 2) := by decide +kernel
theorem dX12_sentencesUpTo_66 : decode cX12_sentencesUpTo 66 = .ok (.iload_n 1, 1) := by decide +kernel
theorem dX12_sentencesUpTo_67 : decode cX12_sentencesUpTo 67 = .ok (.if_icmp .ge 52, 3) := by decide +kernel
theorem dX12_sentencesUpTo_70 : decode cX12_sentencesUpTo 70 = .ok (.iload 9, 2) := by decide +kernel
theorem dX12_sentencesUpTo_72 : decode cX12_sentencesUpTo 72 = .ok (.iload 4, 2) := by decide +kernel
theorem dX12_sentencesUpTo_74 : decode cX12_sentencesUpTo 74 = .ok (.idiv, 1) := by decide +kernel
theorem dX12_sentencesUpTo_75 : decode cX12_sentencesUpTo 75 = .ok (.istore 9, 2) := by decide +kernel
theorem dX12_sentencesUpTo_77 : decode cX12_sentencesUpTo 77 = .ok (.aload_n 0, 1) := by decide +kernel
theorem dX12_sentencesUpTo_78 : decode cX12_sentencesUpTo 78 = .ok (.getfield 182, 3) := by decide +kernel
theorem dX12_sentencesUpTo_81 : decode cX12_sentencesUpTo 81 = .ok (.iload 10, 2) := by decide +kernel
theorem dX12_sentencesUpTo_83 : decode cX12_sentencesUpTo 83 = .ok (.iload_n 3, 1) := by decide +kernel
theorem dX12_sentencesUpTo_84 : decode cX12_sentencesUpTo 84 = .ok (.iload 7, 2) := by decide +kernel
theorem dX12_sentencesUpTo_86 : decode cX12_sentencesUpTo 86 = .ok (.iload 9, 2) := by decide +kernel
theorem dX12_sentencesUpTo_88 : decode cX12_sentencesUpTo 88 = .ok (.idiv, 1) := by decide +kernel
theorem dX12_sentencesUpTo_89 : decode cX12_sentencesUpTo 89 = .ok (.iload 4, 2) := by decide +kernel
theorem dX12_sentencesUpTo_91 : decode cX12_sentencesUpTo 91 = .ok (.irem, 1) := by decide +kernel
theorem dX12_sentencesUpTo_92 : decode cX12_sentencesUpTo 92 = .ok (.invokestatic 436, 3) := by decide +kernel
theorem dX12_sentencesUpTo_95 : decode cX12_sentencesUpTo 95 = .ok (.iastore, 1) := by decide +kernel
theorem dX12_sentencesUpTo_96 : decode cX12_sentencesUpTo 96 = .ok (.bipush 27, 2) := by decide +kernel
theorem dX12_sentencesUpTo_98 : decode cX12_sentencesUpTo 98 = .ok (.iload 8, 2) := by decide +kernel
theorem dX12_sentencesUpTo_100 : decode cX12_sentencesUpTo 100 = .ok (.imul, 1) := by decide +kernel
theorem dX12_sentencesUpTo_101 : decode cX12_sentencesUpTo 101 = .ok (.aload_n 0, 1) := by decide +kernel
theorem dX12_sentencesUpTo_102 : decode cX12_sentencesUpTo 102 = .ok (.getfield 182, 3) := by decide +kernel
theorem dX12_sentencesUpTo_105 : decode cX12_sentencesUpTo 105 = .ok (.iload 10, 2) := by decide +kernel
theorem dX12_sentencesUpTo_107 : decode cX12_sentencesUpTo 107 = .ok (.iaload, 1) := by decide +kernel
theorem dX12_sentencesUpTo_108 : decode cX12_sentencesUpTo 108 = .ok (.iadd, 1) := by decide +kernel
theorem dX12_sentencesUpTo_109 : decode cX12_sentencesUpTo 109 = .ok (.iconst 1, 1) := by decide +kernel
theorem dX12_sentencesUpTo_110 : decode cX12_sentencesUpTo 110 = .ok (.iadd, 1) := by decide +kernel
theorem dX12_sentencesUpTo_111 : decode cX12_sentencesUpTo 111 = .ok (.istore 8, 2) := by decide +kernel
theorem dX12_sentencesUpTo_113 : decode cX12_sentencesUpTo 113 = .ok (.iinc 10 1, 3) := by decide +kernel
theorem dX12_sentencesUpTo_116 : decode cX12_sentencesUpTo 116 = .ok (.goto (-52), 3) := by decide +kernel
theorem dX12_sentencesUpTo_119 : decode cX12_sentencesUpTo 119 = .ok (.aload_n 0, 1) := by decide +kernel
theorem dX12_sentencesUpTo_120 : decode cX12_sentencesUpTo 120 = .ok (.invokevirtual 422, 3) := by decide +kernel
theorem dX12_sentencesUpTo_123 : decode cX12_sentencesUpTo 123 = .ok (.ifCond .ne 6, 3) := by decide +kernel
theorem dX12_sentencesUpTo_126 : decode cX12_sentencesUpTo 126 = .ok (.goto 23, 3) := by decide +kernel
theorem dX12_sentencesUpTo_129 : decode cX12_sentencesUpTo 129 = .ok (.aload_n 0, 1) := by decide +kernel
theorem dX12_sentencesUpTo_130 : decode cX12_sentencesUpTo 130 = .ok (.iload 8, 2) := by decide +kernel
theorem dX12_sentencesUpTo_132 : decode cX12_sentencesUpTo 132 = .ok (.putfield 439, 3) := by decide +kernel
theorem dX12_sentencesUpTo_135 : decode cX12_sentencesUpTo 135 = .ok (.iinc 6 1, 3) := by decide +kernel
theorem dX12_sentencesUpTo_138 : decode cX12_sentencesUpTo 138 = .ok (.iload 6, 2) := by decide +kernel
theorem dX12_sentencesUpTo_140 : decode cX12_sentencesUpTo 140 = .ok (.iconst 1, 1) := by decide +kernel
theorem dX12_sentencesUpTo_141 : decode cX12_sentencesUpTo 141 = .ok (.isub, 1) := by decide +kernel
theorem dX12_sentencesUpTo_142 : decode cX12_sentencesUpTo 142 = .ok (.iload_n 2, 1) := by decide +kernel
theorem dX12_sentencesUpTo_143 : decode cX12_sentencesUpTo 143 = .ok (.if_icmp .ne 6, 3) := by decide +kernel
theorem dX12_sentencesUpTo_146 : decode cX12_sentencesUpTo 146 = .ok (.iload 6, 2) := by decide +kernel
theorem dX12_sentencesUpTo_148 : decode cX12_sentencesUpTo 148 = .ok (.ireturn, 1) := by decide +kernel
theorem dX12_sentencesUpTo_149 : decode cX12_sentencesUpTo 149 = .ok (.iinc 7 1, 3) := by decide +kernel
theorem dX12_sentencesUpTo_152 : decode cX12_sentencesUpTo 152 = .ok (.goto (-110), 3) := by decide +kernel
theorem dX12_sentencesUpTo_155 : decode cX12_sentencesUpTo 155 = .ok (.iload 6, 2) := by decide +kernel
theorem dX12_sentencesUpTo_157 : decode cX12_sentencesUpTo 157 = .ok (.ireturn, 1) := by decide +kernel
theorem dX12_letterAt_0 : decode cX12_letterAt 0 = .ok (.iload_n 0, 1) := by decide +kernel
theorem dX12_letterAt_1 : decode cX12_letterAt 1 = .ok (.istore_n 2, 1) := by decide +kernel
theorem dX12_letterAt_2 : decode cX12_letterAt 2 = .ok (.iconst 0, 1) := by decide +kernel
theorem dX12_letterAt_3 : decode cX12_letterAt 3 = .ok (.istore_n 3, 1) := by decide +kernel
theorem dX12_letterAt_4 : decode cX12_letterAt 4 = .ok (.iload_n 3, 1) := by decide +kernel
theorem dX12_letterAt_5 : decode cX12_letterAt 5 = .ok (.iload_n 1, 1) := by decide +kernel
theorem dX12_letterAt_6 : decode cX12_letterAt 6 = .ok (.if_icmp .ge 15, 3) := by decide +kernel
theorem dX12_letterAt_9 : decode cX12_letterAt 9 = .ok (.iload_n 2, 1) := by decide +kernel
theorem dX12_letterAt_10 : decode cX12_letterAt 10 = .ok (.iload_n 2, 1) := by decide +kernel
theorem dX12_letterAt_11 : decode cX12_letterAt 11 = .ok (.iconst 1, 1) := by decide +kernel
theorem dX12_letterAt_12 : decode cX12_letterAt 12 = .ok (.isub, 1) := by decide +kernel
theorem dX12_letterAt_13 : decode cX12_letterAt 13 = .ok (.iand, 1) := by decide +kernel
theorem dX12_letterAt_14 : decode cX12_letterAt 14 = .ok (.istore_n 2, 1) := by decide +kernel
theorem dX12_letterAt_15 : decode cX12_letterAt 15 = .ok (.iinc 3 1, 3) := by decide +kernel
theorem dX12_letterAt_18 : decode cX12_letterAt 18 = .ok (.goto (-14), 3) := by decide +kernel
theorem dX12_letterAt_21 : decode cX12_letterAt 21 = .ok (.iload_n 2, 1) := by decide +kernel
theorem dX12_letterAt_22 : decode cX12_letterAt 22 = .ok (.invokestatic 442, 3) := by decide +kernel
theorem dX12_letterAt_25 : decode cX12_letterAt 25 = .ok (.ireturn, 1) := by decide +kernel
theorem dX12_sentences_0 : decode cX12_sentences 0 = .ok (.iload_n 1, 1) := by decide +kernel
theorem dX12_sentences_1 : decode cX12_sentences 1 = .ok (.i2l, 1) := by decide +kernel
theorem dX12_sentences_2 : decode cX12_sentences 2 = .ok (.lconst 0, 1) := by decide +kernel
theorem dX12_sentences_3 : decode cX12_sentences 3 = .ok (.ldc2_w 445, 3) := by decide +kernel
theorem dX12_sentences_6 : decode cX12_sentences 6 = .ok (.invokestatic 14, 3) := by decide +kernel
theorem dX12_sentences_9 : decode cX12_sentences 9 = .ok (.ifCond .ne 6, 3) := by decide +kernel
theorem dX12_sentences_12 : decode cX12_sentences 12 = .ok (.bipush (-2), 2) := by decide +kernel
theorem dX12_sentences_14 : decode cX12_sentences 14 = .ok (.ireturn, 1) := by decide +kernel
theorem dX12_sentences_15 : decode cX12_sentences 15 = .ok (.aload_n 0, 1) := by decide +kernel
theorem dX12_sentences_16 : decode cX12_sentences 16 = .ok (.invokevirtual 358, 3) := by decide +kernel
theorem dX12_sentences_19 : decode cX12_sentences 19 = .ok (.invokestatic 431, 3) := by decide +kernel
theorem dX12_sentences_22 : decode cX12_sentences 22 = .ok (.iconst 4, 1) := by decide +kernel
theorem dX12_sentences_23 : decode cX12_sentences 23 = .ok (.if_icmp .le 8, 3) := by decide +kernel
theorem dX12_sentences_26 : decode cX12_sentences 26 = .ok (.bipush (-5), 2) := by decide +kernel
theorem dX12_sentences_28 : decode cX12_sentences 28 = .ok (.goto 9, 3) := by decide +kernel
theorem dX12_sentences_31 : decode cX12_sentences 31 = .ok (.aload_n 0, 1) := by decide +kernel
theorem dX12_sentences_32 : decode cX12_sentences 32 = .ok (.iload_n 1, 1) := by decide +kernel
theorem dX12_sentences_33 : decode cX12_sentences 33 = .ok (.iconst (-1), 1) := by decide +kernel
theorem dX12_sentences_34 : decode cX12_sentences 34 = .ok (.invokevirtual 447, 3) := by decide +kernel
theorem dX12_sentences_37 : decode cX12_sentences 37 = .ok (.ireturn, 1) := by decide +kernel
theorem dX12_sentence_0 : decode cX12_sentence 0 = .ok (.iload_n 1, 1) := by decide +kernel
theorem dX12_sentence_1 : decode cX12_sentence 1 = .ok (.i2l, 1) := by decide +kernel
theorem dX12_sentence_2 : decode cX12_sentence 2 = .ok (.lconst 0, 1) := by decide +kernel
theorem dX12_sentence_3 : decode cX12_sentence 3 = .ok (.ldc2_w 445, 3) := by decide +kernel
theorem dX12_sentence_6 : decode cX12_sentence 6 = .ok (.invokestatic 14, 3) := by decide +kernel
theorem dX12_sentence_9 : decode cX12_sentence 9 = .ok (.ifCond .eq 7, 3) := by decide +kernel
theorem dX12_sentence_12 : decode cX12_sentence 12 = .ok (.iload_n 2, 1) := by decide +kernel
theorem dX12_sentence_13 : decode cX12_sentence 13 = .ok (.ifCond .ge 6, 3) := by decide +kernel
theorem dX12_sentence_16 : decode cX12_sentence 16 = .ok (.bipush (-2), 2) := by decide +kernel
theorem dX12_sentence_18 : decode cX12_sentence 18 = .ok (.ireturn, 1) := by decide +kernel
theorem dX12_sentence_19 : decode cX12_sentence 19 = .ok (.aload_n 0, 1) := by decide +kernel
theorem dX12_sentence_20 : decode cX12_sentence 20 = .ok (.invokevirtual 358, 3) := by decide +kernel
theorem dX12_sentence_23 : decode cX12_sentence 23 = .ok (.invokestatic 431, 3) := by decide +kernel
theorem dX12_sentence_26 : decode cX12_sentence 26 = .ok (.iconst 4, 1) := by decide +kernel
theorem dX12_sentence_27 : decode cX12_sentence 27 = .ok (.if_icmp .le 6, 3) := by decide +kernel
theorem dX12_sentence_30 : decode cX12_sentence 30 = .ok (.bipush (-5), 2) := by decide +kernel
theorem dX12_sentence_32 : decode cX12_sentence 32 = .ok (.ireturn, 1) := by decide +kernel
theorem dX12_sentence_33 : decode cX12_sentence 33 = .ok (.aload_n 0, 1) := by decide +kernel
theorem dX12_sentence_34 : decode cX12_sentence 34 = .ok (.iload_n 1, 1) := by decide +kernel
theorem dX12_sentence_35 : decode cX12_sentence 35 = .ok (.iload_n 2, 1) := by decide +kernel
theorem dX12_sentence_36 : decode cX12_sentence 36 = .ok (.invokevirtual 447, 3) := by decide +kernel
theorem dX12_sentence_39 : decode cX12_sentence 39 = .ok (.iload_n 2, 1) := by decide +kernel
theorem dX12_sentence_40 : decode cX12_sentence 40 = .ok (.if_icmp .le 10, 3) := by decide +kernel
theorem dX12_sentence_43 : decode cX12_sentence 43 = .ok (.aload_n 0, 1) := by decide +kernel
theorem dX12_sentence_44 : decode cX12_sentence 44 = .ok (.getfield 439, 3) := by decide +kernel
theorem dX12_sentence_47 : decode cX12_sentence 47 = .ok (.goto 4, 3) := by decide +kernel
theorem dX12_sentence_50 : decode cX12_sentence 50 = .ok (.iconst (-1), 1) := by decide +kernel
theorem dX12_sentence_51 : decode cX12_sentence 51 = .ok (.ireturn, 1) := by decide +kernel
theorem dX12_newStep_0 : decode cX12_newStep 0 = .ok (.aload_n 0, 1) := by decide +kernel
theorem dX12_newStep_1 : decode cX12_newStep 1 = .ok (.getfield 450, 3) := by decide +kernel
theorem dX12_newStep_4 : decode cX12_newStep 4 = .ok (.istore 4, 2) := by decide +kernel
theorem dX12_newStep_6 : decode cX12_newStep 6 = .ok (.aload_n 0, 1) := by decide +kernel
theorem dX12_newStep_7 : decode cX12_newStep 7 = .ok (.getfield 214, 3) := by decide +kernel
theorem dX12_newStep_10 : decode cX12_newStep 10 = .ok (.iload 4, 2) := by decide +kernel
theorem dX12_newStep_12 : decode cX12_newStep 12 = .ok (.iload_n 1, 1) := by decide +kernel
theorem dX12_newStep_13 : decode cX12_newStep 13 = .ok (.iastore, 1) := by decide +kernel
theorem dX12_newStep_14 : decode cX12_newStep 14 = .ok (.aload_n 0, 1) := by decide +kernel
theorem dX12_newStep_15 : decode cX12_newStep 15 = .ok (.getfield 217, 3) := by decide +kernel
theorem dX12_newStep_18 : decode cX12_newStep 18 = .ok (.iload 4, 2) := by decide +kernel
theorem dX12_newStep_20 : decode cX12_newStep 20 = .ok (.iload_n 2, 1) := by decide +kernel
theorem dX12_newStep_21 : decode cX12_newStep 21 = .ok (.iastore, 1) := by decide +kernel
theorem dX12_newStep_22 : decode cX12_newStep 22 = .ok (.aload_n 0, 1) := by decide +kernel
theorem dX12_newStep_23 : decode cX12_newStep 23 = .ok (.getfield 220, 3) := by decide +kernel
theorem dX12_newStep_26 : decode cX12_newStep 26 = .ok (.iload 4, 2) := by decide +kernel
theorem dX12_newStep_28 : decode cX12_newStep 28 = .ok (.iload_n 3, 1) := by decide +kernel
theorem dX12_newStep_29 : decode cX12_newStep 29 = .ok (.iastore, 1) := by decide +kernel
theorem dX12_newStep_30 : decode cX12_newStep 30 = .ok (.aload_n 0, 1) := by decide +kernel
theorem dX12_newStep_31 : decode cX12_newStep 31 = .ok (.getfield 223, 3) := by decide +kernel
theorem dX12_newStep_34 : decode cX12_newStep 34 = .ok (.iload 4, 2) := by decide +kernel
theorem dX12_newStep_36 : decode cX12_newStep 36 = .ok (.iconst (-1), 1) := by decide +kernel
theorem dX12_newStep_37 : decode cX12_newStep 37 = .ok (.iastore, 1) := by decide +kernel
theorem dX12_newStep_38 : decode cX12_newStep 38 = .ok (.iconst 0, 1) := by decide +kernel
theorem dX12_newStep_39 : decode cX12_newStep 39 = .ok (.istore 5, 2) := by decide +kernel
theorem dX12_newStep_41 : decode cX12_newStep 41 = .ok (.iload 5, 2) := by decide +kernel
theorem dX12_newStep_43 : decode cX12_newStep 43 = .ok (.bipush 12, 2) := by decide +kernel
theorem dX12_newStep_45 : decode cX12_newStep 45 = .ok (.if_icmp .ge 23, 3) := by decide +kernel
theorem dX12_newStep_48 : decode cX12_newStep 48 = .ok (.aload_n 0, 1) := by decide +kernel
theorem dX12_newStep_49 : decode cX12_newStep 49 = .ok (.getfield 226, 3) := by decide +kernel
theorem dX12_newStep_52 : decode cX12_newStep 52 = .ok (.bipush 12, 2) := by decide +kernel
theorem dX12_newStep_54 : decode cX12_newStep 54 = .ok (.iload 4, 2) := by decide +kernel
theorem dX12_newStep_56 : decode cX12_newStep 56 = .ok (.imul, 1) := by decide +kernel
theorem dX12_newStep_57 : decode cX12_newStep 57 = .ok (.iload 5, 2) := by decide +kernel
theorem dX12_newStep_59 : decode cX12_newStep 59 = .ok (.iadd, 1) := by decide +kernel
theorem dX12_newStep_60 : decode cX12_newStep 60 = .ok (.iconst (-1), 1) := by decide +kernel
theorem dX12_newStep_61 : decode cX12_newStep 61 = .ok (.iastore, 1) := by decide +kernel
theorem dX12_newStep_62 : decode cX12_newStep 62 = .ok (.iinc 5 1, 3) := by decide +kernel
theorem dX12_newStep_65 : decode cX12_newStep 65 = .ok (.goto (-24), 3) := by decide +kernel
theorem dX12_newStep_68 : decode cX12_newStep 68 = .ok (.iload_n 2, 1) := by decide +kernel
theorem dX12_newStep_69 : decode cX12_newStep 69 = .ok (.iconst (-1), 1) := by decide +kernel
theorem dX12_newStep_70 : decode cX12_newStep 70 = .ok (.if_icmp .eq 16, 3) := by decide +kernel
theorem dX12_newStep_73 : decode cX12_newStep 73 = .ok (.aload_n 0, 1) := by decide +kernel
theorem dX12_newStep_74 : decode cX12_newStep 74 = .ok (.getfield 226, 3) := by decide +kernel
theorem dX12_newStep_77 : decode cX12_newStep 77 = .ok (.bipush 12, 2) := by decide +kernel
theorem dX12_newStep_79 : decode cX12_newStep 79 = .ok (.iload_n 2, 1) := by decide +kernel
theorem dX12_newStep_80 : decode cX12_newStep 80 = .ok (.imul, 1) := by decide +kernel
theorem dX12_newStep_81 : decode cX12_newStep 81 = .ok (.iload_n 3, 1) := by decide +kernel
theorem dX12_newStep_82 : decode cX12_newStep 82 = .ok (.iadd, 1) := by decide +kernel
theorem dX12_newStep_83 : decode cX12_newStep 83 = .ok (.iload 4, 2) := by decide +kernel
theorem dX12_newStep_85 : decode cX12_newStep 85 = .ok (.iastore, 1) := by decide +kernel
theorem dX12_newStep_86 : decode cX12_newStep 86 = .ok (.aload_n 0, 1) := by decide +kernel
theorem dX12_newStep_87 : decode cX12_newStep 87 = .ok (.dup, 1) := by decide +kernel
theorem dX12_newStep_88 : decode cX12_newStep 88 = .ok (.getfield 450, 3) := by decide +kernel
theorem dX12_newStep_91 : decode cX12_newStep 91 = .ok (.iconst 1, 1) := by decide +kernel
theorem dX12_newStep_92 : decode cX12_newStep 92 = .ok (.iadd, 1) := by decide +kernel
theorem dX12_newStep_93 : decode cX12_newStep 93 = .ok (.putfield 450, 3) := by decide +kernel
theorem dX12_newStep_96 : decode cX12_newStep 96 = .ok (.iload 4, 2) := by decide +kernel
theorem dX12_newStep_98 : decode cX12_newStep 98 = .ok (.ireturn, 1) := by decide +kernel
theorem dX12_lays_0 : decode cX12_lays 0 = .ok (.iload_n 2, 1) := by decide +kernel
theorem dX12_lays_1 : decode cX12_lays 1 = .ok (.iconst 1, 1) := by decide +kernel
theorem dX12_lays_2 : decode cX12_lays 2 = .ok (.if_icmp .ne 31, 3) := by decide +kernel
theorem dX12_lays_5 : decode cX12_lays 5 = .ok (.aload_n 0, 1) := by decide +kernel
theorem dX12_lays_6 : decode cX12_lays 6 = .ok (.getfield 98, 3) := by decide +kernel
theorem dX12_lays_9 : decode cX12_lays 9 = .ok (.iload_n 3, 1) := by decide +kernel
theorem dX12_lays_10 : decode cX12_lays 10 = .ok (.iaload, 1) := by decide +kernel
theorem dX12_lays_11 : decode cX12_lays 11 = .ok (.ifCond .ne 22, 3) := by decide +kernel
theorem dX12_lays_14 : decode cX12_lays 14 = .ok (.aload_n 0, 1) := by decide +kernel
theorem dX12_lays_15 : decode cX12_lays 15 = .ok (.iload_n 1, 1) := by decide +kernel
theorem dX12_lays_16 : decode cX12_lays 16 = .ok (.iload_n 3, 1) := by decide +kernel
theorem dX12_lays_17 : decode cX12_lays 17 = .ok (.iload 4, 2) := by decide +kernel
theorem dX12_lays_19 : decode cX12_lays 19 = .ok (.iload 5, 2) := by decide +kernel
theorem dX12_lays_21 : decode cX12_lays 21 = .ok (.iload 6, 2) := by decide +kernel
theorem dX12_lays_23 : decode cX12_lays 23 = .ok (.iload 7, 2) := by decide +kernel
theorem dX12_lays_25 : decode cX12_lays 25 = .ok (.lload 8, 2) := by decide +kernel
theorem dX12_lays_27 : decode cX12_lays 27 = .ok (.invokevirtual 453, 3) := by decide +kernel
theorem dX12_lays_30 : decode cX12_lays 30 = .ok (.goto 19, 3) := by decide +kernel
theorem dX12_lays_33 : decode cX12_lays 33 = .ok (.aload_n 0, 1) := by decide +kernel
theorem dX12_lays_34 : decode cX12_lays 34 = .ok (.iload_n 1, 1) := by decide +kernel
theorem dX12_lays_35 : decode cX12_lays 35 = .ok (.iload_n 3, 1) := by decide +kernel
theorem dX12_lays_36 : decode cX12_lays 36 = .ok (.iload 4, 2) := by decide +kernel
theorem dX12_lays_38 : decode cX12_lays 38 = .ok (.iload 5, 2) := by decide +kernel
theorem dX12_lays_40 : decode cX12_lays 40 = .ok (.iload 6, 2) := by decide +kernel
theorem dX12_lays_42 : decode cX12_lays 42 = .ok (.iload 7, 2) := by decide +kernel
theorem dX12_lays_44 : decode cX12_lays 44 = .ok (.lload 8, 2) := by decide +kernel
theorem dX12_lays_46 : decode cX12_lays 46 = .ok (.invokevirtual 457, 3) := by decide +kernel
theorem dX12_lays_49 : decode cX12_lays 49 = .ok (.return_, 1) := by decide +kernel
theorem dX12_laysAbove_0 : decode cX12_laysAbove 0 = .ok (.lload 7, 2) := by decide +kernel
theorem dX12_laysAbove_2 : decode cX12_laysAbove 2 = .ok (.lstore 9, 2) := by decide +kernel
theorem dX12_laysAbove_4 : decode cX12_laysAbove 4 = .ok (.aload_n 0, 1) := by decide +kernel
theorem dX12_laysAbove_5 : decode cX12_laysAbove 5 = .ok (.getfield 104, 3) := by decide +kernel
theorem dX12_laysAbove_8 : decode cX12_laysAbove 8 = .ok (.iload_n 2, 1) := by decide +kernel
theorem dX12_laysAbove_9 : decode cX12_laysAbove 9 = .ok (.iaload, 1) := by decide +kernel
theorem dX12_laysAbove_10 : decode cX12_laysAbove 10 = .ok (.iconst 2, 1) := by decide +kernel
theorem dX12_laysAbove_11 : decode cX12_laysAbove 11 = .ok (.if_icmp .eq 49, 3) := by decide +kernel
theorem dX12_laysAbove_14 : decode cX12_laysAbove 14 = .ok (.aload_n 0, 1) := by decide +kernel
theorem dX12_laysAbove_15 : decode cX12_laysAbove 15 = .ok (.iconst 0, 1) := by decide +kernel
theorem dX12_laysAbove_16 : decode cX12_laysAbove 16 = .ok (.iload_n 2, 1) := by decide +kernel
theorem dX12_laysAbove_17 : decode cX12_laysAbove 17 = .ok (.iload_n 3, 1) := by decide +kernel
theorem dX12_laysAbove_18 : decode cX12_laysAbove 18 = .ok (.iload 4, 2) := by decide +kernel
theorem dX12_laysAbove_20 : decode cX12_laysAbove 20 = .ok (.iload 5, 2) := by decide +kernel
theorem dX12_laysAbove_22 : decode cX12_laysAbove 22 = .ok (.iload 6, 2) := by decide +kernel
theorem dX12_laysAbove_24 : decode cX12_laysAbove 24 = .ok (.invokevirtual 292, 3) := by decide +kernel
theorem dX12_laysAbove_27 : decode cX12_laysAbove 27 = .ok (.lstore 11, 2) := by decide +kernel
theorem dX12_laysAbove_29 : decode cX12_laysAbove 29 = .ok (.lload 9, 2) := by decide +kernel
theorem dX12_laysAbove_31 : decode cX12_laysAbove 31 = .ok (.lload 11, 2) := by decide +kernel
theorem dX12_laysAbove_33 : decode cX12_laysAbove 33 = .ok (.lcmp, 1) := by decide +kernel
theorem dX12_laysAbove_34 : decode cX12_laysAbove 34 = .ok (.ifCond .ge 19, 3) := by decide +kernel
theorem dX12_laysAbove_37 : decode cX12_laysAbove 37 = .ok (.aload_n 0, 1) := by decide +kernel
theorem dX12_laysAbove_38 : decode cX12_laysAbove 38 = .ok (.iload_n 1, 1) := by decide +kernel
theorem dX12_laysAbove_39 : decode cX12_laysAbove 39 = .ok (.iload_n 2, 1) := by decide +kernel
theorem dX12_laysAbove_40 : decode cX12_laysAbove 40 = .ok (.iload_n 3, 1) := by decide +kernel
theorem dX12_laysAbove_41 : decode cX12_laysAbove 41 = .ok (.iload 4, 2) := by decide +kernel
theorem dX12_laysAbove_43 : decode cX12_laysAbove 43 = .ok (.iload 5, 2) := by decide +kernel
theorem dX12_laysAbove_45 : decode cX12_laysAbove 45 = .ok (.iload 6, 2) := by decide +kernel
theorem dX12_laysAbove_47 : decode cX12_laysAbove 47 = .ok (.lload 9, 2) := by decide +kernel
theorem dX12_laysAbove_49 : decode cX12_laysAbove 49 = .ok (.invokevirtual 457, 3) := by decide +kernel
theorem dX12_laysAbove_52 : decode cX12_laysAbove 52 = .ok (.return_, 1) := by decide +kernel
theorem dX12_laysAbove_53 : decode cX12_laysAbove 53 = .ok (.lload 9, 2) := by decide +kernel
theorem dX12_laysAbove_55 : decode cX12_laysAbove 55 = .ok (.lload 11, 2) := by decide +kernel
theorem dX12_laysAbove_57 : decode cX12_laysAbove 57 = .ok (.lsub, 1) := by decide +kernel
theorem dX12_laysAbove_58 : decode cX12_laysAbove 58 = .ok (.lstore 9, 2) := by decide +kernel
theorem dX12_laysAbove_60 : decode cX12_laysAbove 60 = .ok (.iconst 0, 1) := by decide +kernel
theorem dX12_laysAbove_61 : decode cX12_laysAbove 61 = .ok (.istore 11, 2) := by decide +kernel
theorem dX12_laysAbove_63 : decode cX12_laysAbove 63 = .ok (.iload 11, 2) := by decide +kernel
theorem dX12_laysAbove_65 : decode cX12_laysAbove 65 = .ok (.aload_n 0, 1) := by decide +kernel
theorem dX12_laysAbove_66 : decode cX12_laysAbove 66 = .ok (.getfield 11, 3) := by decide +kernel
theorem dX12_laysAbove_69 : decode cX12_laysAbove 69 = .ok (.if_icmp .ge 201, 3) := by decide +kernel
theorem dX12_laysAbove_72 : decode cX12_laysAbove 72 = .ok (.aload_n 0, 1) := by decide +kernel
theorem dX12_laysAbove_73 : decode cX12_laysAbove 73 = .ok (.iload 11, 2) := by decide +kernel
theorem dX12_laysAbove_75 : decode cX12_laysAbove 75 = .ok (.aload_n 0, 1) := by decide +kernel
theorem dX12_laysAbove_76 : decode cX12_laysAbove 76 = .ok (.getfield 101, 3) := by decide +kernel
theorem dX12_laysAbove_79 : decode cX12_laysAbove 79 = .ok (.iload_n 2, 1) := by decide +kernel
theorem dX12_laysAbove_80 : decode cX12_laysAbove 80 = .ok (.iaload, 1) := by decide +kernel
theorem dX12_laysAbove_81 : decode cX12_laysAbove 81 = .ok (.iconst 1, 1) := by decide +kernel
theorem dX12_laysAbove_82 : decode cX12_laysAbove 82 = .ok (.invokevirtual 296, 3) := by decide +kernel
theorem dX12_laysAbove_85 : decode cX12_laysAbove 85 = .ok (.ifCond .ne 6, 3) := by decide +kernel
theorem dX12_laysAbove_88 : decode cX12_laysAbove 88 = .ok (.goto 176, 3) := by decide +kernel
theorem dX12_laysAbove_91 : decode cX12_laysAbove 91 = .ok (.iload_n 3, 1) := by decide +kernel
theorem dX12_laysAbove_92 : decode cX12_laysAbove 92 = .ok (.istore 12, 2) := by decide +kernel
theorem dX12_laysAbove_94 : decode cX12_laysAbove 94 = .ok (.iload 12, 2) := by decide +kernel
theorem dX12_laysAbove_96 : decode cX12_laysAbove 96 = .ok (.iload 5, 2) := by decide +kernel
theorem dX12_laysAbove_98 : decode cX12_laysAbove 98 = .ok (.iconst (-1), 1) := by decide +kernel
theorem dX12_laysAbove_99 : decode cX12_laysAbove 99 = .ok (.if_icmp .ne 8, 3) := by decide +kernel
theorem dX12_laysAbove_102 : decode cX12_laysAbove 102 = .ok (.iload 4, 2) := by decide +kernel
theorem dX12_laysAbove_104 : decode cX12_laysAbove 104 = .ok (.goto 5, 3) := by decide +kernel
theorem dX12_laysAbove_107 : decode cX12_laysAbove 107 = .ok (.iload 5, 2) := by decide +kernel
theorem dX12_laysAbove_109 : decode cX12_laysAbove 109 = .ok (.if_icmp .gt 155, 3) := by decide +kernel
theorem dX12_laysAbove_112 : decode cX12_laysAbove 112 = .ok (.iload 5, 2) := by decide +kernel
theorem dX12_laysAbove_114 : decode cX12_laysAbove 114 = .ok (.iconst (-1), 1) := by decide +kernel
theorem dX12_laysAbove_115 : decode cX12_laysAbove 115 = .ok (.if_icmp .ne 8, 3) := by decide +kernel
theorem dX12_laysAbove_118 : decode cX12_laysAbove 118 = .ok (.iload 12, 2) := by decide +kernel
theorem dX12_laysAbove_120 : decode cX12_laysAbove 120 = .ok (.goto 5, 3) := by decide +kernel
theorem dX12_laysAbove_123 : decode cX12_laysAbove 123 = .ok (.iload 6, 2) := by decide +kernel
theorem dX12_laysAbove_125 : decode cX12_laysAbove 125 = .ok (.istore 13, 2) := by decide +kernel
theorem dX12_laysAbove_127 : decode cX12_laysAbove 127 = .ok (.iload 13, 2) := by decide +kernel
theorem dX12_laysAbove_129 : decode cX12_laysAbove 129 = .ok (.iload 4, 2) := by decide +kernel
theorem dX12_laysAbove_131 : decode cX12_laysAbove 131 = .ok (.if_icmp .gt 127, 3) := by decide +kernel
theorem dX12_laysAbove_134 : decode cX12_laysAbove 134 = .ok (.aload_n 0, 1) := by decide +kernel
theorem dX12_laysAbove_135 : decode cX12_laysAbove 135 = .ok (.iload_n 2, 1) := by decide +kernel
theorem dX12_laysAbove_136 : decode cX12_laysAbove 136 = .ok (.iload 11, 2) := by decide +kernel
theorem dX12_laysAbove_138 : decode cX12_laysAbove 138 = .ok (.iload 12, 2) := by decide +kernel
theorem dX12_laysAbove_140 : decode cX12_laysAbove 140 = .ok (.iload 13, 2) := by decide +kernel
theorem dX12_laysAbove_142 : decode cX12_laysAbove 142 = .ok (.iload_n 3, 1) := by decide +kernel
theorem dX12_laysAbove_143 : decode cX12_laysAbove 143 = .ok (.iload 4, 2) := by decide +kernel
theorem dX12_laysAbove_145 : decode cX12_laysAbove 145 = .ok (.iload 5, 2) := by decide +kernel
theorem dX12_laysAbove_147 : decode cX12_laysAbove 147 = .ok (.iload 6, 2) := by decide +kernel
theorem dX12_laysAbove_149 : decode cX12_laysAbove 149 = .ok (.invokevirtual 300, 3) := by decide +kernel
theorem dX12_laysAbove_152 : decode cX12_laysAbove 152 = .ok (.lstore 14, 2) := by decide +kernel
theorem dX12_laysAbove_154 : decode cX12_laysAbove 154 = .ok (.lload 9, 2) := by decide +kernel
theorem dX12_laysAbove_156 : decode cX12_laysAbove 156 = .ok (.lload 14, 2) := by decide +kernel
theorem dX12_laysAbove_158 : decode cX12_laysAbove 158 = .ok (.lcmp, 1) := by decide +kernel
theorem dX12_laysAbove_159 : decode cX12_laysAbove 159 = .ok (.ifCond .ge 86, 3) := by decide +kernel
theorem dX12_laysAbove_162 : decode cX12_laysAbove 162 = .ok (.aload_n 0, 1) := by decide +kernel
theorem dX12_laysAbove_163 : decode cX12_laysAbove 163 = .ok (.iconst 0, 1) := by decide +kernel
theorem dX12_laysAbove_164 : decode cX12_laysAbove 164 = .ok (.iload_n 2, 1) := by decide +kernel
theorem dX12_laysAbove_165 : decode cX12_laysAbove 165 = .ok (.iload 12, 2) := by decide +kernel
theorem dX12_laysAbove_167 : decode cX12_laysAbove 167 = .ok (.iload 13, 2) := by decide +kernel
theorem dX12_laysAbove_169 : decode cX12_laysAbove 169 = .ok (.iload 5, 2) := by decide +kernel
theorem dX12_laysAbove_171 : decode cX12_laysAbove 171 = .ok (.iload 6, 2) := by decide +kernel
theorem dX12_laysAbove_173 : decode cX12_laysAbove 173 = .ok (.invokevirtual 292, 3) := by decide +kernel
theorem dX12_laysAbove_176 : decode cX12_laysAbove 176 = .ok (.lstore 16, 2) := by decide +kernel
theorem dX12_laysAbove_178 : decode cX12_laysAbove 178 = .ok (.aload_n 0, 1) := by decide +kernel
theorem dX12_laysAbove_179 : decode cX12_laysAbove 179 = .ok (.iload 11, 2) := by decide +kernel
theorem dX12_laysAbove_181 : decode cX12_laysAbove 181 = .ok (.iload_n 1, 1) := by decide +kernel
theorem dX12_laysAbove_182 : decode cX12_laysAbove 182 = .ok (.iload_n 2, 1) := by decide +kernel
theorem dX12_laysAbove_183 : decode cX12_laysAbove 183 = .ok (.aload_n 0, 1) := by decide +kernel
theorem dX12_laysAbove_184 : decode cX12_laysAbove 184 = .ok (.getfield 7, 3) := by decide +kernel
theorem dX12_laysAbove_187 : decode cX12_laysAbove 187 = .ok (.aload_n 0, 1) := by decide +kernel
theorem dX12_laysAbove_188 : decode cX12_laysAbove 188 = .ok (.getfield 214, 3) := by decide +kernel
theorem dX12_laysAbove_191 : decode cX12_laysAbove 191 = .ok (.iload_n 1, 1) := by decide +kernel
theorem dX12_laysAbove_192 : decode cX12_laysAbove 192 = .ok (.iaload, 1) := by decide +kernel
theorem dX12_laysAbove_193 : decode cX12_laysAbove 193 = .ok (.iaload, 1) := by decide +kernel
theorem dX12_laysAbove_194 : decode cX12_laysAbove 194 = .ok (.isub, 1) := by decide +kernel
theorem dX12_laysAbove_195 : decode cX12_laysAbove 195 = .ok (.invokevirtual 460, 3) := by decide +kernel
theorem dX12_laysAbove_198 : decode cX12_laysAbove 198 = .ok (.istore 18, 2) := by decide +kernel
theorem dX12_laysAbove_200 : decode cX12_laysAbove 200 = .ok (.aload_n 0, 1) := by decide +kernel
theorem dX12_laysAbove_201 : decode cX12_laysAbove 201 = .ok (.iload 18, 2) := by decide +kernel
theorem dX12_laysAbove_203 : decode cX12_laysAbove 203 = .ok (.iconst 1, 1) := by decide +kernel
theorem dX12_laysAbove_204 : decode cX12_laysAbove 204 = .ok (.aload_n 0, 1) := by decide +kernel
theorem dX12_laysAbove_205 : decode cX12_laysAbove 205 = .ok (.iload 11, 2) := by decide +kernel
theorem dX12_laysAbove_207 : decode cX12_laysAbove 207 = .ok (.invokevirtual 268, 3) := by decide +kernel
theorem dX12_laysAbove_210 : decode cX12_laysAbove 210 = .ok (.iload_n 3, 1) := by decide +kernel
theorem dX12_laysAbove_211 : decode cX12_laysAbove 211 = .ok (.iload 4, 2) := by decide +kernel
theorem dX12_laysAbove_213 : decode cX12_laysAbove 213 = .ok (.iload 12, 2) := by decide +kernel
theorem dX12_laysAbove_215 : decode cX12_laysAbove 215 = .ok (.iload 13, 2) := by decide +kernel
theorem dX12_laysAbove_217 : decode cX12_laysAbove 217 = .ok (.lload 9, 2) := by decide +kernel
theorem dX12_laysAbove_219 : decode cX12_laysAbove 219 = .ok (.lload 16, 2) := by decide +kernel
theorem dX12_laysAbove_221 : decode cX12_laysAbove 221 = .ok (.ldiv, 1) := by decide +kernel
theorem dX12_laysAbove_222 : decode cX12_laysAbove 222 = .ok (.invokevirtual 463, 3) := by decide +kernel
theorem dX12_laysAbove_225 : decode cX12_laysAbove 225 = .ok (.aload_n 0, 1) := by decide +kernel
theorem dX12_laysAbove_226 : decode cX12_laysAbove 226 = .ok (.iload_n 1, 1) := by decide +kernel
theorem dX12_laysAbove_227 : decode cX12_laysAbove 227 = .ok (.iload_n 2, 1) := by decide +kernel
theorem dX12_laysAbove_228 : decode cX12_laysAbove 228 = .ok (.iload 12, 2) := by decide +kernel
theorem dX12_laysAbove_230 : decode cX12_laysAbove 230 = .ok (.iload 13, 2) := by decide +kernel
theorem dX12_laysAbove_232 : decode cX12_laysAbove 232 = .ok (.iload 5, 2) := by decide +kernel
theorem dX12_laysAbove_234 : decode cX12_laysAbove 234 = .ok (.iload 6, 2) := by decide +kernel
theorem dX12_laysAbove_236 : decode cX12_laysAbove 236 = .ok (.lload 9, 2) := by decide +kernel
theorem dX12_laysAbove_238 : decode cX12_laysAbove 238 = .ok (.lload 16, 2) := by decide +kernel
theorem dX12_laysAbove_240 : decode cX12_laysAbove 240 = .ok (.lrem, 1) := by decide +kernel
theorem dX12_laysAbove_241 : decode cX12_laysAbove 241 = .ok (.invokevirtual 457, 3) := by decide +kernel
theorem dX12_laysAbove_244 : decode cX12_laysAbove 244 = .ok (.return_, 1) := by decide +kernel
theorem dX12_laysAbove_245 : decode cX12_laysAbove 245 = .ok (.lload 9, 2) := by decide +kernel
theorem dX12_laysAbove_247 : decode cX12_laysAbove 247 = .ok (.lload 14, 2) := by decide +kernel
theorem dX12_laysAbove_249 : decode cX12_laysAbove 249 = .ok (.lsub, 1) := by decide +kernel
theorem dX12_laysAbove_250 : decode cX12_laysAbove 250 = .ok (.lstore 9, 2) := by decide +kernel
theorem dX12_laysAbove_252 : decode cX12_laysAbove 252 = .ok (.iinc 13 1, 3) := by decide +kernel
theorem dX12_laysAbove_255 : decode cX12_laysAbove 255 = .ok (.goto (-128), 3) := by decide +kernel
theorem dX12_laysAbove_258 : decode cX12_laysAbove 258 = .ok (.iinc 12 1, 3) := by decide +kernel
theorem dX12_laysAbove_261 : decode cX12_laysAbove 261 = .ok (.goto (-167), 3) := by decide +kernel
theorem dX12_laysAbove_264 : decode cX12_laysAbove 264 = .ok (.iinc 11 1, 3) := by decide +kernel
theorem dX12_laysAbove_267 : decode cX12_laysAbove 267 = .ok (.goto (-204), 3) := by decide +kernel
theorem dX12_laysAbove_270 : decode cX12_laysAbove 270 = .ok (.return_, 1) := by decide +kernel
theorem dX12_laysLetter_0 : decode cX12_laysLetter 0 = .ok (.iload_n 2, 1) := by decide +kernel
theorem dX12_laysLetter_1 : decode cX12_laysLetter 1 = .ok (.aload_n 0, 1) := by decide +kernel
theorem dX12_laysLetter_2 : decode cX12_laysLetter 2 = .ok (.getfield 7, 3) := by decide +kernel
theorem dX12_laysLetter_5 : decode cX12_laysLetter 5 = .ok (.aload_n 0, 1) := by decide +kernel
theorem dX12_laysLetter_6 : decode cX12_laysLetter 6 = .ok (.getfield 214, 3) := by decide +kernel
theorem dX12_laysLetter_9 : decode cX12_laysLetter 9 = .ok (.iload_n 1, 1) := by decide +kernel
theorem dX12_laysLetter_10 : decode cX12_laysLetter 10 = .ok (.iaload, 1) := by decide +kernel
theorem dX12_laysLetter_11 : decode cX12_laysLetter 11 = .ok (.iaload, 1) := by decide +kernel
theorem dX12_laysLetter_12 : decode cX12_laysLetter 12 = .ok (.isub, 1) := by decide +kernel
theorem dX12_laysLetter_13 : decode cX12_laysLetter 13 = .ok (.istore 4, 2) := by decide +kernel
theorem dX12_laysLetter_15 : decode cX12_laysLetter 15 = .ok (.aload_n 0, 1) := by decide +kernel
theorem dX12_laysLetter_16 : decode cX12_laysLetter 16 = .ok (.getfield 229, 3) := by decide +kernel
theorem dX12_laysLetter_19 : decode cX12_laysLetter 19 = .ok (.iload_n 3, 1) := by decide +kernel
theorem dX12_laysLetter_20 : decode cX12_laysLetter 20 = .ok (.iload_n 1, 1) := by decide +kernel
theorem dX12_laysLetter_21 : decode cX12_laysLetter 21 = .ok (.iastore, 1) := by decide +kernel
theorem dX12_laysLetter_22 : decode cX12_laysLetter 22 = .ok (.aload_n 0, 1) := by decide +kernel
theorem dX12_laysLetter_23 : decode cX12_laysLetter 23 = .ok (.getfield 232, 3) := by decide +kernel
theorem dX12_laysLetter_26 : decode cX12_laysLetter 26 = .ok (.iload_n 3, 1) := by decide +kernel
theorem dX12_laysLetter_27 : decode cX12_laysLetter 27 = .ok (.iload 4, 2) := by decide +kernel
theorem dX12_laysLetter_29 : decode cX12_laysLetter 29 = .ok (.iastore, 1) := by decide +kernel
theorem dX12_laysLetter_30 : decode cX12_laysLetter 30 = .ok (.iload 4, 2) := by decide +kernel
theorem dX12_laysLetter_32 : decode cX12_laysLetter 32 = .ok (.aload_n 0, 1) := by decide +kernel
theorem dX12_laysLetter_33 : decode cX12_laysLetter 33 = .ok (.getfield 155, 3) := by decide +kernel
theorem dX12_laysLetter_36 : decode cX12_laysLetter 36 = .ok (.aload_n 0, 1) := by decide +kernel
theorem dX12_laysLetter_37 : decode cX12_laysLetter 37 = .ok (.getfield 214, 3) := by decide +kernel
theorem dX12_laysLetter_40 : decode cX12_laysLetter 40 = .ok (.iload_n 1, 1) := by decide +kernel
theorem dX12_laysLetter_41 : decode cX12_laysLetter 41 = .ok (.iaload, 1) := by decide +kernel
theorem dX12_laysLetter_42 : decode cX12_laysLetter 42 = .ok (.iaload, 1) := by decide +kernel
theorem dX12_laysLetter_43 : decode cX12_laysLetter 43 = .ok (.if_icmp .ne 10, 3) := by decide +kernel
theorem dX12_laysLetter_46 : decode cX12_laysLetter 46 = .ok (.aload_n 0, 1) := by decide +kernel
theorem dX12_laysLetter_47 : decode cX12_laysLetter 47 = .ok (.getfield 223, 3) := by decide +kernel
theorem dX12_laysLetter_50 : decode cX12_laysLetter 50 = .ok (.iload_n 1, 1) := by decide +kernel
theorem dX12_laysLetter_51 : decode cX12_laysLetter 51 = .ok (.iload_n 3, 1) := by decide +kernel
theorem dX12_laysLetter_52 : decode cX12_laysLetter 52 = .ok (.iastore, 1) := by decide +kernel
theorem dX12_laysLetter_53 : decode cX12_laysLetter 53 = .ok (.return_, 1) := by decide +kernel
theorem dX12_laysHost_0 : decode cX12_laysHost 0 = .ok (.lload 5, 2) := by decide +kernel
theorem dX12_laysHost_2 : decode cX12_laysHost 2 = .ok (.lstore 7, 2) := by decide +kernel
theorem dX12_laysHost_4 : decode cX12_laysHost 4 = .ok (.iconst 0, 1) := by decide +kernel
theorem dX12_laysHost_5 : decode cX12_laysHost 5 = .ok (.istore 9, 2) := by decide +kernel
theorem dX12_laysHost_7 : decode cX12_laysHost 7 = .ok (.iload 9, 2) := by decide +kernel
theorem dX12_laysHost_9 : decode cX12_laysHost 9 = .ok (.aload_n 0, 1) := by decide +kernel
theorem dX12_laysHost_10 : decode cX12_laysHost 10 = .ok (.getfield 11, 3) := by decide +kernel
theorem dX12_laysHost_13 : decode cX12_laysHost 13 = .ok (.if_icmp .ge 104, 3) := by decide +kernel
theorem dX12_laysHost_16 : decode cX12_laysHost 16 = .ok (.aload_n 0, 1) := by decide +kernel
theorem dX12_laysHost_17 : decode cX12_laysHost 17 = .ok (.iload 9, 2) := by decide +kernel
theorem dX12_laysHost_19 : decode cX12_laysHost 19 = .ok (.aload_n 0, 1) := by decide +kernel
theorem dX12_laysHost_20 : decode cX12_laysHost 20 = .ok (.getfield 101, 3) := by decide +kernel
theorem dX12_laysHost_23 : decode cX12_laysHost 23 = .ok (.iload_n 2, 1) := by decide +kernel
theorem dX12_laysHost_24 : decode cX12_laysHost 24 = .ok (.iaload, 1) := by decide +kernel
theorem dX12_laysHost_25 : decode cX12_laysHost 25 = .ok (.iconst 0, 1) := by decide +kernel
theorem dX12_laysHost_26 : decode cX12_laysHost 26 = .ok (.invokevirtual 296, 3) := by decide +kernel
theorem dX12_laysHost_29 : decode cX12_laysHost 29 = .ok (.ifCond .ne 6, 3) := by decide +kernel
theorem dX12_laysHost_32 : decode cX12_laysHost 32 = .ok (.goto 79, 3) := by decide +kernel
theorem dX12_laysHost_35 : decode cX12_laysHost 35 = .ok (.aload_n 0, 1) := by decide +kernel
theorem dX12_laysHost_36 : decode cX12_laysHost 36 = .ok (.iconst 1, 1) := by decide +kernel
theorem dX12_laysHost_37 : decode cX12_laysHost 37 = .ok (.aload_n 0, 1) := by decide +kernel
theorem dX12_laysHost_38 : decode cX12_laysHost 38 = .ok (.iload 9, 2) := by decide +kernel
theorem dX12_laysHost_40 : decode cX12_laysHost 40 = .ok (.invokevirtual 268, 3) := by decide +kernel
theorem dX12_laysHost_43 : decode cX12_laysHost 43 = .ok (.iload_n 3, 1) := by decide +kernel
theorem dX12_laysHost_44 : decode cX12_laysHost 44 = .ok (.iload 4, 2) := by decide +kernel
theorem dX12_laysHost_46 : decode cX12_laysHost 46 = .ok (.iconst (-1), 1) := by decide +kernel
theorem dX12_laysHost_47 : decode cX12_laysHost 47 = .ok (.iconst (-1), 1) := by decide +kernel
theorem dX12_laysHost_48 : decode cX12_laysHost 48 = .ok (.invokevirtual 292, 3) := by decide +kernel
theorem dX12_laysHost_51 : decode cX12_laysHost 51 = .ok (.lstore 10, 2) := by decide +kernel
theorem dX12_laysHost_53 : decode cX12_laysHost 53 = .ok (.lload 7, 2) := by decide +kernel
theorem dX12_laysHost_55 : decode cX12_laysHost 55 = .ok (.lload 10, 2) := by decide +kernel
theorem dX12_laysHost_57 : decode cX12_laysHost 57 = .ok (.lcmp, 1) := by decide +kernel
theorem dX12_laysHost_58 : decode cX12_laysHost 58 = .ok (.ifCond .ge 46, 3) := by decide +kernel
theorem dX12_laysHost_61 : decode cX12_laysHost 61 = .ok (.aload_n 0, 1) := by decide +kernel
theorem dX12_laysHost_62 : decode cX12_laysHost 62 = .ok (.iload 9, 2) := by decide +kernel
theorem dX12_laysHost_64 : decode cX12_laysHost 64 = .ok (.iload_n 1, 1) := by decide +kernel
theorem dX12_laysHost_65 : decode cX12_laysHost 65 = .ok (.iload_n 2, 1) := by decide +kernel
theorem dX12_laysHost_66 : decode cX12_laysHost 66 = .ok (.aload_n 0, 1) := by decide +kernel
theorem dX12_laysHost_67 : decode cX12_laysHost 67 = .ok (.getfield 7, 3) := by decide +kernel
theorem dX12_laysHost_70 : decode cX12_laysHost 70 = .ok (.aload_n 0, 1) := by decide +kernel
theorem dX12_laysHost_71 : decode cX12_laysHost 71 = .ok (.getfield 214, 3) := by decide +kernel
theorem dX12_laysHost_74 : decode cX12_laysHost 74 = .ok (.iload_n 1, 1) := by decide +kernel
theorem dX12_laysHost_75 : decode cX12_laysHost 75 = .ok (.iaload, 1) := by decide +kernel
theorem dX12_laysHost_76 : decode cX12_laysHost 76 = .ok (.iaload, 1) := by decide +kernel
theorem dX12_laysHost_77 : decode cX12_laysHost 77 = .ok (.isub, 1) := by decide +kernel
theorem dX12_laysHost_78 : decode cX12_laysHost 78 = .ok (.invokevirtual 460, 3) := by decide +kernel
theorem dX12_laysHost_81 : decode cX12_laysHost 81 = .ok (.istore 12, 2) := by decide +kernel
theorem dX12_laysHost_83 : decode cX12_laysHost 83 = .ok (.aload_n 0, 1) := by decide +kernel
theorem dX12_laysHost_84 : decode cX12_laysHost 84 = .ok (.iload 12, 2) := by decide +kernel
theorem dX12_laysHost_86 : decode cX12_laysHost 86 = .ok (.iconst 1, 1) := by decide +kernel
theorem dX12_laysHost_87 : decode cX12_laysHost 87 = .ok (.aload_n 0, 1) := by decide +kernel
theorem dX12_laysHost_88 : decode cX12_laysHost 88 = .ok (.iload 9, 2) := by decide +kernel
theorem dX12_laysHost_90 : decode cX12_laysHost 90 = .ok (.invokevirtual 268, 3) := by decide +kernel
theorem dX12_laysHost_93 : decode cX12_laysHost 93 = .ok (.iload_n 3, 1) := by decide +kernel
theorem dX12_laysHost_94 : decode cX12_laysHost 94 = .ok (.iload 4, 2) := by decide +kernel
theorem dX12_laysHost_96 : decode cX12_laysHost 96 = .ok (.iconst (-1), 1) := by decide +kernel
theorem dX12_laysHost_97 : decode cX12_laysHost 97 = .ok (.iconst (-1), 1) := by decide +kernel
theorem dX12_laysHost_98 : decode cX12_laysHost 98 = .ok (.lload 7, 2) := by decide +kernel
theorem dX12_laysHost_100 : decode cX12_laysHost 100 = .ok (.invokevirtual 463, 3) := by decide +kernel
theorem dX12_laysHost_103 : decode cX12_laysHost 103 = .ok (.return_, 1) := by decide +kernel
theorem dX12_laysHost_104 : decode cX12_laysHost 104 = .ok (.lload 7, 2) := by decide +kernel
theorem dX12_laysHost_106 : decode cX12_laysHost 106 = .ok (.lload 10, 2) := by decide +kernel
theorem dX12_laysHost_108 : decode cX12_laysHost 108 = .ok (.lsub, 1) := by decide +kernel
theorem dX12_laysHost_109 : decode cX12_laysHost 109 = .ok (.lstore 7, 2) := by decide +kernel
theorem dX12_laysHost_111 : decode cX12_laysHost 111 = .ok (.iinc 9 1, 3) := by decide +kernel
theorem dX12_laysHost_114 : decode cX12_laysHost 114 = .ok (.goto (-107), 3) := by decide +kernel
theorem dX12_laysHost_117 : decode cX12_laysHost 117 = .ok (.return_, 1) := by decide +kernel
theorem dX12_laysBelow_0 : decode cX12_laysBelow 0 = .ok (.aload_n 0, 1) := by decide +kernel
theorem dX12_laysBelow_1 : decode cX12_laysBelow 1 = .ok (.getfield 98, 3) := by decide +kernel
theorem dX12_laysBelow_4 : decode cX12_laysBelow 4 = .ok (.iload_n 2, 1) := by decide +kernel
theorem dX12_laysBelow_5 : decode cX12_laysBelow 5 = .ok (.iaload, 1) := by decide +kernel
theorem dX12_laysBelow_6 : decode cX12_laysBelow 6 = .ok (.iconst 1, 1) := by decide +kernel
theorem dX12_laysBelow_7 : decode cX12_laysBelow 7 = .ok (.if_icmp .ne 10, 3) := by decide +kernel
theorem dX12_laysBelow_10 : decode cX12_laysBelow 10 = .ok (.aload_n 0, 1) := by decide +kernel
theorem dX12_laysBelow_11 : decode cX12_laysBelow 11 = .ok (.iload_n 1, 1) := by decide +kernel
theorem dX12_laysBelow_12 : decode cX12_laysBelow 12 = .ok (.iload_n 2, 1) := by decide +kernel
theorem dX12_laysBelow_13 : decode cX12_laysBelow 13 = .ok (.iload_n 3, 1) := by decide +kernel
theorem dX12_laysBelow_14 : decode cX12_laysBelow 14 = .ok (.invokevirtual 467, 3) := by decide +kernel
theorem dX12_laysBelow_17 : decode cX12_laysBelow 17 = .ok (.aload_n 0, 1) := by decide +kernel
theorem dX12_laysBelow_18 : decode cX12_laysBelow 18 = .ok (.getfield 98, 3) := by decide +kernel
theorem dX12_laysBelow_21 : decode cX12_laysBelow 21 = .ok (.iload_n 2, 1) := by decide +kernel
theorem dX12_laysBelow_22 : decode cX12_laysBelow 22 = .ok (.iaload, 1) := by decide +kernel
theorem dX12_laysBelow_23 : decode cX12_laysBelow 23 = .ok (.iconst 4, 1) := by decide +kernel
theorem dX12_laysBelow_24 : decode cX12_laysBelow 24 = .ok (.if_icmp .ne 14, 3) := by decide +kernel
theorem dX12_laysBelow_27 : decode cX12_laysBelow 27 = .ok (.aload_n 0, 1) := by decide +kernel
theorem dX12_laysBelow_28 : decode cX12_laysBelow 28 = .ok (.iload_n 1, 1) := by decide +kernel
theorem dX12_laysBelow_29 : decode cX12_laysBelow 29 = .ok (.iload_n 2, 1) := by decide +kernel
theorem dX12_laysBelow_30 : decode cX12_laysBelow 30 = .ok (.iload_n 3, 1) := by decide +kernel
theorem dX12_laysBelow_31 : decode cX12_laysBelow 31 = .ok (.iload 4, 2) := by decide +kernel
theorem dX12_laysBelow_33 : decode cX12_laysBelow 33 = .ok (.lload 7, 2) := by decide +kernel
theorem dX12_laysBelow_35 : decode cX12_laysBelow 35 = .ok (.invokevirtual 470, 3) := by decide +kernel
theorem dX12_laysBelow_38 : decode cX12_laysBelow 38 = .ok (.aload_n 0, 1) := by decide +kernel
theorem dX12_laysBelow_39 : decode cX12_laysBelow 39 = .ok (.getfield 98, 3) := by decide +kernel
theorem dX12_laysBelow_42 : decode cX12_laysBelow 42 = .ok (.iload_n 2, 1) := by decide +kernel
theorem dX12_laysBelow_43 : decode cX12_laysBelow 43 = .ok (.iaload, 1) := by decide +kernel
theorem dX12_laysBelow_44 : decode cX12_laysBelow 44 = .ok (.ifCond .eq 4, 3) := by decide +kernel
theorem dX12_laysBelow_47 : decode cX12_laysBelow 47 = .ok (.return_, 1) := by decide +kernel
theorem dX12_laysBelow_48 : decode cX12_laysBelow 48 = .ok (.aload_n 0, 1) := by decide +kernel
theorem dX12_laysBelow_49 : decode cX12_laysBelow 49 = .ok (.getfield 110, 3) := by decide +kernel
theorem dX12_laysBelow_52 : decode cX12_laysBelow 52 = .ok (.iload_n 2, 1) := by decide +kernel
theorem dX12_laysBelow_53 : decode cX12_laysBelow 53 = .ok (.iaload, 1) := by decide +kernel
theorem dX12_laysBelow_54 : decode cX12_laysBelow 54 = .ok (.iconst (-1), 1) := by decide +kernel
theorem dX12_laysBelow_55 : decode cX12_laysBelow 55 = .ok (.if_icmp .ne 25, 3) := by decide +kernel
theorem dX12_laysBelow_58 : decode cX12_laysBelow 58 = .ok (.aload_n 0, 1) := by decide +kernel
theorem dX12_laysBelow_59 : decode cX12_laysBelow 59 = .ok (.iload_n 1, 1) := by decide +kernel
theorem dX12_laysBelow_60 : decode cX12_laysBelow 60 = .ok (.iconst 1, 1) := by decide +kernel
theorem dX12_laysBelow_61 : decode cX12_laysBelow 61 = .ok (.aload_n 0, 1) := by decide +kernel
theorem dX12_laysBelow_62 : decode cX12_laysBelow 62 = .ok (.getfield 107, 3) := by decide +kernel
theorem dX12_laysBelow_65 : decode cX12_laysBelow 65 = .ok (.iload_n 2, 1) := by decide +kernel
theorem dX12_laysBelow_66 : decode cX12_laysBelow 66 = .ok (.iaload, 1) := by decide +kernel
theorem dX12_laysBelow_67 : decode cX12_laysBelow 67 = .ok (.iload_n 3, 1) := by decide +kernel
theorem dX12_laysBelow_68 : decode cX12_laysBelow 68 = .ok (.iload 4, 2) := by decide +kernel
theorem dX12_laysBelow_70 : decode cX12_laysBelow 70 = .ok (.iload 5, 2) := by decide +kernel
theorem dX12_laysBelow_72 : decode cX12_laysBelow 72 = .ok (.iload 6, 2) := by decide +kernel
theorem dX12_laysBelow_74 : decode cX12_laysBelow 74 = .ok (.lload 7, 2) := by decide +kernel
theorem dX12_laysBelow_76 : decode cX12_laysBelow 76 = .ok (.invokevirtual 463, 3) := by decide +kernel
theorem dX12_laysBelow_79 : decode cX12_laysBelow 79 = .ok (.return_, 1) := by decide +kernel
theorem dX12_laysBelow_80 : decode cX12_laysBelow 80 = .ok (.lload 7, 2) := by decide +kernel
theorem dX12_laysBelow_82 : decode cX12_laysBelow 82 = .ok (.lstore 9, 2) := by decide +kernel
theorem dX12_laysBelow_84 : decode cX12_laysBelow 84 = .ok (.iload_n 3, 1) := by decide +kernel
theorem dX12_laysBelow_85 : decode cX12_laysBelow 85 = .ok (.istore 11, 2) := by decide +kernel
theorem dX12_laysBelow_87 : decode cX12_laysBelow 87 = .ok (.iload 11, 2) := by decide +kernel
theorem dX12_laysBelow_89 : decode cX12_laysBelow 89 = .ok (.iload 4, 2) := by decide +kernel
theorem dX12_laysBelow_91 : decode cX12_laysBelow 91 = .ok (.if_icmp .gt 170, 3) := by decide +kernel
theorem dX12_laysBelow_94 : decode cX12_laysBelow 94 = .ok (.aload_n 0, 1) := by decide +kernel
theorem dX12_laysBelow_95 : decode cX12_laysBelow 95 = .ok (.iload_n 2, 1) := by decide +kernel
theorem dX12_laysBelow_96 : decode cX12_laysBelow 96 = .ok (.iload_n 3, 1) := by decide +kernel
theorem dX12_laysBelow_97 : decode cX12_laysBelow 97 = .ok (.iload 11, 2) := by decide +kernel
theorem dX12_laysBelow_99 : decode cX12_laysBelow 99 = .ok (.iload 4, 2) := by decide +kernel
theorem dX12_laysBelow_101 : decode cX12_laysBelow 101 = .ok (.iload 5, 2) := by decide +kernel
theorem dX12_laysBelow_103 : decode cX12_laysBelow 103 = .ok (.iload 6, 2) := by decide +kernel
theorem dX12_laysBelow_105 : decode cX12_laysBelow 105 = .ok (.invokevirtual 314, 3) := by decide +kernel
theorem dX12_laysBelow_108 : decode cX12_laysBelow 108 = .ok (.lstore 12, 2) := by decide +kernel
theorem dX12_laysBelow_110 : decode cX12_laysBelow 110 = .ok (.lload 9, 2) := by decide +kernel
theorem dX12_laysBelow_112 : decode cX12_laysBelow 112 = .ok (.lload 12, 2) := by decide +kernel
theorem dX12_laysBelow_114 : decode cX12_laysBelow 114 = .ok (.lcmp, 1) := by decide +kernel
theorem dX12_laysBelow_115 : decode cX12_laysBelow 115 = .ok (.ifCond .lt 13, 3) := by decide +kernel
theorem dX12_laysBelow_118 : decode cX12_laysBelow 118 = .ok (.lload 9, 2) := by decide +kernel
theorem dX12_laysBelow_120 : decode cX12_laysBelow 120 = .ok (.lload 12, 2) := by decide +kernel
theorem dX12_laysBelow_122 : decode cX12_laysBelow 122 = .ok (.lsub, 1) := by decide +kernel
theorem dX12_laysBelow_123 : decode cX12_laysBelow 123 = .ok (.lstore 9, 2) := by decide +kernel
theorem dX12_laysBelow_125 : decode cX12_laysBelow 125 = .ok (.goto 130, 3) := by decide +kernel
theorem dX12_laysBelow_128 : decode cX12_laysBelow 128 = .ok (.aload_n 0, 1) := by decide +kernel
theorem dX12_laysBelow_129 : decode cX12_laysBelow 129 = .ok (.iload_n 2, 1) := by decide +kernel
theorem dX12_laysBelow_130 : decode cX12_laysBelow 130 = .ok (.iload 11, 2) := by decide +kernel
theorem dX12_laysBelow_132 : decode cX12_laysBelow 132 = .ok (.iload 4, 2) := by decide +kernel
theorem dX12_laysBelow_134 : decode cX12_laysBelow 134 = .ok (.iload 5, 2) := by decide +kernel
theorem dX12_laysBelow_136 : decode cX12_laysBelow 136 = .ok (.iload 6, 2) := by decide +kernel
theorem dX12_laysBelow_138 : decode cX12_laysBelow 138 = .ok (.invokevirtual 324, 3) := by decide +kernel
theorem dX12_laysBelow_141 : decode cX12_laysBelow 141 = .ok (.lstore 14, 2) := by decide +kernel
theorem dX12_laysBelow_143 : decode cX12_laysBelow 143 = .ok (.aload_n 0, 1) := by decide +kernel
theorem dX12_laysBelow_144 : decode cX12_laysBelow 144 = .ok (.getfield 167, 3) := by decide +kernel
theorem dX12_laysBelow_147 : decode cX12_laysBelow 147 = .ok (.aload_n 0, 1) := by decide +kernel
theorem dX12_laysBelow_148 : decode cX12_laysBelow 148 = .ok (.getfield 107, 3) := by decide +kernel
theorem dX12_laysBelow_151 : decode cX12_laysBelow 151 = .ok (.iload_n 2, 1) := by decide +kernel
theorem dX12_laysBelow_152 : decode cX12_laysBelow 152 = .ok (.iaload, 1) := by decide +kernel
theorem dX12_laysBelow_153 : decode cX12_laysBelow 153 = .ok (.baload, 1) := by decide +kernel
theorem dX12_laysBelow_154 : decode cX12_laysBelow 154 = .ok (.istore 16, 2) := by decide +kernel
theorem dX12_laysBelow_156 : decode cX12_laysBelow 156 = .ok (.aload_n 0, 1) := by decide +kernel
theorem dX12_laysBelow_157 : decode cX12_laysBelow 157 = .ok (.getfield 167, 3) := by decide +kernel
theorem dX12_laysBelow_160 : decode cX12_laysBelow 160 = .ok (.aload_n 0, 1) := by decide +kernel
theorem dX12_laysBelow_161 : decode cX12_laysBelow 161 = .ok (.getfield 110, 3) := by decide +kernel
theorem dX12_laysBelow_164 : decode cX12_laysBelow 164 = .ok (.iload_n 2, 1) := by decide +kernel
theorem dX12_laysBelow_165 : decode cX12_laysBelow 165 = .ok (.iaload, 1) := by decide +kernel
theorem dX12_laysBelow_166 : decode cX12_laysBelow 166 = .ok (.baload, 1) := by decide +kernel
theorem dX12_laysBelow_167 : decode cX12_laysBelow 167 = .ok (.istore 17, 2) := by decide +kernel
theorem dX12_laysBelow_169 : decode cX12_laysBelow 169 = .ok (.aload_n 0, 1) := by decide +kernel
theorem dX12_laysBelow_170 : decode cX12_laysBelow 170 = .ok (.iload_n 1, 1) := by decide +kernel
theorem dX12_laysBelow_171 : decode cX12_laysBelow 171 = .ok (.iconst 1, 1) := by decide +kernel
theorem dX12_laysBelow_172 : decode cX12_laysBelow 172 = .ok (.aload_n 0, 1) := by decide +kernel
theorem dX12_laysBelow_173 : decode cX12_laysBelow 173 = .ok (.getfield 107, 3) := by decide +kernel
theorem dX12_laysBelow_176 : decode cX12_laysBelow 176 = .ok (.iload_n 2, 1) := by decide +kernel
theorem dX12_laysBelow_177 : decode cX12_laysBelow 177 = .ok (.iaload, 1) := by decide +kernel
theorem dX12_laysBelow_178 : decode cX12_laysBelow 178 = .ok (.iload_n 3, 1) := by decide +kernel
theorem dX12_laysBelow_179 : decode cX12_laysBelow 179 = .ok (.iload 11, 2) := by decide +kernel
theorem dX12_laysBelow_181 : decode cX12_laysBelow 181 = .ok (.iload 16, 2) := by decide +kernel
theorem dX12_laysBelow_183 : decode cX12_laysBelow 183 = .ok (.ifCond .eq 8, 3) := by decide +kernel
theorem dX12_laysBelow_186 : decode cX12_laysBelow 186 = .ok (.iload 5, 2) := by decide +kernel
theorem dX12_laysBelow_188 : decode cX12_laysBelow 188 = .ok (.goto 4, 3) := by decide +kernel
theorem dX12_laysBelow_191 : decode cX12_laysBelow 191 = .ok (.iconst (-1), 1) := by decide +kernel
theorem dX12_laysBelow_192 : decode cX12_laysBelow 192 = .ok (.iload 16, 2) := by decide +kernel
theorem dX12_laysBelow_194 : decode cX12_laysBelow 194 = .ok (.ifCond .eq 8, 3) := by decide +kernel
theorem dX12_laysBelow_197 : decode cX12_laysBelow 197 = .ok (.iload 6, 2) := by decide +kernel
theorem dX12_laysBelow_199 : decode cX12_laysBelow 199 = .ok (.goto 4, 3) := by decide +kernel
theorem dX12_laysBelow_202 : decode cX12_laysBelow 202 = .ok (.iconst (-1), 1) := by decide +kernel
theorem dX12_laysBelow_203 : decode cX12_laysBelow 203 = .ok (.lload 9, 2) := by decide +kernel
theorem dX12_laysBelow_205 : decode cX12_laysBelow 205 = .ok (.lload 14, 2) := by decide +kernel
theorem dX12_laysBelow_207 : decode cX12_laysBelow 207 = .ok (.ldiv, 1) := by decide +kernel
theorem dX12_laysBelow_208 : decode cX12_laysBelow 208 = .ok (.invokevirtual 463, 3) := by decide +kernel
theorem dX12_laysBelow_211 : decode cX12_laysBelow 211 = .ok (.aload_n 0, 1) := by decide +kernel
theorem dX12_laysBelow_212 : decode cX12_laysBelow 212 = .ok (.iload_n 1, 1) := by decide +kernel
theorem dX12_laysBelow_213 : decode cX12_laysBelow 213 = .ok (.iconst 1, 1) := by decide +kernel
theorem dX12_laysBelow_214 : decode cX12_laysBelow 214 = .ok (.aload_n 0, 1) := by decide +kernel
theorem dX12_laysBelow_215 : decode cX12_laysBelow 215 = .ok (.getfield 110, 3) := by decide +kernel
theorem dX12_laysBelow_218 : decode cX12_laysBelow 218 = .ok (.iload_n 2, 1) := by decide +kernel
theorem dX12_laysBelow_219 : decode cX12_laysBelow 219 = .ok (.iaload, 1) := by decide +kernel
theorem dX12_laysBelow_220 : decode cX12_laysBelow 220 = .ok (.iload 11, 2) := by decide +kernel
theorem dX12_laysBelow_222 : decode cX12_laysBelow 222 = .ok (.iload 4, 2) := by decide +kernel
theorem dX12_laysBelow_224 : decode cX12_laysBelow 224 = .ok (.iload 17, 2) := by decide +kernel
theorem dX12_laysBelow_226 : decode cX12_laysBelow 226 = .ok (.ifCond .eq 8, 3) := by decide +kernel
theorem dX12_laysBelow_229 : decode cX12_laysBelow 229 = .ok (.iload 5, 2) := by decide +kernel
theorem dX12_laysBelow_231 : decode cX12_laysBelow 231 = .ok (.goto 4, 3) := by decide +kernel
theorem dX12_laysBelow_234 : decode cX12_laysBelow 234 = .ok (.iconst (-1), 1) := by decide +kernel
theorem dX12_laysBelow_235 : decode cX12_laysBelow 235 = .ok (.iload 17, 2) := by decide +kernel
theorem dX12_laysBelow_237 : decode cX12_laysBelow 237 = .ok (.ifCond .eq 8, 3) := by decide +kernel
theorem dX12_laysBelow_240 : decode cX12_laysBelow 240 = .ok (.iload 6, 2) := by decide +kernel
theorem dX12_laysBelow_242 : decode cX12_laysBelow 242 = .ok (.goto 4, 3) := by decide +kernel
theorem dX12_laysBelow_245 : decode cX12_laysBelow 245 = .ok (.iconst (-1), 1) := by decide +kernel
theorem dX12_laysBelow_246 : decode cX12_laysBelow 246 = .ok (.lload 9, 2) := by decide +kernel
theorem dX12_laysBelow_248 : decode cX12_laysBelow 248 = .ok (.lload 14, 2) := by decide +kernel
theorem dX12_laysBelow_250 : decode cX12_laysBelow 250 = .ok (.lrem, 1) := by decide +kernel
theorem dX12_laysBelow_251 : decode cX12_laysBelow 251 = .ok (.invokevirtual 463, 3) := by decide +kernel
theorem dX12_laysBelow_254 : decode cX12_laysBelow 254 = .ok (.return_, 1) := by decide +kernel
theorem dX12_laysBelow_255 : decode cX12_laysBelow 255 = .ok (.iinc 11 1, 3) := by decide +kernel
theorem dX12_laysBelow_258 : decode cX12_laysBelow 258 = .ok (.goto (-171), 3) := by decide +kernel
theorem dX12_laysBelow_261 : decode cX12_laysBelow 261 = .ok (.return_, 1) := by decide +kernel
theorem dX12_laysWay_0 : decode cX12_laysWay 0 = .ok (.lload_n 1, 1) := by decide +kernel
theorem dX12_laysWay_1 : decode cX12_laysWay 1 = .ok (.lconst 0, 1) := by decide +kernel
theorem dX12_laysWay_2 : decode cX12_laysWay 2 = .ok (.lcmp, 1) := by decide +kernel
theorem dX12_laysWay_3 : decode cX12_laysWay 3 = .ok (.ifCond .ge 6, 3) := by decide +kernel
theorem dX12_laysWay_6 : decode cX12_laysWay 6 = .ok (.bipush (-2), 2) := by decide +kernel
theorem dX12_laysWay_8 : decode cX12_laysWay 8 = .ok (.ireturn, 1) := by decide +kernel
theorem dX12_laysWay_9 : decode cX12_laysWay 9 = .ok (.aload_n 0, 1) := by decide +kernel
theorem dX12_laysWay_10 : decode cX12_laysWay 10 = .ok (.iconst 0, 1) := by decide +kernel
theorem dX12_laysWay_11 : decode cX12_laysWay 11 = .ok (.invokevirtual 387, 3) := by decide +kernel
theorem dX12_laysWay_14 : decode cX12_laysWay 14 = .ok (.aload_n 0, 1) := by decide +kernel
theorem dX12_laysWay_15 : decode cX12_laysWay 15 = .ok (.aload_n 0, 1) := by decide +kernel
theorem dX12_laysWay_16 : decode cX12_laysWay 16 = .ok (.getfield 249, 3) := by decide +kernel
theorem dX12_laysWay_19 : decode cX12_laysWay 19 = .ok (.invokevirtual 397, 3) := by decide +kernel
theorem dX12_laysWay_22 : decode cX12_laysWay 22 = .ok (.lstore_n 3, 1) := by decide +kernel
theorem dX12_laysWay_23 : decode cX12_laysWay 23 = .ok (.lload_n 3, 1) := by decide +kernel
theorem dX12_laysWay_24 : decode cX12_laysWay 24 = .ok (.ldc2_w 263, 3) := by decide +kernel
theorem dX12_laysWay_27 : decode cX12_laysWay 27 = .ok (.lcmp, 1) := by decide +kernel
theorem dX12_laysWay_28 : decode cX12_laysWay 28 = .ok (.ifCond .le 6, 3) := by decide +kernel
theorem dX12_laysWay_31 : decode cX12_laysWay 31 = .ok (.bipush (-3), 2) := by decide +kernel
theorem dX12_laysWay_33 : decode cX12_laysWay 33 = .ok (.ireturn, 1) := by decide +kernel
theorem dX12_laysWay_34 : decode cX12_laysWay 34 = .ok (.lload_n 1, 1) := by decide +kernel
theorem dX12_laysWay_35 : decode cX12_laysWay 35 = .ok (.lload_n 3, 1) := by decide +kernel
theorem dX12_laysWay_36 : decode cX12_laysWay 36 = .ok (.lcmp, 1) := by decide +kernel
theorem dX12_laysWay_37 : decode cX12_laysWay 37 = .ok (.ifCond .lt 5, 3) := by decide +kernel
theorem dX12_laysWay_40 : decode cX12_laysWay 40 = .ok (.iconst (-1), 1) := by decide +kernel
theorem dX12_laysWay_41 : decode cX12_laysWay 41 = .ok (.ireturn, 1) := by decide +kernel
theorem dX12_laysWay_42 : decode cX12_laysWay 42 = .ok (.aload_n 0, 1) := by decide +kernel
theorem dX12_laysWay_43 : decode cX12_laysWay 43 = .ok (.iconst 0, 1) := by decide +kernel
theorem dX12_laysWay_44 : decode cX12_laysWay 44 = .ok (.putfield 450, 3) := by decide +kernel
theorem dX12_laysWay_47 : decode cX12_laysWay 47 = .ok (.lload_n 1, 1) := by decide +kernel
theorem dX12_laysWay_48 : decode cX12_laysWay 48 = .ok (.lstore 5, 2) := by decide +kernel
theorem dX12_laysWay_50 : decode cX12_laysWay 50 = .ok (.iconst 0, 1) := by decide +kernel
theorem dX12_laysWay_51 : decode cX12_laysWay 51 = .ok (.istore 7, 2) := by decide +kernel
theorem dX12_laysWay_53 : decode cX12_laysWay 53 = .ok (.iload 7, 2) := by decide +kernel
theorem dX12_laysWay_55 : decode cX12_laysWay 55 = .ok (.aload_n 0, 1) := by decide +kernel
theorem dX12_laysWay_56 : decode cX12_laysWay 56 = .ok (.getfield 11, 3) := by decide +kernel
theorem dX12_laysWay_59 : decode cX12_laysWay 59 = .ok (.if_icmp .ge 92, 3) := by decide +kernel
theorem dX12_laysWay_62 : decode cX12_laysWay 62 = .ok (.aload_n 0, 1) := by decide +kernel
theorem dX12_laysWay_63 : decode cX12_laysWay 63 = .ok (.iload 7, 2) := by decide +kernel
theorem dX12_laysWay_65 : decode cX12_laysWay 65 = .ok (.aload_n 0, 1) := by decide +kernel
theorem dX12_laysWay_66 : decode cX12_laysWay 66 = .ok (.invokevirtual 354, 3) := by decide +kernel
theorem dX12_laysWay_69 : decode cX12_laysWay 69 = .ok (.iconst 0, 1) := by decide +kernel
theorem dX12_laysWay_70 : decode cX12_laysWay 70 = .ok (.invokevirtual 296, 3) := by decide +kernel
theorem dX12_laysWay_73 : decode cX12_laysWay 73 = .ok (.ifCond .eq 24, 3) := by decide +kernel
theorem dX12_laysWay_76 : decode cX12_laysWay 76 = .ok (.aload_n 0, 1) := by decide +kernel
theorem dX12_laysWay_77 : decode cX12_laysWay 77 = .ok (.iconst 1, 1) := by decide +kernel
theorem dX12_laysWay_78 : decode cX12_laysWay 78 = .ok (.aload_n 0, 1) := by decide +kernel
theorem dX12_laysWay_79 : decode cX12_laysWay 79 = .ok (.iload 7, 2) := by decide +kernel
theorem dX12_laysWay_81 : decode cX12_laysWay 81 = .ok (.invokevirtual 268, 3) := by decide +kernel
theorem dX12_laysWay_84 : decode cX12_laysWay 84 = .ok (.iconst 0, 1) := by decide +kernel
theorem dX12_laysWay_85 : decode cX12_laysWay 85 = .ok (.aload_n 0, 1) := by decide +kernel
theorem dX12_laysWay_86 : decode cX12_laysWay 86 = .ok (.getfield 249, 3) := by decide +kernel
theorem dX12_laysWay_89 : decode cX12_laysWay 89 = .ok (.iconst (-1), 1) := by decide +kernel
theorem dX12_laysWay_90 : decode cX12_laysWay 90 = .ok (.iconst (-1), 1) := by decide +kernel
theorem dX12_laysWay_91 : decode cX12_laysWay 91 = .ok (.invokevirtual 292, 3) := by decide +kernel
theorem dX12_laysWay_94 : decode cX12_laysWay 94 = .ok (.goto 4, 3) := by decide +kernel
theorem dX12_laysWay_97 : decode cX12_laysWay 97 = .ok (.lconst 0, 1) := by decide +kernel
theorem dX12_laysWay_98 : decode cX12_laysWay 98 = .ok (.lstore 8, 2) := by decide +kernel
theorem dX12_laysWay_100 : decode cX12_laysWay 100 = .ok (.lload 5, 2) := by decide +kernel
theorem dX12_laysWay_102 : decode cX12_laysWay 102 = .ok (.lload 8, 2) := by decide +kernel
theorem dX12_laysWay_104 : decode cX12_laysWay 104 = .ok (.lcmp, 1) := by decide +kernel
theorem dX12_laysWay_105 : decode cX12_laysWay 105 = .ok (.ifCond .ge 33, 3) := by decide +kernel
theorem dX12_laysWay_108 : decode cX12_laysWay 108 = .ok (.aload_n 0, 1) := by decide +kernel
theorem dX12_laysWay_109 : decode cX12_laysWay 109 = .ok (.aload_n 0, 1) := by decide +kernel
theorem dX12_laysWay_110 : decode cX12_laysWay 110 = .ok (.iload 7, 2) := by decide +kernel
theorem dX12_laysWay_112 : decode cX12_laysWay 112 = .ok (.iconst (-1), 1) := by decide +kernel
theorem dX12_laysWay_113 : decode cX12_laysWay 113 = .ok (.iconst (-1), 1) := by decide +kernel
theorem dX12_laysWay_114 : decode cX12_laysWay 114 = .ok (.invokevirtual 460, 3) := by decide +kernel
theorem dX12_laysWay_117 : decode cX12_laysWay 117 = .ok (.iconst 1, 1) := by decide +kernel
theorem dX12_laysWay_118 : decode cX12_laysWay 118 = .ok (.aload_n 0, 1) := by decide +kernel
theorem dX12_laysWay_119 : decode cX12_laysWay 119 = .ok (.iload 7, 2) := by decide +kernel
theorem dX12_laysWay_121 : decode cX12_laysWay 121 = .ok (.invokevirtual 268, 3) := by decide +kernel
theorem dX12_laysWay_124 : decode cX12_laysWay 124 = .ok (.iconst 0, 1) := by decide +kernel
theorem dX12_laysWay_125 : decode cX12_laysWay 125 = .ok (.aload_n 0, 1) := by decide +kernel
theorem dX12_laysWay_126 : decode cX12_laysWay 126 = .ok (.getfield 249, 3) := by decide +kernel
theorem dX12_laysWay_129 : decode cX12_laysWay 129 = .ok (.iconst (-1), 1) := by decide +kernel
theorem dX12_laysWay_130 : decode cX12_laysWay 130 = .ok (.iconst (-1), 1) := by decide +kernel
theorem dX12_laysWay_131 : decode cX12_laysWay 131 = .ok (.lload 5, 2) := by decide +kernel
theorem dX12_laysWay_133 : decode cX12_laysWay 133 = .ok (.invokevirtual 463, 3) := by decide +kernel
theorem dX12_laysWay_136 : decode cX12_laysWay 136 = .ok (.iconst 0, 1) := by decide +kernel
theorem dX12_laysWay_137 : decode cX12_laysWay 137 = .ok (.ireturn, 1) := by decide +kernel
theorem dX12_laysWay_138 : decode cX12_laysWay 138 = .ok (.lload 5, 2) := by decide +kernel
theorem dX12_laysWay_140 : decode cX12_laysWay 140 = .ok (.lload 8, 2) := by decide +kernel
theorem dX12_laysWay_142 : decode cX12_laysWay 142 = .ok (.lsub, 1) := by decide +kernel
theorem dX12_laysWay_143 : decode cX12_laysWay 143 = .ok (.lstore 5, 2) := by decide +kernel
theorem dX12_laysWay_145 : decode cX12_laysWay 145 = .ok (.iinc 7 1, 3) := by decide +kernel
theorem dX12_laysWay_148 : decode cX12_laysWay 148 = .ok (.goto (-95), 3) := by decide +kernel
theorem dX12_laysWay_151 : decode cX12_laysWay 151 = .ok (.iconst (-1), 1) := by decide +kernel
theorem dX12_laysWay_152 : decode cX12_laysWay 152 = .ok (.ireturn, 1) := by decide +kernel
theorem dX12_steps_0 : decode cX12_steps 0 = .ok (.aload_n 0, 1) := by decide +kernel
theorem dX12_steps_1 : decode cX12_steps 1 = .ok (.lload_n 1, 1) := by decide +kernel
theorem dX12_steps_2 : decode cX12_steps 2 = .ok (.invokevirtual 474, 3) := by decide +kernel
theorem dX12_steps_5 : decode cX12_steps 5 = .ok (.istore_n 3, 1) := by decide +kernel
theorem dX12_steps_6 : decode cX12_steps 6 = .ok (.iload_n 3, 1) := by decide +kernel
theorem dX12_steps_7 : decode cX12_steps 7 = .ok (.ifCond .eq 7, 3) := by decide +kernel
theorem dX12_steps_10 : decode cX12_steps 10 = .ok (.iload_n 3, 1) := by decide +kernel
theorem dX12_steps_11 : decode cX12_steps 11 = .ok (.goto 7, 3) := by decide +kernel
theorem dX12_steps_14 : decode cX12_steps 14 = .ok (.aload_n 0, 1) := by decide +kernel
theorem dX12_steps_15 : decode cX12_steps 15 = .ok (.getfield 450, 3) := by decide +kernel
theorem dX12_steps_18 : decode cX12_steps 18 = .ok (.ireturn, 1) := by decide +kernel
theorem dX12_step_0 : decode cX12_step 0 = .ok (.aload_n 0, 1) := by decide +kernel
theorem dX12_step_1 : decode cX12_step 1 = .ok (.lload_n 1, 1) := by decide +kernel
theorem dX12_step_2 : decode cX12_step 2 = .ok (.invokevirtual 474, 3) := by decide +kernel
theorem dX12_step_5 : decode cX12_step 5 = .ok (.istore 5, 2) := by decide +kernel
theorem dX12_step_7 : decode cX12_step 7 = .ok (.iload 5, 2) := by decide +kernel
theorem dX12_step_9 : decode cX12_step 9 = .ok (.ifCond .eq 6, 3) := by decide +kernel
theorem dX12_step_12 : decode cX12_step 12 = .ok (.iload 5, 2) := by decide +kernel
theorem dX12_step_14 : decode cX12_step 14 = .ok (.ireturn, 1) := by decide +kernel
theorem dX12_step_15 : decode cX12_step 15 = .ok (.iload_n 3, 1) := by decide +kernel
theorem dX12_step_16 : decode cX12_step 16 = .ok (.i2l, 1) := by decide +kernel
theorem dX12_step_17 : decode cX12_step 17 = .ok (.lconst 0, 1) := by decide +kernel
theorem dX12_step_18 : decode cX12_step 18 = .ok (.aload_n 0, 1) := by decide +kernel
theorem dX12_step_19 : decode cX12_step 19 = .ok (.getfield 450, 3) := by decide +kernel
theorem dX12_step_22 : decode cX12_step 22 = .ok (.iconst 1, 1) := by decide +kernel
theorem dX12_step_23 : decode cX12_step 23 = .ok (.isub, 1) := by decide +kernel
theorem dX12_step_24 : decode cX12_step 24 = .ok (.i2l, 1) := by decide +kernel
theorem dX12_step_25 : decode cX12_step 25 = .ok (.invokestatic 14, 3) := by decide +kernel
theorem dX12_step_28 : decode cX12_step 28 = .ok (.ifCond .ne 6, 3) := by decide +kernel
theorem dX12_step_31 : decode cX12_step 31 = .ok (.bipush (-2), 2) := by decide +kernel
theorem dX12_step_33 : decode cX12_step 33 = .ok (.ireturn, 1) := by decide +kernel
theorem dX12_step_34 : decode cX12_step 34 = .ok (.iload 4, 2) := by decide +kernel
theorem dX12_step_36 : decode cX12_step 36 = .ok (.tableswitch 60 0 3 #[32, 39, 46, 53], 32) := by decide +kernel
theorem dX12_step_68 : decode cX12_step 68 = .ok (.aload_n 0, 1) := by decide +kernel
theorem dX12_step_69 : decode cX12_step 69 = .ok (.getfield 214, 3) := by decide +kernel
theorem dX12_step_72 : decode cX12_step 72 = .ok (.iload_n 3, 1) := by decide +kernel
theorem dX12_step_73 : decode cX12_step 73 = .ok (.iaload, 1) := by decide +kernel
theorem dX12_step_74 : decode cX12_step 74 = .ok (.ireturn, 1) := by decide +kernel
theorem dX12_step_75 : decode cX12_step 75 = .ok (.aload_n 0, 1) := by decide +kernel
theorem dX12_step_76 : decode cX12_step 76 = .ok (.getfield 217, 3) := by decide +kernel
theorem dX12_step_79 : decode cX12_step 79 = .ok (.iload_n 3, 1) := by decide +kernel
theorem dX12_step_80 : decode cX12_step 80 = .ok (.iaload, 1) := by decide +kernel
theorem dX12_step_81 : decode cX12_step 81 = .ok (.ireturn, 1) := by decide +kernel
theorem dX12_step_82 : decode cX12_step 82 = .ok (.aload_n 0, 1) := by decide +kernel
theorem dX12_step_83 : decode cX12_step 83 = .ok (.getfield 220, 3) := by decide +kernel
theorem dX12_step_86 : decode cX12_step 86 = .ok (.iload_n 3, 1) := by decide +kernel
theorem dX12_step_87 : decode cX12_step 87 = .ok (.iaload, 1) := by decide +kernel
theorem dX12_step_88 : decode cX12_step 88 = .ok (.ireturn, 1) := by decide +kernel
theorem dX12_step_89 : decode cX12_step 89 = .ok (.aload_n 0, 1) := by decide +kernel
theorem dX12_step_90 : decode cX12_step 90 = .ok (.getfield 223, 3) := by decide +kernel
theorem dX12_step_93 : decode cX12_step 93 = .ok (.iload_n 3, 1) := by decide +kernel
theorem dX12_step_94 : decode cX12_step 94 = .ok (.iaload, 1) := by decide +kernel
theorem dX12_step_95 : decode cX12_step 95 = .ok (.ireturn, 1) := by decide +kernel
theorem dX12_step_96 : decode cX12_step 96 = .ok (.bipush (-2), 2) := by decide +kernel
theorem dX12_step_98 : decode cX12_step 98 = .ok (.ireturn, 1) := by decide +kernel
theorem dX12_whose_0 : decode cX12_whose 0 = .ok (.aload_n 0, 1) := by decide +kernel
theorem dX12_whose_1 : decode cX12_whose 1 = .ok (.lload_n 1, 1) := by decide +kernel
theorem dX12_whose_2 : decode cX12_whose 2 = .ok (.invokevirtual 474, 3) := by decide +kernel
theorem dX12_whose_5 : decode cX12_whose 5 = .ok (.istore 5, 2) := by decide +kernel
theorem dX12_whose_7 : decode cX12_whose 7 = .ok (.iload 5, 2) := by decide +kernel
theorem dX12_whose_9 : decode cX12_whose 9 = .ok (.ifCond .eq 6, 3) := by decide +kernel
theorem dX12_whose_12 : decode cX12_whose 12 = .ok (.iload 5, 2) := by decide +kernel
theorem dX12_whose_14 : decode cX12_whose 14 = .ok (.ireturn, 1) := by decide +kernel
theorem dX12_whose_15 : decode cX12_whose 15 = .ok (.iload_n 3, 1) := by decide +kernel
theorem dX12_whose_16 : decode cX12_whose 16 = .ok (.i2l, 1) := by decide +kernel
theorem dX12_whose_17 : decode cX12_whose 17 = .ok (.lconst 0, 1) := by decide +kernel
theorem dX12_whose_18 : decode cX12_whose 18 = .ok (.aload_n 0, 1) := by decide +kernel
theorem dX12_whose_19 : decode cX12_whose 19 = .ok (.getfield 171, 3) := by decide +kernel
theorem dX12_whose_22 : decode cX12_whose 22 = .ok (.iconst 1, 1) := by decide +kernel
theorem dX12_whose_23 : decode cX12_whose 23 = .ok (.isub, 1) := by decide +kernel
theorem dX12_whose_24 : decode cX12_whose 24 = .ok (.i2l, 1) := by decide +kernel
theorem dX12_whose_25 : decode cX12_whose 25 = .ok (.invokestatic 14, 3) := by decide +kernel
theorem dX12_whose_28 : decode cX12_whose 28 = .ok (.ifCond .eq 14, 3) := by decide +kernel
theorem dX12_whose_31 : decode cX12_whose 31 = .ok (.iload 4, 2) := by decide +kernel
theorem dX12_whose_33 : decode cX12_whose 33 = .ok (.i2l, 1) := by decide +kernel
theorem dX12_whose_34 : decode cX12_whose 34 = .ok (.lconst 0, 1) := by decide +kernel
theorem dX12_whose_35 : decode cX12_whose 35 = .ok (.lconst 1, 1) := by decide +kernel
theorem dX12_whose_36 : decode cX12_whose 36 = .ok (.invokestatic 14, 3) := by decide +kernel
theorem dX12_whose_39 : decode cX12_whose 39 = .ok (.ifCond .ne 6, 3) := by decide +kernel
theorem dX12_whose_42 : decode cX12_whose 42 = .ok (.bipush (-2), 2) := by decide +kernel
theorem dX12_whose_44 : decode cX12_whose 44 = .ok (.ireturn, 1) := by decide +kernel
theorem dX12_whose_45 : decode cX12_whose 45 = .ok (.iload 4, 2) := by decide +kernel
theorem dX12_whose_47 : decode cX12_whose 47 = .ok (.ifCond .ne 12, 3) := by decide +kernel
theorem dX12_whose_50 : decode cX12_whose 50 = .ok (.aload_n 0, 1) := by decide +kernel
theorem dX12_whose_51 : decode cX12_whose 51 = .ok (.getfield 229, 3) := by decide +kernel
theorem dX12_whose_54 : decode cX12_whose 54 = .ok (.iload_n 3, 1) := by decide +kernel
theorem dX12_whose_55 : decode cX12_whose 55 = .ok (.iaload, 1) := by decide +kernel
theorem dX12_whose_56 : decode cX12_whose 56 = .ok (.goto 9, 3) := by decide +kernel
theorem dX12_whose_59 : decode cX12_whose 59 = .ok (.aload_n 0, 1) := by decide +kernel
theorem dX12_whose_60 : decode cX12_whose 60 = .ok (.getfield 232, 3) := by decide +kernel
theorem dX12_whose_63 : decode cX12_whose 63 = .ok (.iload_n 3, 1) := by decide +kernel
theorem dX12_whose_64 : decode cX12_whose 64 = .ok (.iaload, 1) := by decide +kernel
theorem dX12_whose_65 : decode cX12_whose 65 = .ok (.ireturn, 1) := by decide +kernel
theorem dX12_isArc_0 : decode cX12_isArc 0 = .ok (.aload_n 0, 1) := by decide +kernel
theorem dX12_isArc_1 : decode cX12_isArc 1 = .ok (.getfield 217, 3) := by decide +kernel
theorem dX12_isArc_4 : decode cX12_isArc 4 = .ok (.iload_n 1, 1) := by decide +kernel
theorem dX12_isArc_5 : decode cX12_isArc 5 = .ok (.iaload, 1) := by decide +kernel
theorem dX12_isArc_6 : decode cX12_isArc 6 = .ok (.iconst (-1), 1) := by decide +kernel
theorem dX12_isArc_7 : decode cX12_isArc 7 = .ok (.if_icmp .eq 32, 3) := by decide +kernel
theorem dX12_isArc_10 : decode cX12_isArc 10 = .ok (.aload_n 0, 1) := by decide +kernel
theorem dX12_isArc_11 : decode cX12_isArc 11 = .ok (.getfield 223, 3) := by decide +kernel
theorem dX12_isArc_14 : decode cX12_isArc 14 = .ok (.iload_n 1, 1) := by decide +kernel
theorem dX12_isArc_15 : decode cX12_isArc 15 = .ok (.iaload, 1) := by decide +kernel
theorem dX12_isArc_16 : decode cX12_isArc 16 = .ok (.iconst (-1), 1) := by decide +kernel
theorem dX12_isArc_17 : decode cX12_isArc 17 = .ok (.if_icmp .eq 22, 3) := by decide +kernel
theorem dX12_isArc_20 : decode cX12_isArc 20 = .ok (.aload_n 0, 1) := by decide +kernel
theorem dX12_isArc_21 : decode cX12_isArc 21 = .ok (.getfield 223, 3) := by decide +kernel
theorem dX12_isArc_24 : decode cX12_isArc 24 = .ok (.aload_n 0, 1) := by decide +kernel
theorem dX12_isArc_25 : decode cX12_isArc 25 = .ok (.getfield 217, 3) := by decide +kernel
theorem dX12_isArc_28 : decode cX12_isArc 28 = .ok (.iload_n 1, 1) := by decide +kernel
theorem dX12_isArc_29 : decode cX12_isArc 29 = .ok (.iaload, 1) := by decide +kernel
theorem dX12_isArc_30 : decode cX12_isArc 30 = .ok (.iaload, 1) := by decide +kernel
theorem dX12_isArc_31 : decode cX12_isArc 31 = .ok (.iconst (-1), 1) := by decide +kernel
theorem dX12_isArc_32 : decode cX12_isArc 32 = .ok (.if_icmp .eq 7, 3) := by decide +kernel
theorem dX12_isArc_35 : decode cX12_isArc 35 = .ok (.iconst 1, 1) := by decide +kernel
theorem dX12_isArc_36 : decode cX12_isArc 36 = .ok (.goto 4, 3) := by decide +kernel
theorem dX12_isArc_39 : decode cX12_isArc 39 = .ok (.iconst 0, 1) := by decide +kernel
theorem dX12_isArc_40 : decode cX12_isArc 40 = .ok (.ireturn, 1) := by decide +kernel
theorem dX12_lowOf_0 : decode cX12_lowOf 0 = .ok (.aload_n 0, 1) := by decide +kernel
theorem dX12_lowOf_1 : decode cX12_lowOf 1 = .ok (.getfield 223, 3) := by decide +kernel
theorem dX12_lowOf_4 : decode cX12_lowOf 4 = .ok (.iload_n 1, 1) := by decide +kernel
theorem dX12_lowOf_5 : decode cX12_lowOf 5 = .ok (.iaload, 1) := by decide +kernel
theorem dX12_lowOf_6 : decode cX12_lowOf 6 = .ok (.aload_n 0, 1) := by decide +kernel
theorem dX12_lowOf_7 : decode cX12_lowOf 7 = .ok (.getfield 223, 3) := by decide +kernel
theorem dX12_lowOf_10 : decode cX12_lowOf 10 = .ok (.aload_n 0, 1) := by decide +kernel
theorem dX12_lowOf_11 : decode cX12_lowOf 11 = .ok (.getfield 217, 3) := by decide +kernel
theorem dX12_lowOf_14 : decode cX12_lowOf 14 = .ok (.iload_n 1, 1) := by decide +kernel
theorem dX12_lowOf_15 : decode cX12_lowOf 15 = .ok (.iaload, 1) := by decide +kernel
theorem dX12_lowOf_16 : decode cX12_lowOf 16 = .ok (.iaload, 1) := by decide +kernel
theorem dX12_lowOf_17 : decode cX12_lowOf 17 = .ok (.invokestatic 330, 3) := by decide +kernel
theorem dX12_lowOf_20 : decode cX12_lowOf 20 = .ok (.ireturn, 1) := by decide +kernel
theorem dX12_highOf_0 : decode cX12_highOf 0 = .ok (.aload_n 0, 1) := by decide +kernel
theorem dX12_highOf_1 : decode cX12_highOf 1 = .ok (.getfield 223, 3) := by decide +kernel
theorem dX12_highOf_4 : decode cX12_highOf 4 = .ok (.iload_n 1, 1) := by decide +kernel
theorem dX12_highOf_5 : decode cX12_highOf 5 = .ok (.iaload, 1) := by decide +kernel
theorem dX12_highOf_6 : decode cX12_highOf 6 = .ok (.aload_n 0, 1) := by decide +kernel
theorem dX12_highOf_7 : decode cX12_highOf 7 = .ok (.getfield 223, 3) := by decide +kernel
theorem dX12_highOf_10 : decode cX12_highOf 10 = .ok (.aload_n 0, 1) := by decide +kernel
theorem dX12_highOf_11 : decode cX12_highOf 11 = .ok (.getfield 217, 3) := by decide +kernel
theorem dX12_highOf_14 : decode cX12_highOf 14 = .ok (.iload_n 1, 1) := by decide +kernel
theorem dX12_highOf_15 : decode cX12_highOf 15 = .ok (.iaload, 1) := by decide +kernel
theorem dX12_highOf_16 : decode cX12_highOf 16 = .ok (.iaload, 1) := by decide +kernel
theorem dX12_highOf_17 : decode cX12_highOf 17 = .ok (.invokestatic 327, 3) := by decide +kernel
theorem dX12_highOf_20 : decode cX12_highOf 20 = .ok (.ireturn, 1) := by decide +kernel
theorem dX12_isBetween_0 : decode cX12_isBetween 0 = .ok (.iload_n 1, 1) := by decide +kernel
theorem dX12_isBetween_1 : decode cX12_isBetween 1 = .ok (.aload_n 0, 1) := by decide +kernel
theorem dX12_isBetween_2 : decode cX12_isBetween 2 = .ok (.iload_n 2, 1) := by decide +kernel
theorem dX12_isBetween_3 : decode cX12_isBetween 3 = .ok (.invokevirtual 478, 3) := by decide +kernel
theorem dX12_isBetween_6 : decode cX12_isBetween 6 = .ok (.if_icmp .le 16, 3) := by decide +kernel
theorem dX12_isBetween_9 : decode cX12_isBetween 9 = .ok (.iload_n 1, 1) := by decide +kernel
theorem dX12_isBetween_10 : decode cX12_isBetween 10 = .ok (.aload_n 0, 1) := by decide +kernel
theorem dX12_isBetween_11 : decode cX12_isBetween 11 = .ok (.iload_n 2, 1) := by decide +kernel
theorem dX12_isBetween_12 : decode cX12_isBetween 12 = .ok (.invokevirtual 481, 3) := by decide +kernel
theorem dX12_isBetween_15 : decode cX12_isBetween 15 = .ok (.if_icmp .ge 7, 3) := by decide +kernel
theorem dX12_isBetween_18 : decode cX12_isBetween 18 = .ok (.iconst 1, 1) := by decide +kernel
theorem dX12_isBetween_19 : decode cX12_isBetween 19 = .ok (.goto 4, 3) := by decide +kernel
theorem dX12_isBetween_22 : decode cX12_isBetween 22 = .ok (.iconst 0, 1) := by decide +kernel
theorem dX12_isBetween_23 : decode cX12_isBetween 23 = .ok (.ireturn, 1) := by decide +kernel
theorem dX12_doCross_0 : decode cX12_doCross 0 = .ok (.aload_n 0, 1) := by decide +kernel
theorem dX12_doCross_1 : decode cX12_doCross 1 = .ok (.iload_n 1, 1) := by decide +kernel
theorem dX12_doCross_2 : decode cX12_doCross 2 = .ok (.invokevirtual 478, 3) := by decide +kernel
theorem dX12_doCross_5 : decode cX12_doCross 5 = .ok (.aload_n 0, 1) := by decide +kernel
theorem dX12_doCross_6 : decode cX12_doCross 6 = .ok (.iload_n 2, 1) := by decide +kernel
theorem dX12_doCross_7 : decode cX12_doCross 7 = .ok (.invokevirtual 478, 3) := by decide +kernel
theorem dX12_doCross_10 : decode cX12_doCross 10 = .ok (.if_icmp .eq 42, 3) := by decide +kernel
theorem dX12_doCross_13 : decode cX12_doCross 13 = .ok (.aload_n 0, 1) := by decide +kernel
theorem dX12_doCross_14 : decode cX12_doCross 14 = .ok (.iload_n 1, 1) := by decide +kernel
theorem dX12_doCross_15 : decode cX12_doCross 15 = .ok (.invokevirtual 478, 3) := by decide +kernel
theorem dX12_doCross_18 : decode cX12_doCross 18 = .ok (.aload_n 0, 1) := by decide +kernel
theorem dX12_doCross_19 : decode cX12_doCross 19 = .ok (.iload_n 2, 1) := by decide +kernel
theorem dX12_doCross_20 : decode cX12_doCross 20 = .ok (.invokevirtual 481, 3) := by decide +kernel
theorem dX12_doCross_23 : decode cX12_doCross 23 = .ok (.if_icmp .eq 29, 3) := by decide +kernel
theorem dX12_doCross_26 : decode cX12_doCross 26 = .ok (.aload_n 0, 1) := by decide +kernel
theorem dX12_doCross_27 : decode cX12_doCross 27 = .ok (.iload_n 1, 1) := by decide +kernel
theorem dX12_doCross_28 : decode cX12_doCross 28 = .ok (.invokevirtual 481, 3) := by decide +kernel
theorem dX12_doCross_31 : decode cX12_doCross 31 = .ok (.aload_n 0, 1) := by decide +kernel
theorem dX12_doCross_32 : decode cX12_doCross 32 = .ok (.iload_n 2, 1) := by decide +kernel
theorem dX12_doCross_33 : decode cX12_doCross 33 = .ok (.invokevirtual 478, 3) := by decide +kernel
theorem dX12_doCross_36 : decode cX12_doCross 36 = .ok (.if_icmp .eq 16, 3) := by decide +kernel
theorem dX12_doCross_39 : decode cX12_doCross 39 = .ok (.aload_n 0, 1) := by decide +kernel
theorem dX12_doCross_40 : decode cX12_doCross 40 = .ok (.iload_n 1, 1) := by decide +kernel
theorem dX12_doCross_41 : decode cX12_doCross 41 = .ok (.invokevirtual 481, 3) := by decide +kernel
theorem dX12_doCross_44 : decode cX12_doCross 44 = .ok (.aload_n 0, 1) := by decide +kernel
theorem dX12_doCross_45 : decode cX12_doCross 45 = .ok (.iload_n 2, 1) := by decide +kernel
theorem dX12_doCross_46 : decode cX12_doCross 46 = .ok (.invokevirtual 481, 3) := by decide +kernel
theorem dX12_doCross_49 : decode cX12_doCross 49 = .ok (.if_icmp .ne 5, 3) := by decide +kernel
theorem dX12_doCross_52 : decode cX12_doCross 52 = .ok (.iconst 0, 1) := by decide +kernel
theorem dX12_doCross_53 : decode cX12_doCross 53 = .ok (.ireturn, 1) := by decide +kernel
theorem dX12_doCross_54 : decode cX12_doCross 54 = .ok (.aload_n 0, 1) := by decide +kernel
theorem dX12_doCross_55 : decode cX12_doCross 55 = .ok (.aload_n 0, 1) := by decide +kernel
theorem dX12_doCross_56 : decode cX12_doCross 56 = .ok (.iload_n 1, 1) := by decide +kernel
theorem dX12_doCross_57 : decode cX12_doCross 57 = .ok (.invokevirtual 478, 3) := by decide +kernel
theorem dX12_doCross_60 : decode cX12_doCross 60 = .ok (.iload_n 2, 1) := by decide +kernel
theorem dX12_doCross_61 : decode cX12_doCross 61 = .ok (.invokevirtual 484, 3) := by decide +kernel
theorem dX12_doCross_64 : decode cX12_doCross 64 = .ok (.aload_n 0, 1) := by decide +kernel
theorem dX12_doCross_65 : decode cX12_doCross 65 = .ok (.aload_n 0, 1) := by decide +kernel
theorem dX12_doCross_66 : decode cX12_doCross 66 = .ok (.iload_n 1, 1) := by decide +kernel
theorem dX12_doCross_67 : decode cX12_doCross 67 = .ok (.invokevirtual 481, 3) := by decide +kernel
theorem dX12_doCross_70 : decode cX12_doCross 70 = .ok (.iload_n 2, 1) := by decide +kernel
theorem dX12_doCross_71 : decode cX12_doCross 71 = .ok (.invokevirtual 484, 3) := by decide +kernel
theorem dX12_doCross_74 : decode cX12_doCross 74 = .ok (.if_icmp .eq 7, 3) := by decide +kernel
theorem dX12_doCross_77 : decode cX12_doCross 77 = .ok (.iconst 1, 1) := by decide +kernel
theorem dX12_doCross_78 : decode cX12_doCross 78 = .ok (.goto 4, 3) := by decide +kernel
theorem dX12_doCross_81 : decode cX12_doCross 81 = .ok (.iconst 0, 1) := by decide +kernel
theorem dX12_doCross_82 : decode cX12_doCross 82 = .ok (.ireturn, 1) := by decide +kernel
theorem dX12_arcs_0 : decode cX12_arcs 0 = .ok (.aload_n 0, 1) := by decide +kernel
theorem dX12_arcs_1 : decode cX12_arcs 1 = .ok (.lload_n 1, 1) := by decide +kernel
theorem dX12_arcs_2 : decode cX12_arcs 2 = .ok (.invokevirtual 474, 3) := by decide +kernel
theorem dX12_arcs_5 : decode cX12_arcs 5 = .ok (.istore 4, 2) := by decide +kernel
theorem dX12_arcs_7 : decode cX12_arcs 7 = .ok (.iload 4, 2) := by decide +kernel
theorem dX12_arcs_9 : decode cX12_arcs 9 = .ok (.ifCond .eq 6, 3) := by decide +kernel
theorem dX12_arcs_12 : decode cX12_arcs 12 = .ok (.iload 4, 2) := by decide +kernel
theorem dX12_arcs_14 : decode cX12_arcs 14 = .ok (.ireturn, 1) := by decide +kernel
theorem dX12_arcs_15 : decode cX12_arcs 15 = .ok (.iload_n 3, 1) := by decide +kernel
theorem dX12_arcs_16 : decode cX12_arcs 16 = .ok (.i2l, 1) := by decide +kernel
theorem dX12_arcs_17 : decode cX12_arcs 17 = .ok (.lconst 0, 1) := by decide +kernel
theorem dX12_arcs_18 : decode cX12_arcs 18 = .ok (.ldc2_w 371, 3) := by decide +kernel
theorem dX12_arcs_21 : decode cX12_arcs 21 = .ok (.invokestatic 14, 3) := by decide +kernel
theorem dX12_arcs_24 : decode cX12_arcs 24 = .ok (.ifCond .ne 6, 3) := by decide +kernel
theorem dX12_arcs_27 : decode cX12_arcs 27 = .ok (.bipush (-2), 2) := by decide +kernel
theorem dX12_arcs_29 : decode cX12_arcs 29 = .ok (.ireturn, 1) := by decide +kernel
theorem dX12_arcs_30 : decode cX12_arcs 30 = .ok (.iconst 0, 1) := by decide +kernel
theorem dX12_arcs_31 : decode cX12_arcs 31 = .ok (.istore 5, 2) := by decide +kernel
theorem dX12_arcs_33 : decode cX12_arcs 33 = .ok (.iconst 0, 1) := by decide +kernel
theorem dX12_arcs_34 : decode cX12_arcs 34 = .ok (.istore 6, 2) := by decide +kernel
theorem dX12_arcs_36 : decode cX12_arcs 36 = .ok (.iconst 0, 1) := by decide +kernel
theorem dX12_arcs_37 : decode cX12_arcs 37 = .ok (.istore 7, 2) := by decide +kernel
theorem dX12_arcs_39 : decode cX12_arcs 39 = .ok (.iconst 0, 1) := by decide +kernel
theorem dX12_arcs_40 : decode cX12_arcs 40 = .ok (.istore 8, 2) := by decide +kernel
theorem dX12_arcs_42 : decode cX12_arcs 42 = .ok (.iload 8, 2) := by decide +kernel
theorem dX12_arcs_44 : decode cX12_arcs 44 = .ok (.aload_n 0, 1) := by decide +kernel
theorem dX12_arcs_45 : decode cX12_arcs 45 = .ok (.getfield 450, 3) := by decide +kernel
theorem dX12_arcs_48 : decode cX12_arcs 48 = .ok (.if_icmp .ge 90, 3) := by decide +kernel
theorem dX12_arcs_51 : decode cX12_arcs 51 = .ok (.aload_n 0, 1) := by decide +kernel
theorem dX12_arcs_52 : decode cX12_arcs 52 = .ok (.iload 8, 2) := by decide +kernel
theorem dX12_arcs_54 : decode cX12_arcs 54 = .ok (.invokevirtual 487, 3) := by decide +kernel
theorem dX12_arcs_57 : decode cX12_arcs 57 = .ok (.ifCond .ne 6, 3) := by decide +kernel
theorem dX12_arcs_60 : decode cX12_arcs 60 = .ok (.goto 72, 3) := by decide +kernel
theorem dX12_arcs_63 : decode cX12_arcs 63 = .ok (.iinc 5 1, 3) := by decide +kernel
theorem dX12_arcs_66 : decode cX12_arcs 66 = .ok (.iload 7, 2) := by decide +kernel
theorem dX12_arcs_68 : decode cX12_arcs 68 = .ok (.aload_n 0, 1) := by decide +kernel
theorem dX12_arcs_69 : decode cX12_arcs 69 = .ok (.iload 8, 2) := by decide +kernel
theorem dX12_arcs_71 : decode cX12_arcs 71 = .ok (.invokevirtual 481, 3) := by decide +kernel
theorem dX12_arcs_74 : decode cX12_arcs 74 = .ok (.aload_n 0, 1) := by decide +kernel
theorem dX12_arcs_75 : decode cX12_arcs 75 = .ok (.iload 8, 2) := by decide +kernel
theorem dX12_arcs_77 : decode cX12_arcs 77 = .ok (.invokevirtual 478, 3) := by decide +kernel
theorem dX12_arcs_80 : decode cX12_arcs 80 = .ok (.isub, 1) := by decide +kernel
theorem dX12_arcs_81 : decode cX12_arcs 81 = .ok (.invokestatic 327, 3) := by decide +kernel
theorem dX12_arcs_84 : decode cX12_arcs 84 = .ok (.istore 7, 2) := by decide +kernel
theorem dX12_arcs_86 : decode cX12_arcs 86 = .ok (.iconst 0, 1) := by decide +kernel
theorem dX12_arcs_87 : decode cX12_arcs 87 = .ok (.istore 9, 2) := by decide +kernel
theorem dX12_arcs_89 : decode cX12_arcs 89 = .ok (.iload 9, 2) := by decide +kernel
theorem dX12_arcs_91 : decode cX12_arcs 91 = .ok (.iload 8, 2) := by decide +kernel
theorem dX12_arcs_93 : decode cX12_arcs 93 = .ok (.if_icmp .ge 39, 3) := by decide +kernel
theorem dX12_arcs_96 : decode cX12_arcs 96 = .ok (.iload 6, 2) := by decide +kernel
theorem dX12_arcs_98 : decode cX12_arcs 98 = .ok (.aload_n 0, 1) := by decide +kernel
theorem dX12_arcs_99 : decode cX12_arcs 99 = .ok (.iload 9, 2) := by decide +kernel
theorem dX12_arcs_101 : decode cX12_arcs 101 = .ok (.invokevirtual 487, 3) := by decide +kernel
theorem dX12_arcs_104 : decode cX12_arcs 104 = .ok (.ifCond .eq 18, 3) := by decide +kernel
theorem dX12_arcs_107 : decode cX12_arcs 107 = .ok (.aload_n 0, 1) := by decide +kernel
theorem dX12_arcs_108 : decode cX12_arcs 108 = .ok (.iload 8, 2) := by decide +kernel
theorem dX12_arcs_110 : decode cX12_arcs 110 = .ok (.iload 9, 2) := by decide +kernel
theorem dX12_arcs_112 : decode cX12_arcs 112 = .ok (.invokevirtual 490, 3) := by decide +kernel
theorem dX12_arcs_115 : decode cX12_arcs 115 = .ok (.ifCond .eq 7, 3) := by decide +kernel
theorem dX12_arcs_118 : decode cX12_arcs 118 = .ok (.iconst 1, 1) := by decide +kernel
theorem dX12_arcs_119 : decode cX12_arcs 119 = .ok (.goto 4, 3) := by decide +kernel
theorem dX12_arcs_122 : decode cX12_arcs 122 = .ok (.iconst 0, 1) := by decide +kernel
theorem dX12_arcs_123 : decode cX12_arcs 123 = .ok (.iadd, 1) := by decide +kernel
theorem dX12_arcs_124 : decode cX12_arcs 124 = .ok (.istore 6, 2) := by decide +kernel
theorem dX12_arcs_126 : decode cX12_arcs 126 = .ok (.iinc 9 1, 3) := by decide +kernel
theorem dX12_arcs_129 : decode cX12_arcs 129 = .ok (.goto (-40), 3) := by decide +kernel
theorem dX12_arcs_132 : decode cX12_arcs 132 = .ok (.iinc 8 1, 3) := by decide +kernel
theorem dX12_arcs_135 : decode cX12_arcs 135 = .ok (.goto (-93), 3) := by decide +kernel
theorem dX12_arcs_138 : decode cX12_arcs 138 = .ok (.iload_n 3, 1) := by decide +kernel
theorem dX12_arcs_139 : decode cX12_arcs 139 = .ok (.ifCond .ne 8, 3) := by decide +kernel
theorem dX12_arcs_142 : decode cX12_arcs 142 = .ok (.iload 5, 2) := by decide +kernel
theorem dX12_arcs_144 : decode cX12_arcs 144 = .ok (.goto 15, 3) := by decide +kernel
theorem dX12_arcs_147 : decode cX12_arcs 147 = .ok (.iload_n 3, 1) := by decide +kernel
theorem dX12_arcs_148 : decode cX12_arcs 148 = .ok (.iconst 1, 1) := by decide +kernel
theorem dX12_arcs_149 : decode cX12_arcs 149 = .ok (.if_icmp .ne 8, 3) := by decide +kernel
theorem dX12_arcs_152 : decode cX12_arcs 152 = .ok (.iload 6, 2) := by decide +kernel
theorem dX12_arcs_154 : decode cX12_arcs 154 = .ok (.goto 5, 3) := by decide +kernel
theorem dX12_arcs_157 : decode cX12_arcs 157 = .ok (.iload 7, 2) := by decide +kernel
theorem dX12_arcs_159 : decode cX12_arcs 159 = .ok (.ireturn, 1) := by decide +kernel
theorem dX12_put_0 : decode cX12_put 0 = .ok (.aload_n 0, 1) := by decide +kernel
theorem dX12_put_1 : decode cX12_put 1 = .ok (.getfield 226, 3) := by decide +kernel
theorem dX12_put_4 : decode cX12_put 4 = .ok (.bipush 12, 2) := by decide +kernel
theorem dX12_put_6 : decode cX12_put 6 = .ok (.iload_n 1, 1) := by decide +kernel
theorem dX12_put_7 : decode cX12_put 7 = .ok (.imul, 1) := by decide +kernel
theorem dX12_put_8 : decode cX12_put 8 = .ok (.iload_n 2, 1) := by decide +kernel
theorem dX12_put_9 : decode cX12_put 9 = .ok (.iadd, 1) := by decide +kernel
theorem dX12_put_10 : decode cX12_put 10 = .ok (.iaload, 1) := by decide +kernel
theorem dX12_put_11 : decode cX12_put 11 = .ok (.ireturn, 1) := by decide +kernel
theorem dX12_deepAbove_0 : decode cX12_deepAbove 0 = .ok (.aload_n 0, 1) := by decide +kernel
theorem dX12_deepAbove_1 : decode cX12_deepAbove 1 = .ok (.iload_n 1, 1) := by decide +kernel
theorem dX12_deepAbove_2 : decode cX12_deepAbove 2 = .ok (.iload_n 2, 1) := by decide +kernel
theorem dX12_deepAbove_3 : decode cX12_deepAbove 3 = .ok (.invokevirtual 493, 3) := by decide +kernel
theorem dX12_deepAbove_6 : decode cX12_deepAbove 6 = .ok (.istore_n 3, 1) := by decide +kernel
theorem dX12_deepAbove_7 : decode cX12_deepAbove 7 = .ok (.aload_n 0, 1) := by decide +kernel
theorem dX12_deepAbove_8 : decode cX12_deepAbove 8 = .ok (.getfield 98, 3) := by decide +kernel
theorem dX12_deepAbove_11 : decode cX12_deepAbove 11 = .ok (.aload_n 0, 1) := by decide +kernel
theorem dX12_deepAbove_12 : decode cX12_deepAbove 12 = .ok (.getfield 7, 3) := by decide +kernel
theorem dX12_deepAbove_15 : decode cX12_deepAbove 15 = .ok (.aload_n 0, 1) := by decide +kernel
theorem dX12_deepAbove_16 : decode cX12_deepAbove 16 = .ok (.getfield 214, 3) := by decide +kernel
theorem dX12_deepAbove_19 : decode cX12_deepAbove 19 = .ok (.iload_n 1, 1) := by decide +kernel
theorem dX12_deepAbove_20 : decode cX12_deepAbove 20 = .ok (.iaload, 1) := by decide +kernel
theorem dX12_deepAbove_21 : decode cX12_deepAbove 21 = .ok (.iaload, 1) := by decide +kernel
theorem dX12_deepAbove_22 : decode cX12_deepAbove 22 = .ok (.iload_n 2, 1) := by decide +kernel
theorem dX12_deepAbove_23 : decode cX12_deepAbove 23 = .ok (.iadd, 1) := by decide +kernel
theorem dX12_deepAbove_24 : decode cX12_deepAbove 24 = .ok (.iaload, 1) := by decide +kernel
theorem dX12_deepAbove_25 : decode cX12_deepAbove 25 = .ok (.istore 4, 2) := by decide +kernel
theorem dX12_deepAbove_27 : decode cX12_deepAbove 27 = .ok (.iload 4, 2) := by decide +kernel
theorem dX12_deepAbove_29 : decode cX12_deepAbove 29 = .ok (.ifCond .ne 24, 3) := by decide +kernel
theorem dX12_deepAbove_32 : decode cX12_deepAbove 32 = .ok (.iload_n 3, 1) := by decide +kernel
theorem dX12_deepAbove_33 : decode cX12_deepAbove 33 = .ok (.iconst (-1), 1) := by decide +kernel
theorem dX12_deepAbove_34 : decode cX12_deepAbove 34 = .ok (.if_icmp .eq 12, 3) := by decide +kernel
theorem dX12_deepAbove_37 : decode cX12_deepAbove 37 = .ok (.aload_n 0, 1) := by decide +kernel
theorem dX12_deepAbove_38 : decode cX12_deepAbove 38 = .ok (.iload_n 3, 1) := by decide +kernel
theorem dX12_deepAbove_39 : decode cX12_deepAbove 39 = .ok (.iconst 0, 1) := by decide +kernel
theorem dX12_deepAbove_40 : decode cX12_deepAbove 40 = .ok (.invokevirtual 496, 3) := by decide +kernel
theorem dX12_deepAbove_43 : decode cX12_deepAbove 43 = .ok (.goto 9, 3) := by decide +kernel
theorem dX12_deepAbove_46 : decode cX12_deepAbove 46 = .ok (.aload_n 0, 1) := by decide +kernel
theorem dX12_deepAbove_47 : decode cX12_deepAbove 47 = .ok (.iload_n 1, 1) := by decide +kernel
theorem dX12_deepAbove_48 : decode cX12_deepAbove 48 = .ok (.iload_n 2, 1) := by decide +kernel
theorem dX12_deepAbove_49 : decode cX12_deepAbove 49 = .ok (.invokevirtual 499, 3) := by decide +kernel
theorem dX12_deepAbove_52 : decode cX12_deepAbove 52 = .ok (.ireturn, 1) := by decide +kernel
theorem dX12_deepAbove_53 : decode cX12_deepAbove 53 = .ok (.iload 4, 2) := by decide +kernel
theorem dX12_deepAbove_55 : decode cX12_deepAbove 55 = .ok (.iconst 4, 1) := by decide +kernel
theorem dX12_deepAbove_56 : decode cX12_deepAbove 56 = .ok (.if_icmp .ne 10, 3) := by decide +kernel
theorem dX12_deepAbove_59 : decode cX12_deepAbove 59 = .ok (.aload_n 0, 1) := by decide +kernel
theorem dX12_deepAbove_60 : decode cX12_deepAbove 60 = .ok (.iload_n 3, 1) := by decide +kernel
theorem dX12_deepAbove_61 : decode cX12_deepAbove 61 = .ok (.iconst 0, 1) := by decide +kernel
theorem dX12_deepAbove_62 : decode cX12_deepAbove 62 = .ok (.invokevirtual 496, 3) := by decide +kernel
theorem dX12_deepAbove_65 : decode cX12_deepAbove 65 = .ok (.ireturn, 1) := by decide +kernel
theorem dX12_deepAbove_66 : decode cX12_deepAbove 66 = .ok (.iload 4, 2) := by decide +kernel
theorem dX12_deepAbove_68 : decode cX12_deepAbove 68 = .ok (.iconst 3, 1) := by decide +kernel
theorem dX12_deepAbove_69 : decode cX12_deepAbove 69 = .ok (.if_icmp .ne 22, 3) := by decide +kernel
theorem dX12_deepAbove_72 : decode cX12_deepAbove 72 = .ok (.aload_n 0, 1) := by decide +kernel
theorem dX12_deepAbove_73 : decode cX12_deepAbove 73 = .ok (.aload_n 0, 1) := by decide +kernel
theorem dX12_deepAbove_74 : decode cX12_deepAbove 74 = .ok (.getfield 217, 3) := by decide +kernel
theorem dX12_deepAbove_77 : decode cX12_deepAbove 77 = .ok (.iload_n 1, 1) := by decide +kernel
theorem dX12_deepAbove_78 : decode cX12_deepAbove 78 = .ok (.iaload, 1) := by decide +kernel
theorem dX12_deepAbove_79 : decode cX12_deepAbove 79 = .ok (.aload_n 0, 1) := by decide +kernel
theorem dX12_deepAbove_80 : decode cX12_deepAbove 80 = .ok (.getfield 220, 3) := by decide +kernel
theorem dX12_deepAbove_83 : decode cX12_deepAbove 83 = .ok (.iload_n 1, 1) := by decide +kernel
theorem dX12_deepAbove_84 : decode cX12_deepAbove 84 = .ok (.iaload, 1) := by decide +kernel
theorem dX12_deepAbove_85 : decode cX12_deepAbove 85 = .ok (.invokevirtual 499, 3) := by decide +kernel
theorem dX12_deepAbove_88 : decode cX12_deepAbove 88 = .ok (.goto 4, 3) := by decide +kernel
theorem dX12_deepAbove_91 : decode cX12_deepAbove 91 = .ok (.iconst 0, 1) := by decide +kernel
theorem dX12_deepAbove_92 : decode cX12_deepAbove 92 = .ok (.ireturn, 1) := by decide +kernel
theorem dX12_deepBelow_0 : decode cX12_deepBelow 0 = .ok (.aload_n 0, 1) := by decide +kernel
theorem dX12_deepBelow_1 : decode cX12_deepBelow 1 = .ok (.getfield 214, 3) := by decide +kernel
theorem dX12_deepBelow_4 : decode cX12_deepBelow 4 = .ok (.iload_n 1, 1) := by decide +kernel
theorem dX12_deepBelow_5 : decode cX12_deepBelow 5 = .ok (.iaload, 1) := by decide +kernel
theorem dX12_deepBelow_6 : decode cX12_deepBelow 6 = .ok (.istore_n 3, 1) := by decide +kernel
theorem dX12_deepBelow_7 : decode cX12_deepBelow 7 = .ok (.aload_n 0, 1) := by decide +kernel
theorem dX12_deepBelow_8 : decode cX12_deepBelow 8 = .ok (.iload_n 1, 1) := by decide +kernel
theorem dX12_deepBelow_9 : decode cX12_deepBelow 9 = .ok (.aload_n 0, 1) := by decide +kernel
theorem dX12_deepBelow_10 : decode cX12_deepBelow 10 = .ok (.iload_n 3, 1) := by decide +kernel
theorem dX12_deepBelow_11 : decode cX12_deepBelow 11 = .ok (.aload_n 0, 1) := by decide +kernel
theorem dX12_deepBelow_12 : decode cX12_deepBelow 12 = .ok (.getfield 107, 3) := by decide +kernel
theorem dX12_deepBelow_15 : decode cX12_deepBelow 15 = .ok (.aload_n 0, 1) := by decide +kernel
theorem dX12_deepBelow_16 : decode cX12_deepBelow 16 = .ok (.getfield 7, 3) := by decide +kernel
theorem dX12_deepBelow_19 : decode cX12_deepBelow 19 = .ok (.iload_n 3, 1) := by decide +kernel
theorem dX12_deepBelow_20 : decode cX12_deepBelow 20 = .ok (.iaload, 1) := by decide +kernel
theorem dX12_deepBelow_21 : decode cX12_deepBelow 21 = .ok (.iload_n 2, 1) := by decide +kernel
theorem dX12_deepBelow_22 : decode cX12_deepBelow 22 = .ok (.iadd, 1) := by decide +kernel
theorem dX12_deepBelow_23 : decode cX12_deepBelow 23 = .ok (.iaload, 1) := by decide +kernel
theorem dX12_deepBelow_24 : decode cX12_deepBelow 24 = .ok (.invokevirtual 368, 3) := by decide +kernel
theorem dX12_deepBelow_27 : decode cX12_deepBelow 27 = .ok (.invokevirtual 496, 3) := by decide +kernel
theorem dX12_deepBelow_30 : decode cX12_deepBelow 30 = .ok (.istore 4, 2) := by decide +kernel
theorem dX12_deepBelow_32 : decode cX12_deepBelow 32 = .ok (.aload_n 0, 1) := by decide +kernel
theorem dX12_deepBelow_33 : decode cX12_deepBelow 33 = .ok (.getfield 110, 3) := by decide +kernel
theorem dX12_deepBelow_36 : decode cX12_deepBelow 36 = .ok (.aload_n 0, 1) := by decide +kernel
theorem dX12_deepBelow_37 : decode cX12_deepBelow 37 = .ok (.getfield 7, 3) := by decide +kernel
theorem dX12_deepBelow_40 : decode cX12_deepBelow 40 = .ok (.iload_n 3, 1) := by decide +kernel
theorem dX12_deepBelow_41 : decode cX12_deepBelow 41 = .ok (.iaload, 1) := by decide +kernel
theorem dX12_deepBelow_42 : decode cX12_deepBelow 42 = .ok (.iload_n 2, 1) := by decide +kernel
theorem dX12_deepBelow_43 : decode cX12_deepBelow 43 = .ok (.iadd, 1) := by decide +kernel
theorem dX12_deepBelow_44 : decode cX12_deepBelow 44 = .ok (.iaload, 1) := by decide +kernel
theorem dX12_deepBelow_45 : decode cX12_deepBelow 45 = .ok (.iconst (-1), 1) := by decide +kernel
theorem dX12_deepBelow_46 : decode cX12_deepBelow 46 = .ok (.if_icmp .eq 33, 3) := by decide +kernel
theorem dX12_deepBelow_49 : decode cX12_deepBelow 49 = .ok (.iload 4, 2) := by decide +kernel
theorem dX12_deepBelow_51 : decode cX12_deepBelow 51 = .ok (.aload_n 0, 1) := by decide +kernel
theorem dX12_deepBelow_52 : decode cX12_deepBelow 52 = .ok (.iload_n 1, 1) := by decide +kernel
theorem dX12_deepBelow_53 : decode cX12_deepBelow 53 = .ok (.aload_n 0, 1) := by decide +kernel
theorem dX12_deepBelow_54 : decode cX12_deepBelow 54 = .ok (.iload_n 3, 1) := by decide +kernel
theorem dX12_deepBelow_55 : decode cX12_deepBelow 55 = .ok (.aload_n 0, 1) := by decide +kernel
theorem dX12_deepBelow_56 : decode cX12_deepBelow 56 = .ok (.getfield 110, 3) := by decide +kernel
theorem dX12_deepBelow_59 : decode cX12_deepBelow 59 = .ok (.aload_n 0, 1) := by decide +kernel
theorem dX12_deepBelow_60 : decode cX12_deepBelow 60 = .ok (.getfield 7, 3) := by decide +kernel
theorem dX12_deepBelow_63 : decode cX12_deepBelow 63 = .ok (.iload_n 3, 1) := by decide +kernel
theorem dX12_deepBelow_64 : decode cX12_deepBelow 64 = .ok (.iaload, 1) := by decide +kernel
theorem dX12_deepBelow_65 : decode cX12_deepBelow 65 = .ok (.iload_n 2, 1) := by decide +kernel
theorem dX12_deepBelow_66 : decode cX12_deepBelow 66 = .ok (.iadd, 1) := by decide +kernel
theorem dX12_deepBelow_67 : decode cX12_deepBelow 67 = .ok (.iaload, 1) := by decide +kernel
theorem dX12_deepBelow_68 : decode cX12_deepBelow 68 = .ok (.invokevirtual 368, 3) := by decide +kernel
theorem dX12_deepBelow_71 : decode cX12_deepBelow 71 = .ok (.invokevirtual 496, 3) := by decide +kernel
theorem dX12_deepBelow_74 : decode cX12_deepBelow 74 = .ok (.invokestatic 327, 3) := by decide +kernel
theorem dX12_deepBelow_77 : decode cX12_deepBelow 77 = .ok (.istore 4, 2) := by decide +kernel
theorem dX12_deepBelow_79 : decode cX12_deepBelow 79 = .ok (.iload 4, 2) := by decide +kernel
theorem dX12_deepBelow_81 : decode cX12_deepBelow 81 = .ok (.iconst 1, 1) := by decide +kernel
theorem dX12_deepBelow_82 : decode cX12_deepBelow 82 = .ok (.iadd, 1) := by decide +kernel
theorem dX12_deepBelow_83 : decode cX12_deepBelow 83 = .ok (.ireturn, 1) := by decide +kernel
theorem dX12_branchesOf_0 : decode cX12_branchesOf 0 = .ok (.iconst 0, 1) := by decide +kernel
theorem dX12_branchesOf_1 : decode cX12_branchesOf 1 = .ok (.istore_n 2, 1) := by decide +kernel
theorem dX12_branchesOf_2 : decode cX12_branchesOf 2 = .ok (.aload_n 0, 1) := by decide +kernel
theorem dX12_branchesOf_3 : decode cX12_branchesOf 3 = .ok (.getfield 7, 3) := by decide +kernel
theorem dX12_branchesOf_6 : decode cX12_branchesOf 6 = .ok (.iload_n 1, 1) := by decide +kernel
theorem dX12_branchesOf_7 : decode cX12_branchesOf 7 = .ok (.iaload, 1) := by decide +kernel
theorem dX12_branchesOf_8 : decode cX12_branchesOf 8 = .ok (.istore_n 3, 1) := by decide +kernel
theorem dX12_branchesOf_9 : decode cX12_branchesOf 9 = .ok (.iload_n 3, 1) := by decide +kernel
theorem dX12_branchesOf_10 : decode cX12_branchesOf 10 = .ok (.aload_n 0, 1) := by decide +kernel
theorem dX12_branchesOf_11 : decode cX12_branchesOf 11 = .ok (.getfield 7, 3) := by decide +kernel
theorem dX12_branchesOf_14 : decode cX12_branchesOf 14 = .ok (.iload_n 1, 1) := by decide +kernel
theorem dX12_branchesOf_15 : decode cX12_branchesOf 15 = .ok (.iconst 1, 1) := by decide +kernel
theorem dX12_branchesOf_16 : decode cX12_branchesOf 16 = .ok (.iadd, 1) := by decide +kernel
theorem dX12_branchesOf_17 : decode cX12_branchesOf 17 = .ok (.iaload, 1) := by decide +kernel
theorem dX12_branchesOf_18 : decode cX12_branchesOf 18 = .ok (.if_icmp .ge 26, 3) := by decide +kernel
theorem dX12_branchesOf_21 : decode cX12_branchesOf 21 = .ok (.iload_n 2, 1) := by decide +kernel
theorem dX12_branchesOf_22 : decode cX12_branchesOf 22 = .ok (.aload_n 0, 1) := by decide +kernel
theorem dX12_branchesOf_23 : decode cX12_branchesOf 23 = .ok (.getfield 98, 3) := by decide +kernel
theorem dX12_branchesOf_26 : decode cX12_branchesOf 26 = .ok (.iload_n 3, 1) := by decide +kernel
theorem dX12_branchesOf_27 : decode cX12_branchesOf 27 = .ok (.iaload, 1) := by decide +kernel
theorem dX12_branchesOf_28 : decode cX12_branchesOf 28 = .ok (.ifCond .ne 7, 3) := by decide +kernel
theorem dX12_branchesOf_31 : decode cX12_branchesOf 31 = .ok (.iconst 1, 1) := by decide +kernel
theorem dX12_branchesOf_32 : decode cX12_branchesOf 32 = .ok (.goto 4, 3) := by decide +kernel
theorem dX12_branchesOf_35 : decode cX12_branchesOf 35 = .ok (.iconst 0, 1) := by decide +kernel
theorem dX12_branchesOf_36 : decode cX12_branchesOf 36 = .ok (.iadd, 1) := by decide +kernel
theorem dX12_branchesOf_37 : decode cX12_branchesOf 37 = .ok (.istore_n 2, 1) := by decide +kernel
theorem dX12_branchesOf_38 : decode cX12_branchesOf 38 = .ok (.iinc 3 1, 3) := by decide +kernel
theorem dX12_branchesOf_41 : decode cX12_branchesOf 41 = .ok (.goto (-32), 3) := by decide +kernel
theorem dX12_branchesOf_44 : decode cX12_branchesOf 44 = .ok (.iload_n 2, 1) := by decide +kernel
theorem dX12_branchesOf_45 : decode cX12_branchesOf 45 = .ok (.ireturn, 1) := by decide +kernel
theorem dX12_grown_0 : decode cX12_grown 0 = .ok (.aload_n 0, 1) := by decide +kernel
theorem dX12_grown_1 : decode cX12_grown 1 = .ok (.lload_n 1, 1) := by decide +kernel
theorem dX12_grown_2 : decode cX12_grown 2 = .ok (.invokevirtual 474, 3) := by decide +kernel
theorem dX12_grown_5 : decode cX12_grown 5 = .ok (.istore 4, 2) := by decide +kernel
theorem dX12_grown_7 : decode cX12_grown 7 = .ok (.iload 4, 2) := by decide +kernel
theorem dX12_grown_9 : decode cX12_grown 9 = .ok (.ifCond .eq 6, 3) := by decide +kernel
theorem dX12_grown_12 : decode cX12_grown 12 = .ok (.iload 4, 2) := by decide +kernel
theorem dX12_grown_14 : decode cX12_grown 14 = .ok (.ireturn, 1) := by decide +kernel
theorem dX12_grown_15 : decode cX12_grown 15 = .ok (.iload_n 3, 1) := by decide +kernel
theorem dX12_grown_16 : decode cX12_grown 16 = .ok (.i2l, 1) := by decide +kernel
theorem dX12_grown_17 : decode cX12_grown 17 = .ok (.lconst 0, 1) := by decide +kernel
theorem dX12_grown_18 : decode cX12_grown 18 = .ok (.lconst 1, 1) := by decide +kernel
theorem dX12_grown_19 : decode cX12_grown 19 = .ok (.invokestatic 14, 3) := by decide +kernel
theorem dX12_grown_22 : decode cX12_grown 22 = .ok (.ifCond .ne 6, 3) := by decide +kernel
theorem dX12_grown_25 : decode cX12_grown 25 = .ok (.bipush (-2), 2) := by decide +kernel
theorem dX12_grown_27 : decode cX12_grown 27 = .ok (.ireturn, 1) := by decide +kernel
theorem dX12_grown_28 : decode cX12_grown 28 = .ok (.iload_n 3, 1) := by decide +kernel
theorem dX12_grown_29 : decode cX12_grown 29 = .ok (.ifCond .ne 10, 3) := by decide +kernel
theorem dX12_grown_32 : decode cX12_grown 32 = .ok (.aload_n 0, 1) := by decide +kernel
theorem dX12_grown_33 : decode cX12_grown 33 = .ok (.iconst 0, 1) := by decide +kernel
theorem dX12_grown_34 : decode cX12_grown 34 = .ok (.iconst 0, 1) := by decide +kernel
theorem dX12_grown_35 : decode cX12_grown 35 = .ok (.invokevirtual 496, 3) := by decide +kernel
theorem dX12_grown_38 : decode cX12_grown 38 = .ok (.ireturn, 1) := by decide +kernel
theorem dX12_grown_39 : decode cX12_grown 39 = .ok (.iconst 0, 1) := by decide +kernel
theorem dX12_grown_40 : decode cX12_grown 40 = .ok (.istore 5, 2) := by decide +kernel
theorem dX12_grown_42 : decode cX12_grown 42 = .ok (.iconst 0, 1) := by decide +kernel
theorem dX12_grown_43 : decode cX12_grown 43 = .ok (.istore 6, 2) := by decide +kernel
theorem dX12_grown_45 : decode cX12_grown 45 = .ok (.iload 6, 2) := by decide +kernel
theorem dX12_grown_47 : decode cX12_grown 47 = .ok (.aload_n 0, 1) := by decide +kernel
theorem dX12_grown_48 : decode cX12_grown 48 = .ok (.getfield 450, 3) := by decide +kernel
theorem dX12_grown_51 : decode cX12_grown 51 = .ok (.if_icmp .ge 25, 3) := by decide +kernel
theorem dX12_grown_54 : decode cX12_grown 54 = .ok (.iload 5, 2) := by decide +kernel
theorem dX12_grown_56 : decode cX12_grown 56 = .ok (.aload_n 0, 1) := by decide +kernel
theorem dX12_grown_57 : decode cX12_grown 57 = .ok (.aload_n 0, 1) := by decide +kernel
theorem dX12_grown_58 : decode cX12_grown 58 = .ok (.getfield 214, 3) := by decide +kernel
theorem dX12_grown_61 : decode cX12_grown 61 = .ok (.iload 6, 2) := by decide +kernel
theorem dX12_grown_63 : decode cX12_grown 63 = .ok (.iaload, 1) := by decide +kernel
theorem dX12_grown_64 : decode cX12_grown 64 = .ok (.invokevirtual 502, 3) := by decide +kernel
theorem dX12_grown_67 : decode cX12_grown 67 = .ok (.iadd, 1) := by decide +kernel
theorem dX12_grown_68 : decode cX12_grown 68 = .ok (.istore 5, 2) := by decide +kernel
theorem dX12_grown_70 : decode cX12_grown 70 = .ok (.iinc 6 1, 3) := by decide +kernel
theorem dX12_grown_73 : decode cX12_grown 73 = .ok (.goto (-28), 3) := by decide +kernel
theorem dX12_grown_76 : decode cX12_grown 76 = .ok (.iload 5, 2) := by decide +kernel
theorem dX12_grown_78 : decode cX12_grown 78 = .ok (.ireturn, 1) := by decide +kernel
theorem dX12_puts_0 : decode cX12_puts 0 = .ok (.aload_n 0, 1) := by decide +kernel
theorem dX12_puts_1 : decode cX12_puts 1 = .ok (.getfield 235, 3) := by decide +kernel
theorem dX12_puts_4 : decode cX12_puts 4 = .ok (.aload_n 0, 1) := by decide +kernel
theorem dX12_puts_5 : decode cX12_puts 5 = .ok (.getfield 361, 3) := by decide +kernel
theorem dX12_puts_8 : decode cX12_puts 8 = .ok (.iload_n 1, 1) := by decide +kernel
theorem dX12_puts_9 : decode cX12_puts 9 = .ok (.i2b, 1) := by decide +kernel
theorem dX12_puts_10 : decode cX12_puts 10 = .ok (.bastore, 1) := by decide +kernel
theorem dX12_puts_11 : decode cX12_puts 11 = .ok (.aload_n 0, 1) := by decide +kernel
theorem dX12_puts_12 : decode cX12_puts 12 = .ok (.dup, 1) := by decide +kernel
theorem dX12_puts_13 : decode cX12_puts 13 = .ok (.getfield 361, 3) := by decide +kernel
theorem dX12_puts_16 : decode cX12_puts 16 = .ok (.iconst 1, 1) := by decide +kernel
theorem dX12_puts_17 : decode cX12_puts 17 = .ok (.iadd, 1) := by decide +kernel
theorem dX12_puts_18 : decode cX12_puts 18 = .ok (.putfield 361, 3) := by decide +kernel
theorem dX12_puts_21 : decode cX12_puts 21 = .ok (.return_, 1) := by decide +kernel
theorem dX12_signs_0 : decode cX12_signs 0 = .ok (.aload_n 0, 1) := by decide +kernel
theorem dX12_signs_1 : decode cX12_signs 1 = .ok (.getfield 505, 3) := by decide +kernel
theorem dX12_signs_4 : decode cX12_signs 4 = .ok (.ifCond .ne 8, 3) := by decide +kernel
theorem dX12_signs_7 : decode cX12_signs 7 = .ok (.aload_n 0, 1) := by decide +kernel
theorem dX12_signs_8 : decode cX12_signs 8 = .ok (.iload_n 1, 1) := by decide +kernel
theorem dX12_signs_9 : decode cX12_signs 9 = .ok (.invokevirtual 509, 3) := by decide +kernel
theorem dX12_signs_12 : decode cX12_signs 12 = .ok (.return_, 1) := by decide +kernel
theorem dX12_tellsAbove_0 : decode cX12_tellsAbove 0 = .ok (.aload_n 0, 1) := by decide +kernel
theorem dX12_tellsAbove_1 : decode cX12_tellsAbove 1 = .ok (.iload_n 1, 1) := by decide +kernel
theorem dX12_tellsAbove_2 : decode cX12_tellsAbove 2 = .ok (.iload_n 2, 1) := by decide +kernel
theorem dX12_tellsAbove_3 : decode cX12_tellsAbove 3 = .ok (.invokevirtual 493, 3) := by decide +kernel
theorem dX12_tellsAbove_6 : decode cX12_tellsAbove 6 = .ok (.istore_n 3, 1) := by decide +kernel
theorem dX12_tellsAbove_7 : decode cX12_tellsAbove 7 = .ok (.aload_n 0, 1) := by decide +kernel
theorem dX12_tellsAbove_8 : decode cX12_tellsAbove 8 = .ok (.getfield 7, 3) := by decide +kernel
theorem dX12_tellsAbove_11 : decode cX12_tellsAbove 11 = .ok (.aload_n 0, 1) := by decide +kernel
theorem dX12_tellsAbove_12 : decode cX12_tellsAbove 12 = .ok (.getfield 214, 3) := by decide +kernel
theorem dX12_tellsAbove_15 : decode cX12_tellsAbove 15 = .ok (.iload_n 1, 1) := by decide +kernel
theorem dX12_tellsAbove_16 : decode cX12_tellsAbove 16 = .ok (.iaload, 1) := by decide +kernel
theorem dX12_tellsAbove_17 : decode cX12_tellsAbove 17 = .ok (.iaload, 1) := by decide +kernel
theorem dX12_tellsAbove_18 : decode cX12_tellsAbove 18 = .ok (.iload_n 2, 1) := by decide +kernel
theorem dX12_tellsAbove_19 : decode cX12_tellsAbove 19 = .ok (.iadd, 1) := by decide +kernel
theorem dX12_tellsAbove_20 : decode cX12_tellsAbove 20 = .ok (.istore 4, 2) := by decide +kernel
theorem dX12_tellsAbove_22 : decode cX12_tellsAbove 22 = .ok (.aload_n 0, 1) := by decide +kernel
theorem dX12_tellsAbove_23 : decode cX12_tellsAbove 23 = .ok (.getfield 98, 3) := by decide +kernel
theorem dX12_tellsAbove_26 : decode cX12_tellsAbove 26 = .ok (.iload 4, 2) := by decide +kernel
theorem dX12_tellsAbove_28 : decode cX12_tellsAbove 28 = .ok (.iaload, 1) := by decide +kernel
theorem dX12_tellsAbove_29 : decode cX12_tellsAbove 29 = .ok (.tableswitch 99 0 3 #[31, 54, 71, 80], 31) := by decide +kernel
theorem dX12_tellsAbove_60 : decode cX12_tellsAbove 60 = .ok (.iload_n 3, 1) := by decide +kernel
theorem dX12_tellsAbove_61 : decode cX12_tellsAbove 61 = .ok (.iconst (-1), 1) := by decide +kernel
theorem dX12_tellsAbove_62 : decode cX12_tellsAbove 62 = .ok (.if_icmp .eq 12, 3) := by decide +kernel
theorem dX12_tellsAbove_65 : decode cX12_tellsAbove 65 = .ok (.aload_n 0, 1) := by decide +kernel
theorem dX12_tellsAbove_66 : decode cX12_tellsAbove 66 = .ok (.iload_n 3, 1) := by decide +kernel
theorem dX12_tellsAbove_67 : decode cX12_tellsAbove 67 = .ok (.iconst 0, 1) := by decide +kernel
theorem dX12_tellsAbove_68 : decode cX12_tellsAbove 68 = .ok (.invokevirtual 512, 3) := by decide +kernel
theorem dX12_tellsAbove_71 : decode cX12_tellsAbove 71 = .ok (.goto 63, 3) := by decide +kernel
theorem dX12_tellsAbove_74 : decode cX12_tellsAbove 74 = .ok (.aload_n 0, 1) := by decide +kernel
theorem dX12_tellsAbove_75 : decode cX12_tellsAbove 75 = .ok (.iload_n 1, 1) := by decide +kernel
theorem dX12_tellsAbove_76 : decode cX12_tellsAbove 76 = .ok (.iload_n 2, 1) := by decide +kernel
theorem dX12_tellsAbove_77 : decode cX12_tellsAbove 77 = .ok (.invokevirtual 515, 3) := by decide +kernel
theorem dX12_tellsAbove_80 : decode cX12_tellsAbove 80 = .ok (.goto 54, 3) := by decide +kernel
theorem dX12_tellsAbove_83 : decode cX12_tellsAbove 83 = .ok (.aload_n 0, 1) := by decide +kernel
theorem dX12_tellsAbove_84 : decode cX12_tellsAbove 84 = .ok (.bipush 97, 2) := by decide +kernel
theorem dX12_tellsAbove_86 : decode cX12_tellsAbove 86 = .ok (.aload_n 0, 1) := by decide +kernel
theorem dX12_tellsAbove_87 : decode cX12_tellsAbove 87 = .ok (.getfield 101, 3) := by decide +kernel
theorem dX12_tellsAbove_90 : decode cX12_tellsAbove 90 = .ok (.iload 4, 2) := by decide +kernel
theorem dX12_tellsAbove_92 : decode cX12_tellsAbove 92 = .ok (.iaload, 1) := by decide +kernel
theorem dX12_tellsAbove_93 : decode cX12_tellsAbove 93 = .ok (.iadd, 1) := by decide +kernel
theorem dX12_tellsAbove_94 : decode cX12_tellsAbove 94 = .ok (.invokevirtual 509, 3) := by decide +kernel
theorem dX12_tellsAbove_97 : decode cX12_tellsAbove 97 = .ok (.goto 37, 3) := by decide +kernel
theorem dX12_tellsAbove_100 : decode cX12_tellsAbove 100 = .ok (.aload_n 0, 1) := by decide +kernel
theorem dX12_tellsAbove_101 : decode cX12_tellsAbove 101 = .ok (.bipush 46, 2) := by decide +kernel
theorem dX12_tellsAbove_103 : decode cX12_tellsAbove 103 = .ok (.invokevirtual 518, 3) := by decide +kernel
theorem dX12_tellsAbove_106 : decode cX12_tellsAbove 106 = .ok (.goto 28, 3) := by decide +kernel
theorem dX12_tellsAbove_109 : decode cX12_tellsAbove 109 = .ok (.aload_n 0, 1) := by decide +kernel
theorem dX12_tellsAbove_110 : decode cX12_tellsAbove 110 = .ok (.aload_n 0, 1) := by decide +kernel
theorem dX12_tellsAbove_111 : decode cX12_tellsAbove 111 = .ok (.getfield 217, 3) := by decide +kernel
theorem dX12_tellsAbove_114 : decode cX12_tellsAbove 114 = .ok (.iload_n 1, 1) := by decide +kernel
theorem dX12_tellsAbove_115 : decode cX12_tellsAbove 115 = .ok (.iaload, 1) := by decide +kernel
theorem dX12_tellsAbove_116 : decode cX12_tellsAbove 116 = .ok (.aload_n 0, 1) := by decide +kernel
theorem dX12_tellsAbove_117 : decode cX12_tellsAbove 117 = .ok (.getfield 220, 3) := by decide +kernel
theorem dX12_tellsAbove_120 : decode cX12_tellsAbove 120 = .ok (.iload_n 1, 1) := by decide +kernel
theorem dX12_tellsAbove_121 : decode cX12_tellsAbove 121 = .ok (.iaload, 1) := by decide +kernel
theorem dX12_tellsAbove_122 : decode cX12_tellsAbove 122 = .ok (.invokevirtual 515, 3) := by decide +kernel
theorem dX12_tellsAbove_125 : decode cX12_tellsAbove 125 = .ok (.goto 9, 3) := by decide +kernel
theorem dX12_tellsAbove_128 : decode cX12_tellsAbove 128 = .ok (.aload_n 0, 1) := by decide +kernel
theorem dX12_tellsAbove_129 : decode cX12_tellsAbove 129 = .ok (.iload_n 3, 1) := by decide +kernel
theorem dX12_tellsAbove_130 : decode cX12_tellsAbove 130 = .ok (.iconst 0, 1) := by decide +kernel
theorem dX12_tellsAbove_131 : decode cX12_tellsAbove 131 = .ok (.invokevirtual 512, 3) := by decide +kernel
theorem dX12_tellsAbove_134 : decode cX12_tellsAbove 134 = .ok (.return_, 1) := by decide +kernel
theorem dX12_tellsBelow_0 : decode cX12_tellsBelow 0 = .ok (.aload_n 0, 1) := by decide +kernel
theorem dX12_tellsBelow_1 : decode cX12_tellsBelow 1 = .ok (.getfield 214, 3) := by decide +kernel
theorem dX12_tellsBelow_4 : decode cX12_tellsBelow 4 = .ok (.iload_n 1, 1) := by decide +kernel
theorem dX12_tellsBelow_5 : decode cX12_tellsBelow 5 = .ok (.iaload, 1) := by decide +kernel
theorem dX12_tellsBelow_6 : decode cX12_tellsBelow 6 = .ok (.istore_n 3, 1) := by decide +kernel
theorem dX12_tellsBelow_7 : decode cX12_tellsBelow 7 = .ok (.aload_n 0, 1) := by decide +kernel
theorem dX12_tellsBelow_8 : decode cX12_tellsBelow 8 = .ok (.getfield 7, 3) := by decide +kernel
theorem dX12_tellsBelow_11 : decode cX12_tellsBelow 11 = .ok (.iload_n 3, 1) := by decide +kernel
theorem dX12_tellsBelow_12 : decode cX12_tellsBelow 12 = .ok (.iaload, 1) := by decide +kernel
theorem dX12_tellsBelow_13 : decode cX12_tellsBelow 13 = .ok (.iload_n 2, 1) := by decide +kernel
theorem dX12_tellsBelow_14 : decode cX12_tellsBelow 14 = .ok (.iadd, 1) := by decide +kernel
theorem dX12_tellsBelow_15 : decode cX12_tellsBelow 15 = .ok (.istore 4, 2) := by decide +kernel
theorem dX12_tellsBelow_17 : decode cX12_tellsBelow 17 = .ok (.aload_n 0, 1) := by decide +kernel
theorem dX12_tellsBelow_18 : decode cX12_tellsBelow 18 = .ok (.bipush 40, 2) := by decide +kernel
theorem dX12_tellsBelow_20 : decode cX12_tellsBelow 20 = .ok (.invokevirtual 518, 3) := by decide +kernel
theorem dX12_tellsBelow_23 : decode cX12_tellsBelow 23 = .ok (.aload_n 0, 1) := by decide +kernel
theorem dX12_tellsBelow_24 : decode cX12_tellsBelow 24 = .ok (.bipush 65, 2) := by decide +kernel
theorem dX12_tellsBelow_26 : decode cX12_tellsBelow 26 = .ok (.aload_n 0, 1) := by decide +kernel
theorem dX12_tellsBelow_27 : decode cX12_tellsBelow 27 = .ok (.getfield 101, 3) := by decide +kernel
theorem dX12_tellsBelow_30 : decode cX12_tellsBelow 30 = .ok (.iload 4, 2) := by decide +kernel
theorem dX12_tellsBelow_32 : decode cX12_tellsBelow 32 = .ok (.iaload, 1) := by decide +kernel
theorem dX12_tellsBelow_33 : decode cX12_tellsBelow 33 = .ok (.iadd, 1) := by decide +kernel
theorem dX12_tellsBelow_34 : decode cX12_tellsBelow 34 = .ok (.invokevirtual 518, 3) := by decide +kernel
theorem dX12_tellsBelow_37 : decode cX12_tellsBelow 37 = .ok (.aload_n 0, 1) := by decide +kernel
theorem dX12_tellsBelow_38 : decode cX12_tellsBelow 38 = .ok (.bipush 32, 2) := by decide +kernel
theorem dX12_tellsBelow_40 : decode cX12_tellsBelow 40 = .ok (.invokevirtual 518, 3) := by decide +kernel
theorem dX12_tellsBelow_43 : decode cX12_tellsBelow 43 = .ok (.aload_n 0, 1) := by decide +kernel
theorem dX12_tellsBelow_44 : decode cX12_tellsBelow 44 = .ok (.iload_n 1, 1) := by decide +kernel
theorem dX12_tellsBelow_45 : decode cX12_tellsBelow 45 = .ok (.aload_n 0, 1) := by decide +kernel
theorem dX12_tellsBelow_46 : decode cX12_tellsBelow 46 = .ok (.iload_n 3, 1) := by decide +kernel
theorem dX12_tellsBelow_47 : decode cX12_tellsBelow 47 = .ok (.aload_n 0, 1) := by decide +kernel
theorem dX12_tellsBelow_48 : decode cX12_tellsBelow 48 = .ok (.getfield 107, 3) := by decide +kernel
theorem dX12_tellsBelow_51 : decode cX12_tellsBelow 51 = .ok (.iload 4, 2) := by decide +kernel
theorem dX12_tellsBelow_53 : decode cX12_tellsBelow 53 = .ok (.iaload, 1) := by decide +kernel
theorem dX12_tellsBelow_54 : decode cX12_tellsBelow 54 = .ok (.invokevirtual 368, 3) := by decide +kernel
theorem dX12_tellsBelow_57 : decode cX12_tellsBelow 57 = .ok (.invokevirtual 512, 3) := by decide +kernel
theorem dX12_tellsBelow_60 : decode cX12_tellsBelow 60 = .ok (.aload_n 0, 1) := by decide +kernel
theorem dX12_tellsBelow_61 : decode cX12_tellsBelow 61 = .ok (.getfield 110, 3) := by decide +kernel
theorem dX12_tellsBelow_64 : decode cX12_tellsBelow 64 = .ok (.iload 4, 2) := by decide +kernel
theorem dX12_tellsBelow_66 : decode cX12_tellsBelow 66 = .ok (.iaload, 1) := by decide +kernel
theorem dX12_tellsBelow_67 : decode cX12_tellsBelow 67 = .ok (.iconst (-1), 1) := by decide +kernel
theorem dX12_tellsBelow_68 : decode cX12_tellsBelow 68 = .ok (.if_icmp .eq 26, 3) := by decide +kernel
theorem dX12_tellsBelow_71 : decode cX12_tellsBelow 71 = .ok (.aload_n 0, 1) := by decide +kernel
theorem dX12_tellsBelow_72 : decode cX12_tellsBelow 72 = .ok (.bipush 32, 2) := by decide +kernel
theorem dX12_tellsBelow_74 : decode cX12_tellsBelow 74 = .ok (.invokevirtual 518, 3) := by decide +kernel
theorem dX12_tellsBelow_77 : decode cX12_tellsBelow 77 = .ok (.aload_n 0, 1) := by decide +kernel
theorem dX12_tellsBelow_78 : decode cX12_tellsBelow 78 = .ok (.iload_n 1, 1) := by decide +kernel
theorem dX12_tellsBelow_79 : decode cX12_tellsBelow 79 = .ok (.aload_n 0, 1) := by decide +kernel
theorem dX12_tellsBelow_80 : decode cX12_tellsBelow 80 = .ok (.iload_n 3, 1) := by decide +kernel
theorem dX12_tellsBelow_81 : decode cX12_tellsBelow 81 = .ok (.aload_n 0, 1) := by decide +kernel
theorem dX12_tellsBelow_82 : decode cX12_tellsBelow 82 = .ok (.getfield 110, 3) := by decide +kernel
theorem dX12_tellsBelow_85 : decode cX12_tellsBelow 85 = .ok (.iload 4, 2) := by decide +kernel
theorem dX12_tellsBelow_87 : decode cX12_tellsBelow 87 = .ok (.iaload, 1) := by decide +kernel
theorem dX12_tellsBelow_88 : decode cX12_tellsBelow 88 = .ok (.invokevirtual 368, 3) := by decide +kernel
theorem dX12_tellsBelow_91 : decode cX12_tellsBelow 91 = .ok (.invokevirtual 512, 3) := by decide +kernel
theorem dX12_tellsBelow_94 : decode cX12_tellsBelow 94 = .ok (.aload_n 0, 1) := by decide +kernel
theorem dX12_tellsBelow_95 : decode cX12_tellsBelow 95 = .ok (.bipush 41, 2) := by decide +kernel
theorem dX12_tellsBelow_97 : decode cX12_tellsBelow 97 = .ok (.invokevirtual 518, 3) := by decide +kernel
theorem dX12_tellsBelow_100 : decode cX12_tellsBelow 100 = .ok (.return_, 1) := by decide +kernel
theorem dX12_tellsNumber_0 : decode cX12_tellsNumber 0 = .ok (.iload_n 1, 1) := by decide +kernel
theorem dX12_tellsNumber_1 : decode cX12_tellsNumber 1 = .ok (.bipush 99, 2) := by decide +kernel
theorem dX12_tellsNumber_3 : decode cX12_tellsNumber 3 = .ok (.if_icmp .le 14, 3) := by decide +kernel
theorem dX12_tellsNumber_6 : decode cX12_tellsNumber 6 = .ok (.aload_n 0, 1) := by decide +kernel
theorem dX12_tellsNumber_7 : decode cX12_tellsNumber 7 = .ok (.bipush 48, 2) := by decide +kernel
theorem dX12_tellsNumber_9 : decode cX12_tellsNumber 9 = .ok (.iload_n 1, 1) := by decide +kernel
theorem dX12_tellsNumber_10 : decode cX12_tellsNumber 10 = .ok (.bipush 100, 2) := by decide +kernel
theorem dX12_tellsNumber_12 : decode cX12_tellsNumber 12 = .ok (.idiv, 1) := by decide +kernel
theorem dX12_tellsNumber_13 : decode cX12_tellsNumber 13 = .ok (.iadd, 1) := by decide +kernel
theorem dX12_tellsNumber_14 : decode cX12_tellsNumber 14 = .ok (.invokevirtual 509, 3) := by decide +kernel
theorem dX12_tellsNumber_17 : decode cX12_tellsNumber 17 = .ok (.iload_n 1, 1) := by decide +kernel
theorem dX12_tellsNumber_18 : decode cX12_tellsNumber 18 = .ok (.bipush 9, 2) := by decide +kernel
theorem dX12_tellsNumber_20 : decode cX12_tellsNumber 20 = .ok (.if_icmp .le 17, 3) := by decide +kernel
theorem dX12_tellsNumber_23 : decode cX12_tellsNumber 23 = .ok (.aload_n 0, 1) := by decide +kernel
theorem dX12_tellsNumber_24 : decode cX12_tellsNumber 24 = .ok (.bipush 48, 2) := by decide +kernel
theorem dX12_tellsNumber_26 : decode cX12_tellsNumber 26 = .ok (.iload_n 1, 1) := by decide +kernel
theorem dX12_tellsNumber_27 : decode cX12_tellsNumber 27 = .ok (.bipush 10, 2) := by decide +kernel
theorem dX12_tellsNumber_29 : decode cX12_tellsNumber 29 = .ok (.idiv, 1) := by decide +kernel
theorem dX12_tellsNumber_30 : decode cX12_tellsNumber 30 = .ok (.bipush 10, 2) := by decide +kernel
theorem dX12_tellsNumber_32 : decode cX12_tellsNumber 32 = .ok (.irem, 1) := by decide +kernel
theorem dX12_tellsNumber_33 : decode cX12_tellsNumber 33 = .ok (.iadd, 1) := by decide +kernel
theorem dX12_tellsNumber_34 : decode cX12_tellsNumber 34 = .ok (.invokevirtual 509, 3) := by decide +kernel
theorem dX12_tellsNumber_37 : decode cX12_tellsNumber 37 = .ok (.aload_n 0, 1) := by decide +kernel
theorem dX12_tellsNumber_38 : decode cX12_tellsNumber 38 = .ok (.bipush 48, 2) := by decide +kernel
theorem dX12_tellsNumber_40 : decode cX12_tellsNumber 40 = .ok (.iload_n 1, 1) := by decide +kernel
theorem dX12_tellsNumber_41 : decode cX12_tellsNumber 41 = .ok (.bipush 10, 2) := by decide +kernel
theorem dX12_tellsNumber_43 : decode cX12_tellsNumber 43 = .ok (.irem, 1) := by decide +kernel
theorem dX12_tellsNumber_44 : decode cX12_tellsNumber 44 = .ok (.iadd, 1) := by decide +kernel
theorem dX12_tellsNumber_45 : decode cX12_tellsNumber 45 = .ok (.invokevirtual 509, 3) := by decide +kernel
theorem dX12_tellsNumber_48 : decode cX12_tellsNumber 48 = .ok (.return_, 1) := by decide +kernel
theorem dX12_tell_0 : decode cX12_tell 0 = .ok (.aload_n 0, 1) := by decide +kernel
theorem dX12_tell_1 : decode cX12_tell 1 = .ok (.lload_n 1, 1) := by decide +kernel
theorem dX12_tell_2 : decode cX12_tell 2 = .ok (.invokevirtual 474, 3) := by decide +kernel
theorem dX12_tell_5 : decode cX12_tell 5 = .ok (.istore_n 3, 1) := by decide +kernel
theorem dX12_tell_6 : decode cX12_tell 6 = .ok (.iload_n 3, 1) := by decide +kernel
theorem dX12_tell_7 : decode cX12_tell 7 = .ok (.ifCond .eq 5, 3) := by decide +kernel
theorem dX12_tell_10 : decode cX12_tell 10 = .ok (.iload_n 3, 1) := by decide +kernel
theorem dX12_tell_11 : decode cX12_tell 11 = .ok (.ireturn, 1) := by decide +kernel
theorem dX12_tell_12 : decode cX12_tell 12 = .ok (.aload_n 0, 1) := by decide +kernel
theorem dX12_tell_13 : decode cX12_tell 13 = .ok (.iconst 0, 1) := by decide +kernel
theorem dX12_tell_14 : decode cX12_tell 14 = .ok (.putfield 361, 3) := by decide +kernel
theorem dX12_tell_17 : decode cX12_tell 17 = .ok (.aload_n 0, 1) := by decide +kernel
theorem dX12_tell_18 : decode cX12_tell 18 = .ok (.iconst 0, 1) := by decide +kernel
theorem dX12_tell_19 : decode cX12_tell 19 = .ok (.putfield 505, 3) := by decide +kernel
theorem dX12_tell_22 : decode cX12_tell 22 = .ok (.aload_n 0, 1) := by decide +kernel
theorem dX12_tell_23 : decode cX12_tell 23 = .ok (.iconst 0, 1) := by decide +kernel
theorem dX12_tell_24 : decode cX12_tell 24 = .ok (.iconst 0, 1) := by decide +kernel
theorem dX12_tell_25 : decode cX12_tell 25 = .ok (.invokevirtual 512, 3) := by decide +kernel
theorem dX12_tell_28 : decode cX12_tell 28 = .ok (.aload_n 0, 1) := by decide +kernel
theorem dX12_tell_29 : decode cX12_tell 29 = .ok (.getfield 361, 3) := by decide +kernel
theorem dX12_tell_32 : decode cX12_tell 32 = .ok (.ireturn, 1) := by decide +kernel
theorem dX12_tellWay_0 : decode cX12_tellWay 0 = .ok (.aload_n 0, 1) := by decide +kernel
theorem dX12_tellWay_1 : decode cX12_tellWay 1 = .ok (.lload_n 1, 1) := by decide +kernel
theorem dX12_tellWay_2 : decode cX12_tellWay 2 = .ok (.invokevirtual 474, 3) := by decide +kernel
theorem dX12_tellWay_5 : decode cX12_tellWay 5 = .ok (.istore_n 3, 1) := by decide +kernel
theorem dX12_tellWay_6 : decode cX12_tellWay 6 = .ok (.iload_n 3, 1) := by decide +kernel
theorem dX12_tellWay_7 : decode cX12_tellWay 7 = .ok (.ifCond .eq 5, 3) := by decide +kernel
theorem dX12_tellWay_10 : decode cX12_tellWay 10 = .ok (.iload_n 3, 1) := by decide +kernel
theorem dX12_tellWay_11 : decode cX12_tellWay 11 = .ok (.ireturn, 1) := by decide +kernel
theorem dX12_tellWay_12 : decode cX12_tellWay 12 = .ok (.aload_n 0, 1) := by decide +kernel
theorem dX12_tellWay_13 : decode cX12_tellWay 13 = .ok (.iconst 0, 1) := by decide +kernel
theorem dX12_tellWay_14 : decode cX12_tellWay 14 = .ok (.putfield 361, 3) := by decide +kernel
theorem dX12_tellWay_17 : decode cX12_tellWay 17 = .ok (.iconst 0, 1) := by decide +kernel
theorem dX12_tellWay_18 : decode cX12_tellWay 18 = .ok (.istore 4, 2) := by decide +kernel
theorem dX12_tellWay_20 : decode cX12_tellWay 20 = .ok (.iload 4, 2) := by decide +kernel
theorem dX12_tellWay_22 : decode cX12_tellWay 22 = .ok (.aload_n 0, 1) := by decide +kernel
theorem dX12_tellWay_23 : decode cX12_tellWay 23 = .ok (.getfield 450, 3) := by decide +kernel
theorem dX12_tellWay_26 : decode cX12_tellWay 26 = .ok (.if_icmp .ge 65, 3) := by decide +kernel
theorem dX12_tellWay_29 : decode cX12_tellWay 29 = .ok (.aload_n 0, 1) := by decide +kernel
theorem dX12_tellWay_30 : decode cX12_tellWay 30 = .ok (.aload_n 0, 1) := by decide +kernel
theorem dX12_tellWay_31 : decode cX12_tellWay 31 = .ok (.getfield 214, 3) := by decide +kernel
theorem dX12_tellWay_34 : decode cX12_tellWay 34 = .ok (.iload 4, 2) := by decide +kernel
theorem dX12_tellWay_36 : decode cX12_tellWay 36 = .ok (.iaload, 1) := by decide +kernel
theorem dX12_tellWay_37 : decode cX12_tellWay 37 = .ok (.invokevirtual 521, 3) := by decide +kernel
theorem dX12_tellWay_40 : decode cX12_tellWay 40 = .ok (.iload 4, 2) := by decide +kernel
theorem dX12_tellWay_42 : decode cX12_tellWay 42 = .ok (.ifCond .le 37, 3) := by decide +kernel
theorem dX12_tellWay_45 : decode cX12_tellWay 45 = .ok (.aload_n 0, 1) := by decide +kernel
theorem dX12_tellWay_46 : decode cX12_tellWay 46 = .ok (.bipush 32, 2) := by decide +kernel
theorem dX12_tellWay_48 : decode cX12_tellWay 48 = .ok (.invokevirtual 509, 3) := by decide +kernel
theorem dX12_tellWay_51 : decode cX12_tellWay 51 = .ok (.aload_n 0, 1) := by decide +kernel
theorem dX12_tellWay_52 : decode cX12_tellWay 52 = .ok (.aload_n 0, 1) := by decide +kernel
theorem dX12_tellWay_53 : decode cX12_tellWay 53 = .ok (.getfield 217, 3) := by decide +kernel
theorem dX12_tellWay_56 : decode cX12_tellWay 56 = .ok (.iload 4, 2) := by decide +kernel
theorem dX12_tellWay_58 : decode cX12_tellWay 58 = .ok (.iaload, 1) := by decide +kernel
theorem dX12_tellWay_59 : decode cX12_tellWay 59 = .ok (.invokevirtual 521, 3) := by decide +kernel
theorem dX12_tellWay_62 : decode cX12_tellWay 62 = .ok (.aload_n 0, 1) := by decide +kernel
theorem dX12_tellWay_63 : decode cX12_tellWay 63 = .ok (.bipush 32, 2) := by decide +kernel
theorem dX12_tellWay_65 : decode cX12_tellWay 65 = .ok (.invokevirtual 509, 3) := by decide +kernel
theorem dX12_tellWay_68 : decode cX12_tellWay 68 = .ok (.aload_n 0, 1) := by decide +kernel
theorem dX12_tellWay_69 : decode cX12_tellWay 69 = .ok (.aload_n 0, 1) := by decide +kernel
theorem dX12_tellWay_70 : decode cX12_tellWay 70 = .ok (.getfield 220, 3) := by decide +kernel
theorem dX12_tellWay_73 : decode cX12_tellWay 73 = .ok (.iload 4, 2) := by decide +kernel
theorem dX12_tellWay_75 : decode cX12_tellWay 75 = .ok (.iaload, 1) := by decide +kernel
theorem dX12_tellWay_76 : decode cX12_tellWay 76 = .ok (.invokevirtual 521, 3) := by decide +kernel
theorem dX12_tellWay_79 : decode cX12_tellWay 79 = .ok (.aload_n 0, 1) := by decide +kernel
theorem dX12_tellWay_80 : decode cX12_tellWay 80 = .ok (.bipush 59, 2) := by decide +kernel
theorem dX12_tellWay_82 : decode cX12_tellWay 82 = .ok (.invokevirtual 509, 3) := by decide +kernel
theorem dX12_tellWay_85 : decode cX12_tellWay 85 = .ok (.iinc 4 1, 3) := by decide +kernel
theorem dX12_tellWay_88 : decode cX12_tellWay 88 = .ok (.goto (-68), 3) := by decide +kernel
theorem dX12_tellWay_91 : decode cX12_tellWay 91 = .ok (.aload_n 0, 1) := by decide +kernel
theorem dX12_tellWay_92 : decode cX12_tellWay 92 = .ok (.getfield 361, 3) := by decide +kernel
theorem dX12_tellWay_95 : decode cX12_tellWay 95 = .ok (.ireturn, 1) := by decide +kernel
theorem dX12_octet_0 : decode cX12_octet 0 = .ok (.iload_n 1, 1) := by decide +kernel
theorem dX12_octet_1 : decode cX12_octet 1 = .ok (.i2l, 1) := by decide +kernel
theorem dX12_octet_2 : decode cX12_octet 2 = .ok (.lconst 0, 1) := by decide +kernel
theorem dX12_octet_3 : decode cX12_octet 3 = .ok (.aload_n 0, 1) := by decide +kernel
theorem dX12_octet_4 : decode cX12_octet 4 = .ok (.getfield 361, 3) := by decide +kernel
theorem dX12_octet_7 : decode cX12_octet 7 = .ok (.iconst 1, 1) := by decide +kernel
theorem dX12_octet_8 : decode cX12_octet 8 = .ok (.isub, 1) := by decide +kernel
theorem dX12_octet_9 : decode cX12_octet 9 = .ok (.i2l, 1) := by decide +kernel
theorem dX12_octet_10 : decode cX12_octet 10 = .ok (.invokestatic 14, 3) := by decide +kernel
theorem dX12_octet_13 : decode cX12_octet 13 = .ok (.ifCond .eq 12, 3) := by decide +kernel
theorem dX12_octet_16 : decode cX12_octet 16 = .ok (.aload_n 0, 1) := by decide +kernel
theorem dX12_octet_17 : decode cX12_octet 17 = .ok (.getfield 235, 3) := by decide +kernel
theorem dX12_octet_20 : decode cX12_octet 20 = .ok (.iload_n 1, 1) := by decide +kernel
theorem dX12_octet_21 : decode cX12_octet 21 = .ok (.baload, 1) := by decide +kernel
theorem dX12_octet_22 : decode cX12_octet 22 = .ok (.goto 4, 3) := by decide +kernel
theorem dX12_octet_25 : decode cX12_octet 25 = .ok (.iconst (-1), 1) := by decide +kernel
theorem dX12_octet_26 : decode cX12_octet 26 = .ok (.ireturn, 1) := by decide +kernel
theorem dX12_numberToken_0 : decode cX12_numberToken 0 = .ok (.aload_n 0, 1) := by decide +kernel
theorem dX12_numberToken_1 : decode cX12_numberToken 1 = .ok (.invokevirtual 54, 3) := by decide +kernel
theorem dX12_numberToken_4 : decode cX12_numberToken 4 = .ok (.aload_n 0, 1) := by decide +kernel
theorem dX12_numberToken_5 : decode cX12_numberToken 5 = .ok (.aload_n 0, 1) := by decide +kernel
theorem dX12_numberToken_6 : decode cX12_numberToken 6 = .ok (.getfield 45, 3) := by decide +kernel
theorem dX12_numberToken_9 : decode cX12_numberToken 9 = .ok (.invokevirtual 48, 3) := by decide +kernel
theorem dX12_numberToken_12 : decode cX12_numberToken 12 = .ok (.istore_n 1, 1) := by decide +kernel
theorem dX12_numberToken_13 : decode cX12_numberToken 13 = .ok (.aload_n 0, 1) := by decide +kernel
theorem dX12_numberToken_14 : decode cX12_numberToken 14 = .ok (.iload_n 1, 1) := by decide +kernel
theorem dX12_numberToken_15 : decode cX12_numberToken 15 = .ok (.iconst (-1), 1) := by decide +kernel
theorem dX12_numberToken_16 : decode cX12_numberToken 16 = .ok (.if_icmp .ne 7, 3) := by decide +kernel
theorem dX12_numberToken_19 : decode cX12_numberToken 19 = .ok (.iconst 0, 1) := by decide +kernel
theorem dX12_numberToken_20 : decode cX12_numberToken 20 = .ok (.goto 14, 3) := by decide +kernel
theorem dX12_numberToken_23 : decode cX12_numberToken 23 = .ok (.iload_n 1, 1) := by decide +kernel
theorem dX12_numberToken_24 : decode cX12_numberToken 24 = .ok (.bipush 59, 2) := by decide +kernel
theorem dX12_numberToken_26 : decode cX12_numberToken 26 = .ok (.if_icmp .ne 7, 3) := by decide +kernel
theorem dX12_numberToken_29 : decode cX12_numberToken 29 = .ok (.iconst 4, 1) := by decide +kernel
theorem dX12_numberToken_30 : decode cX12_numberToken 30 = .ok (.goto 4, 3) := by decide +kernel
theorem dX12_numberToken_33 : decode cX12_numberToken 33 = .ok (.iconst 5, 1) := by decide +kernel
theorem dX12_numberToken_34 : decode cX12_numberToken 34 = .ok (.putfield 61, 3) := by decide +kernel
theorem dX12_numberToken_37 : decode cX12_numberToken 37 = .ok (.aload_n 0, 1) := by decide +kernel
theorem dX12_numberToken_38 : decode cX12_numberToken 38 = .ok (.iconst 0, 1) := by decide +kernel
theorem dX12_numberToken_39 : decode cX12_numberToken 39 = .ok (.putfield 58, 3) := by decide +kernel
theorem dX12_numberToken_42 : decode cX12_numberToken 42 = .ok (.aload_n 0, 1) := by decide +kernel
theorem dX12_numberToken_43 : decode cX12_numberToken 43 = .ok (.aload_n 0, 1) := by decide +kernel
theorem dX12_numberToken_44 : decode cX12_numberToken 44 = .ok (.getfield 45, 3) := by decide +kernel
theorem dX12_numberToken_47 : decode cX12_numberToken 47 = .ok (.invokevirtual 48, 3) := by decide +kernel
theorem dX12_numberToken_50 : decode cX12_numberToken 50 = .ok (.i2l, 1) := by decide +kernel
theorem dX12_numberToken_51 : decode cX12_numberToken 51 = .ok (.ldc2_w 524, 3) := by decide +kernel
theorem dX12_numberToken_54 : decode cX12_numberToken 54 = .ok (.ldc2_w 526, 3) := by decide +kernel
theorem dX12_numberToken_57 : decode cX12_numberToken 57 = .ok (.invokestatic 14, 3) := by decide +kernel
theorem dX12_numberToken_60 : decode cX12_numberToken 60 = .ok (.ifCond .eq 51, 3) := by decide +kernel
theorem dX12_numberToken_63 : decode cX12_numberToken 63 = .ok (.aload_n 0, 1) := by decide +kernel
theorem dX12_numberToken_64 : decode cX12_numberToken 64 = .ok (.ldc_w 528, 3) := by decide +kernel
theorem dX12_numberToken_67 : decode cX12_numberToken 67 = .ok (.bipush 10, 2) := by decide +kernel
theorem dX12_numberToken_69 : decode cX12_numberToken 69 = .ok (.aload_n 0, 1) := by decide +kernel
theorem dX12_numberToken_70 : decode cX12_numberToken 70 = .ok (.getfield 58, 3) := by decide +kernel
theorem dX12_numberToken_73 : decode cX12_numberToken 73 = .ok (.imul, 1) := by decide +kernel
theorem dX12_numberToken_74 : decode cX12_numberToken 74 = .ok (.aload_n 0, 1) := by decide +kernel
theorem dX12_numberToken_75 : decode cX12_numberToken 75 = .ok (.aload_n 0, 1) := by decide +kernel
theorem dX12_numberToken_76 : decode cX12_numberToken 76 = .ok (.getfield 45, 3) := by decide +kernel
theorem dX12_numberToken_79 : decode cX12_numberToken 79 = .ok (.invokevirtual 48, 3) := by decide +kernel
theorem dX12_numberToken_82 : decode cX12_numberToken 82 = .ok (.iadd, 1) := by decide +kernel
theorem dX12_numberToken_83 : decode cX12_numberToken 83 = .ok (.bipush 48, 2) := by decide +kernel
theorem dX12_numberToken_85 : decode cX12_numberToken 85 = .ok (.isub, 1) := by decide +kernel
theorem dX12_numberToken_86 : decode cX12_numberToken 86 = .ok (.invokestatic 330, 3) := by decide +kernel
theorem dX12_numberToken_89 : decode cX12_numberToken 89 = .ok (.putfield 58, 3) := by decide +kernel
theorem dX12_numberToken_92 : decode cX12_numberToken 92 = .ok (.aload_n 0, 1) := by decide +kernel
theorem dX12_numberToken_93 : decode cX12_numberToken 93 = .ok (.dup, 1) := by decide +kernel
theorem dX12_numberToken_94 : decode cX12_numberToken 94 = .ok (.getfield 45, 3) := by decide +kernel
theorem dX12_numberToken_97 : decode cX12_numberToken 97 = .ok (.iconst 1, 1) := by decide +kernel
theorem dX12_numberToken_98 : decode cX12_numberToken 98 = .ok (.iadd, 1) := by decide +kernel
theorem dX12_numberToken_99 : decode cX12_numberToken 99 = .ok (.putfield 45, 3) := by decide +kernel
theorem dX12_numberToken_102 : decode cX12_numberToken 102 = .ok (.aload_n 0, 1) := by decide +kernel
theorem dX12_numberToken_103 : decode cX12_numberToken 103 = .ok (.bipush 6, 2) := by decide +kernel
theorem dX12_numberToken_105 : decode cX12_numberToken 105 = .ok (.putfield 61, 3) := by decide +kernel
theorem dX12_numberToken_108 : decode cX12_numberToken 108 = .ok (.goto (-66), 3) := by decide +kernel
theorem dX12_numberToken_111 : decode cX12_numberToken 111 = .ok (.aload_n 0, 1) := by decide +kernel
theorem dX12_numberToken_112 : decode cX12_numberToken 112 = .ok (.getfield 61, 3) := by decide +kernel
theorem dX12_numberToken_115 : decode cX12_numberToken 115 = .ok (.iconst 4, 1) := by decide +kernel
theorem dX12_numberToken_116 : decode cX12_numberToken 116 = .ok (.if_icmp .ne 13, 3) := by decide +kernel
theorem dX12_numberToken_119 : decode cX12_numberToken 119 = .ok (.aload_n 0, 1) := by decide +kernel
theorem dX12_numberToken_120 : decode cX12_numberToken 120 = .ok (.dup, 1) := by decide +kernel
theorem dX12_numberToken_121 : decode cX12_numberToken 121 = .ok (.getfield 45, 3) := by decide +kernel
theorem dX12_numberToken_124 : decode cX12_numberToken 124 = .ok (.iconst 1, 1) := by decide +kernel
theorem dX12_numberToken_125 : decode cX12_numberToken 125 = .ok (.iadd, 1) := by decide +kernel
theorem dX12_numberToken_126 : decode cX12_numberToken 126 = .ok (.putfield 45, 3) := by decide +kernel
theorem dX12_numberToken_129 : decode cX12_numberToken 129 = .ok (.return_, 1) := by decide +kernel
theorem dX12_hearsNumber_0 : decode cX12_hearsNumber 0 = .ok (.aload_n 0, 1) := by decide +kernel
theorem dX12_hearsNumber_1 : decode cX12_hearsNumber 1 = .ok (.getfield 58, 3) := by decide +kernel
theorem dX12_hearsNumber_4 : decode cX12_hearsNumber 4 = .ok (.istore_n 1, 1) := by decide +kernel
theorem dX12_hearsNumber_5 : decode cX12_hearsNumber 5 = .ok (.aload_n 0, 1) := by decide +kernel
theorem dX12_hearsNumber_6 : decode cX12_hearsNumber 6 = .ok (.aload_n 0, 1) := by decide +kernel
theorem dX12_hearsNumber_7 : decode cX12_hearsNumber 7 = .ok (.getfield 529, 3) := by decide +kernel
theorem dX12_hearsNumber_10 : decode cX12_hearsNumber 10 = .ok (.ifCond .eq 16, 3) := by decide +kernel
theorem dX12_hearsNumber_13 : decode cX12_hearsNumber 13 = .ok (.aload_n 0, 1) := by decide +kernel
theorem dX12_hearsNumber_14 : decode cX12_hearsNumber 14 = .ok (.getfield 61, 3) := by decide +kernel
theorem dX12_hearsNumber_17 : decode cX12_hearsNumber 17 = .ok (.bipush 6, 2) := by decide +kernel
theorem dX12_hearsNumber_19 : decode cX12_hearsNumber 19 = .ok (.if_icmp .ne 7, 3) := by decide +kernel
theorem dX12_hearsNumber_22 : decode cX12_hearsNumber 22 = .ok (.iconst 1, 1) := by decide +kernel
theorem dX12_hearsNumber_23 : decode cX12_hearsNumber 23 = .ok (.goto 4, 3) := by decide +kernel
theorem dX12_hearsNumber_26 : decode cX12_hearsNumber 26 = .ok (.iconst 0, 1) := by decide +kernel
theorem dX12_hearsNumber_27 : decode cX12_hearsNumber 27 = .ok (.putfield 529, 3) := by decide +kernel
theorem dX12_hearsNumber_30 : decode cX12_hearsNumber 30 = .ok (.aload_n 0, 1) := by decide +kernel
theorem dX12_hearsNumber_31 : decode cX12_hearsNumber 31 = .ok (.invokevirtual 532, 3) := by decide +kernel
theorem dX12_hearsNumber_34 : decode cX12_hearsNumber 34 = .ok (.iload_n 1, 1) := by decide +kernel
theorem dX12_hearsNumber_35 : decode cX12_hearsNumber 35 = .ok (.ireturn, 1) := by decide +kernel
theorem dX12_hears_0 : decode cX12_hears 0 = .ok (.aload_n 0, 1) := by decide +kernel
theorem dX12_hears_1 : decode cX12_hears 1 = .ok (.iconst 0, 1) := by decide +kernel
theorem dX12_hears_2 : decode cX12_hears 2 = .ok (.putfield 45, 3) := by decide +kernel
theorem dX12_hears_5 : decode cX12_hears 5 = .ok (.aload_n 0, 1) := by decide +kernel
theorem dX12_hears_6 : decode cX12_hears 6 = .ok (.iconst 0, 1) := by decide +kernel
theorem dX12_hears_7 : decode cX12_hears 7 = .ok (.putfield 535, 3) := by decide +kernel
theorem dX12_hears_10 : decode cX12_hears 10 = .ok (.aload_n 0, 1) := by decide +kernel
theorem dX12_hears_11 : decode cX12_hears 11 = .ok (.iconst 1, 1) := by decide +kernel
theorem dX12_hears_12 : decode cX12_hears 12 = .ok (.putfield 529, 3) := by decide +kernel
theorem dX12_hears_15 : decode cX12_hears 15 = .ok (.aload_n 0, 1) := by decide +kernel
theorem dX12_hears_16 : decode cX12_hears 16 = .ok (.invokevirtual 532, 3) := by decide +kernel
theorem dX12_hears_19 : decode cX12_hears 19 = .ok (.aload_n 0, 1) := by decide +kernel
theorem dX12_hears_20 : decode cX12_hears 20 = .ok (.getfield 529, 3) := by decide +kernel
theorem dX12_hears_23 : decode cX12_hears 23 = .ok (.ifCond .eq 155, 3) := by decide +kernel
theorem dX12_hears_26 : decode cX12_hears 26 = .ok (.aload_n 0, 1) := by decide +kernel
theorem dX12_hears_27 : decode cX12_hears 27 = .ok (.getfield 61, 3) := by decide +kernel
theorem dX12_hears_30 : decode cX12_hears 30 = .ok (.ifCond .ne 10, 3) := by decide +kernel
theorem dX12_hears_33 : decode cX12_hears 33 = .ok (.aload_n 0, 1) := by decide +kernel
theorem dX12_hears_34 : decode cX12_hears 34 = .ok (.getfield 535, 3) := by decide +kernel
theorem dX12_hears_37 : decode cX12_hears 37 = .ok (.ifCond .ne 141, 3) := by decide +kernel
theorem dX12_hears_40 : decode cX12_hears 40 = .ok (.aload_n 0, 1) := by decide +kernel
theorem dX12_hears_41 : decode cX12_hears 41 = .ok (.aload_n 0, 1) := by decide +kernel
theorem dX12_hears_42 : decode cX12_hears 42 = .ok (.getfield 535, 3) := by decide +kernel
theorem dX12_hears_45 : decode cX12_hears 45 = .ok (.bipush 40, 2) := by decide +kernel
theorem dX12_hears_47 : decode cX12_hears 47 = .ok (.if_icmp .ge 7, 3) := by decide +kernel
theorem dX12_hears_50 : decode cX12_hears 50 = .ok (.iconst 1, 1) := by decide +kernel
theorem dX12_hears_51 : decode cX12_hears 51 = .ok (.goto 4, 3) := by decide +kernel
theorem dX12_hears_54 : decode cX12_hears 54 = .ok (.iconst 0, 1) := by decide +kernel
theorem dX12_hears_55 : decode cX12_hears 55 = .ok (.putfield 529, 3) := by decide +kernel
theorem dX12_hears_58 : decode cX12_hears 58 = .ok (.aload_n 0, 1) := by decide +kernel
theorem dX12_hears_59 : decode cX12_hears 59 = .ok (.getfield 529, 3) := by decide +kernel
theorem dX12_hears_62 : decode cX12_hears 62 = .ok (.ifCond .ne 4, 3) := by decide +kernel
theorem dX12_hears_65 : decode cX12_hears 65 = .ok (.return_, 1) := by decide +kernel
theorem dX12_hears_66 : decode cX12_hears 66 = .ok (.aload_n 0, 1) := by decide +kernel
