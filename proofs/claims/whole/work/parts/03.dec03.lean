theorem dX9_unfold_22 : decode cX9_unfold 22 = .ok (.iconst 0, 1) := by decide +kernel
theorem dX9_unfold_23 : decode cX9_unfold 23 = .ok (.putfield 70, 3) := by decide +kernel
theorem dX9_unfold_26 : decode cX9_unfold 26 = .ok (.aload_n 0, 1) := by decide +kernel
theorem dX9_unfold_27 : decode cX9_unfold 27 = .ok (.iconst 0, 1) := by decide +kernel
theorem dX9_unfold_28 : decode cX9_unfold 28 = .ok (.putfield 73, 3) := by decide +kernel
theorem dX9_unfold_31 : decode cX9_unfold 31 = .ok (.aload_n 0, 1) := by decide +kernel
theorem dX9_unfold_32 : decode cX9_unfold 32 = .ok (.iconst 0, 1) := by decide +kernel
theorem dX9_unfold_33 : decode cX9_unfold 33 = .ok (.putfield 76, 3) := by decide +kernel
theorem dX9_unfold_36 : decode cX9_unfold 36 = .ok (.aload_n 0, 1) := by decide +kernel
theorem dX9_unfold_37 : decode cX9_unfold 37 = .ok (.iconst 0, 1) := by decide +kernel
theorem dX9_unfold_38 : decode cX9_unfold 38 = .ok (.iconst 0, 1) := by decide +kernel
theorem dX9_unfold_39 : decode cX9_unfold 39 = .ok (.iconst 1, 1) := by decide +kernel
theorem dX9_unfold_40 : decode cX9_unfold 40 = .ok (.invokevirtual 79, 3) := by decide +kernel
theorem dX9_unfold_43 : decode cX9_unfold 43 = .ok (.iconst 0, 1) := by decide +kernel
theorem dX9_unfold_44 : decode cX9_unfold 44 = .ok (.istore_n 2, 1) := by decide +kernel
theorem dX9_unfold_45 : decode cX9_unfold 45 = .ok (.iload_n 2, 1) := by decide +kernel
theorem dX9_unfold_46 : decode cX9_unfold 46 = .ok (.sipush 4096, 3) := by decide +kernel
theorem dX9_unfold_49 : decode cX9_unfold 49 = .ok (.if_icmp .ge 86, 3) := by decide +kernel
theorem dX9_unfold_52 : decode cX9_unfold 52 = .ok (.aload_n 0, 1) := by decide +kernel
theorem dX9_unfold_53 : decode cX9_unfold 53 = .ok (.getfield 76, 3) := by decide +kernel
theorem dX9_unfold_56 : decode cX9_unfold 56 = .ok (.ifCond .le 79, 3) := by decide +kernel
theorem dX9_unfold_59 : decode cX9_unfold 59 = .ok (.aload_n 0, 1) := by decide +kernel
theorem dX9_unfold_60 : decode cX9_unfold 60 = .ok (.dup, 1) := by decide +kernel
theorem dX9_unfold_61 : decode cX9_unfold 61 = .ok (.getfield 76, 3) := by decide +kernel
theorem dX9_unfold_64 : decode cX9_unfold 64 = .ok (.iconst 1, 1) := by decide +kernel
theorem dX9_unfold_65 : decode cX9_unfold 65 = .ok (.isub, 1) := by decide +kernel
theorem dX9_unfold_66 : decode cX9_unfold 66 = .ok (.putfield 76, 3) := by decide +kernel
theorem dX9_unfold_69 : decode cX9_unfold 69 = .ok (.aload_n 0, 1) := by decide +kernel
theorem dX9_unfold_70 : decode cX9_unfold 70 = .ok (.getfield 45, 3) := by decide +kernel
theorem dX9_unfold_73 : decode cX9_unfold 73 = .ok (.aload_n 0, 1) := by decide +kernel
theorem dX9_unfold_74 : decode cX9_unfold 74 = .ok (.getfield 76, 3) := by decide +kernel
theorem dX9_unfold_77 : decode cX9_unfold 77 = .ok (.iaload, 1) := by decide +kernel
theorem dX9_unfold_78 : decode cX9_unfold 78 = .ok (.istore_n 3, 1) := by decide +kernel
theorem dX9_unfold_79 : decode cX9_unfold 79 = .ok (.iload_n 3, 1) := by decide +kernel
theorem dX9_unfold_80 : decode cX9_unfold 80 = .ok (.iconst (-1), 1) := by decide +kernel
theorem dX9_unfold_81 : decode cX9_unfold 81 = .ok (.if_icmp .ne 25, 3) := by decide +kernel
theorem dX9_unfold_84 : decode cX9_unfold 84 = .ok (.aload_n 0, 1) := by decide +kernel
theorem dX9_unfold_85 : decode cX9_unfold 85 = .ok (.getfield 32, 3) := by decide +kernel
theorem dX9_unfold_88 : decode cX9_unfold 88 = .ok (.bipush 41, 2) := by decide +kernel
theorem dX9_unfold_90 : decode cX9_unfold 90 = .ok (.invokevirtual 61, 3) := by decide +kernel
theorem dX9_unfold_93 : decode cX9_unfold 93 = .ok (.aload_n 0, 1) := by decide +kernel
theorem dX9_unfold_94 : decode cX9_unfold 94 = .ok (.dup, 1) := by decide +kernel
theorem dX9_unfold_95 : decode cX9_unfold 95 = .ok (.getfield 73, 3) := by decide +kernel
theorem dX9_unfold_98 : decode cX9_unfold 98 = .ok (.iconst 1, 1) := by decide +kernel
theorem dX9_unfold_99 : decode cX9_unfold 99 = .ok (.isub, 1) := by decide +kernel
theorem dX9_unfold_100 : decode cX9_unfold 100 = .ok (.putfield 73, 3) := by decide +kernel
theorem dX9_unfold_103 : decode cX9_unfold 103 = .ok (.goto 26, 3) := by decide +kernel
theorem dX9_unfold_106 : decode cX9_unfold 106 = .ok (.iload_n 3, 1) := by decide +kernel
theorem dX9_unfold_107 : decode cX9_unfold 107 = .ok (.iconst 1, 1) := by decide +kernel
theorem dX9_unfold_108 : decode cX9_unfold 108 = .ok (.ishr, 1) := by decide +kernel
theorem dX9_unfold_109 : decode cX9_unfold 109 = .ok (.istore 4, 2) := by decide +kernel
theorem dX9_unfold_111 : decode cX9_unfold 111 = .ok (.aload_n 0, 1) := by decide +kernel
theorem dX9_unfold_112 : decode cX9_unfold 112 = .ok (.aload_n 1, 1) := by decide +kernel
theorem dX9_unfold_113 : decode cX9_unfold 113 = .ok (.iload 4, 2) := by decide +kernel
theorem dX9_unfold_115 : decode cX9_unfold 115 = .ok (.bipush 12, 2) := by decide +kernel
theorem dX9_unfold_117 : decode cX9_unfold 117 = .ok (.idiv, 1) := by decide +kernel
theorem dX9_unfold_118 : decode cX9_unfold 118 = .ok (.iload 4, 2) := by decide +kernel
theorem dX9_unfold_120 : decode cX9_unfold 120 = .ok (.bipush 12, 2) := by decide +kernel
theorem dX9_unfold_122 : decode cX9_unfold 122 = .ok (.irem, 1) := by decide +kernel
theorem dX9_unfold_123 : decode cX9_unfold 123 = .ok (.iload_n 3, 1) := by decide +kernel
theorem dX9_unfold_124 : decode cX9_unfold 124 = .ok (.iconst 1, 1) := by decide +kernel
theorem dX9_unfold_125 : decode cX9_unfold 125 = .ok (.iand, 1) := by decide +kernel
theorem dX9_unfold_126 : decode cX9_unfold 126 = .ok (.invokevirtual 83, 3) := by decide +kernel
theorem dX9_unfold_129 : decode cX9_unfold 129 = .ok (.iinc 2 1, 3) := by decide +kernel
theorem dX9_unfold_132 : decode cX9_unfold 132 = .ok (.goto (-87), 3) := by decide +kernel
theorem dX9_unfold_135 : decode cX9_unfold 135 = .ok (.return_, 1) := by decide +kernel
theorem dX9_push_0 : decode cX9_push 0 = .ok (.aload_n 0, 1) := by decide +kernel
theorem dX9_push_1 : decode cX9_push 1 = .ok (.iconst 2, 1) := by decide +kernel
theorem dX9_push_2 : decode cX9_push 2 = .ok (.iload_n 1, 1) := by decide +kernel
theorem dX9_push_3 : decode cX9_push 3 = .ok (.bipush 12, 2) := by decide +kernel
theorem dX9_push_5 : decode cX9_push 5 = .ok (.imul, 1) := by decide +kernel
theorem dX9_push_6 : decode cX9_push 6 = .ok (.iload_n 2, 1) := by decide +kernel
theorem dX9_push_7 : decode cX9_push 7 = .ok (.iadd, 1) := by decide +kernel
theorem dX9_push_8 : decode cX9_push 8 = .ok (.imul, 1) := by decide +kernel
theorem dX9_push_9 : decode cX9_push 9 = .ok (.iload_n 3, 1) := by decide +kernel
theorem dX9_push_10 : decode cX9_push 10 = .ok (.iadd, 1) := by decide +kernel
theorem dX9_push_11 : decode cX9_push 11 = .ok (.invokevirtual 87, 3) := by decide +kernel
theorem dX9_push_14 : decode cX9_push 14 = .ok (.return_, 1) := by decide +kernel
theorem dX9_pushTask_0 : decode cX9_pushTask 0 = .ok (.aload_n 0, 1) := by decide +kernel
theorem dX9_pushTask_1 : decode cX9_pushTask 1 = .ok (.getfield 76, 3) := by decide +kernel
theorem dX9_pushTask_4 : decode cX9_pushTask 4 = .ok (.sipush 1024, 3) := by decide +kernel
theorem dX9_pushTask_7 : decode cX9_pushTask 7 = .ok (.if_icmp .ge 23, 3) := by decide +kernel
theorem dX9_pushTask_10 : decode cX9_pushTask 10 = .ok (.aload_n 0, 1) := by decide +kernel
theorem dX9_pushTask_11 : decode cX9_pushTask 11 = .ok (.getfield 45, 3) := by decide +kernel
theorem dX9_pushTask_14 : decode cX9_pushTask 14 = .ok (.aload_n 0, 1) := by decide +kernel
theorem dX9_pushTask_15 : decode cX9_pushTask 15 = .ok (.getfield 76, 3) := by decide +kernel
theorem dX9_pushTask_18 : decode cX9_pushTask 18 = .ok (.iload_n 1, 1) := by decide +kernel
theorem dX9_pushTask_19 : decode cX9_pushTask 19 = .ok (.iastore, 1) := by decide +kernel
theorem dX9_pushTask_20 : decode cX9_pushTask 20 = .ok (.aload_n 0, 1) := by decide +kernel
theorem dX9_pushTask_21 : decode cX9_pushTask 21 = .ok (.dup, 1) := by decide +kernel
theorem dX9_pushTask_22 : decode cX9_pushTask 22 = .ok (.getfield 76, 3) := by decide +kernel
theorem dX9_pushTask_25 : decode cX9_pushTask 25 = .ok (.iconst 1, 1) := by decide +kernel
theorem dX9_pushTask_26 : decode cX9_pushTask 26 = .ok (.iadd, 1) := by decide +kernel
theorem dX9_pushTask_27 : decode cX9_pushTask 27 = .ok (.putfield 76, 3) := by decide +kernel
theorem dX9_pushTask_30 : decode cX9_pushTask 30 = .ok (.return_, 1) := by decide +kernel
theorem dX9_unfoldNode_0 : decode cX9_unfoldNode 0 = .ok (.aload_n 1, 1) := by decide +kernel
theorem dX9_unfoldNode_1 : decode cX9_unfoldNode 1 = .ok (.getfield 90, 3) := by decide +kernel
theorem dX9_unfoldNode_4 : decode cX9_unfoldNode 4 = .ok (.aload_n 0, 1) := by decide +kernel
theorem dX9_unfoldNode_5 : decode cX9_unfoldNode 5 = .ok (.getfield 9, 3) := by decide +kernel
theorem dX9_unfoldNode_8 : decode cX9_unfoldNode 8 = .ok (.iload_n 2, 1) := by decide +kernel
theorem dX9_unfoldNode_9 : decode cX9_unfoldNode 9 = .ok (.iaload, 1) := by decide +kernel
theorem dX9_unfoldNode_10 : decode cX9_unfoldNode 10 = .ok (.iaload, 1) := by decide +kernel
theorem dX9_unfoldNode_11 : decode cX9_unfoldNode 11 = .ok (.istore 5, 2) := by decide +kernel
theorem dX9_unfoldNode_13 : decode cX9_unfoldNode 13 = .ok (.aload_n 1, 1) := by decide +kernel
theorem dX9_unfoldNode_14 : decode cX9_unfoldNode 14 = .ok (.getfield 95, 3) := by decide +kernel
theorem dX9_unfoldNode_17 : decode cX9_unfoldNode 17 = .ok (.iload 5, 2) := by decide +kernel
theorem dX9_unfoldNode_19 : decode cX9_unfoldNode 19 = .ok (.iload_n 3, 1) := by decide +kernel
theorem dX9_unfoldNode_20 : decode cX9_unfoldNode 20 = .ok (.iadd, 1) := by decide +kernel
theorem dX9_unfoldNode_21 : decode cX9_unfoldNode 21 = .ok (.iaload, 1) := by decide +kernel
theorem dX9_unfoldNode_22 : decode cX9_unfoldNode 22 = .ok (.istore 6, 2) := by decide +kernel
theorem dX9_unfoldNode_24 : decode cX9_unfoldNode 24 = .ok (.aload_n 0, 1) := by decide +kernel
theorem dX9_unfoldNode_25 : decode cX9_unfoldNode 25 = .ok (.getfield 24, 3) := by decide +kernel
theorem dX9_unfoldNode_28 : decode cX9_unfoldNode 28 = .ok (.iload_n 2, 1) := by decide +kernel
theorem dX9_unfoldNode_29 : decode cX9_unfoldNode 29 = .ok (.bipush 12, 2) := by decide +kernel
theorem dX9_unfoldNode_31 : decode cX9_unfoldNode 31 = .ok (.imul, 1) := by decide +kernel
theorem dX9_unfoldNode_32 : decode cX9_unfoldNode 32 = .ok (.iload_n 3, 1) := by decide +kernel
theorem dX9_unfoldNode_33 : decode cX9_unfoldNode 33 = .ok (.iadd, 1) := by decide +kernel
theorem dX9_unfoldNode_34 : decode cX9_unfoldNode 34 = .ok (.iaload, 1) := by decide +kernel
theorem dX9_unfoldNode_35 : decode cX9_unfoldNode 35 = .ok (.istore 7, 2) := by decide +kernel
theorem dX9_unfoldNode_37 : decode cX9_unfoldNode 37 = .ok (.iload 6, 2) := by decide +kernel
theorem dX9_unfoldNode_39 : decode cX9_unfoldNode 39 = .ok (.iconst 3, 1) := by decide +kernel
theorem dX9_unfoldNode_40 : decode cX9_unfoldNode 40 = .ok (.if_icmp .ne 23, 3) := by decide +kernel
theorem dX9_unfoldNode_43 : decode cX9_unfoldNode 43 = .ok (.aload_n 0, 1) := by decide +kernel
theorem dX9_unfoldNode_44 : decode cX9_unfoldNode 44 = .ok (.aload_n 0, 1) := by decide +kernel
theorem dX9_unfoldNode_45 : decode cX9_unfoldNode 45 = .ok (.getfield 15, 3) := by decide +kernel
theorem dX9_unfoldNode_48 : decode cX9_unfoldNode 48 = .ok (.iload_n 2, 1) := by decide +kernel
theorem dX9_unfoldNode_49 : decode cX9_unfoldNode 49 = .ok (.iaload, 1) := by decide +kernel
theorem dX9_unfoldNode_50 : decode cX9_unfoldNode 50 = .ok (.aload_n 0, 1) := by decide +kernel
theorem dX9_unfoldNode_51 : decode cX9_unfoldNode 51 = .ok (.getfield 18, 3) := by decide +kernel
theorem dX9_unfoldNode_54 : decode cX9_unfoldNode 54 = .ok (.iload_n 2, 1) := by decide +kernel
theorem dX9_unfoldNode_55 : decode cX9_unfoldNode 55 = .ok (.iaload, 1) := by decide +kernel
theorem dX9_unfoldNode_56 : decode cX9_unfoldNode 56 = .ok (.iconst 0, 1) := by decide +kernel
theorem dX9_unfoldNode_57 : decode cX9_unfoldNode 57 = .ok (.invokevirtual 79, 3) := by decide +kernel
theorem dX9_unfoldNode_60 : decode cX9_unfoldNode 60 = .ok (.goto 76, 3) := by decide +kernel
theorem dX9_unfoldNode_63 : decode cX9_unfoldNode 63 = .ok (.iload 7, 2) := by decide +kernel
theorem dX9_unfoldNode_65 : decode cX9_unfoldNode 65 = .ok (.iconst (-1), 1) := by decide +kernel
theorem dX9_unfoldNode_66 : decode cX9_unfoldNode 66 = .ok (.if_icmp .eq 20, 3) := by decide +kernel
theorem dX9_unfoldNode_69 : decode cX9_unfoldNode 69 = .ok (.iload 4, 2) := by decide +kernel
theorem dX9_unfoldNode_71 : decode cX9_unfoldNode 71 = .ok (.iconst 1, 1) := by decide +kernel
theorem dX9_unfoldNode_72 : decode cX9_unfoldNode 72 = .ok (.if_icmp .ne 14, 3) := by decide +kernel
theorem dX9_unfoldNode_75 : decode cX9_unfoldNode 75 = .ok (.aload_n 0, 1) := by decide +kernel
theorem dX9_unfoldNode_76 : decode cX9_unfoldNode 76 = .ok (.iload 7, 2) := by decide +kernel
theorem dX9_unfoldNode_78 : decode cX9_unfoldNode 78 = .ok (.iconst 0, 1) := by decide +kernel
theorem dX9_unfoldNode_79 : decode cX9_unfoldNode 79 = .ok (.iconst 1, 1) := by decide +kernel
theorem dX9_unfoldNode_80 : decode cX9_unfoldNode 80 = .ok (.invokevirtual 79, 3) := by decide +kernel
theorem dX9_unfoldNode_83 : decode cX9_unfoldNode 83 = .ok (.goto 53, 3) := by decide +kernel
theorem dX9_unfoldNode_86 : decode cX9_unfoldNode 86 = .ok (.iload 6, 2) := by decide +kernel
theorem dX9_unfoldNode_88 : decode cX9_unfoldNode 88 = .ok (.ifCond .ne 13, 3) := by decide +kernel
theorem dX9_unfoldNode_91 : decode cX9_unfoldNode 91 = .ok (.aload_n 0, 1) := by decide +kernel
theorem dX9_unfoldNode_92 : decode cX9_unfoldNode 92 = .ok (.aload_n 1, 1) := by decide +kernel
theorem dX9_unfoldNode_93 : decode cX9_unfoldNode 93 = .ok (.iload_n 2, 1) := by decide +kernel
theorem dX9_unfoldNode_94 : decode cX9_unfoldNode 94 = .ok (.iload_n 3, 1) := by decide +kernel
theorem dX9_unfoldNode_95 : decode cX9_unfoldNode 95 = .ok (.invokevirtual 98, 3) := by decide +kernel
theorem dX9_unfoldNode_98 : decode cX9_unfoldNode 98 = .ok (.goto 38, 3) := by decide +kernel
theorem dX9_unfoldNode_101 : decode cX9_unfoldNode 101 = .ok (.iload 6, 2) := by decide +kernel
theorem dX9_unfoldNode_103 : decode cX9_unfoldNode 103 = .ok (.iconst 1, 1) := by decide +kernel
theorem dX9_unfoldNode_104 : decode cX9_unfoldNode 104 = .ok (.if_icmp .ne 13, 3) := by decide +kernel
theorem dX9_unfoldNode_107 : decode cX9_unfoldNode 107 = .ok (.aload_n 0, 1) := by decide +kernel
theorem dX9_unfoldNode_108 : decode cX9_unfoldNode 108 = .ok (.aload_n 1, 1) := by decide +kernel
theorem dX9_unfoldNode_109 : decode cX9_unfoldNode 109 = .ok (.iload_n 2, 1) := by decide +kernel
theorem dX9_unfoldNode_110 : decode cX9_unfoldNode 110 = .ok (.iload_n 3, 1) := by decide +kernel
theorem dX9_unfoldNode_111 : decode cX9_unfoldNode 111 = .ok (.invokevirtual 102, 3) := by decide +kernel
theorem dX9_unfoldNode_114 : decode cX9_unfoldNode 114 = .ok (.goto 22, 3) := by decide +kernel
theorem dX9_unfoldNode_117 : decode cX9_unfoldNode 117 = .ok (.iload 6, 2) := by decide +kernel
theorem dX9_unfoldNode_119 : decode cX9_unfoldNode 119 = .ok (.iconst 2, 1) := by decide +kernel
theorem dX9_unfoldNode_120 : decode cX9_unfoldNode 120 = .ok (.if_icmp .ne 16, 3) := by decide +kernel
theorem dX9_unfoldNode_123 : decode cX9_unfoldNode 123 = .ok (.aload_n 0, 1) := by decide +kernel
theorem dX9_unfoldNode_124 : decode cX9_unfoldNode 124 = .ok (.invokevirtual 105, 3) := by decide +kernel
theorem dX9_unfoldNode_127 : decode cX9_unfoldNode 127 = .ok (.aload_n 0, 1) := by decide +kernel
theorem dX9_unfoldNode_128 : decode cX9_unfoldNode 128 = .ok (.getfield 32, 3) := by decide +kernel
theorem dX9_unfoldNode_131 : decode cX9_unfoldNode 131 = .ok (.bipush 46, 2) := by decide +kernel
theorem dX9_unfoldNode_133 : decode cX9_unfoldNode 133 = .ok (.invokevirtual 61, 3) := by decide +kernel
theorem dX9_unfoldNode_136 : decode cX9_unfoldNode 136 = .ok (.return_, 1) := by decide +kernel
theorem dX9_unfoldBranch_0 : decode cX9_unfoldBranch 0 = .ok (.aload_n 1, 1) := by decide +kernel
theorem dX9_unfoldBranch_1 : decode cX9_unfoldBranch 1 = .ok (.getfield 90, 3) := by decide +kernel
theorem dX9_unfoldBranch_4 : decode cX9_unfoldBranch 4 = .ok (.aload_n 0, 1) := by decide +kernel
theorem dX9_unfoldBranch_5 : decode cX9_unfoldBranch 5 = .ok (.getfield 9, 3) := by decide +kernel
theorem dX9_unfoldBranch_8 : decode cX9_unfoldBranch 8 = .ok (.iload_n 2, 1) := by decide +kernel
theorem dX9_unfoldBranch_9 : decode cX9_unfoldBranch 9 = .ok (.iaload, 1) := by decide +kernel
theorem dX9_unfoldBranch_10 : decode cX9_unfoldBranch 10 = .ok (.iaload, 1) := by decide +kernel
theorem dX9_unfoldBranch_11 : decode cX9_unfoldBranch 11 = .ok (.istore 4, 2) := by decide +kernel
theorem dX9_unfoldBranch_13 : decode cX9_unfoldBranch 13 = .ok (.aload_n 0, 1) := by decide +kernel
theorem dX9_unfoldBranch_14 : decode cX9_unfoldBranch 14 = .ok (.invokevirtual 105, 3) := by decide +kernel
theorem dX9_unfoldBranch_17 : decode cX9_unfoldBranch 17 = .ok (.aload_n 0, 1) := by decide +kernel
theorem dX9_unfoldBranch_18 : decode cX9_unfoldBranch 18 = .ok (.getfield 32, 3) := by decide +kernel
theorem dX9_unfoldBranch_21 : decode cX9_unfoldBranch 21 = .ok (.bipush 40, 2) := by decide +kernel
theorem dX9_unfoldBranch_23 : decode cX9_unfoldBranch 23 = .ok (.invokevirtual 61, 3) := by decide +kernel
theorem dX9_unfoldBranch_26 : decode cX9_unfoldBranch 26 = .ok (.aload_n 0, 1) := by decide +kernel
theorem dX9_unfoldBranch_27 : decode cX9_unfoldBranch 27 = .ok (.getfield 32, 3) := by decide +kernel
theorem dX9_unfoldBranch_30 : decode cX9_unfoldBranch 30 = .ok (.bipush 65, 2) := by decide +kernel
theorem dX9_unfoldBranch_32 : decode cX9_unfoldBranch 32 = .ok (.aload_n 1, 1) := by decide +kernel
theorem dX9_unfoldBranch_33 : decode cX9_unfoldBranch 33 = .ok (.getfield 108, 3) := by decide +kernel
theorem dX9_unfoldBranch_36 : decode cX9_unfoldBranch 36 = .ok (.iload 4, 2) := by decide +kernel
theorem dX9_unfoldBranch_38 : decode cX9_unfoldBranch 38 = .ok (.iload_n 3, 1) := by decide +kernel
theorem dX9_unfoldBranch_39 : decode cX9_unfoldBranch 39 = .ok (.iadd, 1) := by decide +kernel
theorem dX9_unfoldBranch_40 : decode cX9_unfoldBranch 40 = .ok (.iaload, 1) := by decide +kernel
theorem dX9_unfoldBranch_41 : decode cX9_unfoldBranch 41 = .ok (.iadd, 1) := by decide +kernel
theorem dX9_unfoldBranch_42 : decode cX9_unfoldBranch 42 = .ok (.invokevirtual 61, 3) := by decide +kernel
theorem dX9_unfoldBranch_45 : decode cX9_unfoldBranch 45 = .ok (.aload_n 0, 1) := by decide +kernel
theorem dX9_unfoldBranch_46 : decode cX9_unfoldBranch 46 = .ok (.dup, 1) := by decide +kernel
theorem dX9_unfoldBranch_47 : decode cX9_unfoldBranch 47 = .ok (.getfield 70, 3) := by decide +kernel
theorem dX9_unfoldBranch_50 : decode cX9_unfoldBranch 50 = .ok (.iconst 1, 1) := by decide +kernel
theorem dX9_unfoldBranch_51 : decode cX9_unfoldBranch 51 = .ok (.iadd, 1) := by decide +kernel
theorem dX9_unfoldBranch_52 : decode cX9_unfoldBranch 52 = .ok (.putfield 70, 3) := by decide +kernel
theorem dX9_unfoldBranch_55 : decode cX9_unfoldBranch 55 = .ok (.aload_n 0, 1) := by decide +kernel
theorem dX9_unfoldBranch_56 : decode cX9_unfoldBranch 56 = .ok (.dup, 1) := by decide +kernel
theorem dX9_unfoldBranch_57 : decode cX9_unfoldBranch 57 = .ok (.getfield 73, 3) := by decide +kernel
theorem dX9_unfoldBranch_60 : decode cX9_unfoldBranch 60 = .ok (.iconst 1, 1) := by decide +kernel
theorem dX9_unfoldBranch_61 : decode cX9_unfoldBranch 61 = .ok (.iadd, 1) := by decide +kernel
theorem dX9_unfoldBranch_62 : decode cX9_unfoldBranch 62 = .ok (.putfield 73, 3) := by decide +kernel
theorem dX9_unfoldBranch_65 : decode cX9_unfoldBranch 65 = .ok (.aload_n 0, 1) := by decide +kernel
theorem dX9_unfoldBranch_66 : decode cX9_unfoldBranch 66 = .ok (.aload_n 0, 1) := by decide +kernel
theorem dX9_unfoldBranch_67 : decode cX9_unfoldBranch 67 = .ok (.getfield 67, 3) := by decide +kernel
theorem dX9_unfoldBranch_70 : decode cX9_unfoldBranch 70 = .ok (.aload_n 0, 1) := by decide +kernel
theorem dX9_unfoldBranch_71 : decode cX9_unfoldBranch 71 = .ok (.getfield 73, 3) := by decide +kernel
theorem dX9_unfoldBranch_74 : decode cX9_unfoldBranch 74 = .ok (.invokestatic 111, 3) := by decide +kernel
theorem dX9_unfoldBranch_77 : decode cX9_unfoldBranch 77 = .ok (.putfield 67, 3) := by decide +kernel
theorem dX9_unfoldBranch_80 : decode cX9_unfoldBranch 80 = .ok (.aload_n 0, 1) := by decide +kernel
theorem dX9_unfoldBranch_81 : decode cX9_unfoldBranch 81 = .ok (.iconst (-1), 1) := by decide +kernel
theorem dX9_unfoldBranch_82 : decode cX9_unfoldBranch 82 = .ok (.invokevirtual 87, 3) := by decide +kernel
theorem dX9_unfoldBranch_85 : decode cX9_unfoldBranch 85 = .ok (.aload_n 1, 1) := by decide +kernel
theorem dX9_unfoldBranch_86 : decode cX9_unfoldBranch 86 = .ok (.getfield 117, 3) := by decide +kernel
theorem dX9_unfoldBranch_89 : decode cX9_unfoldBranch 89 = .ok (.iload 4, 2) := by decide +kernel
theorem dX9_unfoldBranch_91 : decode cX9_unfoldBranch 91 = .ok (.iload_n 3, 1) := by decide +kernel
theorem dX9_unfoldBranch_92 : decode cX9_unfoldBranch 92 = .ok (.iadd, 1) := by decide +kernel
theorem dX9_unfoldBranch_93 : decode cX9_unfoldBranch 93 = .ok (.iaload, 1) := by decide +kernel
theorem dX9_unfoldBranch_94 : decode cX9_unfoldBranch 94 = .ok (.istore 5, 2) := by decide +kernel
theorem dX9_unfoldBranch_96 : decode cX9_unfoldBranch 96 = .ok (.iload 5, 2) := by decide +kernel
theorem dX9_unfoldBranch_98 : decode cX9_unfoldBranch 98 = .ok (.iconst (-1), 1) := by decide +kernel
theorem dX9_unfoldBranch_99 : decode cX9_unfoldBranch 99 = .ok (.if_icmp .eq 14, 3) := by decide +kernel
theorem dX9_unfoldBranch_102 : decode cX9_unfoldBranch 102 = .ok (.aload_n 0, 1) := by decide +kernel
theorem dX9_unfoldBranch_103 : decode cX9_unfoldBranch 103 = .ok (.iload_n 2, 1) := by decide +kernel
theorem dX9_unfoldBranch_104 : decode cX9_unfoldBranch 104 = .ok (.iload 5, 2) := by decide +kernel
theorem dX9_unfoldBranch_106 : decode cX9_unfoldBranch 106 = .ok (.iload 4, 2) := by decide +kernel
theorem dX9_unfoldBranch_108 : decode cX9_unfoldBranch 108 = .ok (.isub, 1) := by decide +kernel
theorem dX9_unfoldBranch_109 : decode cX9_unfoldBranch 109 = .ok (.iconst 1, 1) := by decide +kernel
theorem dX9_unfoldBranch_110 : decode cX9_unfoldBranch 110 = .ok (.invokevirtual 79, 3) := by decide +kernel
theorem dX9_unfoldBranch_113 : decode cX9_unfoldBranch 113 = .ok (.aload_n 0, 1) := by decide +kernel
theorem dX9_unfoldBranch_114 : decode cX9_unfoldBranch 114 = .ok (.iload_n 2, 1) := by decide +kernel
theorem dX9_unfoldBranch_115 : decode cX9_unfoldBranch 115 = .ok (.aload_n 1, 1) := by decide +kernel
theorem dX9_unfoldBranch_116 : decode cX9_unfoldBranch 116 = .ok (.getfield 120, 3) := by decide +kernel
theorem dX9_unfoldBranch_119 : decode cX9_unfoldBranch 119 = .ok (.iload 4, 2) := by decide +kernel
theorem dX9_unfoldBranch_121 : decode cX9_unfoldBranch 121 = .ok (.iload_n 3, 1) := by decide +kernel
theorem dX9_unfoldBranch_122 : decode cX9_unfoldBranch 122 = .ok (.iadd, 1) := by decide +kernel
theorem dX9_unfoldBranch_123 : decode cX9_unfoldBranch 123 = .ok (.iaload, 1) := by decide +kernel
theorem dX9_unfoldBranch_124 : decode cX9_unfoldBranch 124 = .ok (.iload 4, 2) := by decide +kernel
theorem dX9_unfoldBranch_126 : decode cX9_unfoldBranch 126 = .ok (.isub, 1) := by decide +kernel
theorem dX9_unfoldBranch_127 : decode cX9_unfoldBranch 127 = .ok (.iconst 1, 1) := by decide +kernel
theorem dX9_unfoldBranch_128 : decode cX9_unfoldBranch 128 = .ok (.invokevirtual 79, 3) := by decide +kernel
theorem dX9_unfoldBranch_131 : decode cX9_unfoldBranch 131 = .ok (.return_, 1) := by decide +kernel
theorem dX9_growLetter_0 : decode cX9_growLetter 0 = .ok (.aload_n 0, 1) := by decide +kernel
theorem dX9_growLetter_1 : decode cX9_growLetter 1 = .ok (.getfield 9, 3) := by decide +kernel
theorem dX9_growLetter_4 : decode cX9_growLetter 4 = .ok (.iload_n 2, 1) := by decide +kernel
theorem dX9_growLetter_5 : decode cX9_growLetter 5 = .ok (.iaload, 1) := by decide +kernel
theorem dX9_growLetter_6 : decode cX9_growLetter 6 = .ok (.istore 4, 2) := by decide +kernel
theorem dX9_growLetter_8 : decode cX9_growLetter 8 = .ok (.aload_n 1, 1) := by decide +kernel
theorem dX9_growLetter_9 : decode cX9_growLetter 9 = .ok (.getfield 108, 3) := by decide +kernel
theorem dX9_growLetter_12 : decode cX9_growLetter 12 = .ok (.aload_n 1, 1) := by decide +kernel
theorem dX9_growLetter_13 : decode cX9_growLetter 13 = .ok (.getfield 90, 3) := by decide +kernel
theorem dX9_growLetter_16 : decode cX9_growLetter 16 = .ok (.iload 4, 2) := by decide +kernel
theorem dX9_growLetter_18 : decode cX9_growLetter 18 = .ok (.iaload, 1) := by decide +kernel
theorem dX9_growLetter_19 : decode cX9_growLetter 19 = .ok (.iload_n 3, 1) := by decide +kernel
theorem dX9_growLetter_20 : decode cX9_growLetter 20 = .ok (.iadd, 1) := by decide +kernel
theorem dX9_growLetter_21 : decode cX9_growLetter 21 = .ok (.iaload, 1) := by decide +kernel
theorem dX9_growLetter_22 : decode cX9_growLetter 22 = .ok (.istore 5, 2) := by decide +kernel
theorem dX9_growLetter_24 : decode cX9_growLetter 24 = .ok (.aload_n 0, 1) := by decide +kernel
theorem dX9_growLetter_25 : decode cX9_growLetter 25 = .ok (.getfield 36, 3) := by decide +kernel
theorem dX9_growLetter_28 : decode cX9_growLetter 28 = .ok (.getfield 64, 3) := by decide +kernel
theorem dX9_growLetter_31 : decode cX9_growLetter 31 = .ok (.istore 6, 2) := by decide +kernel
theorem dX9_growLetter_33 : decode cX9_growLetter 33 = .ok (.aload_n 0, 1) := by decide +kernel
theorem dX9_growLetter_34 : decode cX9_growLetter 34 = .ok (.invokevirtual 105, 3) := by decide +kernel
theorem dX9_growLetter_37 : decode cX9_growLetter 37 = .ok (.aload_n 0, 1) := by decide +kernel
theorem dX9_growLetter_38 : decode cX9_growLetter 38 = .ok (.getfield 32, 3) := by decide +kernel
theorem dX9_growLetter_41 : decode cX9_growLetter 41 = .ok (.bipush 97, 2) := by decide +kernel
theorem dX9_growLetter_43 : decode cX9_growLetter 43 = .ok (.iload 5, 2) := by decide +kernel
theorem dX9_growLetter_45 : decode cX9_growLetter 45 = .ok (.iadd, 1) := by decide +kernel
theorem dX9_growLetter_46 : decode cX9_growLetter 46 = .ok (.invokevirtual 61, 3) := by decide +kernel
theorem dX9_growLetter_49 : decode cX9_growLetter 49 = .ok (.iload 6, 2) := by decide +kernel
theorem dX9_growLetter_51 : decode cX9_growLetter 51 = .ok (.aload_n 0, 1) := by decide +kernel
theorem dX9_growLetter_52 : decode cX9_growLetter 52 = .ok (.getfield 39, 3) := by decide +kernel
theorem dX9_growLetter_55 : decode cX9_growLetter 55 = .ok (.arraylength, 1) := by decide +kernel
theorem dX9_growLetter_56 : decode cX9_growLetter 56 = .ok (.if_icmp .ge 28, 3) := by decide +kernel
theorem dX9_growLetter_59 : decode cX9_growLetter 59 = .ok (.aload_n 0, 1) := by decide +kernel
theorem dX9_growLetter_60 : decode cX9_growLetter 60 = .ok (.getfield 39, 3) := by decide +kernel
theorem dX9_growLetter_63 : decode cX9_growLetter 63 = .ok (.iload 6, 2) := by decide +kernel
theorem dX9_growLetter_65 : decode cX9_growLetter 65 = .ok (.iload_n 2, 1) := by decide +kernel
theorem dX9_growLetter_66 : decode cX9_growLetter 66 = .ok (.iastore, 1) := by decide +kernel
theorem dX9_growLetter_67 : decode cX9_growLetter 67 = .ok (.aload_n 0, 1) := by decide +kernel
theorem dX9_growLetter_68 : decode cX9_growLetter 68 = .ok (.getfield 42, 3) := by decide +kernel
theorem dX9_growLetter_71 : decode cX9_growLetter 71 = .ok (.iload 6, 2) := by decide +kernel
theorem dX9_growLetter_73 : decode cX9_growLetter 73 = .ok (.iload_n 3, 1) := by decide +kernel
theorem dX9_growLetter_74 : decode cX9_growLetter 74 = .ok (.iastore, 1) := by decide +kernel
theorem dX9_growLetter_75 : decode cX9_growLetter 75 = .ok (.aload_n 0, 1) := by decide +kernel
theorem dX9_growLetter_76 : decode cX9_growLetter 76 = .ok (.getfield 36, 3) := by decide +kernel
theorem dX9_growLetter_79 : decode cX9_growLetter 79 = .ok (.iload 5, 2) := by decide +kernel
theorem dX9_growLetter_81 : decode cX9_growLetter 81 = .ok (.invokevirtual 61, 3) := by decide +kernel
theorem dX9_growLetter_84 : decode cX9_growLetter 84 = .ok (.aload_n 1, 1) := by decide +kernel
theorem dX9_growLetter_85 : decode cX9_growLetter 85 = .ok (.iload 4, 2) := by decide +kernel
theorem dX9_growLetter_87 : decode cX9_growLetter 87 = .ok (.iconst 1, 1) := by decide +kernel
theorem dX9_growLetter_88 : decode cX9_growLetter 88 = .ok (.invokevirtual 123, 3) := by decide +kernel
theorem dX9_growLetter_91 : decode cX9_growLetter 91 = .ok (.iload_n 3, 1) := by decide +kernel
theorem dX9_growLetter_92 : decode cX9_growLetter 92 = .ok (.if_icmp .ne 11, 3) := by decide +kernel
theorem dX9_growLetter_95 : decode cX9_growLetter 95 = .ok (.aload_n 0, 1) := by decide +kernel
theorem dX9_growLetter_96 : decode cX9_growLetter 96 = .ok (.getfield 21, 3) := by decide +kernel
theorem dX9_growLetter_99 : decode cX9_growLetter 99 = .ok (.iload_n 2, 1) := by decide +kernel
theorem dX9_growLetter_100 : decode cX9_growLetter 100 = .ok (.iload 6, 2) := by decide +kernel
theorem dX9_growLetter_102 : decode cX9_growLetter 102 = .ok (.iastore, 1) := by decide +kernel
theorem dX9_growLetter_103 : decode cX9_growLetter 103 = .ok (.return_, 1) := by decide +kernel
theorem dX9_blankAhead_0 : decode cX9_blankAhead 0 = .ok (.aload_n 0, 1) := by decide +kernel
theorem dX9_blankAhead_1 : decode cX9_blankAhead 1 = .ok (.getfield 32, 3) := by decide +kernel
theorem dX9_blankAhead_4 : decode cX9_blankAhead 4 = .ok (.getfield 64, 3) := by decide +kernel
theorem dX9_blankAhead_7 : decode cX9_blankAhead 7 = .ok (.ifCond .le 12, 3) := by decide +kernel
theorem dX9_blankAhead_10 : decode cX9_blankAhead 10 = .ok (.aload_n 0, 1) := by decide +kernel
theorem dX9_blankAhead_11 : decode cX9_blankAhead 11 = .ok (.getfield 32, 3) := by decide +kernel
theorem dX9_blankAhead_14 : decode cX9_blankAhead 14 = .ok (.bipush 32, 2) := by decide +kernel
theorem dX9_blankAhead_16 : decode cX9_blankAhead 16 = .ok (.invokevirtual 61, 3) := by decide +kernel
theorem dX9_blankAhead_19 : decode cX9_blankAhead 19 = .ok (.return_, 1) := by decide +kernel
theorem dX9_hasArc_0 : decode cX9_hasArc 0 = .ok (.iload_n 1, 1) := by decide +kernel
theorem dX9_hasArc_1 : decode cX9_hasArc 1 = .ok (.ifCond .le 32, 3) := by decide +kernel
theorem dX9_hasArc_4 : decode cX9_hasArc 4 = .ok (.aload_n 0, 1) := by decide +kernel
theorem dX9_hasArc_5 : decode cX9_hasArc 5 = .ok (.getfield 21, 3) := by decide +kernel
theorem dX9_hasArc_8 : decode cX9_hasArc 8 = .ok (.iload_n 1, 1) := by decide +kernel
theorem dX9_hasArc_9 : decode cX9_hasArc 9 = .ok (.iaload, 1) := by decide +kernel
theorem dX9_hasArc_10 : decode cX9_hasArc 10 = .ok (.iconst (-1), 1) := by decide +kernel
theorem dX9_hasArc_11 : decode cX9_hasArc 11 = .ok (.if_icmp .eq 22, 3) := by decide +kernel
theorem dX9_hasArc_14 : decode cX9_hasArc 14 = .ok (.aload_n 0, 1) := by decide +kernel
theorem dX9_hasArc_15 : decode cX9_hasArc 15 = .ok (.getfield 21, 3) := by decide +kernel
theorem dX9_hasArc_18 : decode cX9_hasArc 18 = .ok (.aload_n 0, 1) := by decide +kernel
theorem dX9_hasArc_19 : decode cX9_hasArc 19 = .ok (.getfield 15, 3) := by decide +kernel
theorem dX9_hasArc_22 : decode cX9_hasArc 22 = .ok (.iload_n 1, 1) := by decide +kernel
theorem dX9_hasArc_23 : decode cX9_hasArc 23 = .ok (.iaload, 1) := by decide +kernel
theorem dX9_hasArc_24 : decode cX9_hasArc 24 = .ok (.iaload, 1) := by decide +kernel
theorem dX9_hasArc_25 : decode cX9_hasArc 25 = .ok (.iconst (-1), 1) := by decide +kernel
theorem dX9_hasArc_26 : decode cX9_hasArc 26 = .ok (.if_icmp .eq 7, 3) := by decide +kernel
theorem dX9_hasArc_29 : decode cX9_hasArc 29 = .ok (.iconst 1, 1) := by decide +kernel
theorem dX9_hasArc_30 : decode cX9_hasArc 30 = .ok (.goto 4, 3) := by decide +kernel
theorem dX9_hasArc_33 : decode cX9_hasArc 33 = .ok (.iconst 0, 1) := by decide +kernel
theorem dX9_hasArc_34 : decode cX9_hasArc 34 = .ok (.ireturn, 1) := by decide +kernel
theorem dX9_arcCount_0 : decode cX9_arcCount 0 = .ok (.iconst 0, 1) := by decide +kernel
theorem dX9_arcCount_1 : decode cX9_arcCount 1 = .ok (.istore_n 1, 1) := by decide +kernel
theorem dX9_arcCount_2 : decode cX9_arcCount 2 = .ok (.iconst 1, 1) := by decide +kernel
theorem dX9_arcCount_3 : decode cX9_arcCount 3 = .ok (.istore_n 2, 1) := by decide +kernel
theorem dX9_arcCount_4 : decode cX9_arcCount 4 = .ok (.iload_n 2, 1) := by decide +kernel
theorem dX9_arcCount_5 : decode cX9_arcCount 5 = .ok (.aload_n 0, 1) := by decide +kernel
theorem dX9_arcCount_6 : decode cX9_arcCount 6 = .ok (.getfield 48, 3) := by decide +kernel
theorem dX9_arcCount_9 : decode cX9_arcCount 9 = .ok (.if_icmp .ge 25, 3) := by decide +kernel
theorem dX9_arcCount_12 : decode cX9_arcCount 12 = .ok (.iload_n 1, 1) := by decide +kernel
theorem dX9_arcCount_13 : decode cX9_arcCount 13 = .ok (.aload_n 0, 1) := by decide +kernel
theorem dX9_arcCount_14 : decode cX9_arcCount 14 = .ok (.iload_n 2, 1) := by decide +kernel
theorem dX9_arcCount_15 : decode cX9_arcCount 15 = .ok (.invokevirtual 126, 3) := by decide +kernel
theorem dX9_arcCount_18 : decode cX9_arcCount 18 = .ok (.ifCond .eq 7, 3) := by decide +kernel
theorem dX9_arcCount_21 : decode cX9_arcCount 21 = .ok (.iconst 1, 1) := by decide +kernel
theorem dX9_arcCount_22 : decode cX9_arcCount 22 = .ok (.goto 4, 3) := by decide +kernel
theorem dX9_arcCount_25 : decode cX9_arcCount 25 = .ok (.iconst 0, 1) := by decide +kernel
theorem dX9_arcCount_26 : decode cX9_arcCount 26 = .ok (.iadd, 1) := by decide +kernel
theorem dX9_arcCount_27 : decode cX9_arcCount 27 = .ok (.istore_n 1, 1) := by decide +kernel
theorem dX9_arcCount_28 : decode cX9_arcCount 28 = .ok (.iinc 2 1, 3) := by decide +kernel
theorem dX9_arcCount_31 : decode cX9_arcCount 31 = .ok (.goto (-27), 3) := by decide +kernel
theorem dX9_arcCount_34 : decode cX9_arcCount 34 = .ok (.iload_n 1, 1) := by decide +kernel
theorem dX9_arcCount_35 : decode cX9_arcCount 35 = .ok (.ireturn, 1) := by decide +kernel
theorem dX9_longestArc_0 : decode cX9_longestArc 0 = .ok (.iconst 0, 1) := by decide +kernel
theorem dX9_longestArc_1 : decode cX9_longestArc 1 = .ok (.istore_n 1, 1) := by decide +kernel
theorem dX9_longestArc_2 : decode cX9_longestArc 2 = .ok (.iconst 1, 1) := by decide +kernel
theorem dX9_longestArc_3 : decode cX9_longestArc 3 = .ok (.istore_n 2, 1) := by decide +kernel
theorem dX9_longestArc_4 : decode cX9_longestArc 4 = .ok (.iload_n 2, 1) := by decide +kernel
theorem dX9_longestArc_5 : decode cX9_longestArc 5 = .ok (.aload_n 0, 1) := by decide +kernel
theorem dX9_longestArc_6 : decode cX9_longestArc 6 = .ok (.getfield 48, 3) := by decide +kernel
theorem dX9_longestArc_9 : decode cX9_longestArc 9 = .ok (.if_icmp .ge 43, 3) := by decide +kernel
theorem dX9_longestArc_12 : decode cX9_longestArc 12 = .ok (.aload_n 0, 1) := by decide +kernel
theorem dX9_longestArc_13 : decode cX9_longestArc 13 = .ok (.iload_n 2, 1) := by decide +kernel
theorem dX9_longestArc_14 : decode cX9_longestArc 14 = .ok (.invokevirtual 126, 3) := by decide +kernel
theorem dX9_longestArc_17 : decode cX9_longestArc 17 = .ok (.ifCond .eq 29, 3) := by decide +kernel
theorem dX9_longestArc_20 : decode cX9_longestArc 20 = .ok (.iload_n 1, 1) := by decide +kernel
theorem dX9_longestArc_21 : decode cX9_longestArc 21 = .ok (.aload_n 0, 1) := by decide +kernel
theorem dX9_longestArc_22 : decode cX9_longestArc 22 = .ok (.getfield 21, 3) := by decide +kernel
theorem dX9_longestArc_25 : decode cX9_longestArc 25 = .ok (.iload_n 2, 1) := by decide +kernel
theorem dX9_longestArc_26 : decode cX9_longestArc 26 = .ok (.iaload, 1) := by decide +kernel
theorem dX9_longestArc_27 : decode cX9_longestArc 27 = .ok (.aload_n 0, 1) := by decide +kernel
theorem dX9_longestArc_28 : decode cX9_longestArc 28 = .ok (.getfield 21, 3) := by decide +kernel
theorem dX9_longestArc_31 : decode cX9_longestArc 31 = .ok (.aload_n 0, 1) := by decide +kernel
theorem dX9_longestArc_32 : decode cX9_longestArc 32 = .ok (.getfield 15, 3) := by decide +kernel
theorem dX9_longestArc_35 : decode cX9_longestArc 35 = .ok (.iload_n 2, 1) := by decide +kernel
theorem dX9_longestArc_36 : decode cX9_longestArc 36 = .ok (.iaload, 1) := by decide +kernel
theorem dX9_longestArc_37 : decode cX9_longestArc 37 = .ok (.iaload, 1) := by decide +kernel
theorem dX9_longestArc_38 : decode cX9_longestArc 38 = .ok (.isub, 1) := by decide +kernel
theorem dX9_longestArc_39 : decode cX9_longestArc 39 = .ok (.invokestatic 130, 3) := by decide +kernel
theorem dX9_longestArc_42 : decode cX9_longestArc 42 = .ok (.invokestatic 111, 3) := by decide +kernel
theorem dX9_longestArc_45 : decode cX9_longestArc 45 = .ok (.istore_n 1, 1) := by decide +kernel
theorem dX9_longestArc_46 : decode cX9_longestArc 46 = .ok (.iinc 2 1, 3) := by decide +kernel
theorem dX9_longestArc_49 : decode cX9_longestArc 49 = .ok (.goto (-45), 3) := by decide +kernel
theorem dX9_longestArc_52 : decode cX9_longestArc 52 = .ok (.iload_n 1, 1) := by decide +kernel
theorem dX9_longestArc_53 : decode cX9_longestArc 53 = .ok (.ireturn, 1) := by decide +kernel
theorem dX9_crossings_0 : decode cX9_crossings 0 = .ok (.iconst 0, 1) := by decide +kernel
theorem dX9_crossings_1 : decode cX9_crossings 1 = .ok (.istore_n 1, 1) := by decide +kernel
theorem dX9_crossings_2 : decode cX9_crossings 2 = .ok (.iconst 1, 1) := by decide +kernel
theorem dX9_crossings_3 : decode cX9_crossings 3 = .ok (.istore_n 2, 1) := by decide +kernel
theorem dX9_crossings_4 : decode cX9_crossings 4 = .ok (.iload_n 2, 1) := by decide +kernel
theorem dX9_crossings_5 : decode cX9_crossings 5 = .ok (.aload_n 0, 1) := by decide +kernel
theorem dX9_crossings_6 : decode cX9_crossings 6 = .ok (.getfield 48, 3) := by decide +kernel
theorem dX9_crossings_9 : decode cX9_crossings 9 = .ok (.if_icmp .ge 60, 3) := by decide +kernel
theorem dX9_crossings_12 : decode cX9_crossings 12 = .ok (.iload_n 2, 1) := by decide +kernel
theorem dX9_crossings_13 : decode cX9_crossings 13 = .ok (.iconst 1, 1) := by decide +kernel
theorem dX9_crossings_14 : decode cX9_crossings 14 = .ok (.iadd, 1) := by decide +kernel
theorem dX9_crossings_15 : decode cX9_crossings 15 = .ok (.istore_n 3, 1) := by decide +kernel
theorem dX9_crossings_16 : decode cX9_crossings 16 = .ok (.iload_n 3, 1) := by decide +kernel
theorem dX9_crossings_17 : decode cX9_crossings 17 = .ok (.aload_n 0, 1) := by decide +kernel
theorem dX9_crossings_18 : decode cX9_crossings 18 = .ok (.getfield 48, 3) := by decide +kernel
theorem dX9_crossings_21 : decode cX9_crossings 21 = .ok (.if_icmp .ge 42, 3) := by decide +kernel
theorem dX9_crossings_24 : decode cX9_crossings 24 = .ok (.iload_n 1, 1) := by decide +kernel
theorem dX9_crossings_25 : decode cX9_crossings 25 = .ok (.aload_n 0, 1) := by decide +kernel
theorem dX9_crossings_26 : decode cX9_crossings 26 = .ok (.iload_n 2, 1) := by decide +kernel
theorem dX9_crossings_27 : decode cX9_crossings 27 = .ok (.invokevirtual 126, 3) := by decide +kernel
theorem dX9_crossings_30 : decode cX9_crossings 30 = .ok (.ifCond .eq 24, 3) := by decide +kernel
theorem dX9_crossings_33 : decode cX9_crossings 33 = .ok (.aload_n 0, 1) := by decide +kernel
theorem dX9_crossings_34 : decode cX9_crossings 34 = .ok (.iload_n 3, 1) := by decide +kernel
theorem dX9_crossings_35 : decode cX9_crossings 35 = .ok (.invokevirtual 126, 3) := by decide +kernel
theorem dX9_crossings_38 : decode cX9_crossings 38 = .ok (.ifCond .eq 16, 3) := by decide +kernel
theorem dX9_crossings_41 : decode cX9_crossings 41 = .ok (.aload_n 0, 1) := by decide +kernel
theorem dX9_crossings_42 : decode cX9_crossings 42 = .ok (.iload_n 2, 1) := by decide +kernel
theorem dX9_crossings_43 : decode cX9_crossings 43 = .ok (.iload_n 3, 1) := by decide +kernel
theorem dX9_crossings_44 : decode cX9_crossings 44 = .ok (.invokevirtual 134, 3) := by decide +kernel
theorem dX9_crossings_47 : decode cX9_crossings 47 = .ok (.ifCond .eq 7, 3) := by decide +kernel
theorem dX9_crossings_50 : decode cX9_crossings 50 = .ok (.iconst 1, 1) := by decide +kernel
theorem dX9_crossings_51 : decode cX9_crossings 51 = .ok (.goto 4, 3) := by decide +kernel
theorem dX9_crossings_54 : decode cX9_crossings 54 = .ok (.iconst 0, 1) := by decide +kernel
theorem dX9_crossings_55 : decode cX9_crossings 55 = .ok (.iadd, 1) := by decide +kernel
theorem dX9_crossings_56 : decode cX9_crossings 56 = .ok (.istore_n 1, 1) := by decide +kernel
theorem dX9_crossings_57 : decode cX9_crossings 57 = .ok (.iinc 3 1, 3) := by decide +kernel
theorem dX9_crossings_60 : decode cX9_crossings 60 = .ok (.goto (-44), 3) := by decide +kernel
theorem dX9_crossings_63 : decode cX9_crossings 63 = .ok (.iinc 2 1, 3) := by decide +kernel
theorem dX9_crossings_66 : decode cX9_crossings 66 = .ok (.goto (-62), 3) := by decide +kernel
theorem dX9_crossings_69 : decode cX9_crossings 69 = .ok (.iload_n 1, 1) := by decide +kernel
theorem dX9_crossings_70 : decode cX9_crossings 70 = .ok (.ireturn, 1) := by decide +kernel
theorem dX9_cross_0 : decode cX9_cross 0 = .ok (.aload_n 0, 1) := by decide +kernel
theorem dX9_cross_1 : decode cX9_cross 1 = .ok (.getfield 21, 3) := by decide +kernel
theorem dX9_cross_4 : decode cX9_cross 4 = .ok (.iload_n 1, 1) := by decide +kernel
theorem dX9_cross_5 : decode cX9_cross 5 = .ok (.iaload, 1) := by decide +kernel
theorem dX9_cross_6 : decode cX9_cross 6 = .ok (.aload_n 0, 1) := by decide +kernel
theorem dX9_cross_7 : decode cX9_cross 7 = .ok (.getfield 21, 3) := by decide +kernel
theorem dX9_cross_10 : decode cX9_cross 10 = .ok (.aload_n 0, 1) := by decide +kernel
theorem dX9_cross_11 : decode cX9_cross 11 = .ok (.getfield 15, 3) := by decide +kernel
theorem dX9_cross_14 : decode cX9_cross 14 = .ok (.iload_n 1, 1) := by decide +kernel
theorem dX9_cross_15 : decode cX9_cross 15 = .ok (.iaload, 1) := by decide +kernel
theorem dX9_cross_16 : decode cX9_cross 16 = .ok (.iaload, 1) := by decide +kernel
theorem dX9_cross_17 : decode cX9_cross 17 = .ok (.invokestatic 138, 3) := by decide +kernel
theorem dX9_cross_20 : decode cX9_cross 20 = .ok (.istore_n 3, 1) := by decide +kernel
theorem dX9_cross_21 : decode cX9_cross 21 = .ok (.aload_n 0, 1) := by decide +kernel
theorem dX9_cross_22 : decode cX9_cross 22 = .ok (.getfield 21, 3) := by decide +kernel
theorem dX9_cross_25 : decode cX9_cross 25 = .ok (.iload_n 1, 1) := by decide +kernel
theorem dX9_cross_26 : decode cX9_cross 26 = .ok (.iaload, 1) := by decide +kernel
theorem dX9_cross_27 : decode cX9_cross 27 = .ok (.aload_n 0, 1) := by decide +kernel
theorem dX9_cross_28 : decode cX9_cross 28 = .ok (.getfield 21, 3) := by decide +kernel
theorem dX9_cross_31 : decode cX9_cross 31 = .ok (.aload_n 0, 1) := by decide +kernel
theorem dX9_cross_32 : decode cX9_cross 32 = .ok (.getfield 15, 3) := by decide +kernel
theorem dX9_cross_35 : decode cX9_cross 35 = .ok (.iload_n 1, 1) := by decide +kernel
theorem dX9_cross_36 : decode cX9_cross 36 = .ok (.iaload, 1) := by decide +kernel
theorem dX9_cross_37 : decode cX9_cross 37 = .ok (.iaload, 1) := by decide +kernel
theorem dX9_cross_38 : decode cX9_cross 38 = .ok (.invokestatic 111, 3) := by decide +kernel
theorem dX9_cross_41 : decode cX9_cross 41 = .ok (.istore 4, 2) := by decide +kernel
theorem dX9_cross_43 : decode cX9_cross 43 = .ok (.aload_n 0, 1) := by decide +kernel
theorem dX9_cross_44 : decode cX9_cross 44 = .ok (.getfield 21, 3) := by decide +kernel
theorem dX9_cross_47 : decode cX9_cross 47 = .ok (.iload_n 2, 1) := by decide +kernel
theorem dX9_cross_48 : decode cX9_cross 48 = .ok (.iaload, 1) := by decide +kernel
theorem dX9_cross_49 : decode cX9_cross 49 = .ok (.aload_n 0, 1) := by decide +kernel
theorem dX9_cross_50 : decode cX9_cross 50 = .ok (.getfield 21, 3) := by decide +kernel
theorem dX9_cross_53 : decode cX9_cross 53 = .ok (.aload_n 0, 1) := by decide +kernel
theorem dX9_cross_54 : decode cX9_cross 54 = .ok (.getfield 15, 3) := by decide +kernel
theorem dX9_cross_57 : decode cX9_cross 57 = .ok (.iload_n 2, 1) := by decide +kernel
theorem dX9_cross_58 : decode cX9_cross 58 = .ok (.iaload, 1) := by decide +kernel
theorem dX9_cross_59 : decode cX9_cross 59 = .ok (.iaload, 1) := by decide +kernel
theorem dX9_cross_60 : decode cX9_cross 60 = .ok (.invokestatic 138, 3) := by decide +kernel
theorem dX9_cross_63 : decode cX9_cross 63 = .ok (.istore 5, 2) := by decide +kernel
theorem dX9_cross_65 : decode cX9_cross 65 = .ok (.aload_n 0, 1) := by decide +kernel
theorem dX9_cross_66 : decode cX9_cross 66 = .ok (.getfield 21, 3) := by decide +kernel
theorem dX9_cross_69 : decode cX9_cross 69 = .ok (.iload_n 2, 1) := by decide +kernel
theorem dX9_cross_70 : decode cX9_cross 70 = .ok (.iaload, 1) := by decide +kernel
theorem dX9_cross_71 : decode cX9_cross 71 = .ok (.aload_n 0, 1) := by decide +kernel
theorem dX9_cross_72 : decode cX9_cross 72 = .ok (.getfield 21, 3) := by decide +kernel
theorem dX9_cross_75 : decode cX9_cross 75 = .ok (.aload_n 0, 1) := by decide +kernel
theorem dX9_cross_76 : decode cX9_cross 76 = .ok (.getfield 15, 3) := by decide +kernel
theorem dX9_cross_79 : decode cX9_cross 79 = .ok (.iload_n 2, 1) := by decide +kernel
theorem dX9_cross_80 : decode cX9_cross 80 = .ok (.iaload, 1) := by decide +kernel
theorem dX9_cross_81 : decode cX9_cross 81 = .ok (.iaload, 1) := by decide +kernel
theorem dX9_cross_82 : decode cX9_cross 82 = .ok (.invokestatic 111, 3) := by decide +kernel
theorem dX9_cross_85 : decode cX9_cross 85 = .ok (.istore 6, 2) := by decide +kernel
theorem dX9_cross_87 : decode cX9_cross 87 = .ok (.iload_n 3, 1) := by decide +kernel
theorem dX9_cross_88 : decode cX9_cross 88 = .ok (.iload 5, 2) := by decide +kernel
theorem dX9_cross_90 : decode cX9_cross 90 = .ok (.if_icmp .ge 17, 3) := by decide +kernel
theorem dX9_cross_93 : decode cX9_cross 93 = .ok (.iload 5, 2) := by decide +kernel
theorem dX9_cross_95 : decode cX9_cross 95 = .ok (.iload 4, 2) := by decide +kernel
theorem dX9_cross_97 : decode cX9_cross 97 = .ok (.if_icmp .ge 10, 3) := by decide +kernel
theorem dX9_cross_100 : decode cX9_cross 100 = .ok (.iload 4, 2) := by decide +kernel
theorem dX9_cross_102 : decode cX9_cross 102 = .ok (.iload 6, 2) := by decide +kernel
theorem dX9_cross_104 : decode cX9_cross 104 = .ok (.if_icmp .lt 22, 3) := by decide +kernel
theorem dX9_cross_107 : decode cX9_cross 107 = .ok (.iload 5, 2) := by decide +kernel
theorem dX9_cross_109 : decode cX9_cross 109 = .ok (.iload_n 3, 1) := by decide +kernel
theorem dX9_cross_110 : decode cX9_cross 110 = .ok (.if_icmp .ge 20, 3) := by decide +kernel
theorem dX9_cross_113 : decode cX9_cross 113 = .ok (.iload_n 3, 1) := by decide +kernel
theorem dX9_cross_114 : decode cX9_cross 114 = .ok (.iload 6, 2) := by decide +kernel
theorem dX9_cross_116 : decode cX9_cross 116 = .ok (.if_icmp .ge 14, 3) := by decide +kernel
theorem dX9_cross_119 : decode cX9_cross 119 = .ok (.iload 6, 2) := by decide +kernel
theorem dX9_cross_121 : decode cX9_cross 121 = .ok (.iload 4, 2) := by decide +kernel
theorem dX9_cross_123 : decode cX9_cross 123 = .ok (.if_icmp .ge 7, 3) := by decide +kernel
theorem dX9_cross_126 : decode cX9_cross 126 = .ok (.iconst 1, 1) := by decide +kernel
theorem dX9_cross_127 : decode cX9_cross 127 = .ok (.goto 4, 3) := by decide +kernel
theorem dX9_cross_130 : decode cX9_cross 130 = .ok (.iconst 0, 1) := by decide +kernel
theorem dX9_cross_131 : decode cX9_cross 131 = .ok (.ireturn, 1) := by decide +kernel
theorem dX10_init_0 : decode cX10_init 0 = .ok (.aload_n 0, 1) := by decide +kernel
theorem dX10_init_1 : decode cX10_init 1 = .ok (.invokespecial 3, 3) := by decide +kernel
theorem dX10_init_4 : decode cX10_init 4 = .ok (.aload_n 0, 1) := by decide +kernel
theorem dX10_init_5 : decode cX10_init 5 = .ok (.sipush 1024, 3) := by decide +kernel
theorem dX10_init_8 : decode cX10_init 8 = .ok (.newarray .int, 2) := by decide +kernel
theorem dX10_init_10 : decode cX10_init 10 = .ok (.putfield 9, 3) := by decide +kernel
theorem dX10_init_13 : decode cX10_init 13 = .ok (.aload_n 0, 1) := by decide +kernel
theorem dX10_init_14 : decode cX10_init 14 = .ok (.sipush 1024, 3) := by decide +kernel
theorem dX10_init_17 : decode cX10_init 17 = .ok (.newarray .int, 2) := by decide +kernel
theorem dX10_init_19 : decode cX10_init 19 = .ok (.putfield 15, 3) := by decide +kernel
theorem dX10_init_22 : decode cX10_init 22 = .ok (.aload_n 0, 1) := by decide +kernel
theorem dX10_init_23 : decode cX10_init 23 = .ok (.sipush 1024, 3) := by decide +kernel
theorem dX10_init_26 : decode cX10_init 26 = .ok (.newarray .long, 2) := by decide +kernel
theorem dX10_init_28 : decode cX10_init 28 = .ok (.putfield 18, 3) := by decide +kernel
theorem dX10_init_31 : decode cX10_init 31 = .ok (.return_, 1) := by decide +kernel
theorem dX10_find_0 : decode cX10_find 0 = .ok (.aload_n 0, 1) := by decide +kernel
theorem dX10_find_1 : decode cX10_find 1 = .ok (.aload_n 1, 1) := by decide +kernel
theorem dX10_find_2 : decode cX10_find 2 = .ok (.putfield 22, 3) := by decide +kernel
theorem dX10_find_5 : decode cX10_find 5 = .ok (.aload_n 0, 1) := by decide +kernel
theorem dX10_find_6 : decode cX10_find 6 = .ok (.aload_n 1, 1) := by decide +kernel
theorem dX10_find_7 : decode cX10_find 7 = .ok (.getfield 26, 3) := by decide +kernel
theorem dX10_find_10 : decode cX10_find 10 = .ok (.putfield 32, 3) := by decide +kernel
theorem dX10_find_13 : decode cX10_find 13 = .ok (.aload_n 0, 1) := by decide +kernel
theorem dX10_find_14 : decode cX10_find 14 = .ok (.aload 4, 2) := by decide +kernel
theorem dX10_find_16 : decode cX10_find 16 = .ok (.putfield 33, 3) := by decide +kernel
theorem dX10_find_19 : decode cX10_find 19 = .ok (.aload_n 0, 1) := by decide +kernel
theorem dX10_find_20 : decode cX10_find 20 = .ok (.getfield 33, 3) := by decide +kernel
theorem dX10_find_23 : decode cX10_find 23 = .ok (.invokevirtual 37, 3) := by decide +kernel
theorem dX10_find_26 : decode cX10_find 26 = .ok (.aload_n 0, 1) := by decide +kernel
theorem dX10_find_27 : decode cX10_find 27 = .ok (.iconst 0, 1) := by decide +kernel
theorem dX10_find_28 : decode cX10_find 28 = .ok (.putfield 42, 3) := by decide +kernel
theorem dX10_find_31 : decode cX10_find 31 = .ok (.aload_n 0, 1) := by decide +kernel
theorem dX10_find_32 : decode cX10_find 32 = .ok (.iconst 0, 1) := by decide +kernel
theorem dX10_find_33 : decode cX10_find 33 = .ok (.putfield 46, 3) := by decide +kernel
theorem dX10_find_36 : decode cX10_find 36 = .ok (.aload_n 0, 1) := by decide +kernel
theorem dX10_find_37 : decode cX10_find 37 = .ok (.aload_n 1, 1) := by decide +kernel
theorem dX10_find_38 : decode cX10_find 38 = .ok (.getfield 49, 3) := by decide +kernel
theorem dX10_find_41 : decode cX10_find 41 = .ok (.putfield 52, 3) := by decide +kernel
theorem dX10_find_44 : decode cX10_find 44 = .ok (.aload_n 0, 1) := by decide +kernel
theorem dX10_find_45 : decode cX10_find 45 = .ok (.lload_n 2, 1) := by decide +kernel
theorem dX10_find_46 : decode cX10_find 46 = .ok (.putfield 55, 3) := by decide +kernel
theorem dX10_find_49 : decode cX10_find 49 = .ok (.aload_n 0, 1) := by decide +kernel
theorem dX10_find_50 : decode cX10_find 50 = .ok (.aload_n 0, 1) := by decide +kernel
theorem dX10_find_51 : decode cX10_find 51 = .ok (.getfield 32, 3) := by decide +kernel
theorem dX10_find_54 : decode cX10_find 54 = .ok (.invokevirtual 59, 3) := by decide +kernel
theorem dX10_find_57 : decode cX10_find 57 = .ok (.iconst (-1), 1) := by decide +kernel
theorem dX10_find_58 : decode cX10_find 58 = .ok (.iconst (-1), 1) := by decide +kernel
theorem dX10_find_59 : decode cX10_find 59 = .ok (.invokevirtual 65, 3) := by decide +kernel
theorem dX10_find_62 : decode cX10_find 62 = .ok (.iconst 0, 1) := by decide +kernel
theorem dX10_find_63 : decode cX10_find 63 = .ok (.istore 5, 2) := by decide +kernel
theorem dX10_find_65 : decode cX10_find 65 = .ok (.iload 5, 2) := by decide +kernel
theorem dX10_find_67 : decode cX10_find 67 = .ok (.sipush 4096, 3) := by decide +kernel
theorem dX10_find_70 : decode cX10_find 70 = .ok (.if_icmp .ge 143, 3) := by decide +kernel
theorem dX10_find_73 : decode cX10_find 73 = .ok (.aload_n 0, 1) := by decide +kernel
theorem dX10_find_74 : decode cX10_find 74 = .ok (.getfield 42, 3) := by decide +kernel
theorem dX10_find_77 : decode cX10_find 77 = .ok (.ifCond .le 136, 3) := by decide +kernel
theorem dX10_find_80 : decode cX10_find 80 = .ok (.aload_n 0, 1) := by decide +kernel
theorem dX10_find_81 : decode cX10_find 81 = .ok (.invokevirtual 69, 3) := by decide +kernel
theorem dX10_find_84 : decode cX10_find 84 = .ok (.istore 6, 2) := by decide +kernel
theorem dX10_find_86 : decode cX10_find 86 = .ok (.aload_n 0, 1) := by decide +kernel
theorem dX10_find_87 : decode cX10_find 87 = .ok (.getfield 32, 3) := by decide +kernel
theorem dX10_find_90 : decode cX10_find 90 = .ok (.getfield 72, 3) := by decide +kernel
theorem dX10_find_93 : decode cX10_find 93 = .ok (.aload_n 0, 1) := by decide +kernel
theorem dX10_find_94 : decode cX10_find 94 = .ok (.getfield 33, 3) := by decide +kernel
theorem dX10_find_97 : decode cX10_find 97 = .ok (.getfield 75, 3) := by decide +kernel
theorem dX10_find_100 : decode cX10_find 100 = .ok (.aload_n 0, 1) := by decide +kernel
theorem dX10_find_101 : decode cX10_find 101 = .ok (.getfield 78, 3) := by decide +kernel
theorem dX10_find_104 : decode cX10_find 104 = .ok (.iaload, 1) := by decide +kernel
theorem dX10_find_105 : decode cX10_find 105 = .ok (.iaload, 1) := by decide +kernel
theorem dX10_find_106 : decode cX10_find 106 = .ok (.aload_n 0, 1) := by decide +kernel
theorem dX10_find_107 : decode cX10_find 107 = .ok (.getfield 81, 3) := by decide +kernel
theorem dX10_find_110 : decode cX10_find 110 = .ok (.iadd, 1) := by decide +kernel
theorem dX10_find_111 : decode cX10_find 111 = .ok (.istore 7, 2) := by decide +kernel
theorem dX10_find_113 : decode cX10_find 113 = .ok (.aload_n 0, 1) := by decide +kernel
theorem dX10_find_114 : decode cX10_find 114 = .ok (.getfield 32, 3) := by decide +kernel
theorem dX10_find_117 : decode cX10_find 117 = .ok (.getfield 84, 3) := by decide +kernel
theorem dX10_find_120 : decode cX10_find 120 = .ok (.iload 7, 2) := by decide +kernel
theorem dX10_find_122 : decode cX10_find 122 = .ok (.iaload, 1) := by decide +kernel
theorem dX10_find_123 : decode cX10_find 123 = .ok (.iconst 4, 1) := by decide +kernel
theorem dX10_find_124 : decode cX10_find 124 = .ok (.if_icmp .ne 36, 3) := by decide +kernel
theorem dX10_find_127 : decode cX10_find 127 = .ok (.aload_n 0, 1) := by decide +kernel
theorem dX10_find_128 : decode cX10_find 128 = .ok (.aload_n 0, 1) := by decide +kernel
theorem dX10_find_129 : decode cX10_find 129 = .ok (.getfield 32, 3) := by decide +kernel
theorem dX10_find_132 : decode cX10_find 132 = .ok (.getfield 87, 3) := by decide +kernel
theorem dX10_find_135 : decode cX10_find 135 = .ok (.aload_n 0, 1) := by decide +kernel
theorem dX10_find_136 : decode cX10_find 136 = .ok (.getfield 32, 3) := by decide +kernel
theorem dX10_find_139 : decode cX10_find 139 = .ok (.getfield 90, 3) := by decide +kernel
theorem dX10_find_142 : decode cX10_find 142 = .ok (.iload 7, 2) := by decide +kernel
theorem dX10_find_144 : decode cX10_find 144 = .ok (.iaload, 1) := by decide +kernel
theorem dX10_find_145 : decode cX10_find 145 = .ok (.iaload, 1) := by decide +kernel
theorem dX10_find_146 : decode cX10_find 146 = .ok (.aload_n 0, 1) := by decide +kernel
theorem dX10_find_147 : decode cX10_find 147 = .ok (.getfield 78, 3) := by decide +kernel
theorem dX10_find_150 : decode cX10_find 150 = .ok (.aload_n 0, 1) := by decide +kernel
theorem dX10_find_151 : decode cX10_find 151 = .ok (.getfield 81, 3) := by decide +kernel
theorem dX10_find_154 : decode cX10_find 154 = .ok (.invokevirtual 65, 3) := by decide +kernel
theorem dX10_find_157 : decode cX10_find 157 = .ok (.goto 50, 3) := by decide +kernel
theorem dX10_find_160 : decode cX10_find 160 = .ok (.aload_n 0, 1) := by decide +kernel
theorem dX10_find_161 : decode cX10_find 161 = .ok (.getfield 32, 3) := by decide +kernel
theorem dX10_find_164 : decode cX10_find 164 = .ok (.getfield 84, 3) := by decide +kernel
theorem dX10_find_167 : decode cX10_find 167 = .ok (.iload 7, 2) := by decide +kernel
theorem dX10_find_169 : decode cX10_find 169 = .ok (.iaload, 1) := by decide +kernel
theorem dX10_find_170 : decode cX10_find 170 = .ok (.ifCond .ne 18, 3) := by decide +kernel
theorem dX10_find_173 : decode cX10_find 173 = .ok (.iload 6, 2) := by decide +kernel
theorem dX10_find_175 : decode cX10_find 175 = .ok (.iconst 1, 1) := by decide +kernel
theorem dX10_find_176 : decode cX10_find 176 = .ok (.if_icmp .ne 12, 3) := by decide +kernel
theorem dX10_find_179 : decode cX10_find 179 = .ok (.aload_n 0, 1) := by decide +kernel
theorem dX10_find_180 : decode cX10_find 180 = .ok (.iload 7, 2) := by decide +kernel
theorem dX10_find_182 : decode cX10_find 182 = .ok (.invokevirtual 93, 3) := by decide +kernel
theorem dX10_find_185 : decode cX10_find 185 = .ok (.goto 22, 3) := by decide +kernel
theorem dX10_find_188 : decode cX10_find 188 = .ok (.aload_n 0, 1) := by decide +kernel
theorem dX10_find_189 : decode cX10_find 189 = .ok (.getfield 32, 3) := by decide +kernel
theorem dX10_find_192 : decode cX10_find 192 = .ok (.getfield 84, 3) := by decide +kernel
theorem dX10_find_195 : decode cX10_find 195 = .ok (.iload 7, 2) := by decide +kernel
theorem dX10_find_197 : decode cX10_find 197 = .ok (.iaload, 1) := by decide +kernel
theorem dX10_find_198 : decode cX10_find 198 = .ok (.ifCond .ne 9, 3) := by decide +kernel
theorem dX10_find_201 : decode cX10_find 201 = .ok (.aload_n 0, 1) := by decide +kernel
theorem dX10_find_202 : decode cX10_find 202 = .ok (.iload 7, 2) := by decide +kernel
theorem dX10_find_204 : decode cX10_find 204 = .ok (.invokevirtual 97, 3) := by decide +kernel
theorem dX10_find_207 : decode cX10_find 207 = .ok (.iinc 5 1, 3) := by decide +kernel
theorem dX10_find_210 : decode cX10_find 210 = .ok (.goto (-145), 3) := by decide +kernel
theorem dX10_find_213 : decode cX10_find 213 = .ok (.return_, 1) := by decide +kernel
theorem dX10_push_0 : decode cX10_push 0 = .ok (.aload_n 0, 1) := by decide +kernel
theorem dX10_push_1 : decode cX10_push 1 = .ok (.getfield 42, 3) := by decide +kernel
theorem dX10_push_4 : decode cX10_push 4 = .ok (.sipush 1024, 3) := by decide +kernel
theorem dX10_push_7 : decode cX10_push 7 = .ok (.if_icmp .ge 54, 3) := by decide +kernel
theorem dX10_push_10 : decode cX10_push 10 = .ok (.aload_n 0, 1) := by decide +kernel
theorem dX10_push_11 : decode cX10_push 11 = .ok (.getfield 9, 3) := by decide +kernel
theorem dX10_push_14 : decode cX10_push 14 = .ok (.aload_n 0, 1) := by decide +kernel
theorem dX10_push_15 : decode cX10_push 15 = .ok (.getfield 42, 3) := by decide +kernel
theorem dX10_push_18 : decode cX10_push 18 = .ok (.iconst 2, 1) := by decide +kernel
theorem dX10_push_19 : decode cX10_push 19 = .ok (.iload_n 1, 1) := by decide +kernel
theorem dX10_push_20 : decode cX10_push 20 = .ok (.bipush 12, 2) := by decide +kernel
theorem dX10_push_22 : decode cX10_push 22 = .ok (.imul, 1) := by decide +kernel
theorem dX10_push_23 : decode cX10_push 23 = .ok (.iload_n 2, 1) := by decide +kernel
theorem dX10_push_24 : decode cX10_push 24 = .ok (.iadd, 1) := by decide +kernel
theorem dX10_push_25 : decode cX10_push 25 = .ok (.imul, 1) := by decide +kernel
theorem dX10_push_26 : decode cX10_push 26 = .ok (.iload_n 3, 1) := by decide +kernel
theorem dX10_push_27 : decode cX10_push 27 = .ok (.iadd, 1) := by decide +kernel
theorem dX10_push_28 : decode cX10_push 28 = .ok (.iastore, 1) := by decide +kernel
theorem dX10_push_29 : decode cX10_push 29 = .ok (.aload_n 0, 1) := by decide +kernel
theorem dX10_push_30 : decode cX10_push 30 = .ok (.getfield 15, 3) := by decide +kernel
theorem dX10_push_33 : decode cX10_push 33 = .ok (.aload_n 0, 1) := by decide +kernel
theorem dX10_push_34 : decode cX10_push 34 = .ok (.getfield 42, 3) := by decide +kernel
theorem dX10_push_37 : decode cX10_push 37 = .ok (.iload 4, 2) := by decide +kernel
theorem dX10_push_39 : decode cX10_push 39 = .ok (.iastore, 1) := by decide +kernel
theorem dX10_push_40 : decode cX10_push 40 = .ok (.aload_n 0, 1) := by decide +kernel
theorem dX10_push_41 : decode cX10_push 41 = .ok (.getfield 18, 3) := by decide +kernel
theorem dX10_push_44 : decode cX10_push 44 = .ok (.aload_n 0, 1) := by decide +kernel
theorem dX10_push_45 : decode cX10_push 45 = .ok (.getfield 42, 3) := by decide +kernel
theorem dX10_push_48 : decode cX10_push 48 = .ok (.lload 5, 2) := by decide +kernel
theorem dX10_push_50 : decode cX10_push 50 = .ok (.lastore, 1) := by decide +kernel
theorem dX10_push_51 : decode cX10_push 51 = .ok (.aload_n 0, 1) := by decide +kernel
theorem dX10_push_52 : decode cX10_push 52 = .ok (.dup, 1) := by decide +kernel
theorem dX10_push_53 : decode cX10_push 53 = .ok (.getfield 42, 3) := by decide +kernel
theorem dX10_push_56 : decode cX10_push 56 = .ok (.iconst 1, 1) := by decide +kernel
theorem dX10_push_57 : decode cX10_push 57 = .ok (.iadd, 1) := by decide +kernel
theorem dX10_push_58 : decode cX10_push 58 = .ok (.putfield 42, 3) := by decide +kernel
theorem dX10_push_61 : decode cX10_push 61 = .ok (.return_, 1) := by decide +kernel
theorem dX10_cover_0 : decode cX10_cover 0 = .ok (.iload_n 0, 1) := by decide +kernel
theorem dX10_cover_1 : decode cX10_cover 1 = .ok (.bipush 12, 2) := by decide +kernel
theorem dX10_cover_3 : decode cX10_cover 3 = .ok (.ishl, 1) := by decide +kernel
theorem dX10_cover_4 : decode cX10_cover 4 = .ok (.iload_n 1, 1) := by decide +kernel
theorem dX10_cover_5 : decode cX10_cover 5 = .ok (.bipush 8, 2) := by decide +kernel
theorem dX10_cover_7 : decode cX10_cover 7 = .ok (.ishl, 1) := by decide +kernel
theorem dX10_cover_8 : decode cX10_cover 8 = .ok (.ior, 1) := by decide +kernel
theorem dX10_cover_9 : decode cX10_cover 9 = .ok (.iload_n 2, 1) := by decide +kernel
theorem dX10_cover_10 : decode cX10_cover 10 = .ok (.iconst 4, 1) := by decide +kernel
theorem dX10_cover_11 : decode cX10_cover 11 = .ok (.ishl, 1) := by decide +kernel
theorem dX10_cover_12 : decode cX10_cover 12 = .ok (.ior, 1) := by decide +kernel
theorem dX10_cover_13 : decode cX10_cover 13 = .ok (.iload_n 3, 1) := by decide +kernel
theorem dX10_cover_14 : decode cX10_cover 14 = .ok (.ior, 1) := by decide +kernel
theorem dX10_cover_15 : decode cX10_cover 15 = .ok (.ireturn, 1) := by decide +kernel
theorem dX10_pop_0 : decode cX10_pop 0 = .ok (.aload_n 0, 1) := by decide +kernel
theorem dX10_pop_1 : decode cX10_pop 1 = .ok (.dup, 1) := by decide +kernel
theorem dX10_pop_2 : decode cX10_pop 2 = .ok (.getfield 42, 3) := by decide +kernel
theorem dX10_pop_5 : decode cX10_pop 5 = .ok (.iconst 1, 1) := by decide +kernel
theorem dX10_pop_6 : decode cX10_pop 6 = .ok (.isub, 1) := by decide +kernel
theorem dX10_pop_7 : decode cX10_pop 7 = .ok (.putfield 42, 3) := by decide +kernel
theorem dX10_pop_10 : decode cX10_pop 10 = .ok (.aload_n 0, 1) := by decide +kernel
theorem dX10_pop_11 : decode cX10_pop 11 = .ok (.getfield 9, 3) := by decide +kernel
theorem dX10_pop_14 : decode cX10_pop 14 = .ok (.aload_n 0, 1) := by decide +kernel
theorem dX10_pop_15 : decode cX10_pop 15 = .ok (.getfield 42, 3) := by decide +kernel
theorem dX10_pop_18 : decode cX10_pop 18 = .ok (.iaload, 1) := by decide +kernel
theorem dX10_pop_19 : decode cX10_pop 19 = .ok (.istore_n 1, 1) := by decide +kernel
theorem dX10_pop_20 : decode cX10_pop 20 = .ok (.aload_n 0, 1) := by decide +kernel
theorem dX10_pop_21 : decode cX10_pop 21 = .ok (.getfield 15, 3) := by decide +kernel
theorem dX10_pop_24 : decode cX10_pop 24 = .ok (.aload_n 0, 1) := by decide +kernel
theorem dX10_pop_25 : decode cX10_pop 25 = .ok (.getfield 42, 3) := by decide +kernel
theorem dX10_pop_28 : decode cX10_pop 28 = .ok (.iaload, 1) := by decide +kernel
theorem dX10_pop_29 : decode cX10_pop 29 = .ok (.istore_n 2, 1) := by decide +kernel
theorem dX10_pop_30 : decode cX10_pop 30 = .ok (.aload_n 0, 1) := by decide +kernel
theorem dX10_pop_31 : decode cX10_pop 31 = .ok (.aload_n 0, 1) := by decide +kernel
theorem dX10_pop_32 : decode cX10_pop 32 = .ok (.getfield 18, 3) := by decide +kernel
theorem dX10_pop_35 : decode cX10_pop 35 = .ok (.aload_n 0, 1) := by decide +kernel
theorem dX10_pop_36 : decode cX10_pop 36 = .ok (.getfield 42, 3) := by decide +kernel
theorem dX10_pop_39 : decode cX10_pop 39 = .ok (.laload, 1) := by decide +kernel
theorem dX10_pop_40 : decode cX10_pop 40 = .ok (.putfield 55, 3) := by decide +kernel
theorem dX10_pop_43 : decode cX10_pop 43 = .ok (.aload_n 0, 1) := by decide +kernel
theorem dX10_pop_44 : decode cX10_pop 44 = .ok (.iload_n 1, 1) := by decide +kernel
theorem dX10_pop_45 : decode cX10_pop 45 = .ok (.iconst 1, 1) := by decide +kernel
theorem dX10_pop_46 : decode cX10_pop 46 = .ok (.ishr, 1) := by decide +kernel
theorem dX10_pop_47 : decode cX10_pop 47 = .ok (.bipush 12, 2) := by decide +kernel
theorem dX10_pop_49 : decode cX10_pop 49 = .ok (.idiv, 1) := by decide +kernel
theorem dX10_pop_50 : decode cX10_pop 50 = .ok (.putfield 78, 3) := by decide +kernel
theorem dX10_pop_53 : decode cX10_pop 53 = .ok (.aload_n 0, 1) := by decide +kernel
theorem dX10_pop_54 : decode cX10_pop 54 = .ok (.iload_n 1, 1) := by decide +kernel
theorem dX10_pop_55 : decode cX10_pop 55 = .ok (.iconst 1, 1) := by decide +kernel
theorem dX10_pop_56 : decode cX10_pop 56 = .ok (.ishr, 1) := by decide +kernel
theorem dX10_pop_57 : decode cX10_pop 57 = .ok (.bipush 12, 2) := by decide +kernel
theorem dX10_pop_59 : decode cX10_pop 59 = .ok (.irem, 1) := by decide +kernel
theorem dX10_pop_60 : decode cX10_pop 60 = .ok (.putfield 81, 3) := by decide +kernel
theorem dX10_pop_63 : decode cX10_pop 63 = .ok (.aload_n 0, 1) := by decide +kernel
theorem dX10_pop_64 : decode cX10_pop 64 = .ok (.iload_n 2, 1) := by decide +kernel
theorem dX10_pop_65 : decode cX10_pop 65 = .ok (.bipush 12, 2) := by decide +kernel
theorem dX10_pop_67 : decode cX10_pop 67 = .ok (.ishr, 1) := by decide +kernel
theorem dX10_pop_68 : decode cX10_pop 68 = .ok (.bipush 15, 2) := by decide +kernel
theorem dX10_pop_70 : decode cX10_pop 70 = .ok (.iand, 1) := by decide +kernel
theorem dX10_pop_71 : decode cX10_pop 71 = .ok (.putfield 46, 3) := by decide +kernel
theorem dX10_pop_74 : decode cX10_pop 74 = .ok (.aload_n 0, 1) := by decide +kernel
theorem dX10_pop_75 : decode cX10_pop 75 = .ok (.iload_n 2, 1) := by decide +kernel
theorem dX10_pop_76 : decode cX10_pop 76 = .ok (.bipush 8, 2) := by decide +kernel
theorem dX10_pop_78 : decode cX10_pop 78 = .ok (.ishr, 1) := by decide +kernel
theorem dX10_pop_79 : decode cX10_pop 79 = .ok (.bipush 15, 2) := by decide +kernel
theorem dX10_pop_81 : decode cX10_pop 81 = .ok (.iand, 1) := by decide +kernel
theorem dX10_pop_82 : decode cX10_pop 82 = .ok (.putfield 52, 3) := by decide +kernel
theorem dX10_pop_85 : decode cX10_pop 85 = .ok (.aload_n 0, 1) := by decide +kernel
theorem dX10_pop_86 : decode cX10_pop 86 = .ok (.iload_n 2, 1) := by decide +kernel
theorem dX10_pop_87 : decode cX10_pop 87 = .ok (.iconst 4, 1) := by decide +kernel
theorem dX10_pop_88 : decode cX10_pop 88 = .ok (.ishr, 1) := by decide +kernel
theorem dX10_pop_89 : decode cX10_pop 89 = .ok (.bipush 15, 2) := by decide +kernel
theorem dX10_pop_91 : decode cX10_pop 91 = .ok (.iand, 1) := by decide +kernel
theorem dX10_pop_92 : decode cX10_pop 92 = .ok (.putfield 100, 3) := by decide +kernel
theorem dX10_pop_95 : decode cX10_pop 95 = .ok (.aload_n 0, 1) := by decide +kernel
theorem dX10_pop_96 : decode cX10_pop 96 = .ok (.iload_n 2, 1) := by decide +kernel
theorem dX10_pop_97 : decode cX10_pop 97 = .ok (.bipush 15, 2) := by decide +kernel
theorem dX10_pop_99 : decode cX10_pop 99 = .ok (.iand, 1) := by decide +kernel
theorem dX10_pop_100 : decode cX10_pop 100 = .ok (.putfield 103, 3) := by decide +kernel
theorem dX10_pop_103 : decode cX10_pop 103 = .ok (.iload_n 1, 1) := by decide +kernel
theorem dX10_pop_104 : decode cX10_pop 104 = .ok (.iconst 1, 1) := by decide +kernel
theorem dX10_pop_105 : decode cX10_pop 105 = .ok (.iand, 1) := by decide +kernel
theorem dX10_pop_106 : decode cX10_pop 106 = .ok (.ireturn, 1) := by decide +kernel
theorem dX10_putHost_0 : decode cX10_putHost 0 = .ok (.iconst 0, 1) := by decide +kernel
theorem dX10_putHost_1 : decode cX10_putHost 1 = .ok (.istore 4, 2) := by decide +kernel
theorem dX10_putHost_3 : decode cX10_putHost 3 = .ok (.iload 4, 2) := by decide +kernel
theorem dX10_putHost_5 : decode cX10_putHost 5 = .ok (.aload_n 0, 1) := by decide +kernel
theorem dX10_putHost_6 : decode cX10_putHost 6 = .ok (.getfield 32, 3) := by decide +kernel
theorem dX10_putHost_9 : decode cX10_putHost 9 = .ok (.getfield 106, 3) := by decide +kernel
theorem dX10_putHost_12 : decode cX10_putHost 12 = .ok (.if_icmp .ge 121, 3) := by decide +kernel
theorem dX10_putHost_15 : decode cX10_putHost 15 = .ok (.iload_n 1, 1) := by decide +kernel
theorem dX10_putHost_16 : decode cX10_putHost 16 = .ok (.iload 4, 2) := by decide +kernel
theorem dX10_putHost_18 : decode cX10_putHost 18 = .ok (.ishr, 1) := by decide +kernel
theorem dX10_putHost_19 : decode cX10_putHost 19 = .ok (.iconst 1, 1) := by decide +kernel
theorem dX10_putHost_20 : decode cX10_putHost 20 = .ok (.iand, 1) := by decide +kernel
theorem dX10_putHost_21 : decode cX10_putHost 21 = .ok (.iconst 1, 1) := by decide +kernel
theorem dX10_putHost_22 : decode cX10_putHost 22 = .ok (.if_icmp .ne 105, 3) := by decide +kernel
theorem dX10_putHost_25 : decode cX10_putHost 25 = .ok (.aload_n 0, 1) := by decide +kernel
theorem dX10_putHost_26 : decode cX10_putHost 26 = .ok (.getfield 22, 3) := by decide +kernel
theorem dX10_putHost_29 : decode cX10_putHost 29 = .ok (.aload_n 0, 1) := by decide +kernel
theorem dX10_putHost_30 : decode cX10_putHost 30 = .ok (.getfield 32, 3) := by decide +kernel
theorem dX10_putHost_33 : decode cX10_putHost 33 = .ok (.getfield 72, 3) := by decide +kernel
theorem dX10_putHost_36 : decode cX10_putHost 36 = .ok (.iload 4, 2) := by decide +kernel
theorem dX10_putHost_38 : decode cX10_putHost 38 = .ok (.iaload, 1) := by decide +kernel
theorem dX10_putHost_39 : decode cX10_putHost 39 = .ok (.iconst 1, 1) := by decide +kernel
theorem dX10_putHost_40 : decode cX10_putHost 40 = .ok (.aload_n 0, 1) := by decide +kernel
theorem dX10_putHost_41 : decode cX10_putHost 41 = .ok (.getfield 46, 3) := by decide +kernel
theorem dX10_putHost_44 : decode cX10_putHost 44 = .ok (.aload_n 0, 1) := by decide +kernel
theorem dX10_putHost_45 : decode cX10_putHost 45 = .ok (.getfield 52, 3) := by decide +kernel
theorem dX10_putHost_48 : decode cX10_putHost 48 = .ok (.aload_n 0, 1) := by decide +kernel
theorem dX10_putHost_49 : decode cX10_putHost 49 = .ok (.getfield 52, 3) := by decide +kernel
theorem dX10_putHost_52 : decode cX10_putHost 52 = .ok (.aload_n 0, 1) := by decide +kernel
theorem dX10_putHost_53 : decode cX10_putHost 53 = .ok (.getfield 52, 3) := by decide +kernel
theorem dX10_putHost_56 : decode cX10_putHost 56 = .ok (.invokevirtual 108, 3) := by decide +kernel
theorem dX10_putHost_59 : decode cX10_putHost 59 = .ok (.lstore 5, 2) := by decide +kernel
theorem dX10_putHost_61 : decode cX10_putHost 61 = .ok (.aload_n 0, 1) := by decide +kernel
theorem dX10_putHost_62 : decode cX10_putHost 62 = .ok (.getfield 55, 3) := by decide +kernel
theorem dX10_putHost_65 : decode cX10_putHost 65 = .ok (.lload 5, 2) := by decide +kernel
theorem dX10_putHost_67 : decode cX10_putHost 67 = .ok (.lcmp, 1) := by decide +kernel
theorem dX10_putHost_68 : decode cX10_putHost 68 = .ok (.ifCond .ge 48, 3) := by decide +kernel
theorem dX10_putHost_71 : decode cX10_putHost 71 = .ok (.aload_n 0, 1) := by decide +kernel
theorem dX10_putHost_72 : decode cX10_putHost 72 = .ok (.getfield 33, 3) := by decide +kernel
theorem dX10_putHost_75 : decode cX10_putHost 75 = .ok (.iload 4, 2) := by decide +kernel
theorem dX10_putHost_77 : decode cX10_putHost 77 = .ok (.iload_n 2, 1) := by decide +kernel
theorem dX10_putHost_78 : decode cX10_putHost 78 = .ok (.iload_n 3, 1) := by decide +kernel
theorem dX10_putHost_79 : decode cX10_putHost 79 = .ok (.invokevirtual 112, 3) := by decide +kernel
theorem dX10_putHost_82 : decode cX10_putHost 82 = .ok (.istore 7, 2) := by decide +kernel
theorem dX10_putHost_84 : decode cX10_putHost 84 = .ok (.aload_n 0, 1) := by decide +kernel
theorem dX10_putHost_85 : decode cX10_putHost 85 = .ok (.iload 7, 2) := by decide +kernel
theorem dX10_putHost_87 : decode cX10_putHost 87 = .ok (.iconst 0, 1) := by decide +kernel
theorem dX10_putHost_88 : decode cX10_putHost 88 = .ok (.iconst 1, 1) := by decide +kernel
theorem dX10_putHost_89 : decode cX10_putHost 89 = .ok (.aload_n 0, 1) := by decide +kernel
theorem dX10_putHost_90 : decode cX10_putHost 90 = .ok (.getfield 46, 3) := by decide +kernel
theorem dX10_putHost_93 : decode cX10_putHost 93 = .ok (.aload_n 0, 1) := by decide +kernel
theorem dX10_putHost_94 : decode cX10_putHost 94 = .ok (.getfield 52, 3) := by decide +kernel
theorem dX10_putHost_97 : decode cX10_putHost 97 = .ok (.aload_n 0, 1) := by decide +kernel
theorem dX10_putHost_98 : decode cX10_putHost 98 = .ok (.getfield 52, 3) := by decide +kernel
theorem dX10_putHost_101 : decode cX10_putHost 101 = .ok (.aload_n 0, 1) := by decide +kernel
theorem dX10_putHost_102 : decode cX10_putHost 102 = .ok (.getfield 52, 3) := by decide +kernel
theorem dX10_putHost_105 : decode cX10_putHost 105 = .ok (.invokestatic 116, 3) := by decide +kernel
theorem dX10_putHost_108 : decode cX10_putHost 108 = .ok (.aload_n 0, 1) := by decide +kernel
theorem dX10_putHost_109 : decode cX10_putHost 109 = .ok (.getfield 55, 3) := by decide +kernel
theorem dX10_putHost_112 : decode cX10_putHost 112 = .ok (.invokevirtual 120, 3) := by decide +kernel
theorem dX10_putHost_115 : decode cX10_putHost 115 = .ok (.return_, 1) := by decide +kernel
theorem dX10_putHost_116 : decode cX10_putHost 116 = .ok (.aload_n 0, 1) := by decide +kernel
theorem dX10_putHost_117 : decode cX10_putHost 117 = .ok (.dup, 1) := by decide +kernel
theorem dX10_putHost_118 : decode cX10_putHost 118 = .ok (.getfield 55, 3) := by decide +kernel
theorem dX10_putHost_121 : decode cX10_putHost 121 = .ok (.lload 5, 2) := by decide +kernel
theorem dX10_putHost_123 : decode cX10_putHost 123 = .ok (.lsub, 1) := by decide +kernel
theorem dX10_putHost_124 : decode cX10_putHost 124 = .ok (.putfield 55, 3) := by decide +kernel
theorem dX10_putHost_127 : decode cX10_putHost 127 = .ok (.iinc 4 1, 3) := by decide +kernel
theorem dX10_putHost_130 : decode cX10_putHost 130 = .ok (.goto (-127), 3) := by decide +kernel
theorem dX10_putHost_133 : decode cX10_putHost 133 = .ok (.return_, 1) := by decide +kernel
theorem dX10_goAbove_0 : decode cX10_goAbove 0 = .ok (.aload_n 0, 1) := by decide +kernel
theorem dX10_goAbove_1 : decode cX10_goAbove 1 = .ok (.getfield 32, 3) := by decide +kernel
theorem dX10_goAbove_4 : decode cX10_goAbove 4 = .ok (.getfield 124, 3) := by decide +kernel
theorem dX10_goAbove_7 : decode cX10_goAbove 7 = .ok (.iload_n 1, 1) := by decide +kernel
theorem dX10_goAbove_8 : decode cX10_goAbove 8 = .ok (.iaload, 1) := by decide +kernel
theorem dX10_goAbove_9 : decode cX10_goAbove 9 = .ok (.iconst 2, 1) := by decide +kernel
theorem dX10_goAbove_10 : decode cX10_goAbove 10 = .ok (.if_icmp .eq 85, 3) := by decide +kernel
theorem dX10_goAbove_13 : decode cX10_goAbove 13 = .ok (.aload_n 0, 1) := by decide +kernel
theorem dX10_goAbove_14 : decode cX10_goAbove 14 = .ok (.getfield 22, 3) := by decide +kernel
theorem dX10_goAbove_17 : decode cX10_goAbove 17 = .ok (.iload_n 1, 1) := by decide +kernel
theorem dX10_goAbove_18 : decode cX10_goAbove 18 = .ok (.iconst 0, 1) := by decide +kernel
theorem dX10_goAbove_19 : decode cX10_goAbove 19 = .ok (.aload_n 0, 1) := by decide +kernel
theorem dX10_goAbove_20 : decode cX10_goAbove 20 = .ok (.getfield 46, 3) := by decide +kernel
theorem dX10_goAbove_23 : decode cX10_goAbove 23 = .ok (.aload_n 0, 1) := by decide +kernel
theorem dX10_goAbove_24 : decode cX10_goAbove 24 = .ok (.getfield 52, 3) := by decide +kernel
theorem dX10_goAbove_27 : decode cX10_goAbove 27 = .ok (.aload_n 0, 1) := by decide +kernel
theorem dX10_goAbove_28 : decode cX10_goAbove 28 = .ok (.getfield 100, 3) := by decide +kernel
theorem dX10_goAbove_31 : decode cX10_goAbove 31 = .ok (.aload_n 0, 1) := by decide +kernel
theorem dX10_goAbove_32 : decode cX10_goAbove 32 = .ok (.getfield 103, 3) := by decide +kernel
theorem dX10_goAbove_35 : decode cX10_goAbove 35 = .ok (.invokevirtual 108, 3) := by decide +kernel
theorem dX10_goAbove_38 : decode cX10_goAbove 38 = .ok (.lstore_n 2, 1) := by decide +kernel
theorem dX10_goAbove_39 : decode cX10_goAbove 39 = .ok (.aload_n 0, 1) := by decide +kernel
theorem dX10_goAbove_40 : decode cX10_goAbove 40 = .ok (.getfield 55, 3) := by decide +kernel
theorem dX10_goAbove_43 : decode cX10_goAbove 43 = .ok (.lload_n 2, 1) := by decide +kernel
theorem dX10_goAbove_44 : decode cX10_goAbove 44 = .ok (.lcmp, 1) := by decide +kernel
theorem dX10_goAbove_45 : decode cX10_goAbove 45 = .ok (.ifCond .ge 40, 3) := by decide +kernel
theorem dX10_goAbove_48 : decode cX10_goAbove 48 = .ok (.aload_n 0, 1) := by decide +kernel
theorem dX10_goAbove_49 : decode cX10_goAbove 49 = .ok (.aload_n 0, 1) := by decide +kernel
theorem dX10_goAbove_50 : decode cX10_goAbove 50 = .ok (.getfield 78, 3) := by decide +kernel
theorem dX10_goAbove_53 : decode cX10_goAbove 53 = .ok (.aload_n 0, 1) := by decide +kernel
theorem dX10_goAbove_54 : decode cX10_goAbove 54 = .ok (.getfield 81, 3) := by decide +kernel
theorem dX10_goAbove_57 : decode cX10_goAbove 57 = .ok (.iconst 0, 1) := by decide +kernel
theorem dX10_goAbove_58 : decode cX10_goAbove 58 = .ok (.aload_n 0, 1) := by decide +kernel
theorem dX10_goAbove_59 : decode cX10_goAbove 59 = .ok (.getfield 46, 3) := by decide +kernel
theorem dX10_goAbove_62 : decode cX10_goAbove 62 = .ok (.aload_n 0, 1) := by decide +kernel
theorem dX10_goAbove_63 : decode cX10_goAbove 63 = .ok (.getfield 52, 3) := by decide +kernel
theorem dX10_goAbove_66 : decode cX10_goAbove 66 = .ok (.aload_n 0, 1) := by decide +kernel
theorem dX10_goAbove_67 : decode cX10_goAbove 67 = .ok (.getfield 100, 3) := by decide +kernel
theorem dX10_goAbove_70 : decode cX10_goAbove 70 = .ok (.aload_n 0, 1) := by decide +kernel
theorem dX10_goAbove_71 : decode cX10_goAbove 71 = .ok (.getfield 103, 3) := by decide +kernel
theorem dX10_goAbove_74 : decode cX10_goAbove 74 = .ok (.invokestatic 116, 3) := by decide +kernel
theorem dX10_goAbove_77 : decode cX10_goAbove 77 = .ok (.aload_n 0, 1) := by decide +kernel
theorem dX10_goAbove_78 : decode cX10_goAbove 78 = .ok (.getfield 55, 3) := by decide +kernel
theorem dX10_goAbove_81 : decode cX10_goAbove 81 = .ok (.invokevirtual 120, 3) := by decide +kernel
theorem dX10_goAbove_84 : decode cX10_goAbove 84 = .ok (.return_, 1) := by decide +kernel
theorem dX10_goAbove_85 : decode cX10_goAbove 85 = .ok (.aload_n 0, 1) := by decide +kernel
theorem dX10_goAbove_86 : decode cX10_goAbove 86 = .ok (.dup, 1) := by decide +kernel
theorem dX10_goAbove_87 : decode cX10_goAbove 87 = .ok (.getfield 55, 3) := by decide +kernel
theorem dX10_goAbove_90 : decode cX10_goAbove 90 = .ok (.lload_n 2, 1) := by decide +kernel
theorem dX10_goAbove_91 : decode cX10_goAbove 91 = .ok (.lsub, 1) := by decide +kernel
theorem dX10_goAbove_92 : decode cX10_goAbove 92 = .ok (.putfield 55, 3) := by decide +kernel
theorem dX10_goAbove_95 : decode cX10_goAbove 95 = .ok (.aload_n 0, 1) := by decide +kernel
theorem dX10_goAbove_96 : decode cX10_goAbove 96 = .ok (.getfield 32, 3) := by decide +kernel
theorem dX10_goAbove_99 : decode cX10_goAbove 99 = .ok (.getfield 127, 3) := by decide +kernel
theorem dX10_goAbove_102 : decode cX10_goAbove 102 = .ok (.aload_n 0, 1) := by decide +kernel
theorem dX10_goAbove_103 : decode cX10_goAbove 103 = .ok (.getfield 32, 3) := by decide +kernel
theorem dX10_goAbove_106 : decode cX10_goAbove 106 = .ok (.getfield 90, 3) := by decide +kernel
theorem dX10_goAbove_109 : decode cX10_goAbove 109 = .ok (.iload_n 1, 1) := by decide +kernel
theorem dX10_goAbove_110 : decode cX10_goAbove 110 = .ok (.iaload, 1) := by decide +kernel
theorem dX10_goAbove_111 : decode cX10_goAbove 111 = .ok (.iaload, 1) := by decide +kernel
theorem dX10_goAbove_112 : decode cX10_goAbove 112 = .ok (.istore_n 2, 1) := by decide +kernel
theorem dX10_goAbove_113 : decode cX10_goAbove 113 = .ok (.iconst 0, 1) := by decide +kernel
theorem dX10_goAbove_114 : decode cX10_goAbove 114 = .ok (.istore_n 3, 1) := by decide +kernel
theorem dX10_goAbove_115 : decode cX10_goAbove 115 = .ok (.iload_n 3, 1) := by decide +kernel
theorem dX10_goAbove_116 : decode cX10_goAbove 116 = .ok (.aload_n 0, 1) := by decide +kernel
theorem dX10_goAbove_117 : decode cX10_goAbove 117 = .ok (.getfield 32, 3) := by decide +kernel
theorem dX10_goAbove_120 : decode cX10_goAbove 120 = .ok (.getfield 106, 3) := by decide +kernel
theorem dX10_goAbove_123 : decode cX10_goAbove 123 = .ok (.if_icmp .ge 28, 3) := by decide +kernel
theorem dX10_goAbove_126 : decode cX10_goAbove 126 = .ok (.iload_n 2, 1) := by decide +kernel
theorem dX10_goAbove_127 : decode cX10_goAbove 127 = .ok (.iload_n 3, 1) := by decide +kernel
theorem dX10_goAbove_128 : decode cX10_goAbove 128 = .ok (.ishr, 1) := by decide +kernel
theorem dX10_goAbove_129 : decode cX10_goAbove 129 = .ok (.iconst 1, 1) := by decide +kernel
theorem dX10_goAbove_130 : decode cX10_goAbove 130 = .ok (.iand, 1) := by decide +kernel
theorem dX10_goAbove_131 : decode cX10_goAbove 131 = .ok (.iconst 1, 1) := by decide +kernel
theorem dX10_goAbove_132 : decode cX10_goAbove 132 = .ok (.if_icmp .ne 13, 3) := by decide +kernel
theorem dX10_goAbove_135 : decode cX10_goAbove 135 = .ok (.aload_n 0, 1) := by decide +kernel
theorem dX10_goAbove_136 : decode cX10_goAbove 136 = .ok (.iload_n 1, 1) := by decide +kernel
theorem dX10_goAbove_137 : decode cX10_goAbove 137 = .ok (.iload_n 3, 1) := by decide +kernel
theorem dX10_goAbove_138 : decode cX10_goAbove 138 = .ok (.invokevirtual 130, 3) := by decide +kernel
theorem dX10_goAbove_141 : decode cX10_goAbove 141 = .ok (.ifCond .eq 4, 3) := by decide +kernel
theorem dX10_goAbove_144 : decode cX10_goAbove 144 = .ok (.return_, 1) := by decide +kernel
theorem dX10_goAbove_145 : decode cX10_goAbove 145 = .ok (.iinc 3 1, 3) := by decide +kernel
theorem dX10_goAbove_148 : decode cX10_goAbove 148 = .ok (.goto (-33), 3) := by decide +kernel
theorem dX10_goAbove_151 : decode cX10_goAbove 151 = .ok (.return_, 1) := by decide +kernel
theorem dX10_putGuest_0 : decode cX10_putGuest 0 = .ok (.aload_n 0, 1) := by decide +kernel
theorem dX10_putGuest_1 : decode cX10_putGuest 1 = .ok (.getfield 32, 3) := by decide +kernel
theorem dX10_putGuest_4 : decode cX10_putGuest 4 = .ok (.getfield 134, 3) := by decide +kernel
theorem dX10_putGuest_7 : decode cX10_putGuest 7 = .ok (.iload_n 1, 1) := by decide +kernel
theorem dX10_putGuest_8 : decode cX10_putGuest 8 = .ok (.baload, 1) := by decide +kernel
theorem dX10_putGuest_9 : decode cX10_putGuest 9 = .ok (.istore_n 3, 1) := by decide +kernel
theorem dX10_putGuest_10 : decode cX10_putGuest 10 = .ok (.aload_n 0, 1) := by decide +kernel
theorem dX10_putGuest_11 : decode cX10_putGuest 11 = .ok (.getfield 46, 3) := by decide +kernel
theorem dX10_putGuest_14 : decode cX10_putGuest 14 = .ok (.istore 4, 2) := by decide +kernel
theorem dX10_putGuest_16 : decode cX10_putGuest 16 = .ok (.iload 4, 2) := by decide +kernel
theorem dX10_putGuest_18 : decode cX10_putGuest 18 = .ok (.aload_n 0, 1) := by decide +kernel
theorem dX10_putGuest_19 : decode cX10_putGuest 19 = .ok (.getfield 100, 3) := by decide +kernel
theorem dX10_putGuest_22 : decode cX10_putGuest 22 = .ok (.if_icmp .gt 252, 3) := by decide +kernel
theorem dX10_putGuest_25 : decode cX10_putGuest 25 = .ok (.iload_n 3, 1) := by decide +kernel
theorem dX10_putGuest_26 : decode cX10_putGuest 26 = .ok (.ifCond .eq 10, 3) := by decide +kernel
theorem dX10_putGuest_29 : decode cX10_putGuest 29 = .ok (.aload_n 0, 1) := by decide +kernel
theorem dX10_putGuest_30 : decode cX10_putGuest 30 = .ok (.getfield 103, 3) := by decide +kernel
theorem dX10_putGuest_33 : decode cX10_putGuest 33 = .ok (.goto 5, 3) := by decide +kernel
theorem dX10_putGuest_36 : decode cX10_putGuest 36 = .ok (.iload 4, 2) := by decide +kernel
theorem dX10_putGuest_38 : decode cX10_putGuest 38 = .ok (.istore 5, 2) := by decide +kernel
theorem dX10_putGuest_40 : decode cX10_putGuest 40 = .ok (.iload 5, 2) := by decide +kernel
theorem dX10_putGuest_42 : decode cX10_putGuest 42 = .ok (.aload_n 0, 1) := by decide +kernel
theorem dX10_putGuest_43 : decode cX10_putGuest 43 = .ok (.getfield 52, 3) := by decide +kernel
theorem dX10_putGuest_46 : decode cX10_putGuest 46 = .ok (.if_icmp .gt 222, 3) := by decide +kernel
theorem dX10_putGuest_49 : decode cX10_putGuest 49 = .ok (.iload_n 3, 1) := by decide +kernel
theorem dX10_putGuest_50 : decode cX10_putGuest 50 = .ok (.ifCond .eq 10, 3) := by decide +kernel
theorem dX10_putGuest_53 : decode cX10_putGuest 53 = .ok (.aload_n 0, 1) := by decide +kernel
theorem dX10_putGuest_54 : decode cX10_putGuest 54 = .ok (.getfield 100, 3) := by decide +kernel
theorem dX10_putGuest_57 : decode cX10_putGuest 57 = .ok (.goto 5, 3) := by decide +kernel
theorem dX10_putGuest_60 : decode cX10_putGuest 60 = .ok (.iload 5, 2) := by decide +kernel
theorem dX10_putGuest_62 : decode cX10_putGuest 62 = .ok (.istore 6, 2) := by decide +kernel
theorem dX10_putGuest_64 : decode cX10_putGuest 64 = .ok (.iload_n 3, 1) := by decide +kernel
theorem dX10_putGuest_65 : decode cX10_putGuest 65 = .ok (.ifCond .eq 10, 3) := by decide +kernel
theorem dX10_putGuest_68 : decode cX10_putGuest 68 = .ok (.aload_n 0, 1) := by decide +kernel
theorem dX10_putGuest_69 : decode cX10_putGuest 69 = .ok (.getfield 103, 3) := by decide +kernel
theorem dX10_putGuest_72 : decode cX10_putGuest 72 = .ok (.goto 5, 3) := by decide +kernel
theorem dX10_putGuest_75 : decode cX10_putGuest 75 = .ok (.iload 5, 2) := by decide +kernel
theorem dX10_putGuest_77 : decode cX10_putGuest 77 = .ok (.istore 7, 2) := by decide +kernel
theorem dX10_putGuest_79 : decode cX10_putGuest 79 = .ok (.aload_n 0, 1) := by decide +kernel
theorem dX10_putGuest_80 : decode cX10_putGuest 80 = .ok (.getfield 22, 3) := by decide +kernel
theorem dX10_putGuest_83 : decode cX10_putGuest 83 = .ok (.iload_n 1, 1) := by decide +kernel
theorem dX10_putGuest_84 : decode cX10_putGuest 84 = .ok (.iconst 0, 1) := by decide +kernel
theorem dX10_putGuest_85 : decode cX10_putGuest 85 = .ok (.iload 4, 2) := by decide +kernel
theorem dX10_putGuest_87 : decode cX10_putGuest 87 = .ok (.iload 5, 2) := by decide +kernel
theorem dX10_putGuest_89 : decode cX10_putGuest 89 = .ok (.iload 6, 2) := by decide +kernel
theorem dX10_putGuest_91 : decode cX10_putGuest 91 = .ok (.iload 7, 2) := by decide +kernel
theorem dX10_putGuest_93 : decode cX10_putGuest 93 = .ok (.invokevirtual 108, 3) := by decide +kernel
theorem dX10_putGuest_96 : decode cX10_putGuest 96 = .ok (.lstore 8, 2) := by decide +kernel
theorem dX10_putGuest_98 : decode cX10_putGuest 98 = .ok (.aload_n 0, 1) := by decide +kernel
theorem dX10_putGuest_99 : decode cX10_putGuest 99 = .ok (.getfield 22, 3) := by decide +kernel
theorem dX10_putGuest_102 : decode cX10_putGuest 102 = .ok (.aload_n 0, 1) := by decide +kernel
theorem dX10_putGuest_103 : decode cX10_putGuest 103 = .ok (.getfield 32, 3) := by decide +kernel
theorem dX10_putGuest_106 : decode cX10_putGuest 106 = .ok (.getfield 72, 3) := by decide +kernel
theorem dX10_putGuest_109 : decode cX10_putGuest 109 = .ok (.iload_n 2, 1) := by decide +kernel
theorem dX10_putGuest_110 : decode cX10_putGuest 110 = .ok (.iaload, 1) := by decide +kernel
theorem dX10_putGuest_111 : decode cX10_putGuest 111 = .ok (.iconst 1, 1) := by decide +kernel
theorem dX10_putGuest_112 : decode cX10_putGuest 112 = .ok (.aload_n 0, 1) := by decide +kernel
theorem dX10_putGuest_113 : decode cX10_putGuest 113 = .ok (.getfield 46, 3) := by decide +kernel
theorem dX10_putGuest_116 : decode cX10_putGuest 116 = .ok (.aload_n 0, 1) := by decide +kernel
theorem dX10_putGuest_117 : decode cX10_putGuest 117 = .ok (.getfield 52, 3) := by decide +kernel
theorem dX10_putGuest_120 : decode cX10_putGuest 120 = .ok (.iload 4, 2) := by decide +kernel
theorem dX10_putGuest_122 : decode cX10_putGuest 122 = .ok (.iload 5, 2) := by decide +kernel
theorem dX10_putGuest_124 : decode cX10_putGuest 124 = .ok (.invokevirtual 108, 3) := by decide +kernel
theorem dX10_putGuest_127 : decode cX10_putGuest 127 = .ok (.lstore 10, 2) := by decide +kernel
theorem dX10_putGuest_129 : decode cX10_putGuest 129 = .ok (.lload 8, 2) := by decide +kernel
theorem dX10_putGuest_131 : decode cX10_putGuest 131 = .ok (.lconst 0, 1) := by decide +kernel
theorem dX10_putGuest_132 : decode cX10_putGuest 132 = .ok (.lcmp, 1) := by decide +kernel
theorem dX10_putGuest_133 : decode cX10_putGuest 133 = .ok (.ifCond .le 97, 3) := by decide +kernel
theorem dX10_putGuest_136 : decode cX10_putGuest 136 = .ok (.aload_n 0, 1) := by decide +kernel
theorem dX10_putGuest_137 : decode cX10_putGuest 137 = .ok (.getfield 55, 3) := by decide +kernel
theorem dX10_putGuest_140 : decode cX10_putGuest 140 = .ok (.lload 8, 2) := by decide +kernel
theorem dX10_putGuest_142 : decode cX10_putGuest 142 = .ok (.ldiv, 1) := by decide +kernel
theorem dX10_putGuest_143 : decode cX10_putGuest 143 = .ok (.lload 10, 2) := by decide +kernel
theorem dX10_putGuest_145 : decode cX10_putGuest 145 = .ok (.lcmp, 1) := by decide +kernel
theorem dX10_putGuest_146 : decode cX10_putGuest 146 = .ok (.ifCond .ge 84, 3) := by decide +kernel
theorem dX10_putGuest_149 : decode cX10_putGuest 149 = .ok (.aload_n 0, 1) := by decide +kernel
theorem dX10_putGuest_150 : decode cX10_putGuest 150 = .ok (.aload_n 0, 1) := by decide +kernel
theorem dX10_putGuest_151 : decode cX10_putGuest 151 = .ok (.getfield 78, 3) := by decide +kernel
theorem dX10_putGuest_154 : decode cX10_putGuest 154 = .ok (.aload_n 0, 1) := by decide +kernel
theorem dX10_putGuest_155 : decode cX10_putGuest 155 = .ok (.getfield 81, 3) := by decide +kernel
theorem dX10_putGuest_158 : decode cX10_putGuest 158 = .ok (.iconst 0, 1) := by decide +kernel
theorem dX10_putGuest_159 : decode cX10_putGuest 159 = .ok (.iload 4, 2) := by decide +kernel
theorem dX10_putGuest_161 : decode cX10_putGuest 161 = .ok (.iload 5, 2) := by decide +kernel
theorem dX10_putGuest_163 : decode cX10_putGuest 163 = .ok (.iload 6, 2) := by decide +kernel
theorem dX10_putGuest_165 : decode cX10_putGuest 165 = .ok (.iload 7, 2) := by decide +kernel
theorem dX10_putGuest_167 : decode cX10_putGuest 167 = .ok (.invokestatic 116, 3) := by decide +kernel
theorem dX10_putGuest_170 : decode cX10_putGuest 170 = .ok (.aload_n 0, 1) := by decide +kernel
theorem dX10_putGuest_171 : decode cX10_putGuest 171 = .ok (.getfield 55, 3) := by decide +kernel
theorem dX10_putGuest_174 : decode cX10_putGuest 174 = .ok (.lload 8, 2) := by decide +kernel
theorem dX10_putGuest_176 : decode cX10_putGuest 176 = .ok (.lrem, 1) := by decide +kernel
theorem dX10_putGuest_177 : decode cX10_putGuest 177 = .ok (.invokevirtual 120, 3) := by decide +kernel
theorem dX10_putGuest_180 : decode cX10_putGuest 180 = .ok (.aload_n 0, 1) := by decide +kernel
theorem dX10_putGuest_181 : decode cX10_putGuest 181 = .ok (.getfield 33, 3) := by decide +kernel
theorem dX10_putGuest_184 : decode cX10_putGuest 184 = .ok (.iload_n 2, 1) := by decide +kernel
theorem dX10_putGuest_185 : decode cX10_putGuest 185 = .ok (.aload_n 0, 1) := by decide +kernel
theorem dX10_putGuest_186 : decode cX10_putGuest 186 = .ok (.getfield 78, 3) := by decide +kernel
theorem dX10_putGuest_189 : decode cX10_putGuest 189 = .ok (.aload_n 0, 1) := by decide +kernel
theorem dX10_putGuest_190 : decode cX10_putGuest 190 = .ok (.getfield 81, 3) := by decide +kernel
theorem dX10_putGuest_193 : decode cX10_putGuest 193 = .ok (.invokevirtual 112, 3) := by decide +kernel
theorem dX10_putGuest_196 : decode cX10_putGuest 196 = .ok (.istore 12, 2) := by decide +kernel
theorem dX10_putGuest_198 : decode cX10_putGuest 198 = .ok (.aload_n 0, 1) := by decide +kernel
theorem dX10_putGuest_199 : decode cX10_putGuest 199 = .ok (.iload 12, 2) := by decide +kernel
theorem dX10_putGuest_201 : decode cX10_putGuest 201 = .ok (.iconst 0, 1) := by decide +kernel
theorem dX10_putGuest_202 : decode cX10_putGuest 202 = .ok (.iconst 1, 1) := by decide +kernel
theorem dX10_putGuest_203 : decode cX10_putGuest 203 = .ok (.aload_n 0, 1) := by decide +kernel
theorem dX10_putGuest_204 : decode cX10_putGuest 204 = .ok (.getfield 46, 3) := by decide +kernel
theorem dX10_putGuest_207 : decode cX10_putGuest 207 = .ok (.aload_n 0, 1) := by decide +kernel
theorem dX10_putGuest_208 : decode cX10_putGuest 208 = .ok (.getfield 52, 3) := by decide +kernel
theorem dX10_putGuest_211 : decode cX10_putGuest 211 = .ok (.iload 4, 2) := by decide +kernel
theorem dX10_putGuest_213 : decode cX10_putGuest 213 = .ok (.iload 5, 2) := by decide +kernel
theorem dX10_putGuest_215 : decode cX10_putGuest 215 = .ok (.invokestatic 116, 3) := by decide +kernel
theorem dX10_putGuest_218 : decode cX10_putGuest 218 = .ok (.aload_n 0, 1) := by decide +kernel
theorem dX10_putGuest_219 : decode cX10_putGuest 219 = .ok (.getfield 55, 3) := by decide +kernel
theorem dX10_putGuest_222 : decode cX10_putGuest 222 = .ok (.lload 8, 2) := by decide +kernel
theorem dX10_putGuest_224 : decode cX10_putGuest 224 = .ok (.ldiv, 1) := by decide +kernel
theorem dX10_putGuest_225 : decode cX10_putGuest 225 = .ok (.invokevirtual 120, 3) := by decide +kernel
theorem dX10_putGuest_228 : decode cX10_putGuest 228 = .ok (.iconst 1, 1) := by decide +kernel
theorem dX10_putGuest_229 : decode cX10_putGuest 229 = .ok (.ireturn, 1) := by decide +kernel
theorem dX10_putGuest_230 : decode cX10_putGuest 230 = .ok (.aload_n 0, 1) := by decide +kernel
theorem dX10_putGuest_231 : decode cX10_putGuest 231 = .ok (.dup, 1) := by decide +kernel
theorem dX10_putGuest_232 : decode cX10_putGuest 232 = .ok (.getfield 55, 3) := by decide +kernel
theorem dX10_putGuest_235 : decode cX10_putGuest 235 = .ok (.lload 8, 2) := by decide +kernel
theorem dX10_putGuest_237 : decode cX10_putGuest 237 = .ok (.lconst 0, 1) := by decide +kernel
theorem dX10_putGuest_238 : decode cX10_putGuest 238 = .ok (.lcmp, 1) := by decide +kernel
theorem dX10_putGuest_239 : decode cX10_putGuest 239 = .ok (.ifCond .le 18, 3) := by decide +kernel
theorem dX10_putGuest_242 : decode cX10_putGuest 242 = .ok (.lload 10, 2) := by decide +kernel
theorem dX10_putGuest_244 : decode cX10_putGuest 244 = .ok (.lconst 0, 1) := by decide +kernel
theorem dX10_putGuest_245 : decode cX10_putGuest 245 = .ok (.lcmp, 1) := by decide +kernel
theorem dX10_putGuest_246 : decode cX10_putGuest 246 = .ok (.ifCond .le 11, 3) := by decide +kernel
theorem dX10_putGuest_249 : decode cX10_putGuest 249 = .ok (.lload 8, 2) := by decide +kernel
theorem dX10_putGuest_251 : decode cX10_putGuest 251 = .ok (.lload 10, 2) := by decide +kernel
theorem dX10_putGuest_253 : decode cX10_putGuest 253 = .ok (.lmul, 1) := by decide +kernel
theorem dX10_putGuest_254 : decode cX10_putGuest 254 = .ok (.goto 4, 3) := by decide +kernel
theorem dX10_putGuest_257 : decode cX10_putGuest 257 = .ok (.lconst 0, 1) := by decide +kernel
theorem dX10_putGuest_258 : decode cX10_putGuest 258 = .ok (.lsub, 1) := by decide +kernel
theorem dX10_putGuest_259 : decode cX10_putGuest 259 = .ok (.putfield 55, 3) := by decide +kernel
theorem dX10_putGuest_262 : decode cX10_putGuest 262 = .ok (.iinc 5 1, 3) := by decide +kernel
theorem dX10_putGuest_265 : decode cX10_putGuest 265 = .ok (.goto (-225), 3) := by decide +kernel
theorem dX10_putGuest_268 : decode cX10_putGuest 268 = .ok (.iinc 4 1, 3) := by decide +kernel
theorem dX10_putGuest_271 : decode cX10_putGuest 271 = .ok (.goto (-255), 3) := by decide +kernel
theorem dX10_putGuest_274 : decode cX10_putGuest 274 = .ok (.iconst 0, 1) := by decide +kernel
theorem dX10_putGuest_275 : decode cX10_putGuest 275 = .ok (.ireturn, 1) := by decide +kernel
theorem dX10_goBelow_0 : decode cX10_goBelow 0 = .ok (.aload_n 0, 1) := by decide +kernel
theorem dX10_goBelow_1 : decode cX10_goBelow 1 = .ok (.getfield 32, 3) := by decide +kernel
theorem dX10_goBelow_4 : decode cX10_goBelow 4 = .ok (.getfield 72, 3) := by decide +kernel
theorem dX10_goBelow_7 : decode cX10_goBelow 7 = .ok (.aload_n 0, 1) := by decide +kernel
theorem dX10_goBelow_8 : decode cX10_goBelow 8 = .ok (.getfield 33, 3) := by decide +kernel
theorem dX10_goBelow_11 : decode cX10_goBelow 11 = .ok (.getfield 75, 3) := by decide +kernel
theorem dX10_goBelow_14 : decode cX10_goBelow 14 = .ok (.aload_n 0, 1) := by decide +kernel
theorem dX10_goBelow_15 : decode cX10_goBelow 15 = .ok (.getfield 78, 3) := by decide +kernel
theorem dX10_goBelow_18 : decode cX10_goBelow 18 = .ok (.iaload, 1) := by decide +kernel
theorem dX10_goBelow_19 : decode cX10_goBelow 19 = .ok (.iaload, 1) := by decide +kernel
theorem dX10_goBelow_20 : decode cX10_goBelow 20 = .ok (.istore_n 2, 1) := by decide +kernel
theorem dX10_goBelow_21 : decode cX10_goBelow 21 = .ok (.aload_n 0, 1) := by decide +kernel
theorem dX10_goBelow_22 : decode cX10_goBelow 22 = .ok (.getfield 32, 3) := by decide +kernel
theorem dX10_goBelow_25 : decode cX10_goBelow 25 = .ok (.getfield 138, 3) := by decide +kernel
theorem dX10_goBelow_28 : decode cX10_goBelow 28 = .ok (.iload_n 1, 1) := by decide +kernel
theorem dX10_goBelow_29 : decode cX10_goBelow 29 = .ok (.iaload, 1) := by decide +kernel
theorem dX10_goBelow_30 : decode cX10_goBelow 30 = .ok (.istore_n 3, 1) := by decide +kernel
theorem dX10_goBelow_31 : decode cX10_goBelow 31 = .ok (.aload_n 0, 1) := by decide +kernel
theorem dX10_goBelow_32 : decode cX10_goBelow 32 = .ok (.getfield 32, 3) := by decide +kernel
theorem dX10_goBelow_35 : decode cX10_goBelow 35 = .ok (.getfield 141, 3) := by decide +kernel
theorem dX10_goBelow_38 : decode cX10_goBelow 38 = .ok (.iload_n 1, 1) := by decide +kernel
theorem dX10_goBelow_39 : decode cX10_goBelow 39 = .ok (.iaload, 1) := by decide +kernel
theorem dX10_goBelow_40 : decode cX10_goBelow 40 = .ok (.istore 4, 2) := by decide +kernel
theorem dX10_goBelow_42 : decode cX10_goBelow 42 = .ok (.iload 4, 2) := by decide +kernel
theorem dX10_goBelow_44 : decode cX10_goBelow 44 = .ok (.iconst (-1), 1) := by decide +kernel
theorem dX10_goBelow_45 : decode cX10_goBelow 45 = .ok (.if_icmp .ne 39, 3) := by decide +kernel
theorem dX10_goBelow_48 : decode cX10_goBelow 48 = .ok (.aload_n 0, 1) := by decide +kernel
theorem dX10_goBelow_49 : decode cX10_goBelow 49 = .ok (.aload_n 0, 1) := by decide +kernel
theorem dX10_goBelow_50 : decode cX10_goBelow 50 = .ok (.getfield 78, 3) := by decide +kernel
theorem dX10_goBelow_53 : decode cX10_goBelow 53 = .ok (.iload_n 3, 1) := by decide +kernel
theorem dX10_goBelow_54 : decode cX10_goBelow 54 = .ok (.iload_n 2, 1) := by decide +kernel
theorem dX10_goBelow_55 : decode cX10_goBelow 55 = .ok (.isub, 1) := by decide +kernel
theorem dX10_goBelow_56 : decode cX10_goBelow 56 = .ok (.iconst 1, 1) := by decide +kernel
theorem dX10_goBelow_57 : decode cX10_goBelow 57 = .ok (.aload_n 0, 1) := by decide +kernel
theorem dX10_goBelow_58 : decode cX10_goBelow 58 = .ok (.getfield 46, 3) := by decide +kernel
theorem dX10_goBelow_61 : decode cX10_goBelow 61 = .ok (.aload_n 0, 1) := by decide +kernel
theorem dX10_goBelow_62 : decode cX10_goBelow 62 = .ok (.getfield 52, 3) := by decide +kernel
theorem dX10_goBelow_65 : decode cX10_goBelow 65 = .ok (.aload_n 0, 1) := by decide +kernel
theorem dX10_goBelow_66 : decode cX10_goBelow 66 = .ok (.getfield 100, 3) := by decide +kernel
theorem dX10_goBelow_69 : decode cX10_goBelow 69 = .ok (.aload_n 0, 1) := by decide +kernel
theorem dX10_goBelow_70 : decode cX10_goBelow 70 = .ok (.getfield 103, 3) := by decide +kernel
theorem dX10_goBelow_73 : decode cX10_goBelow 73 = .ok (.invokestatic 116, 3) := by decide +kernel
theorem dX10_goBelow_76 : decode cX10_goBelow 76 = .ok (.aload_n 0, 1) := by decide +kernel
theorem dX10_goBelow_77 : decode cX10_goBelow 77 = .ok (.getfield 55, 3) := by decide +kernel
theorem dX10_goBelow_80 : decode cX10_goBelow 80 = .ok (.invokevirtual 120, 3) := by decide +kernel
theorem dX10_goBelow_83 : decode cX10_goBelow 83 = .ok (.return_, 1) := by decide +kernel
theorem dX10_goBelow_84 : decode cX10_goBelow 84 = .ok (.aload_n 0, 1) := by decide +kernel
theorem dX10_goBelow_85 : decode cX10_goBelow 85 = .ok (.getfield 32, 3) := by decide +kernel
theorem dX10_goBelow_88 : decode cX10_goBelow 88 = .ok (.getfield 134, 3) := by decide +kernel
theorem dX10_goBelow_91 : decode cX10_goBelow 91 = .ok (.iload_n 3, 1) := by decide +kernel
theorem dX10_goBelow_92 : decode cX10_goBelow 92 = .ok (.baload, 1) := by decide +kernel
theorem dX10_goBelow_93 : decode cX10_goBelow 93 = .ok (.istore 5, 2) := by decide +kernel
theorem dX10_goBelow_95 : decode cX10_goBelow 95 = .ok (.iload 5, 2) := by decide +kernel
theorem dX10_goBelow_97 : decode cX10_goBelow 97 = .ok (.ifCond .eq 10, 3) := by decide +kernel
theorem dX10_goBelow_100 : decode cX10_goBelow 100 = .ok (.aload_n 0, 1) := by decide +kernel
theorem dX10_goBelow_101 : decode cX10_goBelow 101 = .ok (.getfield 52, 3) := by decide +kernel
theorem dX10_goBelow_104 : decode cX10_goBelow 104 = .ok (.goto 7, 3) := by decide +kernel
theorem dX10_goBelow_107 : decode cX10_goBelow 107 = .ok (.aload_n 0, 1) := by decide +kernel
theorem dX10_goBelow_108 : decode cX10_goBelow 108 = .ok (.getfield 100, 3) := by decide +kernel
theorem dX10_goBelow_111 : decode cX10_goBelow 111 = .ok (.istore 6, 2) := by decide +kernel
theorem dX10_goBelow_113 : decode cX10_goBelow 113 = .ok (.iload 5, 2) := by decide +kernel
theorem dX10_goBelow_115 : decode cX10_goBelow 115 = .ok (.ifCond .eq 10, 3) := by decide +kernel
theorem dX10_goBelow_118 : decode cX10_goBelow 118 = .ok (.aload_n 0, 1) := by decide +kernel
theorem dX10_goBelow_119 : decode cX10_goBelow 119 = .ok (.getfield 103, 3) := by decide +kernel
theorem dX10_goBelow_122 : decode cX10_goBelow 122 = .ok (.goto 7, 3) := by decide +kernel
theorem dX10_goBelow_125 : decode cX10_goBelow 125 = .ok (.aload_n 0, 1) := by decide +kernel
theorem dX10_goBelow_126 : decode cX10_goBelow 126 = .ok (.getfield 46, 3) := by decide +kernel
theorem dX10_goBelow_129 : decode cX10_goBelow 129 = .ok (.istore 7, 2) := by decide +kernel
theorem dX10_goBelow_131 : decode cX10_goBelow 131 = .ok (.iload 7, 2) := by decide +kernel
theorem dX10_goBelow_133 : decode cX10_goBelow 133 = .ok (.iload 6, 2) := by decide +kernel
theorem dX10_goBelow_135 : decode cX10_goBelow 135 = .ok (.if_icmp .gt 208, 3) := by decide +kernel
theorem dX10_goBelow_138 : decode cX10_goBelow 138 = .ok (.iload 5, 2) := by decide +kernel
theorem dX10_goBelow_140 : decode cX10_goBelow 140 = .ok (.ifCond .eq 23, 3) := by decide +kernel
theorem dX10_goBelow_143 : decode cX10_goBelow 143 = .ok (.aload_n 0, 1) := by decide +kernel
theorem dX10_goBelow_144 : decode cX10_goBelow 144 = .ok (.getfield 46, 3) := by decide +kernel
theorem dX10_goBelow_147 : decode cX10_goBelow 147 = .ok (.iload 7, 2) := by decide +kernel
theorem dX10_goBelow_149 : decode cX10_goBelow 149 = .ok (.aload_n 0, 1) := by decide +kernel
theorem dX10_goBelow_150 : decode cX10_goBelow 150 = .ok (.getfield 100, 3) := by decide +kernel
theorem dX10_goBelow_153 : decode cX10_goBelow 153 = .ok (.aload_n 0, 1) := by decide +kernel
theorem dX10_goBelow_154 : decode cX10_goBelow 154 = .ok (.getfield 103, 3) := by decide +kernel
theorem dX10_goBelow_157 : decode cX10_goBelow 157 = .ok (.invokestatic 116, 3) := by decide +kernel
theorem dX10_goBelow_160 : decode cX10_goBelow 160 = .ok (.goto 16, 3) := by decide +kernel
theorem dX10_goBelow_163 : decode cX10_goBelow 163 = .ok (.aload_n 0, 1) := by decide +kernel
theorem dX10_goBelow_164 : decode cX10_goBelow 164 = .ok (.getfield 46, 3) := by decide +kernel
theorem dX10_goBelow_167 : decode cX10_goBelow 167 = .ok (.iload 7, 2) := by decide +kernel
theorem dX10_goBelow_169 : decode cX10_goBelow 169 = .ok (.iload 7, 2) := by decide +kernel
theorem dX10_goBelow_171 : decode cX10_goBelow 171 = .ok (.iload 7, 2) := by decide +kernel
theorem dX10_goBelow_173 : decode cX10_goBelow 173 = .ok (.invokestatic 116, 3) := by decide +kernel
theorem dX10_goBelow_176 : decode cX10_goBelow 176 = .ok (.istore 8, 2) := by decide +kernel
theorem dX10_goBelow_178 : decode cX10_goBelow 178 = .ok (.iload 5, 2) := by decide +kernel
theorem dX10_goBelow_180 : decode cX10_goBelow 180 = .ok (.ifCond .eq 23, 3) := by decide +kernel
theorem dX10_goBelow_183 : decode cX10_goBelow 183 = .ok (.iload 7, 2) := by decide +kernel
theorem dX10_goBelow_185 : decode cX10_goBelow 185 = .ok (.aload_n 0, 1) := by decide +kernel
theorem dX10_goBelow_186 : decode cX10_goBelow 186 = .ok (.getfield 52, 3) := by decide +kernel
theorem dX10_goBelow_189 : decode cX10_goBelow 189 = .ok (.aload_n 0, 1) := by decide +kernel
theorem dX10_goBelow_190 : decode cX10_goBelow 190 = .ok (.getfield 52, 3) := by decide +kernel
theorem dX10_goBelow_193 : decode cX10_goBelow 193 = .ok (.aload_n 0, 1) := by decide +kernel
theorem dX10_goBelow_194 : decode cX10_goBelow 194 = .ok (.getfield 52, 3) := by decide +kernel
theorem dX10_goBelow_197 : decode cX10_goBelow 197 = .ok (.invokestatic 116, 3) := by decide +kernel
theorem dX10_goBelow_200 : decode cX10_goBelow 200 = .ok (.goto 20, 3) := by decide +kernel
theorem dX10_goBelow_203 : decode cX10_goBelow 203 = .ok (.iload 7, 2) := by decide +kernel
theorem dX10_goBelow_205 : decode cX10_goBelow 205 = .ok (.aload_n 0, 1) := by decide +kernel
theorem dX10_goBelow_206 : decode cX10_goBelow 206 = .ok (.getfield 52, 3) := by decide +kernel
theorem dX10_goBelow_209 : decode cX10_goBelow 209 = .ok (.aload_n 0, 1) := by decide +kernel
theorem dX10_goBelow_210 : decode cX10_goBelow 210 = .ok (.getfield 100, 3) := by decide +kernel
theorem dX10_goBelow_213 : decode cX10_goBelow 213 = .ok (.aload_n 0, 1) := by decide +kernel
theorem dX10_goBelow_214 : decode cX10_goBelow 214 = .ok (.getfield 103, 3) := by decide +kernel
theorem dX10_goBelow_217 : decode cX10_goBelow 217 = .ok (.invokestatic 116, 3) := by decide +kernel
theorem dX10_goBelow_220 : decode cX10_goBelow 220 = .ok (.istore 9, 2) := by decide +kernel
theorem dX10_goBelow_222 : decode cX10_goBelow 222 = .ok (.aload_n 0, 1) := by decide +kernel
theorem dX10_goBelow_223 : decode cX10_goBelow 223 = .ok (.iload_n 3, 1) := by decide +kernel
theorem dX10_goBelow_224 : decode cX10_goBelow 224 = .ok (.iload 8, 2) := by decide +kernel
theorem dX10_goBelow_226 : decode cX10_goBelow 226 = .ok (.invokevirtual 144, 3) := by decide +kernel
theorem dX10_goBelow_229 : decode cX10_goBelow 229 = .ok (.lstore 10, 2) := by decide +kernel
theorem dX10_goBelow_231 : decode cX10_goBelow 231 = .ok (.aload_n 0, 1) := by decide +kernel
theorem dX10_goBelow_232 : decode cX10_goBelow 232 = .ok (.iload 4, 2) := by decide +kernel
theorem dX10_goBelow_234 : decode cX10_goBelow 234 = .ok (.iload 9, 2) := by decide +kernel
theorem dX10_goBelow_236 : decode cX10_goBelow 236 = .ok (.invokevirtual 144, 3) := by decide +kernel
theorem dX10_goBelow_239 : decode cX10_goBelow 239 = .ok (.lstore 12, 2) := by decide +kernel
theorem dX10_goBelow_241 : decode cX10_goBelow 241 = .ok (.lload 12, 2) := by decide +kernel
theorem dX10_goBelow_243 : decode cX10_goBelow 243 = .ok (.lconst 0, 1) := by decide +kernel
theorem dX10_goBelow_244 : decode cX10_goBelow 244 = .ok (.lcmp, 1) := by decide +kernel
theorem dX10_goBelow_245 : decode cX10_goBelow 245 = .ok (.ifCond .le 60, 3) := by decide +kernel
theorem dX10_goBelow_248 : decode cX10_goBelow 248 = .ok (.aload_n 0, 1) := by decide +kernel
theorem dX10_goBelow_249 : decode cX10_goBelow 249 = .ok (.getfield 55, 3) := by decide +kernel
theorem dX10_goBelow_252 : decode cX10_goBelow 252 = .ok (.lload 12, 2) := by decide +kernel
theorem dX10_goBelow_254 : decode cX10_goBelow 254 = .ok (.ldiv, 1) := by decide +kernel
theorem dX10_goBelow_255 : decode cX10_goBelow 255 = .ok (.lload 10, 2) := by decide +kernel
theorem dX10_goBelow_257 : decode cX10_goBelow 257 = .ok (.lcmp, 1) := by decide +kernel
theorem dX10_goBelow_258 : decode cX10_goBelow 258 = .ok (.ifCond .ge 47, 3) := by decide +kernel
theorem dX10_goBelow_261 : decode cX10_goBelow 261 = .ok (.aload_n 0, 1) := by decide +kernel
theorem dX10_goBelow_262 : decode cX10_goBelow 262 = .ok (.aload_n 0, 1) := by decide +kernel
theorem dX10_goBelow_263 : decode cX10_goBelow 263 = .ok (.getfield 78, 3) := by decide +kernel
theorem dX10_goBelow_266 : decode cX10_goBelow 266 = .ok (.iload 4, 2) := by decide +kernel
theorem dX10_goBelow_268 : decode cX10_goBelow 268 = .ok (.iload_n 2, 1) := by decide +kernel
theorem dX10_goBelow_269 : decode cX10_goBelow 269 = .ok (.isub, 1) := by decide +kernel
theorem dX10_goBelow_270 : decode cX10_goBelow 270 = .ok (.iconst 1, 1) := by decide +kernel
theorem dX10_goBelow_271 : decode cX10_goBelow 271 = .ok (.iload 9, 2) := by decide +kernel
theorem dX10_goBelow_273 : decode cX10_goBelow 273 = .ok (.aload_n 0, 1) := by decide +kernel
theorem dX10_goBelow_274 : decode cX10_goBelow 274 = .ok (.getfield 55, 3) := by decide +kernel
theorem dX10_goBelow_277 : decode cX10_goBelow 277 = .ok (.lload 12, 2) := by decide +kernel
theorem dX10_goBelow_279 : decode cX10_goBelow 279 = .ok (.lrem, 1) := by decide +kernel
theorem dX10_goBelow_280 : decode cX10_goBelow 280 = .ok (.invokevirtual 120, 3) := by decide +kernel
theorem dX10_goBelow_283 : decode cX10_goBelow 283 = .ok (.aload_n 0, 1) := by decide +kernel
theorem dX10_goBelow_284 : decode cX10_goBelow 284 = .ok (.aload_n 0, 1) := by decide +kernel
theorem dX10_goBelow_285 : decode cX10_goBelow 285 = .ok (.getfield 78, 3) := by decide +kernel
theorem dX10_goBelow_288 : decode cX10_goBelow 288 = .ok (.iload_n 3, 1) := by decide +kernel
theorem dX10_goBelow_289 : decode cX10_goBelow 289 = .ok (.iload_n 2, 1) := by decide +kernel
theorem dX10_goBelow_290 : decode cX10_goBelow 290 = .ok (.isub, 1) := by decide +kernel
theorem dX10_goBelow_291 : decode cX10_goBelow 291 = .ok (.iconst 1, 1) := by decide +kernel
theorem dX10_goBelow_292 : decode cX10_goBelow 292 = .ok (.iload 8, 2) := by decide +kernel
theorem dX10_goBelow_294 : decode cX10_goBelow 294 = .ok (.aload_n 0, 1) := by decide +kernel
theorem dX10_goBelow_295 : decode cX10_goBelow 295 = .ok (.getfield 55, 3) := by decide +kernel
theorem dX10_goBelow_298 : decode cX10_goBelow 298 = .ok (.lload 12, 2) := by decide +kernel
theorem dX10_goBelow_300 : decode cX10_goBelow 300 = .ok (.ldiv, 1) := by decide +kernel
theorem dX10_goBelow_301 : decode cX10_goBelow 301 = .ok (.invokevirtual 120, 3) := by decide +kernel
theorem dX10_goBelow_304 : decode cX10_goBelow 304 = .ok (.return_, 1) := by decide +kernel
theorem dX10_goBelow_305 : decode cX10_goBelow 305 = .ok (.aload_n 0, 1) := by decide +kernel
theorem dX10_goBelow_306 : decode cX10_goBelow 306 = .ok (.dup, 1) := by decide +kernel
theorem dX10_goBelow_307 : decode cX10_goBelow 307 = .ok (.getfield 55, 3) := by decide +kernel
theorem dX10_goBelow_310 : decode cX10_goBelow 310 = .ok (.lload 12, 2) := by decide +kernel
theorem dX10_goBelow_312 : decode cX10_goBelow 312 = .ok (.lconst 0, 1) := by decide +kernel
theorem dX10_goBelow_313 : decode cX10_goBelow 313 = .ok (.lcmp, 1) := by decide +kernel
theorem dX10_goBelow_314 : decode cX10_goBelow 314 = .ok (.ifCond .le 18, 3) := by decide +kernel
theorem dX10_goBelow_317 : decode cX10_goBelow 317 = .ok (.lload 10, 2) := by decide +kernel
theorem dX10_goBelow_319 : decode cX10_goBelow 319 = .ok (.lconst 0, 1) := by decide +kernel
theorem dX10_goBelow_320 : decode cX10_goBelow 320 = .ok (.lcmp, 1) := by decide +kernel
theorem dX10_goBelow_321 : decode cX10_goBelow 321 = .ok (.ifCond .le 11, 3) := by decide +kernel
theorem dX10_goBelow_324 : decode cX10_goBelow 324 = .ok (.lload 12, 2) := by decide +kernel
theorem dX10_goBelow_326 : decode cX10_goBelow 326 = .ok (.lload 10, 2) := by decide +kernel
theorem dX10_goBelow_328 : decode cX10_goBelow 328 = .ok (.lmul, 1) := by decide +kernel
theorem dX10_goBelow_329 : decode cX10_goBelow 329 = .ok (.goto 4, 3) := by decide +kernel
theorem dX10_goBelow_332 : decode cX10_goBelow 332 = .ok (.lconst 0, 1) := by decide +kernel
theorem dX10_goBelow_333 : decode cX10_goBelow 333 = .ok (.lsub, 1) := by decide +kernel
theorem dX10_goBelow_334 : decode cX10_goBelow 334 = .ok (.putfield 55, 3) := by decide +kernel
theorem dX10_goBelow_337 : decode cX10_goBelow 337 = .ok (.iinc 7 1, 3) := by decide +kernel
theorem dX10_goBelow_340 : decode cX10_goBelow 340 = .ok (.goto (-209), 3) := by decide +kernel
theorem dX10_goBelow_343 : decode cX10_goBelow 343 = .ok (.return_, 1) := by decide +kernel
theorem dX10_valueOf_0 : decode cX10_valueOf 0 = .ok (.aload_n 0, 1) := by decide +kernel
theorem dX10_valueOf_1 : decode cX10_valueOf 1 = .ok (.getfield 22, 3) := by decide +kernel
theorem dX10_valueOf_4 : decode cX10_valueOf 4 = .ok (.iload_n 1, 1) := by decide +kernel
theorem dX10_valueOf_5 : decode cX10_valueOf 5 = .ok (.iconst 1, 1) := by decide +kernel
theorem dX10_valueOf_6 : decode cX10_valueOf 6 = .ok (.iload_n 2, 1) := by decide +kernel
theorem dX10_valueOf_7 : decode cX10_valueOf 7 = .ok (.bipush 12, 2) := by decide +kernel
theorem dX10_valueOf_9 : decode cX10_valueOf 9 = .ok (.ishr, 1) := by decide +kernel
theorem dX10_valueOf_10 : decode cX10_valueOf 10 = .ok (.bipush 15, 2) := by decide +kernel
theorem dX10_valueOf_12 : decode cX10_valueOf 12 = .ok (.iand, 1) := by decide +kernel
theorem dX10_valueOf_13 : decode cX10_valueOf 13 = .ok (.iload_n 2, 1) := by decide +kernel
theorem dX10_valueOf_14 : decode cX10_valueOf 14 = .ok (.bipush 8, 2) := by decide +kernel
theorem dX10_valueOf_16 : decode cX10_valueOf 16 = .ok (.ishr, 1) := by decide +kernel
theorem dX10_valueOf_17 : decode cX10_valueOf 17 = .ok (.bipush 15, 2) := by decide +kernel
theorem dX10_valueOf_19 : decode cX10_valueOf 19 = .ok (.iand, 1) := by decide +kernel
theorem dX10_valueOf_20 : decode cX10_valueOf 20 = .ok (.iload_n 2, 1) := by decide +kernel
theorem dX10_valueOf_21 : decode cX10_valueOf 21 = .ok (.iconst 4, 1) := by decide +kernel
theorem dX10_valueOf_22 : decode cX10_valueOf 22 = .ok (.ishr, 1) := by decide +kernel
theorem dX10_valueOf_23 : decode cX10_valueOf 23 = .ok (.bipush 15, 2) := by decide +kernel
theorem dX10_valueOf_25 : decode cX10_valueOf 25 = .ok (.iand, 1) := by decide +kernel
theorem dX10_valueOf_26 : decode cX10_valueOf 26 = .ok (.iload_n 2, 1) := by decide +kernel
theorem dX10_valueOf_27 : decode cX10_valueOf 27 = .ok (.bipush 15, 2) := by decide +kernel
theorem dX10_valueOf_29 : decode cX10_valueOf 29 = .ok (.iand, 1) := by decide +kernel
theorem dX10_valueOf_30 : decode cX10_valueOf 30 = .ok (.invokevirtual 108, 3) := by decide +kernel
theorem dX10_valueOf_33 : decode cX10_valueOf 33 = .ok (.lreturn, 1) := by decide +kernel
theorem dX11_init_0 : decode cX11_init 0 = .ok (.aload_n 0, 1) := by decide +kernel
theorem dX11_init_1 : decode cX11_init 1 = .ok (.invokespecial 3, 3) := by decide +kernel
theorem dX11_init_4 : decode cX11_init 4 = .ok (.aload_n 0, 1) := by decide +kernel
theorem dX11_init_5 : decode cX11_init 5 = .ok (.new 9, 3) := by decide +kernel
theorem dX11_init_8 : decode cX11_init 8 = .ok (.dup, 1) := by decide +kernel
theorem dX11_init_9 : decode cX11_init 9 = .ok (.sipush 400, 3) := by decide +kernel
theorem dX11_init_12 : decode cX11_init 12 = .ok (.invokespecial 11, 3) := by decide +kernel
theorem dX11_init_15 : decode cX11_init 15 = .ok (.putfield 14, 3) := by decide +kernel
theorem dX11_init_18 : decode cX11_init 18 = .ok (.aload_n 0, 1) := by decide +kernel
theorem dX11_init_19 : decode cX11_init 19 = .ok (.new 9, 3) := by decide +kernel
theorem dX11_init_22 : decode cX11_init 22 = .ok (.dup, 1) := by decide +kernel
theorem dX11_init_23 : decode cX11_init 23 = .ok (.sipush 2048, 3) := by decide +kernel
theorem dX11_init_26 : decode cX11_init 26 = .ok (.invokespecial 11, 3) := by decide +kernel
theorem dX11_init_29 : decode cX11_init 29 = .ok (.putfield 18, 3) := by decide +kernel
theorem dX11_init_32 : decode cX11_init 32 = .ok (.aload_n 0, 1) := by decide +kernel
theorem dX11_init_33 : decode cX11_init 33 = .ok (.new 9, 3) := by decide +kernel
theorem dX11_init_36 : decode cX11_init 36 = .ok (.dup, 1) := by decide +kernel
theorem dX11_init_37 : decode cX11_init 37 = .ok (.bipush 8, 2) := by decide +kernel
theorem dX11_init_39 : decode cX11_init 39 = .ok (.invokespecial 11, 3) := by decide +kernel
theorem dX11_init_42 : decode cX11_init 42 = .ok (.putfield 21, 3) := by decide +kernel
theorem dX11_init_45 : decode cX11_init 45 = .ok (.aload_n 0, 1) := by decide +kernel
theorem dX11_init_46 : decode cX11_init 46 = .ok (.new 24, 3) := by decide +kernel
theorem dX11_init_49 : decode cX11_init 49 = .ok (.dup, 1) := by decide +kernel
theorem dX11_init_50 : decode cX11_init 50 = .ok (.invokespecial 26, 3) := by decide +kernel
theorem dX11_init_53 : decode cX11_init 53 = .ok (.putfield 27, 3) := by decide +kernel
theorem dX11_init_56 : decode cX11_init 56 = .ok (.aload_n 0, 1) := by decide +kernel
theorem dX11_init_57 : decode cX11_init 57 = .ok (.new 31, 3) := by decide +kernel
theorem dX11_init_60 : decode cX11_init 60 = .ok (.dup, 1) := by decide +kernel
theorem dX11_init_61 : decode cX11_init 61 = .ok (.invokespecial 33, 3) := by decide +kernel
theorem dX11_init_64 : decode cX11_init 64 = .ok (.putfield 34, 3) := by decide +kernel
theorem dX11_init_67 : decode cX11_init 67 = .ok (.aload_n 0, 1) := by decide +kernel
theorem dX11_init_68 : decode cX11_init 68 = .ok (.new 38, 3) := by decide +kernel
theorem dX11_init_71 : decode cX11_init 71 = .ok (.dup, 1) := by decide +kernel
theorem dX11_init_72 : decode cX11_init 72 = .ok (.aload_n 0, 1) := by decide +kernel
theorem dX11_init_73 : decode cX11_init 73 = .ok (.getfield 21, 3) := by decide +kernel
theorem dX11_init_76 : decode cX11_init 76 = .ok (.invokespecial 40, 3) := by decide +kernel
theorem dX11_init_79 : decode cX11_init 79 = .ok (.putfield 43, 3) := by decide +kernel
theorem dX11_init_82 : decode cX11_init 82 = .ok (.aload_n 0, 1) := by decide +kernel
theorem dX11_init_83 : decode cX11_init 83 = .ok (.new 47, 3) := by decide +kernel
theorem dX11_init_86 : decode cX11_init 86 = .ok (.dup, 1) := by decide +kernel
theorem dX11_init_87 : decode cX11_init 87 = .ok (.aload_n 0, 1) := by decide +kernel
theorem dX11_init_88 : decode cX11_init 88 = .ok (.getfield 21, 3) := by decide +kernel
theorem dX11_init_91 : decode cX11_init 91 = .ok (.invokespecial 49, 3) := by decide +kernel
theorem dX11_init_94 : decode cX11_init 94 = .ok (.putfield 50, 3) := by decide +kernel
theorem dX11_init_97 : decode cX11_init 97 = .ok (.aload_n 0, 1) := by decide +kernel
theorem dX11_init_98 : decode cX11_init 98 = .ok (.new 54, 3) := by decide +kernel
theorem dX11_init_101 : decode cX11_init 101 = .ok (.dup, 1) := by decide +kernel
theorem dX11_init_102 : decode cX11_init 102 = .ok (.invokespecial 56, 3) := by decide +kernel
theorem dX11_init_105 : decode cX11_init 105 = .ok (.putfield 57, 3) := by decide +kernel
theorem dX11_init_108 : decode cX11_init 108 = .ok (.aload_n 0, 1) := by decide +kernel
theorem dX11_init_109 : decode cX11_init 109 = .ok (.new 61, 3) := by decide +kernel
theorem dX11_init_112 : decode cX11_init 112 = .ok (.dup, 1) := by decide +kernel
theorem dX11_init_113 : decode cX11_init 113 = .ok (.invokespecial 63, 3) := by decide +kernel
theorem dX11_init_116 : decode cX11_init 116 = .ok (.putfield 64, 3) := by decide +kernel
theorem dX11_init_119 : decode cX11_init 119 = .ok (.aload_n 0, 1) := by decide +kernel
theorem dX11_init_120 : decode cX11_init 120 = .ok (.new 61, 3) := by decide +kernel
theorem dX11_init_123 : decode cX11_init 123 = .ok (.dup, 1) := by decide +kernel
theorem dX11_init_124 : decode cX11_init 124 = .ok (.invokespecial 63, 3) := by decide +kernel
theorem dX11_init_127 : decode cX11_init 127 = .ok (.putfield 68, 3) := by decide +kernel
theorem dX11_init_130 : decode cX11_init 130 = .ok (.aload_n 0, 1) := by decide +kernel
theorem dX11_init_131 : decode cX11_init 131 = .ok (.new 71, 3) := by decide +kernel
theorem dX11_init_134 : decode cX11_init 134 = .ok (.dup, 1) := by decide +kernel
theorem dX11_init_135 : decode cX11_init 135 = .ok (.invokespecial 73, 3) := by decide +kernel
theorem dX11_init_138 : decode cX11_init 138 = .ok (.putfield 74, 3) := by decide +kernel
theorem dX11_init_141 : decode cX11_init 141 = .ok (.aload_n 0, 1) := by decide +kernel
theorem dX11_init_142 : decode cX11_init 142 = .ok (.new 78, 3) := by decide +kernel
theorem dX11_init_145 : decode cX11_init 145 = .ok (.dup, 1) := by decide +kernel
theorem dX11_init_146 : decode cX11_init 146 = .ok (.invokespecial 80, 3) := by decide +kernel
theorem dX11_init_149 : decode cX11_init 149 = .ok (.putfield 81, 3) := by decide +kernel
theorem dX11_init_152 : decode cX11_init 152 = .ok (.aload_n 0, 1) := by decide +kernel
theorem dX11_init_153 : decode cX11_init 153 = .ok (.new 78, 3) := by decide +kernel
theorem dX11_init_156 : decode cX11_init 156 = .ok (.dup, 1) := by decide +kernel
theorem dX11_init_157 : decode cX11_init 157 = .ok (.invokespecial 80, 3) := by decide +kernel
theorem dX11_init_160 : decode cX11_init 160 = .ok (.putfield 85, 3) := by decide +kernel
theorem dX11_init_163 : decode cX11_init 163 = .ok (.aload_n 0, 1) := by decide +kernel
theorem dX11_init_164 : decode cX11_init 164 = .ok (.bipush 6, 2) := by decide +kernel
theorem dX11_init_166 : decode cX11_init 166 = .ok (.sipush 256, 3) := by decide +kernel
theorem dX11_init_169 : decode cX11_init 169 = .ok (.multianewarray 88 2, 4) := by decide +kernel
theorem dX11_init_173 : decode cX11_init 173 = .ok (.putfield 90, 3) := by decide +kernel
theorem dX11_init_176 : decode cX11_init 176 = .ok (.aload_n 0, 1) := by decide +kernel
theorem dX11_init_177 : decode cX11_init 177 = .ok (.bipush 6, 2) := by decide +kernel
theorem dX11_init_179 : decode cX11_init 179 = .ok (.newarray .int, 2) := by decide +kernel
theorem dX11_init_181 : decode cX11_init 181 = .ok (.putfield 93, 3) := by decide +kernel
theorem dX11_init_184 : decode cX11_init 184 = .ok (.aload_n 0, 1) := by decide +kernel
theorem dX11_init_185 : decode cX11_init 185 = .ok (.new 97, 3) := by decide +kernel
theorem dX11_init_188 : decode cX11_init 188 = .ok (.dup, 1) := by decide +kernel
theorem dX11_init_189 : decode cX11_init 189 = .ok (.invokespecial 99, 3) := by decide +kernel
theorem dX11_init_192 : decode cX11_init 192 = .ok (.putfield 100, 3) := by decide +kernel
theorem dX11_init_195 : decode cX11_init 195 = .ok (.aload_n 0, 1) := by decide +kernel
theorem dX11_init_196 : decode cX11_init 196 = .ok (.new 97, 3) := by decide +kernel
theorem dX11_init_199 : decode cX11_init 199 = .ok (.dup, 1) := by decide +kernel
theorem dX11_init_200 : decode cX11_init 200 = .ok (.invokespecial 99, 3) := by decide +kernel
theorem dX11_init_203 : decode cX11_init 203 = .ok (.putfield 104, 3) := by decide +kernel
theorem dX11_init_206 : decode cX11_init 206 = .ok (.aload_n 0, 1) := by decide +kernel
theorem dX11_init_207 : decode cX11_init 207 = .ok (.iconst 0, 1) := by decide +kernel
theorem dX11_init_208 : decode cX11_init 208 = .ok (.putfield 107, 3) := by decide +kernel
theorem dX11_init_211 : decode cX11_init 211 = .ok (.return_, 1) := by decide +kernel
theorem dX11_feed_0 : decode cX11_feed 0 = .ok (.aload_n 0, 1) := by decide +kernel
theorem dX11_feed_1 : decode cX11_feed 1 = .ok (.getfield 14, 3) := by decide +kernel
theorem dX11_feed_4 : decode cX11_feed 4 = .ok (.invokevirtual 111, 3) := by decide +kernel
theorem dX11_feed_7 : decode cX11_feed 7 = .ok (.bipush 20, 2) := by decide +kernel
theorem dX11_feed_9 : decode cX11_feed 9 = .ok (.if_icmp .ge 5, 3) := by decide +kernel
theorem dX11_feed_12 : decode cX11_feed 12 = .ok (.iconst (-1), 1) := by decide +kernel
theorem dX11_feed_13 : decode cX11_feed 13 = .ok (.ireturn, 1) := by decide +kernel
theorem dX11_feed_14 : decode cX11_feed 14 = .ok (.aload_n 0, 1) := by decide +kernel
theorem dX11_feed_15 : decode cX11_feed 15 = .ok (.getfield 14, 3) := by decide +kernel
theorem dX11_feed_18 : decode cX11_feed 18 = .ok (.iload_n 1, 1) := by decide +kernel
theorem dX11_feed_19 : decode cX11_feed 19 = .ok (.invokevirtual 115, 3) := by decide +kernel
theorem dX11_feed_22 : decode cX11_feed 22 = .ok (.aload_n 0, 1) := by decide +kernel
theorem dX11_feed_23 : decode cX11_feed 23 = .ok (.getfield 14, 3) := by decide +kernel
theorem dX11_feed_26 : decode cX11_feed 26 = .ok (.iload_n 2, 1) := by decide +kernel
theorem dX11_feed_27 : decode cX11_feed 27 = .ok (.invokevirtual 115, 3) := by decide +kernel
theorem dX11_feed_30 : decode cX11_feed 30 = .ok (.aload_n 0, 1) := by decide +kernel
theorem dX11_feed_31 : decode cX11_feed 31 = .ok (.getfield 14, 3) := by decide +kernel
theorem dX11_feed_34 : decode cX11_feed 34 = .ok (.iload_n 3, 1) := by decide +kernel
theorem dX11_feed_35 : decode cX11_feed 35 = .ok (.invokevirtual 115, 3) := by decide +kernel
theorem dX11_feed_38 : decode cX11_feed 38 = .ok (.aload_n 0, 1) := by decide +kernel
theorem dX11_feed_39 : decode cX11_feed 39 = .ok (.getfield 14, 3) := by decide +kernel
theorem dX11_feed_42 : decode cX11_feed 42 = .ok (.iload 4, 2) := by decide +kernel
theorem dX11_feed_44 : decode cX11_feed 44 = .ok (.invokevirtual 115, 3) := by decide +kernel
theorem dX11_feed_47 : decode cX11_feed 47 = .ok (.aload_n 0, 1) := by decide +kernel
theorem dX11_feed_48 : decode cX11_feed 48 = .ok (.getfield 14, 3) := by decide +kernel
theorem dX11_feed_51 : decode cX11_feed 51 = .ok (.iload 5, 2) := by decide +kernel
theorem dX11_feed_53 : decode cX11_feed 53 = .ok (.invokevirtual 115, 3) := by decide +kernel
theorem dX11_feed_56 : decode cX11_feed 56 = .ok (.aload_n 0, 1) := by decide +kernel
theorem dX11_feed_57 : decode cX11_feed 57 = .ok (.getfield 14, 3) := by decide +kernel
theorem dX11_feed_60 : decode cX11_feed 60 = .ok (.getfield 118, 3) := by decide +kernel
theorem dX11_feed_63 : decode cX11_feed 63 = .ok (.ireturn, 1) := by decide +kernel
theorem dX11_end_0 : decode cX11_end 0 = .ok (.iload_n 1, 1) := by decide +kernel
theorem dX11_end_1 : decode cX11_end 1 = .ok (.ifCond .lt 14, 3) := by decide +kernel
theorem dX11_end_4 : decode cX11_end 4 = .ok (.iload_n 1, 1) := by decide +kernel
theorem dX11_end_5 : decode cX11_end 5 = .ok (.aload_n 0, 1) := by decide +kernel
theorem dX11_end_6 : decode cX11_end 6 = .ok (.getfield 14, 3) := by decide +kernel
theorem dX11_end_9 : decode cX11_end 9 = .ok (.getfield 118, 3) := by decide +kernel
theorem dX11_end_12 : decode cX11_end 12 = .ok (.if_icmp .le 5, 3) := by decide +kernel
theorem dX11_end_15 : decode cX11_end 15 = .ok (.iconst (-1), 1) := by decide +kernel
theorem dX11_end_16 : decode cX11_end 16 = .ok (.ireturn, 1) := by decide +kernel
theorem dX11_end_17 : decode cX11_end 17 = .ok (.aload_n 0, 1) := by decide +kernel
theorem dX11_end_18 : decode cX11_end 18 = .ok (.getfield 14, 3) := by decide +kernel
theorem dX11_end_21 : decode cX11_end 21 = .ok (.iload_n 1, 1) := by decide +kernel
theorem dX11_end_22 : decode cX11_end 22 = .ok (.putfield 118, 3) := by decide +kernel
theorem dX11_end_25 : decode cX11_end 25 = .ok (.iload_n 1, 1) := by decide +kernel
theorem dX11_end_26 : decode cX11_end 26 = .ok (.ireturn, 1) := by decide +kernel
theorem dX11_grammar_0 : decode cX11_grammar 0 = .ok (.aload_n 0, 1) := by decide +kernel
theorem dX11_grammar_1 : decode cX11_grammar 1 = .ok (.getfield 27, 3) := by decide +kernel
theorem dX11_grammar_4 : decode cX11_grammar 4 = .ok (.aload_n 0, 1) := by decide +kernel
theorem dX11_grammar_5 : decode cX11_grammar 5 = .ok (.getfield 14, 3) := by decide +kernel
theorem dX11_grammar_8 : decode cX11_grammar 8 = .ok (.aload_n 0, 1) := by decide +kernel
theorem dX11_grammar_9 : decode cX11_grammar 9 = .ok (.getfield 104, 3) := by decide +kernel
theorem dX11_grammar_12 : decode cX11_grammar 12 = .ok (.invokevirtual 121, 3) := by decide +kernel
theorem dX11_grammar_15 : decode cX11_grammar 15 = .ok (.istore_n 1, 1) := by decide +kernel
theorem dX11_grammar_16 : decode cX11_grammar 16 = .ok (.aload_n 0, 1) := by decide +kernel
theorem dX11_grammar_17 : decode cX11_grammar 17 = .ok (.getfield 14, 3) := by decide +kernel
theorem dX11_grammar_20 : decode cX11_grammar 20 = .ok (.iconst 0, 1) := by decide +kernel
theorem dX11_grammar_21 : decode cX11_grammar 21 = .ok (.putfield 118, 3) := by decide +kernel
theorem dX11_grammar_24 : decode cX11_grammar 24 = .ok (.iload_n 1, 1) := by decide +kernel
theorem dX11_grammar_25 : decode cX11_grammar 25 = .ok (.ifCond .ne 6, 3) := by decide +kernel
theorem dX11_grammar_28 : decode cX11_grammar 28 = .ok (.bipush (-4), 2) := by decide +kernel
theorem dX11_grammar_30 : decode cX11_grammar 30 = .ok (.ireturn, 1) := by decide +kernel
theorem dX11_grammar_31 : decode cX11_grammar 31 = .ok (.aload_n 0, 1) := by decide +kernel
theorem dX11_grammar_32 : decode cX11_grammar 32 = .ok (.getfield 100, 3) := by decide +kernel
theorem dX11_grammar_35 : decode cX11_grammar 35 = .ok (.astore_n 2, 1) := by decide +kernel
theorem dX11_grammar_36 : decode cX11_grammar 36 = .ok (.aload_n 0, 1) := by decide +kernel
theorem dX11_grammar_37 : decode cX11_grammar 37 = .ok (.aload_n 0, 1) := by decide +kernel
theorem dX11_grammar_38 : decode cX11_grammar 38 = .ok (.getfield 104, 3) := by decide +kernel
theorem dX11_grammar_41 : decode cX11_grammar 41 = .ok (.putfield 100, 3) := by decide +kernel
theorem dX11_grammar_44 : decode cX11_grammar 44 = .ok (.aload_n 0, 1) := by decide +kernel
theorem dX11_grammar_45 : decode cX11_grammar 45 = .ok (.aload_n 2, 1) := by decide +kernel
theorem dX11_grammar_46 : decode cX11_grammar 46 = .ok (.putfield 104, 3) := by decide +kernel
theorem dX11_grammar_49 : decode cX11_grammar 49 = .ok (.aload_n 0, 1) := by decide +kernel
theorem dX11_grammar_50 : decode cX11_grammar 50 = .ok (.iconst 0, 1) := by decide +kernel
theorem dX11_grammar_51 : decode cX11_grammar 51 = .ok (.putfield 107, 3) := by decide +kernel
theorem dX11_grammar_54 : decode cX11_grammar 54 = .ok (.aload_n 0, 1) := by decide +kernel
theorem dX11_grammar_55 : decode cX11_grammar 55 = .ok (.getfield 100, 3) := by decide +kernel
theorem dX11_grammar_58 : decode cX11_grammar 58 = .ok (.getfield 125, 3) := by decide +kernel
theorem dX11_grammar_61 : decode cX11_grammar 61 = .ok (.ireturn, 1) := by decide +kernel
theorem dX11_fault_0 : decode cX11_fault 0 = .ok (.iload_n 1, 1) := by decide +kernel
theorem dX11_fault_1 : decode cX11_fault 1 = .ok (.ifCond .ne 11, 3) := by decide +kernel
theorem dX11_fault_4 : decode cX11_fault 4 = .ok (.aload_n 0, 1) := by decide +kernel
theorem dX11_fault_5 : decode cX11_fault 5 = .ok (.getfield 27, 3) := by decide +kernel
theorem dX11_fault_8 : decode cX11_fault 8 = .ok (.getfield 128, 3) := by decide +kernel
theorem dX11_fault_11 : decode cX11_fault 11 = .ok (.ireturn, 1) := by decide +kernel
theorem dX11_fault_12 : decode cX11_fault 12 = .ok (.iload_n 1, 1) := by decide +kernel
theorem dX11_fault_13 : decode cX11_fault 13 = .ok (.iconst 1, 1) := by decide +kernel
theorem dX11_fault_14 : decode cX11_fault 14 = .ok (.if_icmp .ne 13, 3) := by decide +kernel
theorem dX11_fault_17 : decode cX11_fault 17 = .ok (.aload_n 0, 1) := by decide +kernel
theorem dX11_fault_18 : decode cX11_fault 18 = .ok (.getfield 27, 3) := by decide +kernel
theorem dX11_fault_21 : decode cX11_fault 21 = .ok (.getfield 131, 3) := by decide +kernel
theorem dX11_fault_24 : decode cX11_fault 24 = .ok (.goto 4, 3) := by decide +kernel
theorem dX11_fault_27 : decode cX11_fault 27 = .ok (.iconst (-1), 1) := by decide +kernel
theorem dX11_fault_28 : decode cX11_fault 28 = .ok (.ireturn, 1) := by decide +kernel
theorem dX11_say_0 : decode cX11_say 0 = .ok (.aload_n 0, 1) := by decide +kernel
theorem dX11_say_1 : decode cX11_say 1 = .ok (.getfield 14, 3) := by decide +kernel
theorem dX11_say_4 : decode cX11_say 4 = .ok (.getfield 118, 3) := by decide +kernel
theorem dX11_say_7 : decode cX11_say 7 = .ok (.bipush 8, 2) := by decide +kernel
theorem dX11_say_9 : decode cX11_say 9 = .ok (.if_icmp .gt 7, 3) := by decide +kernel
theorem dX11_say_12 : decode cX11_say 12 = .ok (.iconst 1, 1) := by decide +kernel
theorem dX11_say_13 : decode cX11_say 13 = .ok (.goto 4, 3) := by decide +kernel
theorem dX11_say_16 : decode cX11_say 16 = .ok (.iconst 0, 1) := by decide +kernel
theorem dX11_say_17 : decode cX11_say 17 = .ok (.istore_n 1, 1) := by decide +kernel
theorem dX11_say_18 : decode cX11_say 18 = .ok (.iconst 0, 1) := by decide +kernel
theorem dX11_say_19 : decode cX11_say 19 = .ok (.istore_n 2, 1) := by decide +kernel
theorem dX11_say_20 : decode cX11_say 20 = .ok (.iload_n 2, 1) := by decide +kernel
theorem dX11_say_21 : decode cX11_say 21 = .ok (.aload_n 0, 1) := by decide +kernel
theorem dX11_say_22 : decode cX11_say 22 = .ok (.getfield 14, 3) := by decide +kernel
theorem dX11_say_25 : decode cX11_say 25 = .ok (.getfield 118, 3) := by decide +kernel
theorem dX11_say_28 : decode cX11_say 28 = .ok (.if_icmp .ge 25, 3) := by decide +kernel
theorem dX11_say_31 : decode cX11_say 31 = .ok (.iload_n 1, 1) := by decide +kernel
theorem dX11_say_32 : decode cX11_say 32 = .ok (.ifCond .eq 21, 3) := by decide +kernel
theorem dX11_say_35 : decode cX11_say 35 = .ok (.aload_n 0, 1) := by decide +kernel
theorem dX11_say_36 : decode cX11_say 36 = .ok (.getfield 14, 3) := by decide +kernel
theorem dX11_say_39 : decode cX11_say 39 = .ok (.iload_n 2, 1) := by decide +kernel
theorem dX11_say_40 : decode cX11_say 40 = .ok (.invokevirtual 134, 3) := by decide +kernel
theorem dX11_say_43 : decode cX11_say 43 = .ok (.invokestatic 138, 3) := by decide +kernel
theorem dX11_say_46 : decode cX11_say 46 = .ok (.istore_n 1, 1) := by decide +kernel
theorem dX11_say_47 : decode cX11_say 47 = .ok (.iinc 2 1, 3) := by decide +kernel
theorem dX11_say_50 : decode cX11_say 50 = .ok (.goto (-30), 3) := by decide +kernel
theorem dX11_say_53 : decode cX11_say 53 = .ok (.aload_n 0, 1) := by decide +kernel
theorem dX11_say_54 : decode cX11_say 54 = .ok (.getfield 14, 3) := by decide +kernel
theorem dX11_say_57 : decode cX11_say 57 = .ok (.getfield 118, 3) := by decide +kernel
theorem dX11_say_60 : decode cX11_say 60 = .ok (.istore_n 2, 1) := by decide +kernel
theorem dX11_say_61 : decode cX11_say 61 = .ok (.aload_n 0, 1) := by decide +kernel
theorem dX11_say_62 : decode cX11_say 62 = .ok (.getfield 14, 3) := by decide +kernel
theorem dX11_say_65 : decode cX11_say 65 = .ok (.iconst 0, 1) := by decide +kernel
theorem dX11_say_66 : decode cX11_say 66 = .ok (.putfield 118, 3) := by decide +kernel
theorem dX11_say_69 : decode cX11_say 69 = .ok (.iload_n 1, 1) := by decide +kernel
theorem dX11_say_70 : decode cX11_say 70 = .ok (.ifCond .ne 6, 3) := by decide +kernel
theorem dX11_say_73 : decode cX11_say 73 = .ok (.bipush (-4), 2) := by decide +kernel
theorem dX11_say_75 : decode cX11_say 75 = .ok (.ireturn, 1) := by decide +kernel
theorem dX11_say_76 : decode cX11_say 76 = .ok (.aload_n 0, 1) := by decide +kernel
theorem dX11_say_77 : decode cX11_say 77 = .ok (.getfield 21, 3) := by decide +kernel
theorem dX11_say_80 : decode cX11_say 80 = .ok (.iconst 0, 1) := by decide +kernel
theorem dX11_say_81 : decode cX11_say 81 = .ok (.putfield 118, 3) := by decide +kernel
theorem dX11_say_84 : decode cX11_say 84 = .ok (.iconst 0, 1) := by decide +kernel
theorem dX11_say_85 : decode cX11_say 85 = .ok (.istore_n 3, 1) := by decide +kernel
theorem dX11_say_86 : decode cX11_say 86 = .ok (.iload_n 3, 1) := by decide +kernel
theorem dX11_say_87 : decode cX11_say 87 = .ok (.iload_n 2, 1) := by decide +kernel
theorem dX11_say_88 : decode cX11_say 88 = .ok (.if_icmp .ge 28, 3) := by decide +kernel
theorem dX11_say_91 : decode cX11_say 91 = .ok (.aload_n 0, 1) := by decide +kernel
theorem dX11_say_92 : decode cX11_say 92 = .ok (.getfield 21, 3) := by decide +kernel
theorem dX11_say_95 : decode cX11_say 95 = .ok (.aload_n 0, 1) := by decide +kernel
theorem dX11_say_96 : decode cX11_say 96 = .ok (.getfield 14, 3) := by decide +kernel
theorem dX11_say_99 : decode cX11_say 99 = .ok (.getfield 142, 3) := by decide +kernel
theorem dX11_say_102 : decode cX11_say 102 = .ok (.iload_n 3, 1) := by decide +kernel
theorem dX11_say_103 : decode cX11_say 103 = .ok (.baload, 1) := by decide +kernel
theorem dX11_say_104 : decode cX11_say 104 = .ok (.bipush 97, 2) := by decide +kernel
theorem dX11_say_106 : decode cX11_say 106 = .ok (.isub, 1) := by decide +kernel
theorem dX11_say_107 : decode cX11_say 107 = .ok (.invokevirtual 146, 3) := by decide +kernel
theorem dX11_say_110 : decode cX11_say 110 = .ok (.iinc 3 1, 3) := by decide +kernel
theorem dX11_say_113 : decode cX11_say 113 = .ok (.goto (-27), 3) := by decide +kernel
theorem dX11_say_116 : decode cX11_say 116 = .ok (.aload_n 0, 1) := by decide +kernel
theorem dX11_say_117 : decode cX11_say 117 = .ok (.dup, 1) := by decide +kernel
theorem dX11_say_118 : decode cX11_say 118 = .ok (.getfield 107, 3) := by decide +kernel
theorem dX11_say_121 : decode cX11_say 121 = .ok (.bipush 31, 2) := by decide +kernel
theorem dX11_say_123 : decode cX11_say 123 = .ok (.iand, 1) := by decide +kernel
theorem dX11_say_124 : decode cX11_say 124 = .ok (.putfield 107, 3) := by decide +kernel
theorem dX11_say_127 : decode cX11_say 127 = .ok (.iload_n 2, 1) := by decide +kernel
theorem dX11_say_128 : decode cX11_say 128 = .ok (.ireturn, 1) := by decide +kernel
theorem dX11_count_0 : decode cX11_count 0 = .ok (.iload_n 1, 1) := by decide +kernel
theorem dX11_count_1 : decode cX11_count 1 = .ok (.tableswitch 135 0 9 #[55, 63, 71, 79, 87, 95, 103, 111, 119, 127], 55) := by decide +kernel
theorem dX11_count_56 : decode cX11_count 56 = .ok (.aload_n 0, 1) := by decide +kernel
theorem dX11_count_57 : decode cX11_count 57 = .ok (.getfield 100, 3) := by decide +kernel
theorem dX11_count_60 : decode cX11_count 60 = .ok (.getfield 125, 3) := by decide +kernel
theorem dX11_count_63 : decode cX11_count 63 = .ok (.ireturn, 1) := by decide +kernel
theorem dX11_count_64 : decode cX11_count 64 = .ok (.aload_n 0, 1) := by decide +kernel
theorem dX11_count_65 : decode cX11_count 65 = .ok (.getfield 100, 3) := by decide +kernel
theorem dX11_count_68 : decode cX11_count 68 = .ok (.getfield 149, 3) := by decide +kernel
theorem dX11_count_71 : decode cX11_count 71 = .ok (.ireturn, 1) := by decide +kernel
theorem dX11_count_72 : decode cX11_count 72 = .ok (.aload_n 0, 1) := by decide +kernel
theorem dX11_count_73 : decode cX11_count 73 = .ok (.getfield 21, 3) := by decide +kernel
theorem dX11_count_76 : decode cX11_count 76 = .ok (.getfield 118, 3) := by decide +kernel
theorem dX11_count_79 : decode cX11_count 79 = .ok (.ireturn, 1) := by decide +kernel
theorem dX11_count_80 : decode cX11_count 80 = .ok (.aload_n 0, 1) := by decide +kernel
theorem dX11_count_81 : decode cX11_count 81 = .ok (.getfield 100, 3) := by decide +kernel
theorem dX11_count_84 : decode cX11_count 84 = .ok (.getfield 152, 3) := by decide +kernel
theorem dX11_count_87 : decode cX11_count 87 = .ok (.ireturn, 1) := by decide +kernel
theorem dX11_count_88 : decode cX11_count 88 = .ok (.aload_n 0, 1) := by decide +kernel
theorem dX11_count_89 : decode cX11_count 89 = .ok (.getfield 100, 3) := by decide +kernel
theorem dX11_count_92 : decode cX11_count 92 = .ok (.getfield 155, 3) := by decide +kernel
theorem dX11_count_95 : decode cX11_count 95 = .ok (.ireturn, 1) := by decide +kernel
theorem dX11_count_96 : decode cX11_count 96 = .ok (.aload_n 0, 1) := by decide +kernel
theorem dX11_count_97 : decode cX11_count 97 = .ok (.getfield 100, 3) := by decide +kernel
theorem dX11_count_100 : decode cX11_count 100 = .ok (.getfield 158, 3) := by decide +kernel
theorem dX11_count_103 : decode cX11_count 103 = .ok (.ireturn, 1) := by decide +kernel
theorem dX11_count_104 : decode cX11_count 104 = .ok (.aload_n 0, 1) := by decide +kernel
theorem dX11_count_105 : decode cX11_count 105 = .ok (.getfield 100, 3) := by decide +kernel
theorem dX11_count_108 : decode cX11_count 108 = .ok (.invokevirtual 161, 3) := by decide +kernel
theorem dX11_count_111 : decode cX11_count 111 = .ok (.ireturn, 1) := by decide +kernel
theorem dX11_count_112 : decode cX11_count 112 = .ok (.aload_n 0, 1) := by decide +kernel
theorem dX11_count_113 : decode cX11_count 113 = .ok (.getfield 100, 3) := by decide +kernel
theorem dX11_count_116 : decode cX11_count 116 = .ok (.getfield 164, 3) := by decide +kernel
theorem dX11_count_119 : decode cX11_count 119 = .ok (.ireturn, 1) := by decide +kernel
theorem dX11_count_120 : decode cX11_count 120 = .ok (.aload_n 0, 1) := by decide +kernel
theorem dX11_count_121 : decode cX11_count 121 = .ok (.getfield 14, 3) := by decide +kernel
theorem dX11_count_124 : decode cX11_count 124 = .ok (.getfield 118, 3) := by decide +kernel
theorem dX11_count_127 : decode cX11_count 127 = .ok (.ireturn, 1) := by decide +kernel
theorem dX11_count_128 : decode cX11_count 128 = .ok (.aload_n 0, 1) := by decide +kernel
theorem dX11_count_129 : decode cX11_count 129 = .ok (.getfield 18, 3) := by decide +kernel
theorem dX11_count_132 : decode cX11_count 132 = .ok (.getfield 118, 3) := by decide +kernel
theorem dX11_count_135 : decode cX11_count 135 = .ok (.ireturn, 1) := by decide +kernel
theorem dX11_count_136 : decode cX11_count 136 = .ok (.iconst (-1), 1) := by decide +kernel
theorem dX11_count_137 : decode cX11_count 137 = .ok (.ireturn, 1) := by decide +kernel
theorem dX11_tree_0 : decode cX11_tree 0 = .ok (.aload_n 0, 1) := by decide +kernel
theorem dX11_tree_1 : decode cX11_tree 1 = .ok (.getfield 100, 3) := by decide +kernel
theorem dX11_tree_4 : decode cX11_tree 4 = .ok (.iload_n 1, 1) := by decide +kernel
theorem dX11_tree_5 : decode cX11_tree 5 = .ok (.invokevirtual 167, 3) := by decide +kernel
theorem dX11_tree_8 : decode cX11_tree 8 = .ok (.ifCond .ne 6, 3) := by decide +kernel
theorem dX11_tree_11 : decode cX11_tree 11 = .ok (.bipush (-2), 2) := by decide +kernel
theorem dX11_tree_13 : decode cX11_tree 13 = .ok (.ireturn, 1) := by decide +kernel
theorem dX11_tree_14 : decode cX11_tree 14 = .ok (.iload_n 2, 1) := by decide +kernel
theorem dX11_tree_15 : decode cX11_tree 15 = .ok (.tableswitch 105 0 5 #[37, 49, 58, 76, 86, 96], 37) := by decide +kernel
theorem dX11_tree_52 : decode cX11_tree 52 = .ok (.aload_n 0, 1) := by decide +kernel
theorem dX11_tree_53 : decode cX11_tree 53 = .ok (.getfield 100, 3) := by decide +kernel
theorem dX11_tree_56 : decode cX11_tree 56 = .ok (.getfield 155, 3) := by decide +kernel
theorem dX11_tree_59 : decode cX11_tree 59 = .ok (.iload_n 1, 1) := by decide +kernel
theorem dX11_tree_60 : decode cX11_tree 60 = .ok (.ishr, 1) := by decide +kernel
theorem dX11_tree_61 : decode cX11_tree 61 = .ok (.iconst 1, 1) := by decide +kernel
theorem dX11_tree_62 : decode cX11_tree 62 = .ok (.iand, 1) := by decide +kernel
theorem dX11_tree_63 : decode cX11_tree 63 = .ok (.ireturn, 1) := by decide +kernel
theorem dX11_tree_64 : decode cX11_tree 64 = .ok (.aload_n 0, 1) := by decide +kernel
theorem dX11_tree_65 : decode cX11_tree 65 = .ok (.getfield 100, 3) := by decide +kernel
theorem dX11_tree_68 : decode cX11_tree 68 = .ok (.iload_n 1, 1) := by decide +kernel
theorem dX11_tree_69 : decode cX11_tree 69 = .ok (.invokevirtual 170, 3) := by decide +kernel
theorem dX11_tree_72 : decode cX11_tree 72 = .ok (.ireturn, 1) := by decide +kernel
theorem dX11_tree_73 : decode cX11_tree 73 = .ok (.aload_n 0, 1) := by decide +kernel
theorem dX11_tree_74 : decode cX11_tree 74 = .ok (.getfield 100, 3) := by decide +kernel
theorem dX11_tree_77 : decode cX11_tree 77 = .ok (.getfield 173, 3) := by decide +kernel
theorem dX11_tree_80 : decode cX11_tree 80 = .ok (.aload_n 0, 1) := by decide +kernel
theorem dX11_tree_81 : decode cX11_tree 81 = .ok (.getfield 100, 3) := by decide +kernel
theorem dX11_tree_84 : decode cX11_tree 84 = .ok (.getfield 176, 3) := by decide +kernel
theorem dX11_tree_87 : decode cX11_tree 87 = .ok (.iload_n 1, 1) := by decide +kernel
theorem dX11_tree_88 : decode cX11_tree 88 = .ok (.iaload, 1) := by decide +kernel
theorem dX11_tree_89 : decode cX11_tree 89 = .ok (.iaload, 1) := by decide +kernel
theorem dX11_tree_90 : decode cX11_tree 90 = .ok (.ireturn, 1) := by decide +kernel
theorem dX11_tree_91 : decode cX11_tree 91 = .ok (.aload_n 0, 1) := by decide +kernel
theorem dX11_tree_92 : decode cX11_tree 92 = .ok (.getfield 100, 3) := by decide +kernel
theorem dX11_tree_95 : decode cX11_tree 95 = .ok (.iload_n 1, 1) := by decide +kernel
theorem dX11_tree_96 : decode cX11_tree 96 = .ok (.iconst 3, 1) := by decide +kernel
theorem dX11_tree_97 : decode cX11_tree 97 = .ok (.invokevirtual 179, 3) := by decide +kernel
theorem dX11_tree_100 : decode cX11_tree 100 = .ok (.ireturn, 1) := by decide +kernel
theorem dX11_tree_101 : decode cX11_tree 101 = .ok (.aload_n 0, 1) := by decide +kernel
theorem dX11_tree_102 : decode cX11_tree 102 = .ok (.getfield 100, 3) := by decide +kernel
theorem dX11_tree_105 : decode cX11_tree 105 = .ok (.iload_n 1, 1) := by decide +kernel
theorem dX11_tree_106 : decode cX11_tree 106 = .ok (.iconst 1, 1) := by decide +kernel
theorem dX11_tree_107 : decode cX11_tree 107 = .ok (.invokevirtual 179, 3) := by decide +kernel
theorem dX11_tree_110 : decode cX11_tree 110 = .ok (.ireturn, 1) := by decide +kernel
theorem dX11_tree_111 : decode cX11_tree 111 = .ok (.aload_n 0, 1) := by decide +kernel
theorem dX11_tree_112 : decode cX11_tree 112 = .ok (.getfield 100, 3) := by decide +kernel
theorem dX11_tree_115 : decode cX11_tree 115 = .ok (.iload_n 1, 1) := by decide +kernel
theorem dX11_tree_116 : decode cX11_tree 116 = .ok (.invokevirtual 183, 3) := by decide +kernel
theorem dX11_tree_119 : decode cX11_tree 119 = .ok (.ireturn, 1) := by decide +kernel
theorem dX11_tree_120 : decode cX11_tree 120 = .ok (.bipush (-2), 2) := by decide +kernel
theorem dX11_tree_122 : decode cX11_tree 122 = .ok (.ireturn, 1) := by decide +kernel
theorem dX11_node_0 : decode cX11_node 0 = .ok (.aload_n 0, 1) := by decide +kernel
